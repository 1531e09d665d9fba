/-! PURE: how likely a bag is on THE BELT yet -/
theorem pow_x (p : Nat) (hp : p ≤ 10) : ∀ (d k f v : Nat) (n : Nat), n - k = d → k ≤ n → n ≤ 6 → d < f → X2_power_5 f (nI p) (nI n) (lI v) (nI k) = some (lI (v * p ^ d))
  | 0, k, 0, _, _, _, _, _, hf => absurd hf (Nat.not_lt_zero _)
  | 0, k, f + 1, v, n, hd, hk, hn, _ => by
    rw [X2_power_5, if_neg (nI_nlt (by omega) (by omega)), Nat.pow_zero, Nat.mul_one]
  | d + 1, k, 0, _, _, _, _, _, hf => absurd hf (Nat.not_lt_zero _)
  | d + 1, k, f + 1, v, n, hd, hk, hn, hf => by
    rw [X2_power_5, if_pos (nI_lt (by omega) (by omega)), nI_64 (by omega), lI_mul, nI_1, pow_x p hp d (k + 1) f (v * p) n (by omega) (by omega) hn (by omega), Nat.pow_succ, Nat.mul_assoc, Nat.mul_comm p]
theorem pow_s {p n : Nat} (hp : p ≤ 10) (hn : n ≤ 6) : X2_power (nI p) (nI n) = some (lI (p ^ n)) := by
  have := pow_x p hp n 0 am_fuel 1 n (by omega) (by omega) hn (by show n < 2000; omega)
  rw [Nat.one_mul] at this
  exact this
theorem mod_half {a b : Nat} (hb : 0 < b) (h : 0 < a % b) : b % (a % b) < (b + 1) / 2 := by
  have h1 := Nat.mod_lt a hb
  by_cases c : a % b ≤ b / 2
  · have := Nat.mod_lt b h
    omega
  · have e : b % (a % b) = b - a % b := by
      rw [Nat.mod_eq_sub_mod (by omega), Nat.mod_eq_of_lt (by omega)]
    omega
theorem gcd_step (a b : Nat) : Nat.gcd a b = Nat.gcd b (a % b) := by rw [Nat.gcd_comm a b, Nat.gcd_rec b a, Nat.gcd_comm]
theorem gcd_x : ∀ (k a b i f : Nat), a < 2 ^ 40 → b < 2 ^ k → k ≤ 30 → i + 2 * k < 100 → 2 * k < f → X2_commonDivisor_9 f (lI a) (lI b) (nI i) = some (lI (Nat.gcd a b))
  | 0, a, b, i, 0, _, _, _, _, hf => absurd hf (Nat.not_lt_zero _)
  | 0, a, b, i, f + 1, ha, hb, _, hi, _ => by
    have : b = 0 := by omega
    subst this
    rw [X2_commonDivisor_9, if_pos (show nI i < (100 : Int32) from nI_lt (b := 100) (by omega) (by omega)), if_pos ((lg_0 (by omega)).mpr rfl), Nat.gcd_zero_right]
  | k + 1, a, b, i, 0, _, _, _, _, hf => absurd hf (Nat.not_lt_zero _)
  | k + 1, a, b, i, 1, _, _, _, _, hf => by omega
  | k + 1, a, b, i, f + 2, ha, hb, hk, hi, hf => by
    have h40 : 2 ^ (k + 1) ≤ 2 ^ 30 := Nat.pow_le_pow_right (by omega) hk
    have hpw : 2 ^ (k + 1) = 2 * 2 ^ k := by rw [Nat.pow_succ, Nat.mul_comm]
    rw [X2_commonDivisor_9, if_pos (show nI i < (100 : Int32) from nI_lt (b := 100) (by omega) (by omega))]
    by_cases c : b = 0
    · subst c
      rw [if_pos ((lg_0 (by omega)).mpr rfl), Nat.gcd_zero_right]
    · rw [if_neg (fun q => c ((lg_0 (by omega)).mp q)), if_neg (fun q => c ((lI_0 (by omega)).mp q)), lI_mod (by omega) (by omega), nI_1, X2_commonDivisor_9, if_pos (show nI (i + 1) < (100 : Int32) from nI_lt (b := 100) (by omega) (by omega)), gcd_step a b]
      have hm := Nat.mod_lt a (show 0 < b by omega)
      by_cases c2 : a % b = 0
      · rw [if_pos ((lg_0 (by omega)).mpr c2), c2, Nat.gcd_zero_right]
      · have hh := mod_half (by omega) (show 0 < a % b by omega)
        have h3 := Nat.mod_lt b (show 0 < a % b by omega)
        rw [if_neg (fun q => c2 ((lg_0 (by omega)).mp q)), if_neg (fun q => c2 ((lI_0 (by omega)).mp q)), lI_mod (by omega) (by omega), nI_1, gcd_x k (a % b) (b % (a % b)) (i + 1 + 1) f (by omega) (by omega) (by omega) (by omega) (by omega), gcd_step b (a % b)]
theorem gcd_m (x4 : Int32) (x6 x8 : Int64) (M : Mem) : ∀ (k a b f : Nat), a < 2 ^ 40 → b < 2 ^ k → k ≤ 30 → 2 * k < f → X8_sleep_225 f x4 x6 x8 (lI a) (lI b) M = if x4 = 0 then (if lI (Nat.gcd a b) = 0 then none else some (x6 / lI (Nat.gcd a b), M)) else (if lI (Nat.gcd a b) = 0 then none else some (x8 / lI (Nat.gcd a b), M))
  | 0, a, b, 0, _, _, _, hf => absurd hf (Nat.not_lt_zero _)
  | 0, a, b, f + 1, ha, hb, _, _ => by
    have : b = 0 := by omega
    subst this
    rw [X8_sleep_225, if_pos ((lg_0 (by omega)).mpr rfl), Nat.gcd_zero_right]
  | k + 1, a, b, 0, _, _, _, hf => absurd hf (Nat.not_lt_zero _)
  | k + 1, a, b, 1, _, _, _, hf => by omega
  | k + 1, a, b, f + 2, ha, hb, hk, hf => by
    have h40 : 2 ^ (k + 1) ≤ 2 ^ 30 := Nat.pow_le_pow_right (by omega) hk
    have hpw : 2 ^ (k + 1) = 2 * 2 ^ k := by rw [Nat.pow_succ, Nat.mul_comm]
    rw [X8_sleep_225]
    by_cases c : b = 0
    · subst c
      rw [if_pos ((lg_0 (by omega)).mpr rfl), Nat.gcd_zero_right]
    · rw [if_neg (fun q => c ((lg_0 (by omega)).mp q)), if_neg (fun q => c ((lI_0 (by omega)).mp q)), lI_mod (by omega) (by omega), X8_sleep_225, gcd_step a b]
      have hm := Nat.mod_lt a (show 0 < b by omega)
      by_cases c2 : a % b = 0
      · rw [if_pos ((lg_0 (by omega)).mpr c2), c2, Nat.gcd_zero_right]
      · have hh := mod_half (by omega) (show 0 < a % b by omega)
        have h3 := Nat.mod_lt b (show 0 < a % b by omega)
        rw [if_neg (fun q => c2 ((lg_0 (by omega)).mp q)), if_neg (fun q => c2 ((lI_0 (by omega)).mp q)), lI_mod (by omega) (by omega), gcd_m x4 x6 x8 M k (a % b) (b % (a % b)) f (by omega) (by omega) (by omega) (by omega), gcd_step b (a % b)]
/-- of those that wait: how many are in a set, how many are not -/
def cS (w s : Nat) : Nat → Nat
  | 0 => 0
  | k + 1 => cS w s k + if slp (nI w) k && slp (nI s) k then 1 else 0
def cW (w s : Nat) : Nat → Nat
  | 0 => 0
  | k + 1 => cW w s k + if slp (nI w) k && !slp (nI s) k then 1 else 0
theorem sub_ok : ∀ w, w < 64 → ∀ s, s < 64 → nI s &&& (nI w ^^^ (-1)) = 0 → cS w s 6 = pcN s ∧ cW w s 6 = pcN (w - s) ∧ s ≤ w ∧ pcN s + pcN (w - s) ≤ 6 := by decide +kernel
theorem hi_bit : ∀ n, n < 7 → ∀ w, w < 2 ^ n → ∀ t, t < 6 → n ≤ t → slp (nI w) t = false := by decide +kernel
theorem cS_n {n w : Nat} (s : Nat) (hn : n ≤ 6) (hw : w < 2 ^ n) : ∀ k, n ≤ k → k ≤ 6 → cS w s k = cS w s n ∧ cW w s k = cW w s n := fun k => by
  induction k with
  | zero => intro h1 _; obtain rfl : n = 0 := by omega
            exact ⟨rfl, rfl⟩
  | succ k ih =>
    intro h1 h2
    by_cases c : n = k + 1
    · rw [c]; exact ⟨rfl, rfl⟩
    · have := ih (by omega) (by omega)
      rw [cS, cW, hi_bit n (by omega) w hw k (by omega) (by omega)]
      exact this
def wtN (p w s : Nat) : Nat := p ^ pcN s * (10 - p) ^ pcN (w - s)
theorem wt_le {p w s : Nat} (hp : p ≤ 10) (h : pcN s + pcN (w - s) ≤ 6) : wtN p w s ≤ 1000000 := by
  unfold wtN
  have h1 : p ^ pcN s ≤ 10 ^ pcN s := Nat.pow_le_pow_left hp _
  have h2 : (10 - p) ^ pcN (w - s) ≤ 10 ^ pcN (w - s) := Nat.pow_le_pow_left (by omega) _
  have h3 : p ^ pcN s * (10 - p) ^ pcN (w - s) ≤ 10 ^ pcN s * 10 ^ pcN (w - s) := Nat.mul_le_mul h1 h2
  rw [← Nat.pow_add] at h3
  have h4 : 10 ^ (pcN s + pcN (w - s)) ≤ 10 ^ 6 := Nat.pow_le_pow_right (by omega) h
  omega
def slE (K : Int32 → Int32 → Int32 → Int32 → Int32 → Int64 → Int64 → Int32 → Mem → Option (Int64 × Mem)) (x1 x2 x3 x4 x5 : Int32) (x6 x8 : Int64) (x10 : Int32) (x11 : Int64) (M : Mem) : Option (Int64 × Mem) :=
  Option.bind (X8_layTried M) fun M3 =>
  Option.bind (X8_ticksOf (1053 : Int32) x2 (mset M3 0 (upd (M3 0) 16 x10))) fun M5 =>
  if am_in ((1086 : Int32) + x1) 1092 = true then
    if (mset M5 0 (upd (M5 0) 16 (0 : Int32)) 1 ((1086 : Int32) + x1).toNatClampNeg) < (20 : Int32) then
      K x1 x2 x3 x4 x5 (x6 + x11) (x8 + x11) (x10 + (1 : Int32)) (mset M5 0 (upd (M5 0) 16 (0 : Int32)))
    else
      K x1 x2 x3 x4 x5 (x6 + (0 : Int64)) (x8 + x11) (x10 + (1 : Int32)) (mset M5 0 (upd (M5 0) 16 (0 : Int32)))
  else none
section SL
variable {Mx Mm : Mem} {G : Nat → Nat} {sh : Nat}
theorem sl_99 (K : Int32 → Int32 → Int32 → Int32 → Int32 → Int64 → Int64 → Int32 → Mem → Option (Int64 × Mem)) (x1 x2 x4 : Int32) (x6 x8 : Int64) {p w s n : Nat} (hp : p ≤ 10) (hn : n ≤ 6) (M : Mem) (h1 : M 1 1 = nI n) : ∀ (d k f : Nat), n - k = d → k ≤ n → d < f → X8_sleep_99 K f x1 x2 (nI p) x4 (nI w) x6 x8 (nI s) (lI (p ^ cS w s k * (10 - p) ^ cW w s k)) (nI k) M = slE K x1 x2 (nI p) x4 (nI w) x6 x8 (nI s) (lI (p ^ cS w s n * (10 - p) ^ cW w s n)) M
  | 0, k, 0, _, _, hf => absurd hf (Nat.not_lt_zero _)
  | 0, k, f + 1, hd, hk, _ => by
    have e : k = n := by omega
    subst e
    rw [X8_sleep_99, if_pos (show am_in (1 : Int32) 1092 = true by decide), show (1 : Int32).toNatClampNeg = 1 by decide, h1, if_neg (nI_nlt (Nat.le_refl _) (by omega))]
    rfl
  | d + 1, k, 0, _, _, hf => absurd hf (Nat.not_lt_zero _)
  | d + 1, k, f + 1, hd, hk, hf => by
    have ih := sl_99 K x1 x2 x4 x6 x8 (p := p) (w := w) (s := s) hp hn M h1 d (k + 1) f (by omega) (by omega) (by omega)
    rw [X8_sleep_99, if_pos (show am_in (1 : Int32) 1092 = true by decide), show (1 : Int32).toNatClampNeg = 1 by decide, h1, if_pos (nI_lt (by omega) (by omega)), has_slp, Option.bind_some, nI_1]
    rw [← ih, cS, cW]
    cases hw : slp (nI w) k with
    | false =>
      rw [if_pos (show bI false = 0 from rfl), show (1 : Int64) = lI 1 from rfl, lI_mul, Nat.mul_one]
      rfl
    | true =>
      rw [if_neg (show ¬ bI true = 0 by decide), has_slp, Option.bind_some]
      cases hs : slp (nI s) k with
      | false =>
        rw [if_pos (show bI false = 0 from rfl), li_10, pk_sub hp, nI_64 (by omega), lI_mul]
        congr 2
        simp only [Bool.and_false, Bool.not_false, Bool.and_true, ↓reduceIte, Nat.add_zero, Nat.pow_succ, Nat.mul_assoc]
        rfl
      | true =>
        rw [if_neg (show ¬ bI true = 0 by decide), nI_64 (by omega), lI_mul]
        congr 2
        simp only [Bool.not_true, Bool.and_true, Bool.and_false, ↓reduceIte, Nat.add_zero, Nat.pow_succ]
        rw [Nat.mul_assoc, Nat.mul_comm _ p, ← Nat.mul_assoc]
        rfl
theorem sl_try (I : Inv Mx Mm) (H : HX Mx 15 0 sh G) (hA : atM Mm 0 G) (hO : hOK G) {b n : Nat} (hb : b < G 1) (hn : n ≤ 60) {Mx1 Mm1 : Mem} (hx : frm Mx Mx1 23) (hm : tfM Mm Mm1) (h0 : Mm1 0 16 = 0) (s : Int32) : ∃ (t : Bool) (Mx2 Mx4 Mm4 : Mem), X3_become 23 15 Mx1 = some Mx2 ∧ X2_goOn (nI n) (mset Mx2 23 (upd (Mx2 23) 3 s)) = some (23, Mx4) ∧ X3_isOnBelt 23 Mx4 (nI b) = some (bI t) ∧ (∀ K x3 x4 x5 x6 x8 x11, slE K (nI b) (nI n) x3 x4 x5 x6 x8 s x11 Mm1 = if t then K (nI b) (nI n) x3 x4 x5 (x6 + x11) (x8 + x11) (s + 1) Mm4 else K (nI b) (nI n) x3 x4 x5 (x6 + 0) (x8 + x11) (s + 1) Mm4) ∧ frm Mx Mx4 23 ∧ tfM Mm Mm4 ∧ Mm4 0 16 = 0 := by
  have hP := hx_P H
  have h2 := hO.2
  obtain ⟨Mx2, Mm2, a1, a2, t1, t2, ⟨sh2, H2⟩, hA2, h02⟩ := tr_lay H hA hx hm h0
  have H3 := hx_asleep H2 s
  obtain ⟨Mx4, sh4, c1, c2, c3⟩ := cx_goOn_loop (h := 0) (a := s) n (by omega) n 0 am_fuel _ sh2 G (by omega) (by omega) (by show n < 2000; omega) H3 (by omega)
  obtain ⟨w1, w2, w3⟩ := tkN_W (a := s) H.2.1.1 n (by omega)
  have ht2 : b < tkN s n G 1 := by rw [w2 1 (by omega)]; exact hb
  have o1 := cx_isOnBelt c2 ht2
  have hA3 : atM (mset Mm2 0 (upd (Mm2 0) 16 s)) 1053 G := fun k hk => by rw [mset_ne _ _ (by omega)]; exact hA2 k hk
  have t3 : tfM Mm (mset Mm2 0 (upd (Mm2 0) 16 s)) := t2.tr ⟨fun j hj => by rw [mset_self, upd_ne (by omega)], fun j hj => by rw [mset_ne _ _ (by omega)], fun q h1 h2 => mset_ne _ _ (by omega)⟩
  have y1 := ref_tk (n := n) hA3 (by omega) (fun j hj => by rw [t3.2.2 8 (by omega) (by omega)]; exact I.misc.2.2.1 j hj) (by omega) H.2.1.1 (by omega)
  rw [show mset Mm2 0 (upd (Mm2 0) 16 s) 0 16 = s by rw [mset_self, upd_same]] at y1
  have hA4 := st_A (mset Mm2 0 (upd (Mm2 0) 16 s)) 1053 (ticksS s (fun j => j) n (G, mset Mm2 0 (upd (Mm2 0) 16 s) 0 17, mset Mm2 0 (upd (Mm2 0) 16 s) 0 18))
  rw [tkN_S] at hA4
  have t4 := t3.tr (tfM.st (mset Mm2 0 (upd (Mm2 0) 16 s)) (ticksS s (fun j => j) n (G, mset Mm2 0 (upd (Mm2 0) 16 s) 0 17, mset Mm2 0 (upd (Mm2 0) 16 s) 0 18)))
  generalize stM (mset Mm2 0 (upd (Mm2 0) 16 s)) 1053 (ticksS s (fun j => j) n (G, mset Mm2 0 (upd (Mm2 0) 16 s) 0 17, mset Mm2 0 (upd (Mm2 0) 16 s) 0 18)) = Mm4 at y1 hA4 t4
  have cc := hA4 (33 + b) (by omega)
  rw [cI_n (by omega), ← Nat.add_assoc] at cc
  have hv := w1.1.1 (33 + b)
  refine ⟨decide (tkN s n G (33 + b) < 20), Mx2, Mx4, mset Mm4 0 (upd (Mm4 0) 16 0), a1, c1, o1, fun K x3 x4 x5 x6 x8 x11 => ?_, (t1.tr (frm.rf.st _ (by omega))).tr c3, t4.tr ⟨fun j hj => by rw [mset_self, upd_ne (by omega)], fun j hj => by rw [mset_ne _ _ (by omega)], fun q h1 h2 => mset_ne _ _ (by omega)⟩, by rw [mset_self, upd_same]⟩
  unfold slE
  rw [a2, Option.bind_some, show X8_ticksOf 1053 (nI n) _ = _ from y1, Option.bind_some]
  simp (disch := omega) only [l1086, li_20, nI_add, am_in_nI, nI_clamp, ↓reduceIte, mset_ne, cc, nI_ltI]
  by_cases c : tkN s n G (33 + b) < 20
  · rw [if_pos c, decide_eq_true c]; rfl
  · rw [if_neg c, decide_eq_false c]; rfl
theorem sleep_loop (I : Inv Mx Mm) (H : HX Mx 15 0 sh G) (hA : atM Mm 0 G) (hO : hOK G) {b n p q w : Nat} (hb : b < G 1) (hn : n ≤ 60) (hp : p ≤ 10) (hq : q < 2) (hw : w < 2 ^ G 1) : ∀ (d s f A C : Nat) (Mx1 Mm1 : Mem), w + 1 - s = d → s ≤ w + 1 → d < f → frm Mx Mx1 23 → tfM Mm Mm1 → Mm1 0 16 = 0 → A ≤ 1000000 * s → C ≤ 1000000 * s → (1 ≤ s → (10 - p) ^ pcN w ≤ A) → (w + 1 ≤ s → p ^ pcN w ≤ A) → ∃ r Mx2 Mm2, X2_likelyOnBelt_19 f (nI b) (nI n) (nI p) (nI q) (nI w) (lI C) (lI A) (nI s) Mx1 = some (r, Mx2) ∧ X8_sleep_76 f (nI b) (nI n) (nI p) (nI q) (nI w) (lI C) (lI A) (nI s) Mm1 = some (r, Mm2) ∧ Inv Mx2 Mm2
  | 0, s, 0, _, _, _, _, _, _, hf, _, _, _, _, _, _, _ => absurd hf (Nat.not_lt_zero _)
  | 0, s, f + 1, A, C, Mx1, Mm1, hd, hs, _, hx, hm, h0, hA6, hC6, hl1, hl2 => by
    have hP := hx_P H
    have h64 : 2 ^ G 1 ≤ 2 ^ 6 := Nat.pow_le_pow_right (by omega) hP.2.2
    have hpos : 0 < A := by
      by_cases c : p = 0
      · have h1 := hl1 (by omega)
        have h2 : 0 < (10 - p) ^ pcN w := Nat.pow_pos (by omega)
        omega
      · have h1 := hl2 (by omega)
        have h2 : 0 < p ^ pcN w := Nat.pow_pos (by omega)
        omega
    have g1 : 0 < Nat.gcd A C := Nat.gcd_pos_of_pos_left _ hpos
    have g2 : Nat.gcd A C ≤ A := Nat.gcd_le_left _ hpos
    have gx := gcd_x 27 A C 0 am_fuel (by omega) (by omega) (by omega) (by omega) (by decide)
    have gm := gcd_m (nI q) (lI C) (lI A) Mm1 27 C A am_fuel (by omega) (by omega) (by omega) (by decide)
    rw [Nat.gcd_comm C A] at gm
    have z0 : ¬ lI (Nat.gcd A C) = 0 := by rw [lI_0 (by omega)]; omega
    have z1 : ¬ lg_cmp (lI (Nat.gcd A C)) 0 = 0 := by rw [lg_0 (by omega)]; omega
    rw [X2_likelyOnBelt_19, X8_sleep_76, if_pos (nI_lt (by omega) (by omega)), if_pos (nI_lt (by omega) (by omega)), show X2_commonDivisor (lI A) (lI C) = _ from gx, Option.bind_some, if_neg z1, gm, if_neg z0, if_neg z0, if_neg z0, if_neg z0]
    have II := I.ft hx hm h0
    rcases (show q = 0 ∨ q = 1 by omega) with rfl | rfl
    · exact ⟨_, _, _, rfl, rfl, II⟩
    · exact ⟨_, _, _, rfl, rfl, II⟩
  | d + 1, s, 0, _, _, _, _, _, _, hf, _, _, _, _, _, _, _ => absurd hf (Nat.not_lt_zero _)
  | d + 1, s, f + 1, A, C, Mx1, Mm1, hd, hs, hf, hx, hm, h0, hA6, hC6, hl1, hl2 => by
    have hP := hx_P H
    have h64 : 2 ^ G 1 ≤ 2 ^ 6 := Nat.pow_le_pow_right (by omega) hP.2.2
    rw [X2_likelyOnBelt_19, X8_sleep_76, if_neg (nI_nlt (by omega) (by omega)), if_neg (nI_nlt (by omega) (by omega)), nI_1]
    by_cases z : nI s &&& (nI w ^^^ (-1)) = 0
    · obtain ⟨u1, u2, u3, u4⟩ := sub_ok w (by omega) s (by omega) z
      obtain ⟨v1, v2⟩ := cS_n s hP.2.2 hw 6 hP.2.2 (Nat.le_refl _)
      have hwt := wt_le hp u4
      obtain ⟨t, Mx2, Mx4, Mm4, a1, a2, a3, a4, a5, a6, a7⟩ := sl_try I H hA hO hb hn hx hm h0 (nI s)
      have l99 := sl_99 (X8_sleep_76 f) (nI b) (nI n) (nI q) (lI C) (lI A) (p := p) (w := w) (s := s) hp hP.2.2 Mm1 (by rw [hm.2.1 1 (by omega)]; exact at_1 hA) (G 1) 0 am_fuel (by omega) (by omega) (by show _ < 2000; omega)
      rw [← v1, ← v2, u1, u2, show p ^ pcN s * (10 - p) ^ pcN (w - s) = wtN p w s from rfl] at l99
      rw [if_pos z, if_pos z, bitc_64 s (by omega), Option.bind_some, pow_s hp (by omega), Option.bind_some, pk_sub u3, bitc_64 (w - s) (by omega), Option.bind_some, li_10, pk_sub hp, pow_s (by omega) (by omega), Option.bind_some, a1, Option.bind_some, am_let_eq, a2, Option.bind_some, if_pos rfl, a3, Option.bind_some, lI_mul, show p ^ pcN s * (10 - p) ^ pcN (w - s) = wtN p w s from rfl, show X8_sleep_99 (X8_sleep_76 f) am_fuel (nI b) (nI n) (nI p) (nI q) (nI w) (lI C) (lI A) (nI s) 1 0 Mm1 = _ from l99, a4, nI_1, lI_add]
      have hb1 : 1 ≤ s + 1 → (10 - p) ^ pcN w ≤ A + wtN p w s := fun _ => by
        by_cases c : s = 0
        · subst c
          have : wtN p w 0 = (10 - p) ^ pcN w := by
            unfold wtN
            rw [show pcN 0 = 0 from by decide, Nat.pow_zero, Nat.one_mul, Nat.sub_zero]
          omega
        · have := hl1 (by omega)
          omega
      have hb2 : w + 1 ≤ s + 1 → p ^ pcN w ≤ A + wtN p w s := fun h => by
        have e : s = w := by omega
        subst e
        have : wtN p s s = p ^ pcN s := by
          unfold wtN
          rw [Nat.sub_self, show pcN 0 = 0 from by decide, Nat.pow_zero, Nat.mul_one]
        omega
      cases t with
      | true =>
        rw [if_neg (show ¬ bI true = 0 by decide), if_pos rfl, lI_add]
        exact sleep_loop I H hA hO hb hn hp hq hw d (s + 1) f _ _ Mx4 Mm4 (by omega) (by omega) (by omega) a5 a6 a7 (by omega) (by omega) hb1 hb2
      | false =>
        rw [if_pos (show bI false = 0 from rfl), if_neg (by decide), show lI C + 0 = lI C from Int64.add_zero _]
        exact sleep_loop I H hA hO hb hn hp hq hw d (s + 1) f _ _ Mx4 Mm4 (by omega) (by omega) (by omega) a5 a6 a7 (by omega) (by omega) hb1 hb2
    · rw [if_neg z, if_neg z]
      have ns0 : s ≠ 0 := fun e => z (by rw [e, nI_0, Int32.zero_and])
      have nsw : s ≠ w := fun e => z (by
        have hh : ∀ w, w < 64 → nI w &&& (nI w ^^^ (-1)) = 0 := by decide +kernel
        rw [e]; exact hh w (by omega))
      exact sleep_loop I H hA hO hb hn hp hq hw d (s + 1) f A C Mx1 Mm1 (by omega) (by omega) (by omega) hx hm h0 (by omega) (by omega) (fun _ => hl1 (by omega)) (fun h => by omega)
end SL
theorem ok_sleep_Inv : ok_sleep Inv := fun Mx Mm x y z u I => by
  unfold X7_sleep X8_sleep
  rcases one_dec I x with ⟨c, d⟩ | ⟨G, sh, b, H, hA, hO, hb, rfl, c, d⟩
  · rw [c, d]; exact ⟨_, _, _, rfl, rfl, I⟩
  have hP := hx_P H
  rcases rng y 0 60 (by omega) (by omega) with ⟨q, e⟩ | ⟨n, n1, n2, rfl, e⟩
  · simp only [c, d, e 0 60 (by decide) (by decide), Option.bind_some, i10, i00, ↓reduceIte]
    refine ⟨_, _, _, ?_, rfl, I⟩
    rcases q with q | q
    · rw [if_pos (show y < 0 from q)]
    · rw [if_pos (show (60 : Int32) < y from q), ite_self]
  simp (disch := omega) only [c, d, e 0 60 (by decide) (by decide), Option.bind_some, i10, ↓reduceIte, nI_pos, show ¬ (60 : Int32) < nI n from nI_nlt (a := 60) (by omega) (by omega)]
  rcases rng z 0 10 (by omega) (by omega) with ⟨q, e⟩ | ⟨p, p1, p2, rfl, e⟩
  · simp only [e 0 10 (by decide) (by decide), Option.bind_some, i00, ↓reduceIte]
    refine ⟨_, _, _, ?_, rfl, I⟩
    rcases q with q | q
    · rw [if_pos (show z < 0 from q)]
    · rw [if_pos (show (10 : Int32) < z from q), ite_self]
  simp (disch := omega) only [e 0 10 (by decide) (by decide), Option.bind_some, i10, ↓reduceIte, nI_pos, show ¬ (10 : Int32) < nI p from nI_nlt (a := 10) (by omega) (by omega)]
  rcases choice_dec u 2 (by omega) with ⟨q, e⟩ | ⟨w, hw, rfl, q, e⟩
  · simp only [show X7_isChoice u 2 = some 0 from q, e 0 1 (by decide) (by decide), Option.bind_some, i00, ↓reduceIte]; exact ⟨_, _, _, rfl, rfl, I⟩
  simp only [show X7_isChoice (nI w) 2 = some 1 from q, e 0 1 (by decide) (by decide), Option.bind_some, i10, ↓reduceIte, X2_likelyOnBelt, show X3_setOf 15 Mx 4 = _ from cx_setOf H (g := 4) (by omega), show am_in (1 : Int32) 1092 = true by decide, show (1 : Int32).toNatClampNeg = 1 by decide, at_1 hA, a0_gone hA H.2.1.1.1, am_let_eq]
  rw [waits_set hP.2.2, btI_N (inG 4 G) (G 1) hP.2.2]
  have h64 := btN_le6 (inG 4 G) hP.2.2
  obtain ⟨r, Mx2, Mm2, b1, b2, b3⟩ := sleep_loop I H hA hO hb n2 p2 hw (btN_lt (inG 4 G) (G 1)) (btN (inG 4 G) (G 1) + 1) 0 am_fuel 0 0 Mx Mm (by omega) (by omega) (by show _ < 2000; omega) frm.rf tfM.rf I.misc.2.2.2 (by omega) (by omega) (fun h => by omega) (fun h => by omega)
  rw [show X2_likelyOnBelt_19 am_fuel (nI b) (nI n) (nI p) (nI w) (nI (btN (inG 4 G) (G 1))) 0 0 0 Mx = _ from b1]
  exact ⟨r, Mx2, Mm2, rfl, b2, b3⟩
