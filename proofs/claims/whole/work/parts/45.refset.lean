/-! PURE: the reference's sets, sums, tests -/
theorem lg_neg (x y : Int64) : lg_cmp x y < 0 ↔ x.toInt < y.toInt := by
  rw [← Int64.lt_iff_toInt_lt]
  unfold lg_cmp
  by_cases h : x > y
  · rw [if_pos h]
    have h1 : y < x := h
    constructor
    · intro q; exact absurd q (by decide)
    · intro q
      rw [Int64.lt_iff_toInt_lt] at q h1
      omega
  · rw [if_neg h]
    by_cases e : x = y
    · rw [if_pos e]
      constructor
      · intro q; exact absurd q (by decide)
      · intro q
        rw [Int64.lt_iff_toInt_lt, e] at q
        omega
    · rw [if_neg e]
      refine ⟨fun _ => ?_, fun _ => by decide⟩
      have h1 : ¬ y < x := h
      have h2 : x.toInt ≠ y.toInt := fun q => e (Int64.toInt_inj.mp q)
      rw [Int64.lt_iff_toInt_lt] at h1 ⊢
      omega
theorem lg_pos (x y : Int64) : 0 < lg_cmp x y ↔ y.toInt < x.toInt := by
  rw [← Int64.lt_iff_toInt_lt]
  unfold lg_cmp
  by_cases h : x > y
  · rw [if_pos h]
    exact ⟨fun _ => h, fun _ => by decide⟩
  · rw [if_neg h]
    by_cases e : x = y
    · rw [if_pos e]
      exact ⟨fun q => absurd q (by decide), fun q => absurd q h⟩
    · rw [if_neg e]
      exact ⟨fun q => absurd q (by decide), fun q => absurd q h⟩
theorem in_spec (x y z : Int64) : X8_in x y z = some (bI (decide (y.toInt ≤ x.toInt ∧ x.toInt ≤ z.toInt))) := by
  unfold X8_in
  simp only [lg_neg, lg_pos]
  by_cases c : x.toInt < y.toInt
  · rw [if_pos c, decide_eq_false (by omega)]; rfl
  · rw [if_neg c]
    by_cases d : z.toInt < x.toInt
    · rw [if_pos d, decide_eq_false (by omega)]; rfl
    · rw [if_neg d, decide_eq_true (by omega)]; rfl
theorem bI_ok (p : Bool) : (if bI p = 0 ∨ bI p = 1 then some (bI p) else none) = some (bI p) := if_pos (bI_1 p)
theorem i64_32 (x : Int32) : x.toInt64.toInt = x.toInt := Int32.toInt_toInt64 x
theorem nI_m1 {n : Nat} (h : n < 2000) : (nI n - 1).toInt = (n : Int) - 1 := by
  have e1 : (1 : Int32).toInt = 1 := by decide
  rw [fb_subI9 (by rw [nI_toInt (by omega), e1]; omega) (by rw [nI_toInt (by omega), e1]; omega), nI_toInt (by omega), e1]
theorem ref_isOne {M : Mem} {G : Nat → Nat} (e1 : M 1 1 = nI (G 1)) (h6 : G 1 ≤ 6) (x : Int32) : X8_isOne M x = some (bI (decide (0 ≤ x.toInt ∧ x.toInt < G 1))) := by
  unfold X8_isOne
  have k : (1 : Int32).toNatClampNeg = 1 := by decide
  have z : (0 : Int64).toInt = 0 := by decide
  rw [if_pos (by decide), k, e1, in_spec, Option.bind_some, bI_ok, i64_32, i64_32, nI_m1 (by omega), z]
  congr 2
  by_cases c : 0 ≤ x.toInt ∧ x.toInt < G 1
  · rw [decide_eq_true c, decide_eq_true (by omega)]
  · rw [decide_eq_false c, decide_eq_false (by omega)]
theorem ref_isPlace {M : Mem} {G : Nat → Nat} (e0 : M 1 0 = nI (G 0)) (h12 : G 0 ≤ 12) (x : Int32) : X8_isPlace M x = some (bI (decide (0 ≤ x.toInt ∧ x.toInt < G 0))) := by
  unfold X8_isPlace
  have k : (0 : Int32).toNatClampNeg = 0 := by decide
  have z : (0 : Int64).toInt = 0 := by decide
  rw [if_pos (by decide), k, e0, in_spec, Option.bind_some, bI_ok, i64_32, i64_32, nI_m1 (by omega), z]
  congr 2
  by_cases c : 0 ≤ x.toInt ∧ x.toInt < G 0
  · rw [decide_eq_true c, decide_eq_true (by omega)]
  · rw [decide_eq_false c, decide_eq_false (by omega)]
theorem ref_isHall {M : Mem} {G : Nat → Nat} (e0 : M 1 0 = nI (G 0)) (h12 : G 0 ≤ 12) : X8_isHall M = some (bI (decide (0 < G 0))) := by
  unfold X8_isHall
  have k : (0 : Int32).toNatClampNeg = 0 := by decide
  rw [if_pos (by decide), k, e0]
  by_cases c : 0 < G 0
  · rw [if_pos (show (0 : Int32) < nI (G 0) from nI_lt (a := 0) c (by omega)), decide_eq_true c]; rfl
  · rw [show G 0 = 0 by omega, if_neg (by decide), decide_eq_false (by omega)]; rfl
theorem ref_isWrong (M : Mem) (b : Nat) {G : Nat → Nat} (hG : gB G) (hb : b + 39 ≤ 1092) {t : Nat} (ht : t < 6) : X8_isWrong (wrM M b G) (nI b) (nI t) = some (bI (inG 5 G t)) := by
  have hv := hG.1 (15 + t)
  unfold X8_isWrong
  rw [ref_waits M b hG ht hb, Option.bind_some]
  simp (disch := omega) only [li_15, nI_add, am_in_nI, nI_clamp, wrM_gn, gI_nI, ↓reduceIte]
  unfold inG
  by_cases c : G (15 + t) = 0
  · simp [c, bI]
  · by_cases c2 : G (15 + t) = t + 1 <;> simp [c, c2, bI]
theorem ref_isRobbed (M : Mem) (b : Nat) {G : Nat → Nat} (hG : gB G) (hb : b + 39 ≤ 1092) {t : Nat} (ht : t < 6) : X8_isRobbed (wrM M b G) (nI b) (nI t) = some (bI (inG 6 G t)) := by
  have hv := hG.1 (33 + t)
  unfold X8_isRobbed
  rw [ref_waits M b hG ht hb, Option.bind_some]
  simp (disch := omega) only [li_33, li_30, nI_add, am_in_nI, nI_clamp, wrM_wh, nI_ltI, ↓reduceIte]
  unfold inG
  by_cases c : G (15 + t) = 0
  · by_cases c2 : G (33 + t) < 30
    · simp [c, c2, bI]
    · have : 30 ≤ G (33 + t) := by omega
      simp [c, c2, this, bI]
  · simp [c, bI]

theorem ref_goneOnes_loop (M : Mem) (b : Nat) {G : Nat → Nat} (hG : gB G) (hb : b + 39 ≤ 1092) : ∀ (d k f : Nat), G 1 - k = d → k ≤ G 1 → d < f → X8_goneOnes_4 (wrM M b G) f (nI b) (btI (inG 7 G) k) (nI k) = some (btI (inG 7 G) (G 1))
  | 0, k, 0, _, _, hf => absurd hf (Nat.not_lt_zero _)
  | 0, k, f + 1, hd, hk, _ => by
    have h1 := hG.2
    have e : k = G 1 := by omega
    subst e
    rw [X8_goneOnes_4]
    simp (disch := omega) only [li_1, nI_add, am_in_nI, nI_clamp, wrM_1, nI_ltI, ↓reduceIte, Nat.lt_irrefl]
  | d + 1, k, 0, _, _, hf => absurd hf (Nat.not_lt_zero _)
  | d + 1, k, f + 1, hd, hk, hf => by
    have h1 := hG.2
    have hlt : k < G 1 := by omega
    have ih := ref_goneOnes_loop M b hG hb d (k + 1) f (by omega) (by omega) (by omega)
    rw [btI] at ih
    rw [X8_goneOnes_4, show nI b + (1 : Int32) = nI (b + 1) from nI_1 b, am_in_nI (by omega) (by omega), if_pos rfl, nI_clamp (by omega), wrM_1, if_pos (nI_lt hlt (by omega))]
    rw [ref_waits M b hG (by omega) hb, Option.bind_some, nI_1]
    by_cases c : G (15 + k) = 0
    · rw [show inG 7 G k = false by simp [inG, c]] at ih
      rw [if_pos c, if_neg (by decide)]; exact ih
    · rw [show inG 7 G k = true by simp [inG, c]] at ih
      rw [if_neg c, if_pos rfl]; exact ih
theorem ref_goneOnes (M : Mem) (b : Nat) {G : Nat → Nat} (hG : gB G) (hb : b + 39 ≤ 1092) : X8_goneOnes (wrM M b G) (nI b) = some (btI (inG 7 G) (G 1)) := by
  have h1 := hG.2
  unfold X8_goneOnes
  exact ref_goneOnes_loop M b hG hb (G 1) 0 am_fuel (by omega) (by omega) (by show _ < 2000; omega)

theorem ref_wrongOnes_loop (M : Mem) (b : Nat) {G : Nat → Nat} (hG : gB G) (hb : b + 39 ≤ 1092) : ∀ (d k f : Nat), G 1 - k = d → k ≤ G 1 → d < f → X8_wrongOnes_4 (wrM M b G) f (nI b) (btI (inG 5 G) k) (nI k) = some (btI (inG 5 G) (G 1))
  | 0, k, 0, _, _, hf => absurd hf (Nat.not_lt_zero _)
  | 0, k, f + 1, hd, hk, _ => by
    have h1 := hG.2
    have e : k = G 1 := by omega
    subst e
    rw [X8_wrongOnes_4]
    simp (disch := omega) only [li_1, nI_add, am_in_nI, nI_clamp, wrM_1, nI_ltI, ↓reduceIte, Nat.lt_irrefl]
  | d + 1, k, 0, _, _, hf => absurd hf (Nat.not_lt_zero _)
  | d + 1, k, f + 1, hd, hk, hf => by
    have h1 := hG.2
    have hlt : k < G 1 := by omega
    have ih := ref_wrongOnes_loop M b hG hb d (k + 1) f (by omega) (by omega) (by omega)
    rw [btI] at ih
    rw [X8_wrongOnes_4, show nI b + (1 : Int32) = nI (b + 1) from nI_1 b, am_in_nI (by omega) (by omega), if_pos rfl, nI_clamp (by omega), wrM_1, if_pos (nI_lt hlt (by omega))]
    rw [ref_isWrong M b hG hb (by omega), Option.bind_some, nI_1]
    cases hq : inG 5 G k with
    | false => rw [hq] at ih; rw [if_pos (by rfl)]; exact ih
    | true => rw [hq] at ih; rw [if_neg (by decide)]; exact ih
theorem ref_wrongOnes (M : Mem) (b : Nat) {G : Nat → Nat} (hG : gB G) (hb : b + 39 ≤ 1092) : X8_wrongOnes (wrM M b G) (nI b) = some (btI (inG 5 G) (G 1)) := by
  have h1 := hG.2
  unfold X8_wrongOnes
  exact ref_wrongOnes_loop M b hG hb (G 1) 0 am_fuel (by omega) (by omega) (by show _ < 2000; omega)

theorem ref_robbedOnes_loop (M : Mem) (b : Nat) {G : Nat → Nat} (hG : gB G) (hb : b + 39 ≤ 1092) : ∀ (d k f : Nat), G 1 - k = d → k ≤ G 1 → d < f → X8_robbedOnes_4 (wrM M b G) f (nI b) (btI (inG 6 G) k) (nI k) = some (btI (inG 6 G) (G 1))
  | 0, k, 0, _, _, hf => absurd hf (Nat.not_lt_zero _)
  | 0, k, f + 1, hd, hk, _ => by
    have h1 := hG.2
    have e : k = G 1 := by omega
    subst e
    rw [X8_robbedOnes_4]
    simp (disch := omega) only [li_1, nI_add, am_in_nI, nI_clamp, wrM_1, nI_ltI, ↓reduceIte, Nat.lt_irrefl]
  | d + 1, k, 0, _, _, hf => absurd hf (Nat.not_lt_zero _)
  | d + 1, k, f + 1, hd, hk, hf => by
    have h1 := hG.2
    have hlt : k < G 1 := by omega
    have ih := ref_robbedOnes_loop M b hG hb d (k + 1) f (by omega) (by omega) (by omega)
    rw [btI] at ih
    rw [X8_robbedOnes_4, show nI b + (1 : Int32) = nI (b + 1) from nI_1 b, am_in_nI (by omega) (by omega), if_pos rfl, nI_clamp (by omega), wrM_1, if_pos (nI_lt hlt (by omega))]
    rw [ref_isRobbed M b hG hb (by omega), Option.bind_some, nI_1]
    cases hq : inG 6 G k with
    | false => rw [hq] at ih; rw [if_pos (by rfl)]; exact ih
    | true => rw [hq] at ih; rw [if_neg (by decide)]; exact ih
theorem ref_robbedOnes (M : Mem) (b : Nat) {G : Nat → Nat} (hG : gB G) (hb : b + 39 ≤ 1092) : X8_robbedOnes (wrM M b G) (nI b) = some (btI (inG 6 G) (G 1)) := by
  have h1 := hG.2
  unfold X8_robbedOnes
  exact ref_robbedOnes_loop M b hG hb (G 1) 0 am_fuel (by omega) (by omega) (by show _ < 2000; omega)

theorem ref_onBelt_loop (M : Mem) (b : Nat) {G : Nat → Nat} (hG : gB G) (hb : b + 39 ≤ 1092) : ∀ (d k f : Nat), G 1 - k = d → k ≤ G 1 → d < f → X8_onBelt_4 (wrM M b G) f (nI b) (btI (inG 2 G) k) (nI k) = some (btI (inG 2 G) (G 1))
  | 0, k, 0, _, _, hf => absurd hf (Nat.not_lt_zero _)
  | 0, k, f + 1, hd, hk, _ => by
    have h1 := hG.2
    have e : k = G 1 := by omega
    subst e
    rw [X8_onBelt_4]
    simp (disch := omega) only [li_1, nI_add, am_in_nI, nI_clamp, wrM_1, nI_ltI, ↓reduceIte, Nat.lt_irrefl]
  | d + 1, k, 0, _, _, hf => absurd hf (Nat.not_lt_zero _)
  | d + 1, k, f + 1, hd, hk, hf => by
    have h1 := hG.2
    have hlt : k < G 1 := by omega
    have ih := ref_onBelt_loop M b hG hb d (k + 1) f (by omega) (by omega) (by omega)
    rw [btI] at ih
    rw [X8_onBelt_4, show nI b + (1 : Int32) = nI (b + 1) from nI_1 b, am_in_nI (by omega) (by omega), if_pos rfl, nI_clamp (by omega), wrM_1, if_pos (nI_lt hlt (by omega))]
    have hv := hG.1 (33 + k)
    simp (disch := omega) only [li_33, li_20, nI_add, am_in_nI, nI_clamp, wrM_wh, nI_ltI, ↓reduceIte, nI_1]
    by_cases c : G (33 + k) < 20
    · rw [show inG 2 G k = true by simp [inG, c]] at ih
      rw [if_pos c]; exact ih
    · rw [show inG 2 G k = false by simp [inG, c]] at ih
      rw [if_neg c]; exact ih
theorem ref_onBelt (M : Mem) (b : Nat) {G : Nat → Nat} (hG : gB G) (hb : b + 39 ≤ 1092) : X8_onBelt (wrM M b G) (nI b) = some (btI (inG 2 G) (G 1)) := by
  have h1 := hG.2
  unfold X8_onBelt
  exact ref_onBelt_loop M b hG hb (G 1) 0 am_fuel (by omega) (by omega) (by show _ < 2000; omega)

theorem ref_allSaw_loop (M : Mem) (b : Nat) {G : Nat → Nat} (hG : gB G) (hb : b + 39 ≤ 1092) (hW : gW G) : ∀ (d k f : Nat), G 1 - k = d → k ≤ G 1 → d < f → X8_allSaw_4 (wrM M b G) f (nI b) (nI (sumG G k)) (nI k) = some (nI (sumG G (G 1)))
  | 0, k, 0, _, _, hf => absurd hf (Nat.not_lt_zero _)
  | 0, k, f + 1, hd, hk, _ => by
    have h1 := hG.2
    have e : k = G 1 := by omega
    subst e
    rw [X8_allSaw_4]
    simp (disch := omega) only [li_1, nI_add, am_in_nI, nI_clamp, wrM_1, nI_ltI, ↓reduceIte, Nat.lt_irrefl]
  | d + 1, k, 0, _, _, hf => absurd hf (Nat.not_lt_zero _)
  | d + 1, k, f + 1, hd, hk, hf => by
    have h1 := hG.2
    have hlt : k < G 1 := by omega
    have ih := ref_allSaw_loop M b hG hb hW d (k + 1) f (by omega) (by omega) (by omega)
    rw [sumG] at ih
    rw [X8_allSaw_4]
    simp (disch := omega) only [li_1, li_21, nI_add, am_in_nI, nI_clamp, wrM_1, wrM_sw, nI_ltI, hlt, ↓reduceIte]
    exact ih
theorem ref_allSaw (M : Mem) (b : Nat) {G : Nat → Nat} (hG : gB G) (hb : b + 39 ≤ 1092) (hW : gW G) : X8_allSaw (wrM M b G) (nI b) = some (nI (sumG G (G 1))) := by
  have h1 := hG.2
  unfold X8_allSaw
  exact ref_allSaw_loop M b hG hb hW (G 1) 0 am_fuel (by omega) (by omega) (by show _ < 2000; omega)
theorem ref_comesBack (M : Mem) (b : Nat) {G : Nat → Nat} (hG : gB G) (hb : b + 39 ≤ 1092) {t c : Nat} (ht : t < 6) (hc : c < 6) (hg : G (15 + t) = c + 1) : X8_comesBack (nI b) (nI t) (wrM M b G) = some (wrM M b (backG G t)) := by
  have h1 := hG.2
  unfold X8_comesBack
  have e20 : (20 : Int32) = nI 20 := li_20
  simp (disch := omega) only [li_15, li_33, li_21, nI_add, am_in_nI, nI_clamp, wrM_gn, hg, gI_s, am_let_eq, ↓reduceIte]
  rw [e20, wrM_swh _ _ _ _ hc, show (-1000000 : Int32) = gI 0 from rfl, wrM_sgn _ _ _ _ ht, li_0, wrM_ssw _ _ _ _ ht]
  unfold backG
  rw [hg, Nat.add_sub_cancel]
theorem ref_taken_loop (M : Mem) {G : Nat → Nat} (hG : gB G) : ∀ (d k f : Nat), G 1 - k = d → k ≤ G 1 → d < f → X8_takenOnes_4 (wrM M 0 G) f (btI (inG 3 G) k) (nI k) = some (btI (inG 3 G) (G 1))
  | 0, k, 0, _, _, hf => absurd hf (Nat.not_lt_zero _)
  | 0, k, f + 1, hd, hk, _ => by
    have h1 := hG.2
    have e : k = G 1 := by omega
    subst e
    have w1 : wrM M 0 G 1 1 = nI (G 1) := wrM_1 M 0 G
    rw [X8_takenOnes_4]
    simp (disch := omega) only [li_1, nI_add, am_in_nI, nI_clamp, w1, nI_ltI, ↓reduceIte, Nat.lt_irrefl]
  | d + 1, k, 0, _, _, hf => absurd hf (Nat.not_lt_zero _)
  | d + 1, k, f + 1, hd, hk, hf => by
    have h1 := hG.2
    have hlt : k < G 1 := by omega
    have w1 : wrM M 0 G 1 1 = nI (G 1) := wrM_1 M 0 G
    have w2 : wrM M 0 G 1 (33 + k) = nI (G (33 + k)) := by
      have := wrM_wh M 0 G (show k < 6 by omega)
      rw [show 0 + 33 + k = 33 + k by omega] at this
      exact this
    have ih := ref_taken_loop M hG d (k + 1) f (by omega) (by omega) (by omega)
    rw [btI] at ih
    have hv := hG.1 (33 + k)
    rw [X8_takenOnes_4, if_pos (by decide), show (1 : Int32).toNatClampNeg = 1 by decide, w1, if_pos (nI_lt hlt (by omega))]
    simp (disch := omega) only [li_33, li_30, nI_add, am_in_nI, nI_clamp, w2, nI_ltI, ↓reduceIte, nI_1]
    by_cases c : G (33 + k) < 30
    · rw [show inG 3 G k = false by simp [inG, c]] at ih
      rw [if_pos c]; exact ih
    · rw [show inG 3 G k = true by simp [inG]; omega] at ih
      rw [if_neg c]; exact ih
theorem ref_taken (M : Mem) {G : Nat → Nat} (hG : gB G) : X8_takenOnes (wrM M 0 G) = some (btI (inG 3 G) (G 1)) := by
  have h1 := hG.2
  unfold X8_takenOnes
  exact ref_taken_loop M hG (G 1) 0 am_fuel (by omega) (by omega) (by show _ < 2000; omega)
/-- sets as numbers -/
def btN (p : Nat → Bool) : Nat → Nat
  | 0 => 0
  | k + 1 => btN p k + if p k then 2 ^ k else 0
theorem btN_lt (p : Nat → Bool) : ∀ k, btN p k < 2 ^ k
  | 0 => Nat.zero_lt_one
  | k + 1 => by
    have := btN_lt p k
    rw [btN, Nat.pow_succ]
    split <;> omega
theorem or_bit : ∀ k, k < 6 → ∀ s, s < 2 ^ k → nI s ||| ((1 : Int32) <<< (nI k &&& 31)) = nI (s + 2 ^ k) := by decide +kernel
theorem btI_N (p : Nat → Bool) : ∀ k, k ≤ 6 → btI p k = nI (btN p k)
  | 0, _ => rfl
  | k + 1, hk => by
    have hl := btN_lt p k
    rw [btI, btI_N p k (by omega), btN]
    cases p k with
    | false =>
      simp
    | true =>
      simp only [↓reduceIte]
      exact or_bit k (by omega) _ hl
def pcN (s : Nat) : Nat := s % 2 + s / 2 % 2 + s / 4 % 2 + s / 8 % 2 + s / 16 % 2 + s / 32 % 2
theorem bits_64 : ∀ s, s < 64 → X8_bits (nI s) = some (nI (pcN s)) := by decide +kernel
theorem bitc_64 : ∀ s, s < 64 → J6_bitCount_0f7a4 (nI s) = some (nI (pcN s)) := by decide +kernel
theorem btI_bits (p : Nat → Bool) {k : Nat} (hk : k ≤ 6) : X8_bits (btI p k) = some (nI (pcN (btN p k))) ∧ J6_bitCount_0f7a4 (btI p k) = some (nI (pcN (btN p k))) := by
  have h1 := btN_lt p k
  have h2 : 2 ^ k ≤ 2 ^ 6 := Nat.pow_le_pow_right (by omega) hk
  rw [btI_N p k hk]
  exact ⟨bits_64 _ (by omega), bitc_64 _ (by omega)⟩
