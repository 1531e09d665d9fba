/-! PURE: the reference's tick -/
/-- THE BELT turned by d places (d counted round) -/
def turnG (d : Nat) (G : Nat → Nat) : Nat → Nat := loopN (fun b G => if G (33 + b) < 20 then upN G (33 + b) ((G (33 + b) + d) % G 0) else G) (G 1) G
def turnL (d : Nat) (k : Nat) (G : Nat → Nat) : Nat → Nat := loopN (fun b G => if G (33 + b) < 20 then upN G (33 + b) ((G (33 + b) + d) % G 0) else G) k G
theorem turnL_val (d : Nat) (G : Nat → Nat) : ∀ (k j : Nat), k ≤ 6 → turnL d k G j = if 33 ≤ j ∧ j < 33 + k ∧ G j < 20 then (G j + d) % G 0 else G j
  | 0, j, _ => by
    rw [if_neg (by omega)]; rfl
  | k + 1, j, hk => by
    have ih := turnL_val d G k
    have e : turnL d (k + 1) G = if turnL d k G (33 + k) < 20 then upN (turnL d k G) (33 + k) ((turnL d k G (33 + k) + d) % turnL d k G 0) else turnL d k G := rfl
    have h33 : turnL d k G (33 + k) = G (33 + k) := by rw [ih (33 + k) (by omega), if_neg (by omega)]
    have h0 : turnL d k G 0 = G 0 := by rw [ih 0 (by omega), if_neg (by omega)]
    rw [e, h33, h0]
    by_cases c : G (33 + k) < 20
    · rw [if_pos c]
      by_cases q : j = 33 + k
      · subst q
        rw [upN_same, if_pos (by omega)]
      · rw [upN_ne q, ih j (by omega)]
        by_cases c2 : 33 ≤ j ∧ j < 33 + k ∧ G j < 20
        · rw [if_pos c2, if_pos (by omega)]
        · rw [if_neg c2, if_neg (by omega)]
    · rw [if_neg c, ih j (by omega)]
      by_cases q : j = 33 + k
      · subst q
        rw [if_neg (by omega), if_neg (by omega)]
      · by_cases c2 : 33 ≤ j ∧ j < 33 + k ∧ G j < 20
        · rw [if_pos c2, if_pos (by omega)]
        · rw [if_neg c2, if_neg (by omega)]
theorem turnL_gB {d : Nat} {G : Nat → Nat} (h : gB G) {k : Nat} (hk : k ≤ 6) (h0 : 0 < G 0) (hP : G 0 ≤ 12) : gB (turnL d k G) := by
  refine ⟨fun j => ?_, ?_⟩
  · rw [turnL_val d G k j hk]
    split
    · have := Nat.mod_lt (G j + d) h0
      omega
    · exact h.1 j
  · rw [turnL_val d G k 1 hk, if_neg (by omega)]; exact h.2
theorem ref_turns_loop (M : Mem) (b : Nat) {G : Nat → Nat} (hG : gB G) (h0 : 0 < G 0) (hP : G 0 ≤ 12) (x : Int32) (d : Nat) (hd : ∀ w, w < 20 → (nI w + x + nI (G 0)) = nI (w + d)) (hd2 : d < 1000) (hb : b + 39 ≤ 1092) : ∀ (r k f : Nat), G 1 - k = r → k ≤ G 1 → r < f → X8_turns_2 f (nI b) x (nI k) (wrM M b (turnL d k G)) = some (wrM M b (turnL d (G 1) G))
  | 0, k, 0, _, _, h => absurd h (Nat.not_lt_zero _)
  | 0, k, f + 1, hr, hk, _ => by
    have h1 := hG.2
    have e : k = G 1 := by omega
    have g1 : turnL d k G 1 = G 1 := by rw [turnL_val d G k 1 (by omega), if_neg (by omega)]
    rw [X8_turns_2]
    simp (disch := omega) only [li_1, nI_add, am_in_nI, nI_clamp, wrM_1, g1, nI_ltI, ↓reduceIte]
    rw [if_neg (by omega), e]
  | r + 1, k, 0, _, _, h => absurd h (Nat.not_lt_zero _)
  | r + 1, k, f + 1, hr, hk, hf => by
    have h1 := hG.2
    have hlt : k < G 1 := by omega
    have hw := hG.1 (33 + k)
    have g1 : turnL d k G 1 = G 1 := by rw [turnL_val d G k 1 (by omega), if_neg (by omega)]
    have g0 : turnL d k G 0 = G 0 := by rw [turnL_val d G k 0 (by omega), if_neg (by omega)]
    have g33 : turnL d k G (33 + k) = G (33 + k) := by rw [turnL_val d G k _ (by omega), if_neg (by omega)]
    have e : turnL d (k + 1) G = if G (33 + k) < 20 then upN (turnL d k G) (33 + k) ((G (33 + k) + d) % G 0) else turnL d k G := by
      show (if turnL d k G (33 + k) < 20 then upN (turnL d k G) (33 + k) ((turnL d k G (33 + k) + d) % turnL d k G 0) else turnL d k G) = _
      rw [g33, g0]
    have ih := ref_turns_loop M b hG h0 hP x d hd hd2 hb r (k + 1) f (by omega) (by omega) (by omega)
    rw [e] at ih
    have hn0 : ¬ nI (G 0) = nI 0 := nI_ne0 h0 (by omega)
    rw [X8_turns_2]
    simp (disch := omega) only [li_1, li_33, li_20, nI_add, am_in_nI, nI_clamp, wrM_1, wrM_wh, g1, g33, nI_ltI, hlt, ↓reduceIte]
    by_cases c : G (33 + k) < 20
    · rw [if_pos c] at ih ⊢
      have hm : (nI (G (33 + k)) + x + nI (G 0)) - (nI (G (33 + k)) + x + nI (G 0)) / nI (G 0) * nI (G 0) = nI ((G (33 + k) + d) % G 0) := by
        rw [hd _ c, pk_rem (by omega) h0 (by omega)]
      rw [li_0]
      simp (disch := omega) only [nI_add, Nat.add_zero, am_in_nI, nI_clamp, wrM_0', g0, hn0, hm, am_let_eq, wrM_swh, ↓reduceIte]
      exact ih
    · rw [if_neg c] at ih ⊢
      simp (disch := omega) only [am_let_eq, wrM_swh]
      have e2 : upN (turnL d k G) (33 + k) (G (33 + k)) = turnL d k G := by
        funext j
        unfold upN
        split
        · next q => rw [q, g33]
        · rfl
      rw [e2]
      exact ih
theorem ref_turns (M : Mem) (b : Nat) {G : Nat → Nat} (hG : gB G) (h0 : 0 < G 0) (hP : G 0 ≤ 12) (x : Int32) (d : Nat) (hd : ∀ w, w < 20 → (nI w + x + nI (G 0)) = nI (w + d)) (hd2 : d < 1000) (hb : b + 39 ≤ 1092) : X8_turns (nI b) x (wrM M b G) = some (wrM M b (turnL d (G 1) G)) := by
  have h1 := hG.2
  unfold X8_turns
  exact ref_turns_loop M b hG h0 hP x d hd hd2 hb (G 1) 0 am_fuel (by omega) (by omega) (by show G 1 < 2000; omega)
/-! a bag falls -/
theorem bagG_le (G : Nat → Nat) (p : Nat) : ∀ k, bagG G p k ≤ k
  | 0 => Nat.le_refl _
  | k + 1 => by
    have ih := bagG_le G p k
    rw [bagG]
    split
    · split <;> omega
    · omega
/-- what the first bag in a place is -/
theorem bagG_spec (G : Nat → Nat) (p : Nat) : ∀ k, (bagG G p k = 0 ∧ ∀ b, b < k → G (33 + b) ≠ p) ∨ (∃ b, b < k ∧ bagG G p k = b + 1 ∧ G (33 + b) = p ∧ ∀ c, c < b → G (33 + c) ≠ p)
  | 0 => Or.inl ⟨rfl, fun b h => absurd h (Nat.not_lt_zero _)⟩
  | k + 1 => by
    rcases bagG_spec G p k with ⟨h0, hn⟩ | ⟨b, hb, e, hp, hn⟩
    · by_cases c : G (33 + k) = p
      · exact Or.inr ⟨k, by omega, by rw [bagG, if_pos h0, if_pos c], c, hn⟩
      · refine Or.inl ⟨by rw [bagG, if_pos h0, if_neg c], fun b hb => ?_⟩
        by_cases q : b = k
        · rw [q]; exact c
        · exact hn b (by omega)
    · exact Or.inr ⟨b, by omega, by rw [bagG, e, if_neg (by omega)], hp, hn⟩
/-- the first k places of the ranking: the one whose bag is in THE CART, one more; 0: none -/
def cartG (rk : Nat → Nat) (G : Nat → Nat) : Nat → Nat
  | 0 => 0
  | k + 1 => if cartG rk G k = 0 then (if G (33 + rk k) = 20 then k + 1 else 0) else cartG rk G k
theorem cartG_stay {rk G : Nat → Nat} {k v : Nat} (h : cartG rk G k = v + 1) : ∀ j, k ≤ j → cartG rk G j = v + 1 := by
  intro j hj
  induction j with
  | zero => obtain rfl : k = 0 := by omega
            exact h
  | succ j ih =>
    by_cases q : k = j + 1
    · rw [← q]; exact h
    · rw [cartG, ih (by omega), if_neg (by omega)]
def fallG (rk : Nat → Nat) (G : Nat → Nat) : Nat → Nat := if bagG G 0 (G 1) = 0 then (if cartG rk G (G 1) = 0 then G else upN G (33 + rk (cartG rk G (G 1) - 1)) 0) else G
/-- the ranks lie in the reference's row of ranks -/
def rkM (M : Mem) (rk : Nat → Nat) : Prop := (∀ j, j < 6 → M 8 j = nI (rk j)) ∧ ∀ j, j < 6 → rk j < 6
theorem ref_falls_no (M : Mem) (b : Nat) {G : Nat → Nat} (hG : gB G) (hb : b + 39 ≤ 1092) (k f : Nat) (hk : k ≤ G 1) : X8_falls_19 (f + 1) (nI b) 0 (nI k) (wrM M b G) = some (wrM M b G) := by
  have h1 := hG.2
  rw [X8_falls_19]
  simp (disch := omega) only [li_1, nI_add, am_in_nI, nI_clamp, wrM_1, nI_ltI, ↓reduceIte]
  split <;> rfl
theorem ref_falls_loop (M : Mem) (b : Nat) {G rk : Nat → Nat} (hG : gB G) (hr : rkM M rk) (hb : b + 39 ≤ 1092) : ∀ (d k f : Nat), G 1 - k = d → k ≤ G 1 → d + 1 < f → cartG rk G k = 0 → X8_falls_19 f (nI b) 1 (nI k) (wrM M b G) = some (wrM M b (if cartG rk G (G 1) = 0 then G else upN G (33 + rk (cartG rk G (G 1) - 1)) 0))
  | 0, k, 0, _, _, h, _ => absurd h (Nat.not_lt_zero _)
  | 0, k, f + 1, hd, hk, _, h0 => by
    have h1 := hG.2
    have e : k = G 1 := by omega
    subst e
    rw [X8_falls_19]
    simp (disch := omega) only [li_1, nI_add, am_in_nI, nI_clamp, wrM_1, nI_ltI, ↓reduceIte, Nat.lt_irrefl, h0]
  | d + 1, k, 0, _, _, h, _ => absurd h (Nat.not_lt_zero _)
  | d + 1, k, f + 1, hd, hk, hf, h0 => by
    have h1 := hG.2
    have hlt : k < G 1 := by omega
    have hrk := hr.2 k (by omega)
    have hw := hG.1 (33 + rk k)
    have e8 : wrM M b G 8 k = nI (rk k) := by rw [wrM_ne M b G (by omega)]; exact hr.1 k (by omega)
    have n10 : ¬ (nI 1 = nI 0) := by decide
    rw [X8_falls_19]
    simp (disch := omega) only [li_0, li_1, li_33, li_20, nI_add, am_in_nI, nI_clamp, wrM_1, wrM_wh, nI_ltI, nI_eq, hlt, e8, am_let_eq, wrM_swh, ↓reduceIte, Nat.one_ne_zero]
    by_cases c : G (33 + rk k) = 20
    · rw [if_pos c]
      have h2 : cartG rk G (k + 1) = k + 1 := by rw [cartG, if_pos h0, if_pos c]
      rw [cartG_stay h2 (G 1) (by omega), if_neg (by omega), Nat.add_sub_cancel]
      obtain ⟨f', rfl⟩ : ∃ f', f = f' + 1 := ⟨f - 1, by omega⟩
      have hG2 : gB (upN G (33 + rk k) 0) := hG.up (by omega) (by omega)
      have := ref_falls_no M b hG2 hb (k + 1) f' (by rw [upN_ne (by omega)]; omega)
      rw [li_0] at this
      exact this
    · rw [if_neg c]
      have ih := ref_falls_loop M b hG hr hb d (k + 1) f (by omega) (by omega) (by omega) (by rw [cartG, if_pos h0, if_neg c])
      rw [li_1] at ih
      exact ih
theorem ref_falls (M : Mem) (b : Nat) {G rk : Nat → Nat} (hG : gB G) (hr : rkM M rk) (hb : b + 39 ≤ 1092) : X8_falls (nI b) (wrM M b G) = some (wrM M b (fallG rk G)) := by
  have h1 := hG.2
  have hbg : bagG G 0 (G 1) < 2 ^ 31 := by
    have := bagG_le G 0 (G 1)
    omega
  unfold X8_falls fallG
  rw [li_0, ref_bagIn M b hG (by omega) hb]
  simp only [Option.bind_some, gI_none hbg]
  by_cases c : bagG G 0 (G 1) = 0
  · rw [if_pos c, if_pos c]
    exact ref_falls_loop M b hG hr hb (G 1) 0 am_fuel (by omega) (by omega) (by show G 1 + 1 < 2000; omega) rfl
  · rw [if_neg c, if_neg c]
    exact ref_falls_no M b hG hb 0 1999 (by omega)
/-! who is beside, who takes -/
def nearG (P a c : Nat) : Bool := decide ((a + P - c) % P < 2) || decide ((a + P - c) % P = P - 1)
/-- whether somebody else among the first k waits where t stands, or beside -/
def seenG (G : Nat → Nat) (t : Nat) : Nat → Bool
  | 0 => false
  | k + 1 => seenG G t k || (decide (k ≠ t) && decide (G (15 + k) = 0) && nearG (G 0) (G (9 + k)) (G (9 + t)))
/-- all that a hall's travellers have is as told -/
def gS (G : Nat → Nat) : Prop := 4 ≤ G 0 ∧ G 0 ≤ 12 ∧ ∀ t, t < G 1 → G (9 + t) < G 0
theorem am_sub {a c P : Nat} (ha : a < P) (hc : c < P) (hP : P ≤ 12) : nI a - nI c + nI P = nI (a + P - c) := by
  apply Int32.toInt_inj.mp
  have e1 : (nI a - nI c).toInt = (a : Int) - c := pk_sub_toInt (by omega) (by omega)
  rw [fb_addI9 (by rw [e1, nI_toInt (by omega)]; omega) (by rw [e1, nI_toInt (by omega)]; omega), e1, nI_toInt (by omega), nI_toInt (by omega)]
  omega
