/-! PURE: the reference: who is seen, who takes, one looks, a tick -/
def bI (p : Bool) : Int32 := if p then 1 else 0
theorem bI_t : bI true = 1 := rfl
theorem bI_f : bI false = 0 := rfl
theorem bI_0 (p : Bool) : bI p = 0 ↔ p = false := by cases p <;> decide
theorem bI_1 (p : Bool) : bI p = 0 ∨ bI p = 1 := by cases p <;> decide
theorem ref_isSeen_loop (M : Mem) (b : Nat) {G : Nat → Nat} (hG : gB G) (hs : gS G) {t : Nat} (ht : t < G 1) (hb : b + 39 ≤ 1092) : ∀ (d k f : Nat), G 1 - k = d → k ≤ G 1 → d < f → X8_isSeen_15 (wrM M b G) f (nI b) (nI t) (bI (seenG G t k)) (nI (G 0)) (nI k) = some (bI (seenG G t (G 1)))
  | 0, k, 0, _, _, h => absurd h (Nat.not_lt_zero _)
  | 0, k, f + 1, hd, hk, _ => by
    have h1 := hG.2
    have e : k = G 1 := by omega
    subst e
    rw [X8_isSeen_15]
    simp (disch := omega) only [li_1, nI_add, am_in_nI, nI_clamp, wrM_1, nI_ltI, ↓reduceIte, Nat.lt_irrefl]
    exact if_pos (bI_1 _)
  | d + 1, k, 0, _, _, h => absurd h (Nat.not_lt_zero _)
  | d + 1, k, f + 1, hd, hk, hf => by
    have h1 := hG.2
    have hlt : k < G 1 := by omega
    obtain ⟨p4, p12, hst⟩ := hs
    have s1 := hst k hlt
    have s2 := hst t ht
    have hv := hG.1 (15 + k)
    have hn0 : ¬ nI (G 0) = nI 0 := nI_ne0 (by omega) (by omega)
    have hm : (nI (G (9 + k)) - nI (G (9 + t)) + nI (G 0)) - (nI (G (9 + k)) - nI (G (9 + t)) + nI (G 0)) / nI (G 0) * nI (G 0) = nI ((G (9 + k) + G 0 - G (9 + t)) % G 0) := by
      rw [am_sub s1 s2 p12, pk_rem (by omega) (by omega) (by omega)]
    have hml := Nat.mod_lt (G (9 + k) + G 0 - G (9 + t)) (show 0 < G 0 by omega)
    have hP1 : nI (G 0) - nI 1 = nI (G 0 - 1) := pk_sub (by omega)
    have ih := ref_isSeen_loop M b hG ⟨p4, p12, hst⟩ ht hb d (k + 1) f (by omega) (by omega) (by omega)
    rw [X8_isSeen_15]
    rw [li_0]
    simp (disch := omega) only [li_1, li_2, li_9, nI_add, am_in_nI, nI_clamp, wrM_1, wrM_sd, nI_ltI, nI_eq, hlt, hn0, hm, am_let_eq, ref_waits M b hG, Option.bind_some, hP1, ↓reduceIte]
    have e0 : nI 0 = bI false := rfl
    have e1 : nI 1 = bI true := rfl
    cases hsn : seenG G t k with
    | true =>
      have e : seenG G t (k + 1) = true := by rw [seenG, hsn]; rfl
      rw [e] at ih
      rw [if_neg (by decide), e1]
      exact ih
    | false =>
      rw [if_pos (by decide)]
      by_cases c1 : k = t
      · have e : seenG G t (k + 1) = false := by rw [seenG, hsn]; simp [c1]
        rw [e] at ih
        rw [if_pos c1, e0]
        exact ih
      · rw [if_neg c1]
        by_cases c2 : G (15 + k) = 0
        · rw [if_pos c2, if_neg (by decide)]
          by_cases c3 : (G (9 + k) + G 0 - G (9 + t)) % G 0 < 2
          · have e : seenG G t (k + 1) = true := by rw [seenG, hsn]; simp [c1, c2, nearG, c3]
            rw [e] at ih
            rw [if_pos c3, e1]
            exact ih
          · rw [if_neg c3]
            by_cases c4 : (G (9 + k) + G 0 - G (9 + t)) % G 0 = G 0 - 1
            · have e : seenG G t (k + 1) = true := by rw [seenG, hsn]; simp [c1, c2, nearG, c4]
              rw [e] at ih
              rw [if_pos c4, e1]
              exact ih
            · have e : seenG G t (k + 1) = false := by
                rw [seenG, hsn]
                have : nearG (G 0) (G (9 + k)) (G (9 + t)) = false := by unfold nearG; simp [c3, c4]
                rw [this]
                simp
              rw [e] at ih
              rw [if_neg c4, e0]
              exact ih
        · have e : seenG G t (k + 1) = false := by rw [seenG, hsn]; simp [c2]
          rw [e] at ih
          rw [if_neg c2, if_pos (by decide), e0]
          exact ih
theorem ref_isSeen (M : Mem) (b : Nat) {G : Nat → Nat} (hG : gB G) (hs : gS G) {t : Nat} (ht : t < G 1) (hb : b + 39 ≤ 1092) : X8_isSeen (wrM M b G) (nI b) (nI t) = some (bI (seenG G t (G 1))) := by
  have h1 := hG.2
  unfold X8_isSeen
  simp (disch := omega) only [li_0, nI_add, Nat.add_zero, am_in_nI, nI_clamp, wrM_0', ↓reduceIte]
  exact ref_isSeen_loop M b hG hs ht hb (G 1) 0 am_fuel (by omega) (by omega) (by show G 1 < 2000; omega)
def takeG (G : Nat → Nat) (t b : Nat) : Bool :=
  if G (3 + t) = 1 then decide (b = t) else if G (3 + t) = 2 then decide (b = t) && !(seenG G t (G 1)) else if G (3 + t) = 3 then decide (G (27 + b) = G (27 + t)) else if G (3 + t) = 4 then decide (b = t) && decide (1 < G (21 + t)) else decide (b = t) && decide (2 < G (21 + t))
theorem ref_takes (M : Mem) (b : Nat) {G : Nat → Nat} (hG : gB G) (hs : gS G) {t c : Nat} (ht : t < G 1) (hc : c < 6) (hb : b + 39 ≤ 1092) : X8_takes (wrM M b G) (nI b) (nI t) (nI c) = some (bI (takeG G t c)) := by
  have h1 := hG.2
  have hk := hG.1 (3 + t)
  have hw := hG.1 (21 + t)
  have hc1 := hG.1 (27 + t)
  have hc2 := hG.1 (27 + c)
  unfold X8_takes takeG
  simp (disch := omega) only [li_0, li_1, li_2, li_3, li_4, li_21, li_27, nI_add, am_in_nI, nI_clamp, wrM_kd, wrM_sw, wrM_cl, nI_ltI, nI_eq, ref_isSeen M b hG hs ht hb, Option.bind_some, ↓reduceIte]
  have e0 : nI 0 = bI false := rfl
  have e1 : nI 1 = bI true := rfl
  simp only [e0, e1]
  by_cases k1 : G (3 + t) = 1
  · simp only [k1, ↓reduceIte]
    by_cases q : c = t <;> simp [q]
  · rw [if_neg k1, if_neg k1]
    by_cases k2 : G (3 + t) = 2
    · simp only [k2, ↓reduceIte]
      by_cases q : c = t
      · cases hsn : seenG G t (G 1) <;> simp [q, bI]
      · simp [q]
    · rw [if_neg k2, if_neg k2]
      by_cases k3 : G (3 + t) = 3
      · simp only [k3, ↓reduceIte]
        by_cases q : G (27 + c) = G (27 + t) <;> simp [q]
      · rw [if_neg k3, if_neg k3]
        by_cases k4 : G (3 + t) = 4
        · simp only [k4, ↓reduceIte]
          by_cases q : c = t
          · by_cases q2 : 1 < G (21 + t) <;> simp [q, q2]
          · simp [q]
        · rw [if_neg k4, if_neg k4]
          by_cases q : c = t
          · by_cases q2 : 2 < G (21 + t) <;> simp [q, q2]
          · simp [q]
