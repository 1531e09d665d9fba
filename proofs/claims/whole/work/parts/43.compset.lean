/-! PURE: the class's halls: who comes back; sets; sums -/
def backG (G : Nat → Nat) (t : Nat) : Nat → Nat := upN (upN (upN G (33 + (G (15 + t) - 1)) 20) (15 + t) 0) (21 + t) 0
theorem back_V {G : Nat → Nat} (h : gV G) {t c : Nat} (ht : t < G 1) (hg : G (15 + t) = c + 1) : gV (backG G t) ∧ c < G 1 ∧ G (33 + c) = 30 + t := by
  obtain ⟨⟨hG, hs, h9⟩, z1, z2, z3, z4⟩ := h
  have h1 := hG.2
  have hc : c < G 1 ∧ G (33 + c) = 30 + t := by
    rcases z4 t ht with q | ⟨c', q1, q2, q3⟩
    · omega
    · have : c' = c := by omega
      subst this
      exact ⟨q1, q3⟩
  have e : ∀ k, k ≠ 33 + c → k ≠ 15 + t → k ≠ 21 + t → backG G t k = G k := fun k k1 k2 k3 => by
    unfold backG
    rw [hg, Nat.add_sub_cancel, upN_ne k3, upN_ne k2, upN_ne k1]
  have ec : backG G t (33 + c) = 20 := by
    unfold backG
    rw [hg, Nat.add_sub_cancel, upN_ne (by omega), upN_ne (by omega), upN_same]
  have et : backG G t (15 + t) = 0 := by
    unfold backG
    rw [upN_ne (by omega), upN_same]
  have es : backG G t (21 + t) = 0 := by
    unfold backG
    rw [upN_same]
  have hbb : gB (backG G t) := ((hG.up (by omega) (by omega)).up (by omega) (by omega)).up (by omega) (by omega)
  refine ⟨⟨⟨hbb, ?_, fun j hj => ?_⟩, ?_, ?_, ?_, ?_⟩, hc⟩
  · unfold gS at hs ⊢
    rw [e 0 (by omega) (by omega) (by omega), e 1 (by omega) (by omega) (by omega)]
    exact ⟨hs.1, hs.2.1, fun j hj => by rw [e (9 + j) (by omega) (by omega) (by omega)]; exact hs.2.2 j hj⟩
  · by_cases q : j = t
    · rw [q, es]; omega
    · rw [e _ (by omega) (by omega) (by omega)]; exact h9 j hj
  · intro j hj
    rw [e 1 (by omega) (by omega) (by omega)] at hj
    rw [e (3 + j) (by omega) (by omega) (by omega)]; exact z1 j hj
  · intro b hb
    rw [e 1 (by omega) (by omega) (by omega)] at hb
    rw [e 0 (by omega) (by omega) (by omega), e 1 (by omega) (by omega) (by omega)]
    by_cases q : b = c
    · rw [q, ec]; exact Or.inr (Or.inl rfl)
    · rw [e (33 + b) (by omega) (by omega) (by omega)]
      rcases z2 b hb with r | r | ⟨t', ht', r, r2⟩
      · exact Or.inl r
      · exact Or.inr (Or.inl r)
      · have : t' ≠ t := fun z => by rw [z, hg] at r2; omega
        exact Or.inr (Or.inr ⟨t', ht', r, by rw [e _ (by omega) (by omega) (by omega)]; exact r2⟩)
  · intro b b' hb hb'
    rw [e 1 (by omega) (by omega) (by omega)] at hb hb'
    by_cases q : b = c <;> by_cases q' : b' = c
    · intro _ _; omega
    · rw [q, ec]; intro _ _; omega
    · rw [q', ec]; intro _ _; omega
    · rw [e (33 + b) (by omega) (by omega) (by omega), e (33 + b') (by omega) (by omega) (by omega)]
      exact z3 b b' hb hb'
  · intro j hj
    rw [e 1 (by omega) (by omega) (by omega)] at hj ⊢
    by_cases q : j = t
    · rw [q, et]; exact Or.inl rfl
    · rw [e (15 + j) (by omega) (by omega) (by omega)]
      rcases z4 j hj with r | ⟨c', hc', r, r2⟩
      · exact Or.inl r
      · have : c' ≠ c := fun z => by rw [z] at r2; omega
        exact Or.inr ⟨c', hc', r, by rw [e _ (by omega) (by omega) (by omega)]; exact r2⟩
section CB
variable {M : Mem} {h : Nat} {a : Int32} {sh : Nat} {G : Nat → Nat}
theorem cx_has (e1 : M h 1 = nI (G 1)) (h6 : G 1 ≤ 6) (x : Int32) : X3_has h M x = some (bI (decide (0 ≤ x.toInt ∧ x.toInt < G 1))) := by
  unfold X3_has
  rw [e1]
  have hn := nI_toInt (show G 1 < 2 ^ 31 by omega)
  have z : (0 : Int32).toInt = 0 := by decide
  simp only [Int32.lt_iff_toInt_lt, hn, z]
  by_cases c : x.toInt < 0
  · rw [if_pos c, decide_eq_false (by omega)]; rfl
  · rw [if_neg c]
    by_cases d : x.toInt < G 1
    · rw [if_pos d, decide_eq_true (by omega)]; rfl
    · rw [if_neg d, decide_eq_false (by omega)]; rfl
theorem cx_hasPlace (e0 : M h 0 = nI (G 0)) (h12 : G 0 ≤ 12) (x : Int32) : X3_hasPlace h M x = some (bI (decide (0 ≤ x.toInt ∧ x.toInt < G 0))) := by
  unfold X3_hasPlace
  rw [e0]
  have hn := nI_toInt (show G 0 < 2 ^ 31 by omega)
  have z : (0 : Int32).toInt = 0 := by decide
  simp only [Int32.lt_iff_toInt_lt, hn, z]
  by_cases c : x.toInt < 0
  · rw [if_pos c, decide_eq_false (by omega)]; rfl
  · rw [if_neg c]
    by_cases d : x.toInt < G 0
    · rw [if_pos d, decide_eq_true (by omega)]; rfl
    · rw [if_neg d, decide_eq_false (by omega)]; rfl
theorem cx_comeBack (H : HX M h a sh G) {t c : Nat} (ht : t < G 1) (hg : G (15 + t) = c + 1) : ∃ M', X3_comeBack h (nI t) M = some M' ∧ HX M' h a sh (backG G t) ∧ frm M M' h := by
  have hP := hx_P H
  obtain ⟨hV, hc, hw⟩ := back_V H.2.1 ht hg
  obtain ⟨r0, r1, r2, r3, r4, r5, r6, r7⟩ := H.1
  have e : ∀ k, k ≠ 33 + c → k ≠ 15 + t → k ≠ 21 + t → backG G t k = G k := fun k k1 k2 k3 => by
    unfold backG
    rw [hg, Nat.add_sub_cancel, upN_ne k3, upN_ne k2, upN_ne k1]
  have ec : backG G t (33 + c) = 20 := by
    unfold backG
    rw [hg, Nat.add_sub_cancel, upN_ne (by omega), upN_ne (by omega), upN_same]
  have et : backG G t (15 + t) = 0 := by
    unfold backG
    rw [upN_ne (by omega), upN_same]
  have es : backG G t (21 + t) = 0 := by
    unfold backG
    rw [upN_same]
  have e0 := e 0 (by omega) (by omega) (by omega)
  have e1 := e 1 (by omega) (by omega) (by omega)
  have hcn : cartN G (G 1) + 1 = cartN (backG G t) (G 1) := cartN_up (G := backG G t) (G' := G) (c := c) (fun b hb => (e _ (by omega) (by omega) (by omega)).symm) ec (by omega) hc
  have hcl := cartN_le (backG G t) (G 1)
  have hk : M (h + 4) t = nI c := by rw [r4 t ht, hg, gI_s]
  unfold X3_comeBack
  simp (disch := omega) only [am_in_nI, nI_clamp, hk, ↓reduceIte]
  rw [cx_has r0.2.1 (by omega), Option.bind_some, nI_toInt (by omega), decide_eq_true (by omega), if_neg (by decide)]
  simp (disch := omega) only [am_let_eq, mset_ne, mset_self]
  rw [r0.2.2.2.2.2, nI_1, hcn]
  refine ⟨_, rfl, ⟨⟨?_, ?_, ?_, ?_, ?_, ?_, ?_, ?_⟩, hV, by rw [e0]; exact H.2.2⟩, fun q hq => by simp (disch := omega) only [mset_ne]⟩
  · simp (disch := omega) only [mset_ne, mset_self]
    unfold rw0
    rw [e0, e1, e 2 (by omega) (by omega) (by omega)]
    exact ⟨by rw [upd_ne (by omega)]; exact r0.1, by rw [upd_ne (by omega)]; exact r0.2.1, by rw [upd_ne (by omega)]; exact r0.2.2.1, by rw [upd_ne (by omega)]; exact r0.2.2.2.1, by rw [upd_ne (by omega)]; exact r0.2.2.2.2.1, upd_same _ _ _⟩
  · simp (disch := omega) only [mset_ne, mset_self]; intro j hj; rw [e1] at hj; rw [e _ (by omega) (by omega) (by omega)]; exact r1 j hj
  · simp (disch := omega) only [mset_ne, mset_self]; intro j hj; rw [e1] at hj; rw [e _ (by omega) (by omega) (by omega)]; exact r2 j hj
  · simp (disch := omega) only [mset_ne, mset_self]; intro j hj; rw [e1] at hj
    by_cases q : j = t
    · rw [q, upd_same, es]; rfl
    · rw [upd_ne q, e _ (by omega) (by omega) (by omega)]; exact r3 j hj
  · simp (disch := omega) only [mset_ne, mset_self]; intro j hj; rw [e1] at hj
    by_cases q : j = t
    · rw [q, upd_same, et]; rfl
    · rw [upd_ne q, e _ (by omega) (by omega) (by omega)]; exact r4 j hj
  · simp (disch := omega) only [mset_ne, mset_self]; intro j hj; rw [e1] at hj; rw [e _ (by omega) (by omega) (by omega)]; exact r5 j hj
  · simp (disch := omega) only [mset_ne, mset_self]; intro j hj; rw [e1] at hj
    by_cases q : j = c
    · rw [q, upd_same]
      unfold spG
      rw [ec, if_neg (by omega)]; rfl
    · rw [upd_ne q, spG_cong e0 (e _ (by omega) (by omega) (by omega))]; exact r6 j hj
  · simp (disch := omega) only [mset_ne, mset_self]; intro s hs; rw [e0] at hs
    have hsl := addm_lt hs H.2.2
    rw [e0, e1, bagG_cong (G := G) (p := addm (G 0) s sh) (fun b _ => by
      by_cases q : b = c
      · rw [q, ec, hw]; omega
      · rw [e _ (by omega) (by omega) (by omega)])]
    exact r7 s hs
/-- those of a set -/
def inG (g : Nat) (G : Nat → Nat) (k : Nat) : Bool :=
  if g = 1 then decide (G (33 + k) = 20) else if g = 2 then decide (G (33 + k) < 20) else if g = 3 then decide (30 ≤ G (33 + k)) else
  if g = 4 then decide (G (15 + k) = 0) else if g = 5 then decide (G (15 + k) ≠ 0 ∧ G (15 + k) ≠ k + 1) else if g = 6 then decide (G (15 + k) = 0 ∧ 30 ≤ G (33 + k)) else decide (G (15 + k) ≠ 0)
theorem cx_isIn (H : HX M h a sh G) {g t : Nat} (hg : 1 ≤ g ∧ g ≤ 7) (ht : t < G 1) : X3_isIn h M (nI g) (nI t) = some (bI (inG g G t)) := by
  have hP := hx_P H
  unfold X3_isIn inG
  simp (disch := omega) only [li_1, li_2, li_3, li_4, li_5, li_6, li_7, nI_eq]
  have b1 : ∀ p, bI p = 0 ∨ bI p = nI 1 := bI_1
  rcases (show g = 1 ∨ g = 2 ∨ g = 3 ∨ g = 4 ∨ g = 5 ∨ g = 6 ∨ g = 7 by omega) with q | q | q | q | q | q | q <;> subst q
  · simp only [↓reduceIte, cx_isInCart H ht, Option.bind_some]; simp [b1, bI_1]
  · simp only [↓reduceIte, cx_isOnBelt H ht, Option.bind_some]; simp [b1, bI_1]
  · simp only [↓reduceIte, cx_isTaken H ht, Option.bind_some]; simp [b1, bI_1]
  · simp only [↓reduceIte, cx_waits H ht, Option.bind_some]; simp [b1, bI_1]
  · simp only [↓reduceIte, cx_isWrong H ht, Option.bind_some]; simp [b1, bI_1]
  · simp only [↓reduceIte, cx_isRobbed H ht, Option.bind_some]; simp [b1, bI_1]
  · simp only [↓reduceIte, cx_waits H ht, Option.bind_some]
    by_cases c : G (15 + t) = 0 <;> simp [c, bI] <;> rfl
theorem cx_setOf_loop (H : HX M h a sh G) {g : Nat} (hg : 1 ≤ g ∧ g ≤ 7) : ∀ (d k f : Nat), G 1 - k = d → k ≤ G 1 → d < f → X3_setOf_4 h M f (nI g) (btI (inG g G) k) (nI k) = some (btI (inG g G) (G 1))
  | 0, k, 0, _, _, hf => absurd hf (Nat.not_lt_zero _)
  | 0, k, f + 1, hd, hk, _ => by
    have hP := hx_P H
    have e : k = G 1 := by omega
    subst e
    rw [X3_setOf_4, H.1.1.2.1, if_neg (nI_nlt (Nat.le_refl _) (by omega))]
  | d + 1, k, 0, _, _, hf => absurd hf (Nat.not_lt_zero _)
  | d + 1, k, f + 1, hd, hk, hf => by
    have hP := hx_P H
    rw [X3_setOf_4, H.1.1.2.1, if_pos (nI_lt (show k < G 1 by omega) (by omega)), cx_isIn H hg (by omega), Option.bind_some, nI_1]
    have ih := cx_setOf_loop H hg d (k + 1) f (by omega) (by omega) (by omega)
    rw [btI] at ih
    cases hq : inG g G k with
    | false => rw [hq] at ih; rw [if_pos (by rfl)]; exact ih
    | true => rw [hq] at ih; rw [if_neg (by decide)]; exact ih
theorem cx_setOf (H : HX M h a sh G) {g : Nat} (hg : 1 ≤ g ∧ g ≤ 7) : X3_setOf h M (nI g) = some (btI (inG g G) (G 1)) := by
  have hP := hx_P H
  unfold X3_setOf
  have := cx_setOf_loop H hg (G 1) 0 am_fuel (by omega) (by omega) (by show _ < 2000; omega)
  exact this
def sumG (G : Nat → Nat) : Nat → Nat
  | 0 => 0
  | k + 1 => sumG G k + G (21 + k)
theorem sumG_le {G : Nat → Nat} (h : gW G) : ∀ k, k ≤ 6 → sumG G k ≤ 99 * k
  | 0, _ => Nat.le_refl _
  | k + 1, hk => by
    have := sumG_le h k (by omega)
    have := h.2.2 k (by omega)
    rw [sumG]
    omega
theorem cx_seen_loop (H : HX M h a sh G) : ∀ (d k f : Nat), G 1 - k = d → k ≤ G 1 → d < f → X3_seenTogether_4 h M f (nI (sumG G k)) (nI k) = some (nI (sumG G (G 1)))
  | 0, k, 0, _, _, hf => absurd hf (Nat.not_lt_zero _)
  | 0, k, f + 1, hd, hk, _ => by
    have hP := hx_P H
    have e : k = G 1 := by omega
    subst e
    rw [X3_seenTogether_4, H.1.1.2.1, if_neg (nI_nlt (Nat.le_refl _) (by omega))]
  | d + 1, k, 0, _, _, hf => absurd hf (Nat.not_lt_zero _)
  | d + 1, k, f + 1, hd, hk, hf => by
    have hP := hx_P H
    have hs := sumG_le H.2.1.1 k (by omega)
    have hv := hx_b H (21 + k)
    rw [X3_seenTogether_4, H.1.1.2.1, if_pos (nI_lt (show k < G 1 by omega) (by omega))]
    simp (disch := omega) only [li_1, am_in_nI, nI_clamp, nI_add, H.1.2.2.2.1 k (by omega), ↓reduceIte]
    exact cx_seen_loop H d (k + 1) f (by omega) (by omega) (by omega)
theorem cx_seen (H : HX M h a sh G) : X3_seenTogether h M = some (nI (sumG G (G 1))) := by
  have hP := hx_P H
  unfold X3_seenTogether
  exact cx_seen_loop H (G 1) 0 am_fuel (by omega) (by omega) (by show _ < 2000; omega)
end CB
