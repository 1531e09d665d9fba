/-! PURE: the class's hall: who takes; a tick -/
theorem near_abs {P a c : Nat} (hP : 4 ≤ P) (ha : a < P) (hc : c < P) : nearG P a c = (decide ((if c < a then a - c else c - a) ≤ 1) || decide ((if c < a then a - c else c - a) = P - 1)) := by
  unfold nearG
  have e : (a + P - c) % P = if c ≤ a then a - c else a + P - c := by
    split
    · rw [show a + P - c = (a - c) + P by omega, Nat.add_mod_right, Nat.mod_eq_of_lt (by omega)]
    · exact Nat.mod_eq_of_lt (by omega)
  rw [e]
  by_cases q : c < a
  · rw [if_pos (by omega), if_pos q]
    congr 1
    simp only [decide_eq_decide]; omega
  · rw [if_neg q]
    by_cases q2 : c ≤ a
    · rw [if_pos q2]
      have : a = c := by omega
      subst this
      simp
    · rw [if_neg q2]
      rw [Bool.eq_iff_iff]
      simp only [Bool.or_eq_true, decide_eq_true_eq]
      omega
theorem seenG_stay {G : Nat → Nat} {t k : Nat} (h : seenG G t k = true) : ∀ j, k ≤ j → seenG G t j = true := by
  intro j hj
  induction j with
  | zero => obtain rfl : k = 0 := by omega
            exact h
  | succ j ih =>
    by_cases q : k = j + 1
    · rw [← q]; exact h
    · rw [seenG, ih (by omega)]; rfl
section CX
variable {M : Mem} {h : Nat} {a : Int32} {sh : Nat} {G : Nat → Nat}
theorem cx_isAlone_loop (H : HX M h a sh G) {t : Nat} (ht : t < G 1) : ∀ (d k f : Nat), G 1 - k = d → k ≤ G 1 → d < f → seenG G t k = false → X3_isAlone_2 h M f (nI t) (nI k) = some (bI (!(seenG G t (G 1))))
  | 0, k, 0, _, _, hf, _ => absurd hf (Nat.not_lt_zero _)
  | 0, k, f + 1, hd, hk, _, hs => by
    have hP := hx_P H
    have e : k = G 1 := by omega
    subst e
    rw [X3_isAlone_2, H.1.1.2.1, if_neg (nI_nlt (Nat.le_refl _) (by omega)), hs]
    rfl
  | d + 1, k, 0, _, _, hf, _ => absurd hf (Nat.not_lt_zero _)
  | d + 1, k, f + 1, hd, hk, hf, hs => by
    have hP := hx_P H
    have hlt : k < G 1 := by omega
    obtain ⟨r0, r1, r2, r3, r4, r5, r6, r7⟩ := H.1
    have s1 := H.2.1.1.2.1.2.2 k hlt
    have s2 := H.2.1.1.2.1.2.2 t ht
    have e1 := r2 k hlt
    have e2 := r2 t ht
    have e3 := r4 k hlt
    have hv := hx_b H (15 + k)
    have ih := cx_isAlone_loop H ht d (k + 1) f (by omega) (by omega) (by omega)
    have key : X3_isAlone_54 h M (X3_isAlone_2 h M f) (nI t) (nI k) (nI (if G (9 + t) < G (9 + k) then G (9 + k) - G (9 + t) else G (9 + t) - G (9 + k))) = some (bI (!(seenG G t (G 1)))) := by
      have hP1 : nI (G 0) - nI 1 = nI (G 0 - 1) := pk_sub (by omega)
      have hna := near_abs (P := G 0) (by omega) s1 s2
      generalize hx : (if G (9 + t) < G (9 + k) then G (9 + k) - G (9 + t) else G (9 + t) - G (9 + k)) = x at hna ⊢
      have hxl : x < 12 := by rw [← hx]; split <;> omega
      unfold X3_isAlone_54
      simp (disch := omega) only [li_0, li_1, nI_eq, am_in_nI, nI_clamp, e3, gI_none, nI_ltI, r0.1, hP1, nI_add, ↓reduceIte]
      have e0 : nI 0 = bI false := rfl
      by_cases c1 : k = t
      · rw [if_pos c1]
        exact ih (by rw [seenG, hs]; simp [c1])
      · rw [if_neg c1]
        by_cases c2 : G (15 + k) = 0
        · rw [if_pos c2]
          by_cases c3 : 1 < x
          · rw [if_pos c3]
            by_cases c4 : x = G 0 - 1
            · rw [if_pos c4]
              have : seenG G t (k + 1) = true := by
                rw [seenG, hs, hna]
                simp [c1, c2, c4]
              rw [seenG_stay this (G 1) (by omega)]
              rfl
            · rw [if_neg c4]
              refine ih ?_
              rw [seenG, hs, hna]
              have : ¬ x ≤ 1 := by omega
              simp [c4, this]
          · rw [if_neg c3]
            have : seenG G t (k + 1) = true := by
              rw [seenG, hs, hna]
              have : x ≤ 1 := by omega
              simp [c1, c2, this]
            rw [seenG_stay this (G 1) (by omega)]
            rfl
        · rw [if_neg c2]
          exact ih (by rw [seenG, hs]; simp [c2])
    rw [X3_isAlone_2]
    simp (disch := omega) only [r0.2.1, nI_ltI, hlt, am_in_nI, nI_clamp, e1, e2, ↓reduceIte]
    by_cases c : G (9 + t) < G (9 + k)
    · rw [if_pos c, pk_sub (by omega)]
      rw [if_pos c] at key
      exact key
    · rw [if_neg c, pk_sub (by omega)]
      rw [if_neg c] at key
      exact key
theorem cx_isAlone (H : HX M h a sh G) {t : Nat} (ht : t < G 1) : X3_isAlone h M (nI t) = some (bI (!(seenG G t (G 1)))) := by
  have hP := hx_P H
  unfold X3_isAlone
  rw [li_0]
  exact cx_isAlone_loop H ht (G 1) 0 am_fuel (by omega) (by omega) (by show G 1 < 2000; omega) rfl
theorem cx_wants (H : HX M h a sh G) {t c : Nat} (ht : t < G 1) (hc : c < G 1) : X3_wants h M (nI t) (nI c) = some (bI (takeG G t c)) := by
  have hP := hx_P H
  obtain ⟨r0, r1, r2, r3, r4, r5, r6, r7⟩ := H.1
  have k1 := H.2.1.2.1 t ht
  have e1 := r1 t ht
  have e3 := r3 t ht
  have e5 := r5 t ht
  have e5c := r5 c hc
  have b1 := hx_b H (3 + t)
  have b2 := hx_b H (21 + t)
  have b3 := hx_b H (27 + t)
  have b4 := hx_b H (27 + c)
  unfold X3_wants takeG
  simp (disch := omega) only [li_0, li_1, li_2, li_3, li_4, li_5, am_in_nI, nI_clamp, e1, e3, e5, e5c, nI_eq, nI_ltI, cx_isAlone H ht, Option.bind_some, ↓reduceIte]
  have e0 : nI 0 = bI false := rfl
  have e1' : nI 1 = bI true := rfl
  simp only [e0, e1']
  by_cases q1 : G (3 + t) = 1
  · simp only [q1, ↓reduceIte]
    by_cases q : c = t <;> simp [q]
  · rw [if_neg q1, if_neg q1]
    by_cases q2 : G (3 + t) = 2
    · simp only [q2, ↓reduceIte]
      by_cases q : c = t
      · cases hsn : seenG G t (G 1) <;> simp [q, bI]
      · simp [q]
    · rw [if_neg q2, if_neg q2]
      by_cases q3 : G (3 + t) = 3
      · simp only [q3, ↓reduceIte]
        by_cases q : G (27 + c) = G (27 + t) <;> simp [q]
      · rw [if_neg q3, if_neg q3]
        by_cases q4 : G (3 + t) = 4
        · simp only [q4, ↓reduceIte]
          by_cases q : c = t
          · by_cases z : G (21 + t) < 2
            · have : ¬ 1 < G (21 + t) := by omega
              simp [q, z, this]
            · have : 1 < G (21 + t) := by omega
              simp [q, z, this]
          · simp [q]
        · rw [if_neg q4, if_neg q4, if_pos (show G (3 + t) = 5 by omega)]
          by_cases q : c = t
          · by_cases z : G (21 + t) < 3
            · have : ¬ 2 < G (21 + t) := by omega
              simp [q, z, this]
            · have : 2 < G (21 + t) := by omega
              simp [q, z, this]
          · simp [q]
theorem cx_take (H : HX M h a sh G) {t b : Nat} (ht : t < G 1) (hb : b < G 1) (hw : G (33 + b) < 20) (hg : G (15 + t) = 0) : ∃ M', X3_take h (nI t) (nI b) M = some M' ∧ HX M' h a sh (upN (upN G (15 + t) (b + 1)) (33 + b) (30 + t)) ∧ frm M M' h := by
  have hP := hx_P H
  have hsh := H.2.2
  obtain ⟨r0, r1, r2, r3, r4, r5, r6, r7⟩ := H.1
  have hbl := gV_belt H.2.1 hb hw
  have hsl := subm_lt hbl hsh
  have hV := take_V H.2.1 ht hb hw hg
  have e6 := r6 b hb
  have hsp : spG G sh b = subm (G 0) (G (33 + b)) sh := by unfold spG; rw [if_pos hw]
  rw [hsp] at e6
  generalize hG' : upN (upN G (15 + t) (b + 1)) (33 + b) (30 + t) = G' at hV ⊢
  have e : ∀ k, k < 33 → k ≠ 15 + t → G' k = G k := fun k hk hk2 => by rw [← hG', upN_ne (by omega), upN_ne hk2]
  have e33 : ∀ c, c ≠ b → G' (33 + c) = G (33 + c) := fun c hc => by rw [← hG', upN_ne (by omega), upN_ne (by omega)]
  have eb : G' (33 + b) = 30 + t := by rw [← hG', upN_same]
  have et : G' (15 + t) = b + 1 := by rw [← hG', upN_ne (by omega), upN_same]
  refine ⟨mset (mset (mset M (h + 7) (upd (M (h + 7)) (subm (G 0) (G (33 + b)) sh) (-1000000))) (h + 6) (upd (M (h + 6)) b (nI (30 + t)))) (h + 4) (upd (M (h + 4)) t (nI b)), ?_, ⟨⟨?_, ?_, ?_, ?_, ?_, ?_, ?_, ?_⟩, hV, ?_⟩, ((frm.rf.st _ (by omega)).st _ (by omega)).st _ (by omega)⟩
  · unfold X3_take
    rw [cx_isOnBelt H hb, Option.bind_some, if_neg (by simp [hw, bI])]
    simp (disch := omega) only [am_in_nI, nI_clamp, e6, am_let_eq, li_30, nI_add, ↓reduceIte]
    rw [mset_ne M _ (show h + 6 ≠ h + 7 by omega), mset_ne _ _ (show h + 4 ≠ h + 6 by omega), mset_ne _ _ (show h + 4 ≠ h + 7 by omega)]
  · rw [mset_ne _ _ (by omega), mset_ne _ _ (by omega), mset_ne _ _ (by omega)]
    unfold rw0
    rw [e 0 (by omega) (by omega), e 1 (by omega) (by omega), e 2 (by omega) (by omega)]
    refine ⟨r0.1, r0.2.1, r0.2.2.1, r0.2.2.2.1, r0.2.2.2.2.1, ?_⟩
    rw [r0.2.2.2.2.2]
    congr 1
    refine cartN_cong (fun c hc => ?_)
    by_cases q : c = b
    · rw [q, eb]; omega
    · rw [e33 c q]
  · rw [mset_ne _ _ (by omega), mset_ne _ _ (by omega), mset_ne _ _ (by omega)]
    intro j hj
    rw [e 1 (by omega) (by omega)] at hj
    rw [e (3 + j) (by omega) (by omega)]; exact r1 j hj
  · rw [mset_ne _ _ (by omega), mset_ne _ _ (by omega), mset_ne _ _ (by omega)]
    intro j hj
    rw [e 1 (by omega) (by omega)] at hj
    rw [e (9 + j) (by omega) (by omega)]; exact r2 j hj
  · rw [mset_ne _ _ (by omega), mset_ne _ _ (by omega), mset_ne _ _ (by omega)]
    intro j hj
    rw [e 1 (by omega) (by omega)] at hj
    rw [e (21 + j) (by omega) (by omega)]; exact r3 j hj
  · rw [mset_self]
    intro j hj
    rw [e 1 (by omega) (by omega)] at hj
    by_cases q : j = t
    · rw [q, upd_same, et, gI_s]
    · rw [upd_ne q, e (15 + j) (by omega) (by omega)]; exact r4 j hj
  · rw [mset_ne _ _ (by omega), mset_ne _ _ (by omega), mset_ne _ _ (by omega)]
    intro j hj
    rw [e 1 (by omega) (by omega)] at hj
    rw [e (27 + j) (by omega) (by omega)]; exact r5 j hj
  · rw [mset_ne _ _ (by omega), mset_self]
    intro j hj
    rw [e 1 (by omega) (by omega)] at hj
    by_cases q : j = b
    · rw [q, upd_same]
      unfold spG
      rw [eb, if_neg (by omega)]
    · rw [upd_ne q, r6 j hj]
      unfold spG
      rw [e33 j q, e 0 (by omega) (by omega)]
  · rw [mset_ne _ _ (by omega), mset_ne _ _ (by omega), mset_self]
    intro s hs
    rw [e 0 (by omega) (by omega)] at hs
    rw [e 0 (by omega) (by omega), e 1 (by omega) (by omega)]
    have hpl := addm_lt hs hsh
    by_cases q : s = subm (G 0) (G (33 + b)) sh
    · rw [q, upd_same, add_subm hbl hsh, bagG_no (fun c hc => ?_), gI_0]
      by_cases q2 : c = b
      · rw [q2, eb]; omega
      · rw [e33 c q2]
        intro z
        exact q2 (H.2.1.2.2.2.1 c b hc hb z (by omega))
    · rw [upd_ne q, r7 s hs]
      congr 1
      symm
      have hp0 : addm (G 0) s sh ≠ G (33 + b) := fun z => q (by rw [← sub_addm hs hsh, z])
      refine bagG_cong (fun c hc => ?_)
      by_cases q2 : c = b
      · rw [q2, eb]; omega
      · rw [e33 c q2]
  · rw [e 0 (by omega) (by omega)]; exact hsh
theorem cx_saw (H : HX M h a sh G) {t v : Nat} (ht : t < G 1) (hv : v ≤ 99) : HX (mset M (h + 3) (upd (M (h + 3)) t (nI v))) h a sh (upN G (21 + t) v) := by
  have hP := hx_P H
  obtain ⟨r0, r1, r2, r3, r4, r5, r6, r7⟩ := H.1
  have e : ∀ k, k ≠ 21 + t → upN G (21 + t) v k = G k := fun k hk => upN_ne hk
  refine ⟨⟨?_, ?_, ?_, ?_, ?_, ?_, ?_, ?_⟩, saw_V H.2.1 ht hv, by rw [e 0 (by omega)]; exact H.2.2⟩
  · rw [mset_ne _ _ (by omega)]
    unfold rw0
    rw [e 0 (by omega), e 1 (by omega), e 2 (by omega)]
    refine ⟨r0.1, r0.2.1, r0.2.2.1, r0.2.2.2.1, r0.2.2.2.2.1, ?_⟩
    rw [r0.2.2.2.2.2]
    congr 1
    exact cartN_cong (fun c hc => by rw [e _ (by omega)])
  · rw [mset_ne _ _ (by omega)]
    intro j hj
    rw [e 1 (by omega)] at hj
    rw [e (3 + j) (by omega)]; exact r1 j hj
  · rw [mset_ne _ _ (by omega)]
    intro j hj
    rw [e 1 (by omega)] at hj
    rw [e (9 + j) (by omega)]; exact r2 j hj
  · rw [mset_self]
    intro j hj
    rw [e 1 (by omega)] at hj
    by_cases q : j = t
    · rw [q, upd_same, upN_same]
    · rw [upd_ne q, e _ (by omega)]; exact r3 j hj
  · rw [mset_ne _ _ (by omega)]
    intro j hj
    rw [e 1 (by omega)] at hj
    rw [e (15 + j) (by omega)]; exact r4 j hj
  · rw [mset_ne _ _ (by omega)]
    intro j hj
    rw [e 1 (by omega)] at hj
    rw [e (27 + j) (by omega)]; exact r5 j hj
  · rw [mset_ne _ _ (by omega)]
    intro j hj
    rw [e 1 (by omega)] at hj
    rw [r6 j hj]
    unfold spG
    rw [e (33 + j) (by omega), e 0 (by omega)]
  · rw [mset_ne _ _ (by omega)]
    intro s hs
    rw [e 0 (by omega)] at hs
    rw [r7 s hs, e 0 (by omega), e 1 (by omega)]
    congr 1
    exact (bagG_cong (fun c hc => by rw [e _ (by omega)])).symm
end CX
