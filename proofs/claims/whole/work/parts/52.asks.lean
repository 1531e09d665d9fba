/-! PURE: what is asked of the hall that is now -/
theorem i10 : ((1 : Int32) = 0) = False := by decide
theorem i00 : ((0 : Int32) = 0) = True := by decide
section AM
variable {M : Mem} {G : Nat → Nat}
theorem at_0 (h : atM M 0 G) : M 1 0 = nI (G 0) := h 0 (by omega)
theorem at_1 (h : atM M 0 G) : M 1 1 = nI (G 1) := h 1 (by omega)
theorem at_2 (h : atM M 0 G) : M 1 2 = nI (G 2) := h 2 (by omega)
theorem at_kd (h : atM M 0 G) {t : Nat} (ht : t < 6) : M 1 (3 + t) = nI (G (3 + t)) := by
  have := h (3 + t) (by omega)
  rw [Nat.zero_add, cI_n (by omega)] at this
  exact this
theorem at_sd (h : atM M 0 G) {t : Nat} (ht : t < 6) : M 1 (9 + t) = nI (G (9 + t)) := by
  have := h (9 + t) (by omega)
  rw [Nat.zero_add, cI_n (by omega)] at this
  exact this
theorem at_gn (h : atM M 0 G) {t : Nat} (ht : t < 6) : M 1 (15 + t) = gI (G (15 + t)) := by
  have := h (15 + t) (by omega)
  rw [Nat.zero_add, cI_g (by omega)] at this
  exact this
theorem at_sw (h : atM M 0 G) {t : Nat} (ht : t < 6) : M 1 (21 + t) = nI (G (21 + t)) := by
  have := h (21 + t) (by omega)
  rw [Nat.zero_add, cI_n (by omega)] at this
  exact this
theorem at_cl (h : atM M 0 G) {t : Nat} (ht : t < 6) : M 1 (27 + t) = nI (G (27 + t)) := by
  have := h (27 + t) (by omega)
  rw [Nat.zero_add, cI_n (by omega)] at this
  exact this
theorem at_wh (h : atM M 0 G) {t : Nat} (ht : t < 6) : M 1 (33 + t) = nI (G (33 + t)) := by
  have := h (33 + t) (by omega)
  rw [Nat.zero_add, cI_n (by omega)] at this
  exact this
theorem a0_waits (h : atM M 0 G) (hG : gB G) {t : Nat} (ht : t < 6) : X8_waits M 0 (nI t) = some (if G (15 + t) = 0 then 1 else 0) := by
  have := ref_waits M 0 hG ht (by omega)
  rwa [atM_wr h] at this
theorem a0_isWrong (h : atM M 0 G) (hG : gB G) {t : Nat} (ht : t < 6) : X8_isWrong M 0 (nI t) = some (bI (inG 5 G t)) := by
  have := ref_isWrong M 0 hG (by omega) ht
  rwa [atM_wr h] at this
theorem a0_isRobbed (h : atM M 0 G) (hG : gB G) {t : Nat} (ht : t < 6) : X8_isRobbed M 0 (nI t) = some (bI (inG 6 G t)) := by
  have := ref_isRobbed M 0 hG (by omega) ht
  rwa [atM_wr h] at this
theorem a0_bagIn (h : atM M 0 G) (hG : gB G) {p : Nat} (hp : p < 2000) : X8_bagIn M 0 (nI p) = some (gI (bagG G p (G 1))) := by
  have := ref_bagIn M 0 hG hp (by omega)
  rwa [atM_wr h] at this
theorem a0_gone (h : atM M 0 G) (hG : gB G) : X8_goneOnes M 0 = some (btI (inG 7 G) (G 1)) := by
  have := ref_goneOnes M 0 hG (by omega)
  rwa [atM_wr h] at this
theorem a0_wrong (h : atM M 0 G) (hG : gB G) : X8_wrongOnes M 0 = some (btI (inG 5 G) (G 1)) := by
  have := ref_wrongOnes M 0 hG (by omega)
  rwa [atM_wr h] at this
theorem a0_robbed (h : atM M 0 G) (hG : gB G) : X8_robbedOnes M 0 = some (btI (inG 6 G) (G 1)) := by
  have := ref_robbedOnes M 0 hG (by omega)
  rwa [atM_wr h] at this
theorem a0_onBelt (h : atM M 0 G) (hG : gB G) : X8_onBelt M 0 = some (btI (inG 2 G) (G 1)) := by
  have := ref_onBelt M 0 hG (by omega)
  rwa [atM_wr h] at this
theorem a0_taken (h : atM M 0 G) (hG : gB G) : X8_takenOnes M = some (btI (inG 3 G) (G 1)) := by
  have := ref_taken M hG
  rwa [atM_wr h] at this
theorem a0_allSaw (h : atM M 0 G) (hG : gW G) : X8_allSaw M 0 = some (nI (sumG G (G 1))) := by
  have := ref_allSaw M 0 hG.1 (by omega) hG
  rwa [atM_wr h] at this
end AM
theorem ok_kind_Inv : ok_kind Inv := fun Mx Mm x I => by
  unfold X7_kind X8_kind
  rcases one_dec I x with ⟨c, d⟩ | ⟨G, sh, t, H, hA, hO, ht, rfl, c, d⟩
  · rw [c, d]; exact ⟨_, rfl, rfl, I⟩
  · have hP := hx_P H
    simp only [c, d, Option.bind_some, i10, i00, ↓reduceIte]
    simp (disch := omega) only [li_3, nI_add, am_in_nI, nI_clamp, ↓reduceIte, at_kd hA]
    exact ⟨_, by rw [show Mx 16 t = _ from H.1.2.1 t ht], rfl, I⟩
theorem ok_bag_Inv : ok_bag Inv := fun Mx Mm x y I => by
  unfold X7_bag X8_bag
  rcases one_dec I x with ⟨c, d⟩ | ⟨G, sh, t, H, hA, hO, ht, rfl, c, d⟩
  · rw [c, d]; exact ⟨_, rfl, rfl, I⟩
  · have hP := hx_P H
    simp only [c, d, Option.bind_some, i10, i00, ↓reduceIte]
    rcases rng y 0 1 (by omega) (by omega) with ⟨q, r⟩ | ⟨n, n1, n2, rfl, r⟩
    · simp only [r 0 1 (by decide) (by decide), Option.bind_some, i00, ↓reduceIte]
      refine ⟨_, ?_, rfl, I⟩
      rw [if_neg (show ¬ y = 0 from fun e => by rw [e] at q; exact absurd q (by decide)), if_neg (show ¬ y = 1 from fun e => by rw [e] at q; exact absurd q (by decide))]
    · simp only [r 0 1 (by decide) (by decide), Option.bind_some, i10, ↓reduceIte]
      rcases (show n = 0 ∨ n = 1 by omega) with rfl | rfl
      · simp only [nI_0, ↓reduceIte]
        simp (disch := omega) only [li_27, nI_add, am_in_nI, nI_clamp, ↓reduceIte, at_cl hA]
        exact ⟨_, by rw [show Mx 20 t = _ from H.1.2.2.2.2.2.1 t ht], rfl, I⟩
      · simp only [show nI 1 = 1 from rfl, i10, ↓reduceIte]
        rw [cx_whereIs H ht, Option.bind_some]
        simp (disch := omega) only [li_33, nI_add, am_in_nI, nI_clamp, ↓reduceIte, at_wh hA]
        exact ⟨_, rfl, rfl, I⟩
theorem ok_place_Inv : ok_place Inv := fun Mx Mm x I => by
  unfold X7_place X8_place
  rcases place_dec I x with ⟨c, d⟩ | ⟨G, sh, t, H, hA, hO, ht, rfl, c, d⟩
  · rw [c, d]; exact ⟨_, rfl, rfl, I⟩
  · have hP := hx_P H
    simp only [c, d, Option.bind_some, i10, i00, ↓reduceIte]
    rw [cx_bagAt H ht, a0_bagIn hA H.2.1.1.1 (by omega)]
    exact ⟨_, rfl, rfl, I⟩
theorem ok_traveller_Inv : ok_traveller Inv := fun Mx Mm x y I => by
  unfold X7_traveller X8_traveller
  rcases one_dec I x with ⟨c, d⟩ | ⟨G, sh, t, H, hA, hO, ht, rfl, c, d⟩
  · rw [c, d]; exact ⟨_, rfl, rfl, I⟩
  · have hP := hx_P H
    have hG := H.2.1.1.1
    simp only [c, d, Option.bind_some, i10, i00, ↓reduceIte]
    rw [cx_waits H ht, cx_isWrong H ht, cx_isRobbed H ht, a0_waits hA hG (by omega), a0_isWrong hA hG (by omega), a0_isRobbed hA hG (by omega)]
    simp (disch := omega) only [li_9, li_15, li_21, nI_add, am_in_nI, nI_clamp, ↓reduceIte, at_sd hA, at_gn hA, at_sw hA, Option.bind_some, show Mx 17 t = _ from H.1.2.2.1 t ht, show Mx 18 t = _ from H.1.2.2.2.1 t ht, show Mx 19 t = _ from H.1.2.2.2.2.1 t ht]
    have z1 : ∀ p : Bool, ∃ r, (if bI p = 0 then some (0 : Int32) else some 1) = some r := fun p => ⟨bI p, by cases p <;> rfl⟩
    by_cases c0 : y = 0
    · rw [if_pos c0, if_pos c0]; exact ⟨_, rfl, rfl, I⟩
    rw [if_neg c0, if_neg c0]
    by_cases c1 : y = 1
    · rw [if_pos c1, if_pos c1]
      by_cases q : G (15 + t) = 0
      · rw [decide_eq_true q, if_pos q]; exact ⟨_, rfl, rfl, I⟩
      · rw [decide_eq_false q, if_neg q]; exact ⟨_, rfl, rfl, I⟩
    rw [if_neg c1, if_neg c1]
    by_cases c2 : y = 2
    · rw [if_pos c2, if_pos c2]; exact ⟨_, rfl, rfl, I⟩
    rw [if_neg c2, if_neg c2]
    by_cases c3 : y = 3
    · rw [if_pos c3, if_pos c3]; exact ⟨_, rfl, rfl, I⟩
    rw [if_neg c3, if_neg c3]
    by_cases c4 : y = 4
    · rw [if_pos c4, if_pos c4]
      obtain ⟨r, hr⟩ := z1 (inG 5 G t)
      exact ⟨r, hr, hr, I⟩
    rw [if_neg c4, if_neg c4]
    by_cases c5 : y = 5
    · rw [if_pos c5, if_pos c5]
      obtain ⟨r, hr⟩ := z1 (inG 6 G t)
      exact ⟨r, hr, hr, I⟩
    rw [if_neg c5, if_neg c5]
    exact ⟨_, rfl, rfl, I⟩
theorem ok_stand_Inv : ok_stand Inv := fun Mx Mm x I => by
  unfold X7_stand X8_stand
  rcases hall_dec I with ⟨c, d⟩ | ⟨G, sh, H, hA, hO, c, d⟩
  · rw [c, d]; exact ⟨_, rfl, rfl, I⟩
  · have hP := hx_P H
    have hG := H.2.1.1.1
    simp only [c, d, Option.bind_some, i10, i00, ↓reduceIte]
    rw [if_pos (show am_in (1 : Int32) 1092 = true by decide), show (1 : Int32).toNatClampNeg = 1 by decide, show (0 : Int32).toNatClampNeg = 0 by decide, at_1 hA, at_0 hA, a0_gone hA hG, a0_wrong hA hG, a0_robbed hA hG, a0_onBelt hA hG, a0_taken hA hG]
    simp only [am_let_eq, Option.bind_some]
    rw [btI_not _ hP.2.2, btI_not _ hP.2.2, btI_andnot _ _ hP.2.2, show Mx 15 0 = _ from H.1.1.1]
    rcases rng x 0 6 (by omega) (by omega) with ⟨q, r⟩ | ⟨n, n1, n2, rfl, r⟩
    · refine ⟨-1000001, ?_, ?_, I⟩
      · rcases q with q | q
        · rw [if_pos (show x < 0 from q)]
        · rw [show (6 : Int32) = nI 6 from li_6, if_pos q, ite_self]
      · have : ∀ k, k ≤ 6 → x ≠ nI k := fun k hk e => by
          rw [e, Int32.lt_iff_toInt_lt, Int32.lt_iff_toInt_lt, nI_toInt (by omega), nI_toInt (by omega), nI_toInt (by omega)] at q
          omega
        rw [if_neg (show ¬ x = 0 from this 0 (by omega)), if_neg (show ¬ x = 1 from this 1 (by omega)), if_neg (show ¬ x = 2 from this 2 (by omega)), if_neg (show ¬ x = 3 from this 3 (by omega)), if_neg (show ¬ x = 4 from this 4 (by omega)), if_neg (show ¬ x = 5 from this 5 (by omega)), if_neg (show ¬ x = 6 from this 6 (by omega))]
    · rw [if_neg (nI_pos (by omega)), if_neg (show ¬ (6 : Int32) < nI n from nI_nlt (b := n) (a := 6) n2 (by omega))]
      have k1 : btI (fun k => !inG 2 G k && !inG 3 G k) (G 1) = btI (inG 1 G) (G 1) := btI_cong (fun k hk => by
        unfold inG
        rcases H.2.1.2.2.1 k hk with q | q | ⟨t, _, q, _⟩
        · have a1 : G (33 + k) < 20 := by omega
          have a2 : G (33 + k) ≠ 20 := by omega
          simp [a1, a2]
        · simp [q]
        · have a1 : ¬ G (33 + k) < 20 := by omega
          have a2 : 30 ≤ G (33 + k) := by omega
          have a3 : G (33 + k) ≠ 20 := by omega
          simp [a1, a2, a3])
      have k4 : btI (fun k => !inG 7 G k) (G 1) = btI (inG 4 G) (G 1) := btI_cong (fun k hk => by
        unfold inG
        by_cases c : G (15 + k) = 0 <;> simp [c])
      rw [k1, k4]
      rcases (show n = 0 ∨ n = 1 ∨ n = 2 ∨ n = 3 ∨ n = 4 ∨ n = 5 ∨ n = 6 by omega) with rfl | rfl | rfl | rfl | rfl | rfl | rfl
      · exact ⟨_, rfl, rfl, I⟩
      · exact ⟨_, by rw [if_neg (by decide), cx_setOf H (by omega)]; rfl, rfl, I⟩
      · exact ⟨_, by rw [if_neg (by decide), cx_setOf H (by omega)]; rfl, rfl, I⟩
      · exact ⟨_, by rw [if_neg (by decide), cx_setOf H (by omega)]; rfl, rfl, I⟩
      · exact ⟨_, by rw [if_neg (by decide), cx_setOf H (by omega)]; rfl, rfl, I⟩
      · exact ⟨_, by rw [if_neg (by decide), cx_setOf H (by omega)]; rfl, rfl, I⟩
      · exact ⟨_, by rw [if_neg (by decide), cx_setOf H (by omega)]; rfl, rfl, I⟩
theorem ok_trace_Inv : ok_trace Inv := fun Mx Mm x I => by
  obtain ⟨n, h1, h2, h3, h4⟩ := I.trce
  unfold X7_trace X1_bodyInTrace X8_trace
  rw [h2, h3, in_spec, i64_32, i64_32, nI_m1 (by omega), show (0 : Int64).toInt = 0 by decide, Option.bind_some]
  by_cases c : 0 ≤ x.toInt ∧ x.toInt < n
  · rw [decide_eq_true (by omega), if_neg (show ¬ bI true = 0 by decide)]
    obtain ⟨t, ht, rfl⟩ : ∃ t, t < n ∧ x = nI t := ⟨x.toInt.toNat, by omega, nI_is (by omega) (by omega)⟩
    rw [if_neg (nI_pos (by omega)), if_pos (nI_lt ht (by omega))]
    simp (disch := omega) only [am_in_nI, nI_clamp, ↓reduceIte, h4 t ht, Option.bind_some]
    exact ⟨_, rfl, rfl, I⟩
  · rw [decide_eq_false (by omega), if_pos (show bI false = 0 from rfl)]
    refine ⟨_, ?_, rfl, I⟩
    by_cases c2 : x < 0
    · rw [if_pos c2]; rfl
    · rw [if_neg c2, if_neg ?_]
      · rfl
      · rw [Int32.lt_iff_toInt_lt, nI_toInt (by omega)]
        rw [Int32.lt_iff_toInt_lt, show (0 : Int32).toInt = 0 by decide] at c2
        omega
