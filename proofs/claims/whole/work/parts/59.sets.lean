/-! PURE: sets that have passed so often; shares -/
theorem has_slp (s : Int32) (k : Nat) : X8_has s (nI k) = some (bI (slp s k)) := by
  unfold X8_has slp bI
  by_cases q : (s >>> (nI k &&& 31)) &&& 1 = 1 <;> simp [q]
section ST
variable {Mx Mm : Mem} {G : Nat → Nat} {sh : Nat}
theorem saw_loop (H : HX Mx 15 0 sh G) (hA : atM Mm 0 G) (s : Int32) : ∀ (d k f : Nat) (v : Int32), G 1 - k = d → k ≤ G 1 → d < f → ∃ r, X2_seenBy_4 Mx f s v (nI k) = some r ∧ X8_sawOf_4 Mm f s v (nI k) = some r
  | 0, k, 0, _, _, _, hf => absurd hf (Nat.not_lt_zero _)
  | 0, k, f + 1, v, hd, hk, _ => by
    have hP := hx_P H
    have e : k = G 1 := by omega
    subst e
    rw [X2_seenBy_4, X8_sawOf_4, if_pos (show am_in (1 : Int32) 1092 = true by decide), show (1 : Int32).toNatClampNeg = 1 by decide, at_1 hA, show Mx 15 1 = _ from H.1.1.2.1, if_neg (nI_nlt (Nat.le_refl _) (by omega)), if_neg (nI_nlt (Nat.le_refl _) (by omega))]
    exact ⟨_, rfl, rfl⟩
  | d + 1, k, 0, _, _, _, hf => absurd hf (Nat.not_lt_zero _)
  | d + 1, k, f + 1, v, hd, hk, hf => by
    have hP := hx_P H
    rw [X2_seenBy_4, X8_sawOf_4, if_pos (show am_in (1 : Int32) 1092 = true by decide), show (1 : Int32).toNatClampNeg = 1 by decide, at_1 hA, show Mx 15 1 = _ from H.1.1.2.1, if_pos (nI_lt (show k < G 1 by omega) (by omega)), if_pos (nI_lt (show k < G 1 by omega) (by omega)), has_slp, Option.bind_some, nI_1 k]
    unfold slp
    by_cases c : (s >>> (nI k &&& 31)) &&& 1 = 1
    · rw [if_pos c, decide_eq_true c, if_neg (show ¬ bI true = 0 by decide)]
      simp (disch := omega) only [li_21, nI_add, am_in_nI, nI_clamp, ↓reduceIte, at_sw hA, show Mx 18 k = _ from H.1.2.2.2.1 k (by omega)]
      exact saw_loop H hA s d (k + 1) f _ (by omega) (by omega) (by omega)
    · rw [if_neg c, decide_eq_false c, if_pos (show bI false = 0 from rfl)]
      exact saw_loop H hA s d (k + 1) f _ (by omega) (by omega) (by omega)
theorem saw_both (H : HX Mx 15 0 sh G) (hA : atM Mm 0 G) (s : Int32) : ∃ r, X2_seenBy Mx s = some r ∧ X8_sawOf Mm s = some r := by
  have hP := hx_P H
  exact saw_loop H hA s (G 1) 0 am_fuel 0 (by omega) (by omega) (by show _ < 2000; omega)
theorem sets_loop (H : HX Mx 15 0 sh G) (hA : atM Mm 0 G) (x1 : Int32) {w q : Nat} (hw : w < 64) (hq : q < 3) : ∀ (d s f c : Nat) (x5 x6 : Int32), w + 1 - s = d → s ≤ w + 1 → d < f → c ≤ s → (c = 0 → x6 = 0) → ∃ r, X2_setsThatSaw_21 Mx f x1 (nI q) (nI w) (nI c) x5 x6 (nI s) = some r ∧ X8_sets_68 Mm f x1 (nI q) (nI w) (nI c) x5 x6 (nI s) = some r
  | 0, s, 0, _, _, _, _, _, hf, _, _ => absurd hf (Nat.not_lt_zero _)
  | 0, s, f + 1, c, x5, x6, hd, hk, _, hc, h6 => by
    rw [X2_setsThatSaw_21, X8_sets_68, if_pos (nI_lt (by omega) (by omega)), if_pos (nI_lt (by omega) (by omega))]
    rcases (show q = 0 ∨ q = 1 ∨ q = 2 by omega) with rfl | rfl | rfl
    · exact ⟨_, rfl, rfl⟩
    · simp only [show ¬ nI 1 = (0 : Int32) by decide, show ¬ nI 1 = (2 : Int32) by decide, show nI 1 = (1 : Int32) from rfl, i10, ↓reduceIte]
      by_cases z : nI c = 0
      · simp only [if_pos z, show ¬ (1 : Int32) = 2 by decide, ↓reduceIte]; exact ⟨_, rfl, rfl⟩
      · simp only [if_neg z, show ¬ (1 : Int32) = 2 by decide, ↓reduceIte]; exact ⟨_, rfl, rfl⟩
    · simp only [show ¬ nI 2 = (0 : Int32) by decide, show ¬ nI 2 = (1 : Int32) by decide, show nI 2 = (2 : Int32) from rfl, ↓reduceIte, show ¬ (2 : Int32) = 0 by decide, show ¬ (2 : Int32) = 1 by decide]
      by_cases z : c = 0
      · subst z
        rw [if_pos (show nI 0 = 0 from rfl), h6 rfl]
        exact ⟨_, rfl, rfl⟩
      · rw [if_neg (nI_ne0 (by omega) (by omega))]
        exact ⟨_, rfl, rfl⟩
  | d + 1, s, 0, _, _, _, _, _, hf, _, _ => absurd hf (Nat.not_lt_zero _)
  | d + 1, s, f + 1, c, x5, x6, hd, hk, hf, hc, h6 => by
    rw [X2_setsThatSaw_21, X8_sets_68, if_neg (nI_nlt (by omega) (by omega)), if_neg (nI_nlt (by omega) (by omega)), nI_1 s, nI_1 c]
    by_cases z : nI s &&& (nI w ^^^ (-1)) = 0
    · obtain ⟨r, r1, r2⟩ := saw_both H hA (nI s)
      rw [if_pos z, if_pos z, r1, r2, Option.bind_some, Option.bind_some]
      by_cases z2 : r = x1
      · rw [if_pos z2, if_pos z2]
        exact sets_loop H hA x1 hw hq d (s + 1) f (c + 1) _ _ (by omega) (by omega) (by omega) (by omega) (fun q => by omega)
      · rw [if_neg z2, if_neg z2]
        exact sets_loop H hA x1 hw hq d (s + 1) f c _ _ (by omega) (by omega) (by omega) (by omega) h6
    · rw [if_neg z, if_neg z]
      exact sets_loop H hA x1 hw hq d (s + 1) f c _ _ (by omega) (by omega) (by omega) (by omega) h6
theorem waits_set (hP : G 1 ≤ 6) : (((1 : Int32) <<< (nI (G 1) &&& 31)) - 1) &&& (btI (inG 7 G) (G 1) ^^^ (-1)) = btI (inG 4 G) (G 1) := by
  rw [btI_not _ hP]
  refine btI_cong (fun k hk => ?_)
  unfold inG
  by_cases c : G (15 + k) = 0 <;> simp [c]
theorem share_loop (H : HX Mx 15 0 sh G) (hA : atM Mm 0 G) {t : Nat} (ht : t < G 1) (hs : 0 < G (21 + t)) (x2 x3 : Int32) (h3 : ¬ x3 = 0) : ∀ (d k f : Nat) (x4 x5 : Int32), G 1 - k = d → k ≤ G 1 → d < f → ∃ r, X3_shareOf_29 15 Mx f (nI t) x2 x3 x4 x5 (nI k) = some r ∧ X8_share_44 Mm f (nI t) x2 x3 x4 x5 (nI k) = some r
  | 0, k, 0, _, _, _, _, hf => absurd hf (Nat.not_lt_zero _)
  | 0, k, f + 1, x4, x5, hd, hk, _ => by
    have hP := hx_P H
    have hv := hx_b H (21 + t)
    have e : k = G 1 := by omega
    subst e
    rw [X3_shareOf_29, X8_share_44, if_pos (show am_in (1 : Int32) 1092 = true by decide), show (1 : Int32).toNatClampNeg = 1 by decide, at_1 hA, show Mx 15 1 = _ from H.1.1.2.1, if_neg (nI_nlt (Nat.le_refl _) (by omega)), if_neg (nI_nlt (Nat.le_refl _) (by omega))]
    simp (disch := omega) only [li_21, nI_add, am_in_nI, nI_clamp, ↓reduceIte, at_sw hA, show Mx (15 + 3) t = _ from H.1.2.2.2.1 t ht, h3]
    rw [if_pos (show (0 : Int32) < nI (G (21 + t)) from nI_lt (a := 0) hs (by omega))]
    by_cases z : x5 < x4
    · rw [if_pos z]; exact ⟨_, rfl, rfl⟩
    · rw [if_neg z]; exact ⟨_, rfl, rfl⟩
  | d + 1, k, 0, _, _, _, _, hf => absurd hf (Nat.not_lt_zero _)
  | d + 1, k, f + 1, x4, x5, hd, hk, hf => by
    have hP := hx_P H
    rw [X3_shareOf_29, X8_share_44, if_pos (show am_in (1 : Int32) 1092 = true by decide), show (1 : Int32).toNatClampNeg = 1 by decide, at_1 hA, show Mx 15 1 = _ from H.1.1.2.1, if_pos (nI_lt (show k < G 1 by omega) (by omega)), if_pos (nI_lt (show k < G 1 by omega) (by omega)), nI_1 k]
    simp (disch := omega) only [li_21, nI_add, am_in_nI, nI_clamp, ↓reduceIte, at_sw hA, show Mx (15 + 3) k = _ from H.1.2.2.2.1 k (by omega), h3]
    by_cases z : nI k < nI t
    · rw [if_pos z, if_pos z]
      by_cases z2 : (0 : Int32) < nI (G (21 + k))
      · rw [if_pos z2, if_pos z2]
        exact share_loop H hA ht hs x2 x3 h3 d (k + 1) f _ _ (by omega) (by omega) (by omega)
      · rw [if_neg z2, if_neg z2]
        exact share_loop H hA ht hs x2 x3 h3 d (k + 1) f _ _ (by omega) (by omega) (by omega)
    · rw [if_neg z, if_neg z]
      exact share_loop H hA ht hs x2 x3 h3 d (k + 1) f _ _ (by omega) (by omega) (by omega)
theorem share_0 (hA : atM Mm 0 G) (hG : gB G) {t : Nat} (ht : t < G 1) (hs : G (21 + t) = 0) (x2 x3 : Int32) (h3 : ¬ x3 = 0) : ∀ (d k f : Nat) (x4 x5 : Int32), G 1 - k = d → k ≤ G 1 → d < f → X8_share_44 Mm f (nI t) x2 x3 x4 x5 (nI k) = some 0
  | 0, k, 0, _, _, _, _, hf => absurd hf (Nat.not_lt_zero _)
  | 0, k, f + 1, x4, x5, hd, hk, _ => by
    have hP := hG.2
    have e : k = G 1 := by omega
    subst e
    rw [X8_share_44, if_pos (show am_in (1 : Int32) 1092 = true by decide), show (1 : Int32).toNatClampNeg = 1 by decide, at_1 hA, if_neg (nI_nlt (Nat.le_refl _) (by omega))]
    simp (disch := omega) only [li_21, nI_add, am_in_nI, nI_clamp, ↓reduceIte, at_sw hA, h3, hs]
    rw [if_neg (by decide), nI_0, Int32.mul_zero, Int32.zero_div]; rfl
  | d + 1, k, 0, _, _, _, _, hf => absurd hf (Nat.not_lt_zero _)
  | d + 1, k, f + 1, x4, x5, hd, hk, hf => by
    have hP := hG.2
    rw [X8_share_44, if_pos (show am_in (1 : Int32) 1092 = true by decide), show (1 : Int32).toNatClampNeg = 1 by decide, at_1 hA, if_pos (nI_lt (show k < G 1 by omega) (by omega)), nI_1 k]
    simp (disch := omega) only [li_21, nI_add, am_in_nI, nI_clamp, ↓reduceIte, at_sw hA, h3]
    by_cases z : nI k < nI t
    · rw [if_pos z]
      by_cases z2 : (0 : Int32) < nI (G (21 + k))
      · rw [if_pos z2]
        exact share_0 hA hG ht hs x2 x3 h3 d (k + 1) f _ _ (by omega) (by omega) (by omega)
      · rw [if_neg z2]
        exact share_0 hA hG ht hs x2 x3 h3 d (k + 1) f _ _ (by omega) (by omega) (by omega)
    · rw [if_neg z]
      exact share_0 hA hG ht hs x2 x3 h3 d (k + 1) f _ _ (by omega) (by omega) (by omega)
end ST
theorem ok_sets_Inv : ok_sets Inv := fun Mx Mm y z I => by
  unfold X7_sets X8_sets
  rcases hall_dec I with ⟨c, d⟩ | ⟨G, sh, H, hA, hO, c, d⟩
  · rw [c, d]; exact ⟨_, rfl, rfl, I⟩
  have hP := hx_P H
  rcases rng y 0 99 (by omega) (by omega) with ⟨q, e⟩ | ⟨n, n1, n2, rfl, e⟩
  · simp only [c, d, e 0 99 (by decide) (by decide), Option.bind_some, i10, i00, ↓reduceIte]
    refine ⟨_, ?_, rfl, I⟩
    rcases q with q | q
    · rw [if_pos (show y < 0 from q)]
    · rw [if_pos (show (99 : Int32) < y from q), ite_self]
  simp (disch := omega) only [c, d, e 0 99 (by decide) (by decide), Option.bind_some, i10, i00, ↓reduceIte, nI_pos, show ¬ (99 : Int32) < nI n from nI_nlt (a := 99) (by omega) (by omega)]
  rcases choice_dec z 3 (by omega) with ⟨q, e⟩ | ⟨w, hw, rfl, q, e⟩
  · simp only [show X7_isChoice z 3 = some 0 from q, e 0 2 (by decide) (by decide), Option.bind_some, i00, ↓reduceIte]; exact ⟨_, rfl, rfl, I⟩
  · simp only [show X7_isChoice (nI w) 3 = some 1 from q, e 0 2 (by decide) (by decide), Option.bind_some, i10, ↓reduceIte, X2_setsThatSaw, show X3_setOf 15 Mx 4 = _ from cx_setOf H (g := 4) (by omega), show am_in (1 : Int32) 1092 = true by decide, show (1 : Int32).toNatClampNeg = 1 by decide, at_1 hA, a0_gone hA H.2.1.1.1, am_let_eq]
    rw [waits_set hP.2.2, btI_N (inG 4 G) (G 1) hP.2.2]
    have h64 := btN_le6 (inG 4 G) hP.2.2
    obtain ⟨r, r1, r2⟩ := sets_loop H hA (nI n) (w := btN (inG 4 G) (G 1)) (q := w) h64 hw (btN (inG 4 G) (G 1) + 1) 0 am_fuel 0 (nI (btN (inG 4 G) (G 1))) 0 (by omega) (by omega) (by show _ < 2000; omega) (by omega) (fun _ => rfl)
    rw [show X2_setsThatSaw_21 Mx am_fuel (nI n) (nI w) (nI (btN (inG 4 G) (G 1))) 0 (nI (btN (inG 4 G) (G 1))) 0 0 = _ from r1]
    exact ⟨r, rfl, r2, I⟩
theorem ok_share_Inv : ok_share Inv := fun Mx Mm x y I => by
  unfold X7_share X8_share X3_shareOf
  rcases one_dec I x with ⟨c, d⟩ | ⟨G, sh, t, H, hA, hO, ht, rfl, c, d⟩
  · rw [c, d]; exact ⟨_, rfl, rfl, I⟩
  have hP := hx_P H
  have hv := hx_b H (21 + t)
  have hsum := sumG_le H.2.1.1 (G 1) hP.2.2
  rcases rng y 0 999 (by omega) (by omega) with ⟨q, e⟩ | ⟨n, n1, n2, rfl, e⟩
  · simp only [c, d, e 0 999 (by decide) (by decide), Option.bind_some, i10, i00, ↓reduceIte]
    refine ⟨_, ?_, rfl, I⟩
    rcases q with q | q
    · rw [if_pos (show y < 0 from q)]
    · rw [if_pos (show (999 : Int32) < y from q), ite_self]
  simp (disch := omega) only [c, d, e 0 999 (by decide) (by decide), Option.bind_some, i10, ↓reduceIte, nI_pos, show ¬ (999 : Int32) < nI n from nI_nlt (a := 999) (by omega) (by omega), cx_seen H, a0_allSaw hA H.2.1.1, am_in_nI, nI_clamp, show Mx (15 + 3) t = _ from H.1.2.2.2.1 t ht]
  by_cases z : nI (sumG G (G 1)) = 0
  · rw [if_pos z, if_pos z]; exact ⟨_, rfl, rfl, I⟩
  rw [if_neg z, if_neg z]
  by_cases z2 : G (21 + t) = 0
  · have r2 := share_0 hA H.2.1.1.1 ht z2 (nI n) (nI (sumG G (G 1))) z (G 1) 0 am_fuel (nI n) 0 (by omega) (by omega) (by show _ < 2000; omega)
    rw [if_pos (by rw [z2]; rfl)]
    exact ⟨0, rfl, r2, I⟩
  · rw [if_neg (nI_ne0 (by omega) (by omega))]
    obtain ⟨r, r1, r2⟩ := share_loop H hA ht (by omega) (nI n) (nI (sumG G (G 1))) z (G 1) 0 am_fuel (nI n) 0 (by omega) (by omega) (by show _ < 2000; omega)
    rw [show X3_shareOf_29 15 Mx am_fuel (nI t) (nI n) (nI (sumG G (G 1))) (nI n) 0 0 = _ from r1]
    exact ⟨r, rfl, r2, I⟩
