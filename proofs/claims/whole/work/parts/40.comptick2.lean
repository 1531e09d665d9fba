/-! PURE: the class's hall: a tick -/
theorem upN_id {G : Nat → Nat} {k v : Nat} (h : G k = v) : upN G k v = G := by
  funext j
  unfold upN
  split
  · next q => rw [q, h]
  · rfl
theorem and1 (x : Int32) : x &&& 1 = 0 ∨ x &&& 1 = 1 := by
  have h := pk_andE x (m := 1) 1 (by decide)
  obtain ⟨j, hj, e⟩ := h
  rcases (show j = 0 ∨ j = 1 by omega) with rfl | rfl
  · exact Or.inl e
  · exact Or.inr e
section CX
variable {M : Mem} {h : Nat} {a : Int32} {sh : Nat}
theorem cx_letLook26 {G : Nat → Nat} (H : HX M h a sh G) {t c : Nat} (ht : t < G 1) (hc : c < G 1) (hw : G (33 + c) < 20) (hg : G (15 + t) = 0) : ∃ M', X3_letLook_26 h (nI t) (nI c) M = some M' ∧ HX M' h a sh (if takeG G t c then upN (upN G (15 + t) (c + 1)) (33 + c) (30 + t) else G) ∧ frm M M' h := by
  have hP := hx_P H
  unfold X3_letLook_26
  rw [if_neg (nI_ne_none (by omega)), cx_wants H ht hc, Option.bind_some]
  cases htk : takeG G t c with
  | false => exact ⟨M, by simp [bI], by simpa using H, frm.rf⟩
  | true =>
    obtain ⟨M', m1, m2, m3⟩ := cx_take H ht hc hw hg
    exact ⟨M', by rw [if_neg (by decide), m1]; rfl, by simpa using m2, m3⟩
theorem cx_letLook {S : tS} (H : HX M h a sh S.1) {t : Nat} (ht : t < S.1 1) (hg : S.1 (15 + t) = 0) (hsl : slp a t = false) : ∃ M', X3_letLook h (nI t) (gI (bagG S.1 (S.1 (9 + t)) (S.1 1))) M = some M' ∧ HX M' h a sh (lookS a t S).1 ∧ frm M M' h := by
  have hP := hx_P H
  have hsw := H.2.1.1.2.2 t (by omega)
  have hsd := H.2.1.1.2.1.2.2 t ht
  have e3 := H.1.2.2.2.1 t ht
  unfold X3_letLook lookS
  rw [if_pos hg]
  rcases bagG_spec S.1 (S.1 (9 + t)) (S.1 1) with ⟨q, _⟩ | ⟨c, hc, q, hp, _⟩
  · rw [q, if_pos rfl, gI_0]
    refine ⟨M, ?_, H, frm.rf⟩
    rw [if_neg (fun z => nI_ne_none (show t < 2 ^ 31 by omega) z.symm)]
    unfold X3_letLook_26
    rw [if_pos rfl]
  · rw [q, if_neg (show ¬ c + 1 = 0 by omega), hsl, gI_s]
    simp only [Bool.false_eq_true, ↓reduceIte, Nat.add_sub_cancel]
    have hw : S.1 (33 + c) < 20 := by omega
    simp (disch := omega) only [nI_eq, am_in_nI, nI_clamp, e3, li_99, nI_ltI, am_let_eq, ↓reduceIte]
    have plain : ∃ M', X3_letLook_26 h (nI t) (nI c) M = some M' ∧ HX M' h a sh (if takeG (upN S.1 (21 + t) (S.1 (21 + t) + 0)) t c then (upN (upN (upN S.1 (21 + t) (S.1 (21 + t) + 0)) (15 + t) (c + 1)) (33 + c) (30 + t), S.2.1 + 1, S.2.2 + if c = t then 0 else 1) else (upN S.1 (21 + t) (S.1 (21 + t) + 0), S.2.1, S.2.2)).1 ∧ frm M M' h := by
      obtain ⟨M', m1, m2, m3⟩ := cx_letLook26 H ht hc hw hg
      refine ⟨M', m1, ?_, m3⟩
      rw [upN_id (by omega)]
      split
      · next z => rw [if_pos z] at m2; exact m2
      · next z => rw [if_neg z] at m2; exact m2
    by_cases q1 : c = t
    · by_cases q2 : S.1 (21 + t) < 99
      · have hδ : (if c = t ∧ S.1 (21 + t) < 99 then 1 else 0) = 1 := if_pos ⟨q1, q2⟩
        rw [hδ, if_pos q1, if_pos q2, nI_1]
        have H1 := cx_saw H ht (v := S.1 (21 + t) + 1) (by omega)
        obtain ⟨M', m1, m2, m3⟩ := cx_letLook26 H1 (t := t) (c := c) (by rw [upN_ne (by omega)]; exact ht) (by rw [upN_ne (by omega)]; exact hc) (by rw [upN_ne (by omega)]; exact hw) (by rw [upN_ne (by omega)]; exact hg)
        refine ⟨M', m1, ?_, (frm.rf.st _ (by omega)).tr m3⟩
        split
        · next z => rw [if_pos z] at m2; exact m2
        · next z => rw [if_neg z] at m2; exact m2
      · have hδ : (if c = t ∧ S.1 (21 + t) < 99 then 1 else 0) = 0 := if_neg (fun z => q2 z.2)
        rw [hδ, if_pos q1, if_neg q2]
        exact plain
    · have hδ : (if c = t ∧ S.1 (21 + t) < 99 then 1 else 0) = 0 := if_neg (fun z => q1 z.1)
      rw [hδ, if_neg q1]
      exact plain
theorem cx_letTake_loop {S : tS} (hV : gV S.1) : ∀ (d k f : Nat) (M : Mem), HX M h a sh (looksS a k S).1 → S.1 1 - k = d → k ≤ S.1 1 → d < f → S.1 2 < 1900 → ∃ M', X3_letTake_2 h f (nI k) M = some M' ∧ HX M' h a sh (upN (looksS a (S.1 1) S).1 2 (S.1 2 + 1)) ∧ frm M M' h
  | 0, k, 0, _, _, _, _, hf, _ => absurd hf (Nat.not_lt_zero _)
  | 0, k, f + 1, M, H, hd, hk, _, h2 => by
    have hP := hx_P H
    have e : k = S.1 1 := by omega
    subst e
    obtain ⟨-, l2⟩ := looks_W (a := a) hV.1 (S.1 1) (Nat.le_refl _)
    have e1 := l2 1 (by omega)
    have e2 := l2 2 (by omega)
    obtain ⟨r0, r1, r2, r3, r4, r5, r6, r7⟩ := H.1
    refine ⟨mset M h (upd (M h) 2 (nI (S.1 2 + 1))), ?_, ?_, frm.rf.st _ (by omega)⟩
    · rw [X3_letTake_2, r0.2.1, e1, if_neg (nI_nlt (Nat.le_refl _) (by omega)), r0.2.2.1, e2, nI_1]
      rfl
    · generalize looksS a (S.1 1) S = X at *
      have e : ∀ k, k ≠ 2 → upN X.1 2 (S.1 2 + 1) k = X.1 k := fun k hk => upN_ne hk
      refine ⟨⟨?_, ?_, ?_, ?_, ?_, ?_, ?_, ?_⟩, tick2_V H.2.1 (by omega), by rw [e 0 (by omega)]; exact H.2.2⟩
      · rw [mset_self]
        unfold rw0
        rw [e 0 (by omega), e 1 (by omega), upN_same]
        refine ⟨by rw [upd_ne (by omega)]; exact r0.1, by rw [upd_ne (by omega)]; exact r0.2.1, upd_same _ _ _, by rw [upd_ne (by omega)]; exact r0.2.2.2.1, by rw [upd_ne (by omega)]; exact r0.2.2.2.2.1, ?_⟩
        rw [upd_ne (by omega), r0.2.2.2.2.2]
        congr 1
        exact cartN_cong (fun c hc => by rw [e _ (by omega)])
      · rw [mset_ne _ _ (by omega)]
        intro j hj
        rw [e 1 (by omega)] at hj
        rw [e (3 + j) (by omega)]; exact r1 j hj
      · rw [mset_ne _ _ (by omega)]
        intro j hj
        rw [e 1 (by omega)] at hj
        rw [e (9 + j) (by omega)]; exact r2 j hj
      · rw [mset_ne _ _ (by omega)]
        intro j hj
        rw [e 1 (by omega)] at hj
        rw [e (21 + j) (by omega)]; exact r3 j hj
      · rw [mset_ne _ _ (by omega)]
        intro j hj
        rw [e 1 (by omega)] at hj
        rw [e (15 + j) (by omega)]; exact r4 j hj
      · rw [mset_ne _ _ (by omega)]
        intro j hj
        rw [e 1 (by omega)] at hj
        rw [e (27 + j) (by omega)]; exact r5 j hj
      · rw [mset_ne _ _ (by omega)]
        intro j hj
        rw [e 1 (by omega)] at hj
        rw [r6 j hj]
        unfold spG
        rw [e (33 + j) (by omega), e 0 (by omega)]
      · rw [mset_ne _ _ (by omega)]
        intro s hs
        rw [e 0 (by omega)] at hs
        rw [r7 s hs, e 0 (by omega), e 1 (by omega)]
        congr 1
        exact (bagG_cong (fun c hc => by rw [e _ (by omega)])).symm
  | d + 1, k, 0, _, _, _, _, hf, _ => absurd hf (Nat.not_lt_zero _)
  | d + 1, k, f + 1, M, H, hd, hk, hf, h2 => by
    have hP := hx_P H
    have hlt : k < S.1 1 := by omega
    obtain ⟨-, l2⟩ := looks_W (a := a) hV.1 k (by omega)
    have e1 := l2 1 (by omega)
    have el : looksS a (k + 1) S = lookS a k (looksS a k S) := rfl
    have ih := fun M1 H1 => cx_letTake_loop hV d (k + 1) f M1 H1 (by omega) (by omega) (by omega) h2
    rw [el] at ih
    generalize hX : looksS a k S = X at *
    obtain ⟨r0, r1, r2, r3, r4, r5, r6, r7⟩ := H.1
    have hkX : k < X.1 1 := by omega
    have e4 := r4 k hkX
    have e2 := r2 k hkX
    have hv := hx_b H (15 + k)
    have hsd := H.2.1.1.2.1.2.2 k hkX
    rw [X3_letTake_2]
    simp (disch := omega) only [r0.2.1, e1, nI_ltI, hlt, am_in_nI, nI_clamp, e4, gI_none, r0.2.2.2.1, e2, ↓reduceIte]
    by_cases c : X.1 (15 + k) = 0
    · rw [if_pos c]
      rcases and1 (a >>> (nI k &&& 31)) with z | z
      · have hsl : slp a k = false := by unfold slp; rw [z]; decide
        rw [if_pos z, cx_bagAt H hsd, Option.bind_some]
        obtain ⟨M1, m1, m2, m3⟩ := cx_letLook H hkX c hsl
        rw [m1, Option.bind_some, nI_1]
        obtain ⟨M', n1, n2, n3⟩ := ih M1 m2
        exact ⟨M', n1, n2, m3.tr n3⟩
      · have hsl : slp a k = true := by unfold slp; rw [z]; decide
        have e0 : lookS a k X = X := by
          unfold lookS
          rw [if_pos c, hsl]
          by_cases z2 : bagG X.1 (X.1 (9 + k)) (X.1 1) = 0
          · rw [if_pos z2]
          · rw [if_neg z2, if_pos rfl]
        rw [if_neg (by rw [z]; decide), nI_1]
        rw [e0] at ih
        exact ih M H
    · have e0 : lookS a k X = X := by unfold lookS; rw [if_neg c]
      rw [if_neg c, nI_1]
      rw [e0] at ih
      exact ih M H
theorem fm_1 {P sh : Nat} (hP : 4 ≤ P ∧ P ≤ 12) (h : sh < P) : am_fm (nI sh + 1) (nI P) = nI (addm P sh 1) := by
  have key : ∀ P, P < 13 → 4 ≤ P → ∀ s, s < 12 → s < P → am_fm (nI s + 1) (nI P) = nI (addm P s 1) := by decide +kernel
  exact key P (by omega) hP.1 sh (by omega) h
/-- A TICK of the class's hall -/
theorem cx_tickOnce {S : tS} (H : HX M h a sh S.1) (h2 : S.1 2 < 1900) : ∃ M', X3_tickOnce h M = some M' ∧ HX M' h a (addm (S.1 0) sh 1) (tickS a (fun j => j) S).1 ∧ frm M M' h := by
  have hP := hx_P H
  obtain ⟨M1, a1, a2, a3⟩ := cx_turnBy (x := 1) (d := 1 + S.1 0) (e := 1) H (by omega) (by rw [Nat.add_mod_right, Nat.mod_eq_of_lt (by omega)]) (fm_1 ⟨hP.1, hP.2.1⟩ H.2.2)
  obtain ⟨-, te⟩ := turn_W (d := 1 + S.1 0) H.2.1.1
  have t1 := te 1 (by omega)
  have t2 := te 2 (by omega)
  generalize hT : turnL (1 + S.1 0) (S.1 1) S.1 = T at a2 te t1 t2
  have hPT := hx_P a2
  -- the fall
  obtain ⟨M2, b1, b2, b3⟩ : ∃ M2, (∀ K : Mem → Option Mem, (Option.bind (X3_isFallDue h M1) fun r2 => if r2 = 0 then K M1 else Option.bind (X3_dropFirst h M1) fun M4 => K M4) = K M2) ∧ HX M2 h a (addm (S.1 0) sh 1) (fallG (fun j => j) T) ∧ frm M1 M2 h := by
    rw [cx_isFallDue a2]
    unfold fallG
    by_cases c1 : bagG T 0 (T 1) = 0
    · by_cases c2 : 0 < cartN T (T 1)
      · obtain ⟨M2, d1, d2, d3⟩ := cx_dropFirst_loop a2 c1 (T 1) 0 am_fuel (by omega) (by omega) (by show T 1 < 2000; omega) rfl
        refine ⟨M2, fun K => ?_, by rw [if_pos c1]; exact d2, d3⟩
        rw [Option.bind_some, if_neg (by simp [c1, c2, bI])]
        unfold X3_dropFirst
        rw [li_0, d1, Option.bind_some]
      · have hc0 : cartG (fun j => j) T (T 1) = 0 := by
          have hn := cartN_0.mp (show cartN T (T 1) = 0 by omega)
          have : ∀ k, k ≤ T 1 → cartG (fun j => j) T k = 0 := by
            intro k hk
            induction k with
            | zero => rfl
            | succ k ih => rw [cartG, ih (by omega), if_pos rfl, if_neg (hn k (by omega))]
          exact this _ (Nat.le_refl _)
        refine ⟨M1, fun K => ?_, by rw [if_pos c1, if_pos hc0]; exact a2, frm.rf⟩
        rw [Option.bind_some, if_pos (by simp [c2, bI])]
    · refine ⟨M1, fun K => ?_, by rw [if_neg c1]; exact a2, frm.rf⟩
      rw [Option.bind_some, if_pos (by simp [c1, bI])]
  obtain ⟨-, fe⟩ := fall_W a2.2.1.1 (rk := fun j => j) (fun j hj => hj)
  have f1 : fallG (fun j => j) T 1 = S.1 1 := by rw [fe 1 (by omega), t1]
  have f2 : fallG (fun j => j) T 2 = S.1 2 := by rw [fe 2 (by omega), t2]
  obtain ⟨M3, c1, c2, c3⟩ := cx_letTake_loop (S := (fallG (fun j => j) T, S.2.1, S.2.2)) b2.2.1 (fallG (fun j => j) T 1) 0 am_fuel M2 b2 (by show fallG _ T 1 - 0 = _; omega) (Nat.zero_le _) (by rw [f1]; show S.1 1 < 2000; omega) (by show fallG _ T 2 < _; rw [f2]; exact h2)
  refine ⟨M3, ?_, ?_, (a3.tr b3).tr c3⟩
  · unfold X3_tickOnce
    rw [a1, Option.bind_some]
    have := b1 (fun M => Option.bind (X3_letTake h M) fun M3 => some M3)
    refine this.trans ?_
    show (Option.bind (X3_letTake h M2) fun M3 => some M3) = _
    unfold X3_letTake
    rw [li_0, c1]
    rfl
  · have e3 : (looksS a (S.1 1) (fallG (fun j => j) T, S.2.1, S.2.2)).1 2 = S.1 2 := by
      obtain ⟨-, l2⟩ := looks_W (a := a) (S := (fallG (fun j => j) T, S.2.1, S.2.2)) b2.2.1.1 (S.1 1) (by show _ ≤ fallG _ T 1; omega)
      rw [l2 2 (by omega)]; exact f2
    have : (tickS a (fun j => j) S).1 = upN (looksS a (S.1 1) (fallG (fun j => j) T, S.2.1, S.2.2)).1 2 (S.1 2 + 1) := by
      unfold tickS
      simp only []
      rw [hT, e3]
    rw [this]
    have c2' : HX M3 h a (addm (S.1 0) sh 1) (upN (looksS a (fallG (fun j => j) T 1) (fallG (fun j => j) T, S.2.1, S.2.2)).1 2 (fallG (fun j => j) T 2 + 1)) := c2
    rw [f1, f2] at c2'
    exact c2'
end CX
