/-! PURE: hall, both -/
theorem ok_hall_Inv : ok_hall Inv := fun Mx Mm I => by
  obtain ⟨n, hn, t1, t2, t3⟩ := I.tape
  obtain ⟨B, hB⟩ : ∃ B : Nat → Nat, ∀ i, i < n → B i < 256 ∧ Mx 14 i = nI (B i) ∧ Mm 6 i = nI (B i) := by
    refine ⟨fun i => if h : i < n then Classical.choose (t3 i h) else 0, fun i hi => ?_⟩
    show (if h : i < n then Classical.choose (t3 i h) else 0) < 256 ∧ _ = nI (if h : i < n then Classical.choose (t3 i h) else 0) ∧ _ = nI (if h : i < n then Classical.choose (t3 i h) else 0)
    rw [dif_pos hi]
    exact Classical.choose_spec (t3 i hi)
  have Tx : tpX n B Mx := ⟨hn, fun i hi => (hB i hi).1, t1, fun i hi => (hB i hi).2.1⟩
  have Tm : tpM n B Mm := ⟨hn, fun i hi => (hB i hi).1, t2, fun i hi => (hB i hi).2.2⟩
  unfold X7_hall X8_hall
  rcases rd_all Tx Tm with ⟨e, q, Mx', Mm', h1, h2, h3, h4, h5, h6, h7, fx, fm⟩ | ⟨Mx', Mm', G, h1, h2, h3, h4, h5, h6, fx, fm⟩
  · rw [h3, h5, Option.bind_some, Option.bind_some]
    unfold X6_clear X6_faultPlace
    simp only [am_let_eq, if_neg (nz h1 h2), Option.bind_some, mset_self, mset_mset, ↓reduceIte]
    refine ⟨(-1000100 : Int32) - nI q, _, _, by rw [mset_ne _ _ (by omega), mset_self, upd_ne (by omega), h4], by rw [upd_ne (by omega), upd_ne (by omega), h7], ?_⟩
    refine ⟨rows_cg I.rows (fun p a b => ?_) (fun p a b => ?_), ⟨0, by omega, ?_, ?_, fun i hi => absurd hi (Nat.not_lt_zero _)⟩, trce_cg I.trce ?_ ?_ ?_ ?_, hall_cg I.hall (fun p a b => ?_) (fun j hj => ?_), past_cg I.past ?_ ?_ ?_ (fun j a b => ?_), img_cg I.img ?_ ?_ ?_ (fun j a b => ?_), ord_cg I.ord ?_ ?_ ?_, ?_⟩
    · rw [mset_ne _ _ (by omega), mset_ne _ _ (by omega), fx p (by omega) (by omega)]
    · rw [mset_ne _ _ (by omega), fm.1 p (by omega)]
    · rw [mset_ne _ _ (by omega), mset_self, upd_same]; rfl
    · rw [mset_self, upd_ne (by omega), upd_same]; rfl
    · rw [mset_ne _ _ (by omega), mset_ne _ _ (by omega), fx 40 (by omega) (by omega)]
    · rw [mset_ne _ _ (by omega), mset_ne _ _ (by omega), fx 41 (by omega) (by omega)]
    · rw [mset_self, upd_ne (by omega), upd_ne (by omega), fm.2.1 11 (by omega) (by omega) (by omega)]
    · rw [mset_ne _ _ (by omega), fm.1 7 (by omega)]
    · rw [mset_ne _ _ (by omega), mset_ne _ _ (by omega), fx p (by omega) (by omega)]
    · rw [mset_ne _ _ (by omega), fm.2.2 j (by omega)]
    · rw [mset_ne _ _ (by omega), mset_ne _ _ (by omega), fx 31 (by omega) (by omega)]
    · rw [mset_ne _ _ (by omega), mset_ne _ _ (by omega), fx 32 (by omega) (by omega)]
    · rw [mset_self, upd_ne (by omega), upd_ne (by omega), fm.2.1 1 (by omega) (by omega) (by omega)]
    · rw [mset_ne _ _ (by omega), fm.2.2 j (by omega)]
    · rw [mset_self, upd_ne (by omega), mset_ne _ _ (by omega), fx 0 (by omega) (by omega)]
    · rw [mset_ne _ _ (by omega), mset_ne _ _ (by omega), fx 42 (by omega) (by omega)]
    · rw [mset_ne _ _ (by omega), fm.1 2 (by omega)]
    · rw [mset_ne _ _ (by omega), fm.2.2 j (by omega)]
    · rw [mset_ne _ _ (by omega), mset_ne _ _ (by omega), fx 34 (by omega) (by omega)]
    · rw [mset_ne _ _ (by omega), mset_ne _ _ (by omega), fx 37 (by omega) (by omega)]
    · rw [mset_ne _ _ (by omega), mset_ne _ _ (by omega), fx 39 (by omega) (by omega)]
    · obtain ⟨m1, m2, m3, m4⟩ := I.misc
      refine ⟨?_, ?_, fun j hj => ?_, ?_⟩
      · rw [mset_self, mset_self, upd_same, upd_same, upd_ne (by omega), h6]
      · rw [mset_self, mset_self, upd_ne (by omega), upd_ne (by omega), upd_ne (by omega), mset_ne _ _ (by omega), fx 0 (by omega) (by omega), fm.2.1 9 (by omega) (by omega) (by omega)]; exact m2
      · rw [mset_ne _ _ (by omega), fm.1 8 (by omega)]; exact m3 j hj
      · rw [mset_self, upd_ne (by omega), upd_ne (by omega), fm.2.1 16 (by omega) (by omega) (by omega)]; exact m4
  · rw [h1, h5, Option.bind_some, Option.bind_some]
    unfold X6_clear X0_clear
    simp only [am_let_eq, i10, Option.bind_some, ↓reduceIte]
    have H : HX (mset Mx' 13 (upd (Mx' 13) 1 0)) 23 0 0 G := hx_frm (fr_HX h3 h2) (fun q a b => mset_ne _ _ (by omega))
    obtain ⟨Mx2, b1, b2, b3⟩ := cx_become (h := 15) H (by omega)
    rw [b1, Option.bind_some]
    have A : atM (mset Mm' 0 (upd (Mm' 0) 7 0)) 1053 G := atM_cong h6 (fun k hk => by rw [mset_ne _ _ (by omega)])
    have hc : X8_copyHall 1053 0 (mset Mm' 0 (upd (Mm' 0) 7 0)) = some (wrM (mset Mm' 0 (upd (Mm' 0) 7 0)) 0 G) := ref_copyHall (a := 1053) (b := 0) A (by omega) (by omega) (by omega)
    rw [hc, Option.bind_some, li_1, am_in_nI (by omega) (by omega), if_pos rfl, nI_clamp (by omega)]
    have e1 : Mx2 15 1 = nI (G 1) := b2.1.1.2.1
    have gx : ∀ p, p ≠ 13 → (p < 15 ∨ 30 < p) → Mx2 p = Mx p := fun p a b => by rw [b3 p (by omega), mset_ne _ _ a, fx p a (by omega)]
    have gx13 : Mx2 13 1 = 0 := by rw [b3 13 (by omega), mset_self, upd_same]
    have gm : ∀ p, 2 ≤ p → wrM (mset Mm' 0 (upd (Mm' 0) 7 0)) 0 G p = Mm p := fun p a => by rw [wrM_ne _ _ _ (by omega), mset_ne _ _ (by omega), fm.1 p a]
    have gm0 : ∀ j, j ≠ 7 → j ≠ 12 → j ≠ 13 → j ≠ 14 → wrM (mset Mm' 0 (upd (Mm' 0) 7 0)) 0 G 0 j = Mm 0 j := fun j a1 a2 a3 a4 => by rw [wrM_ne _ _ _ (by omega), mset_self, upd_ne a1, fm.2.1 j a2 a3 a4]
    have gm07 : wrM (mset Mm' 0 (upd (Mm' 0) 7 0)) 0 G 0 7 = 0 := by rw [wrM_ne _ _ _ (by omega), mset_self, upd_same]
    have gm1 : ∀ j, 39 ≤ j → j < 1053 → wrM (mset Mm' 0 (upd (Mm' 0) 7 0)) 0 G 1 j = Mm 1 j := fun j a b => by rw [wrM_out _ _ _ (by omega), mset_ne _ _ (by omega), fm.2.2 j b]
    have A2 : atM (wrM (mset Mm' 0 (upd (Mm' 0) 7 0)) 0 G) 0 G := atM_of _ _ _
    generalize wrM (mset Mm' 0 (upd (Mm' 0) 7 0)) 0 G = Mm2 at gm gm0 gm07 gm1 A2 ⊢
    refine ⟨nI (G 1), _, _, by rw [mset_ne _ _ (by omega), e1], by rw [mset_ne _ _ (by omega)]; rw [show Mm2 1 1 = nI (G 1) from by rw [show (1 : Nat) = 0 + 1 from rfl, A2 1 (by omega), cI_n (by omega)]], ?_⟩
    refine ⟨rows_cg I.rows (fun p a b => ?_) (fun p a b => ?_), ⟨0, by omega, ?_, ?_, fun i hi => absurd hi (Nat.not_lt_zero _)⟩, trce_cg I.trce ?_ ?_ ?_ ?_, Or.inr ⟨G, 0, hx_frm b2 (fun q a b => mset_ne _ _ (by omega)), atM_cong A2 (fun k hk => by rw [mset_ne _ _ (by omega)]), h4, by rw [h3.2.2.2.1]; omega⟩, ?_, img_cg I.img ?_ ?_ ?_ (fun j a b => ?_), ord_cg I.ord ?_ ?_ ?_, ?_⟩
    · rw [mset_ne _ _ (by omega), gx p (by omega) (by omega)]
    · rw [mset_ne _ _ (by omega), gm p (by omega)]
    · rw [mset_ne _ _ (by omega)]; exact gx13
    · rw [mset_self, upd_ne (by omega)]; exact gm07
    · rw [mset_ne _ _ (by omega), gx 40 (by omega) (by omega)]
    · rw [mset_ne _ _ (by omega), gx 41 (by omega) (by omega)]
    · rw [mset_self, upd_ne (by omega), gm0 11 (by omega) (by omega) (by omega) (by omega)]
    · rw [mset_ne _ _ (by omega), gm 7 (by omega)]
    · obtain ⟨u, nx, a1, a2, a3, a4, a5, a6⟩ := I.past
      refine ⟨0, nx, by omega, a2, ?_, ?_, ?_, fun j hj => absurd hj (Nat.not_lt_zero _)⟩
      · rw [mset_self, upd_ne (by omega), gx 31 (by omega) (by omega)]; exact a3
      · rw [mset_self, upd_same]; rfl
      · rw [mset_self, upd_same]; rfl
    · rw [mset_ne _ _ (by omega), gx 0 (by omega) (by omega)]
    · rw [mset_ne _ _ (by omega), gx 42 (by omega) (by omega)]
    · rw [mset_ne _ _ (by omega), gm 2 (by omega)]
    · rw [mset_ne _ _ (by omega), gm1 j (by omega) (by omega)]
    · rw [mset_ne _ _ (by omega), gx 34 (by omega) (by omega)]
    · rw [mset_ne _ _ (by omega), gx 37 (by omega) (by omega)]
    · rw [mset_ne _ _ (by omega), gx 39 (by omega) (by omega)]
    · obtain ⟨m1, m2, m3, m4⟩ := I.misc
      refine ⟨?_, ?_, fun j hj => ?_, ?_⟩
      · rw [mset_ne _ _ (by omega), mset_self, upd_ne (by omega), gx 0 (by omega) (by omega), gm0 8 (by omega) (by omega) (by omega) (by omega)]; exact m1
      · rw [mset_ne _ _ (by omega), mset_self, upd_ne (by omega), gx 0 (by omega) (by omega), gm0 9 (by omega) (by omega) (by omega) (by omega)]; exact m2
      · rw [mset_ne _ _ (by omega), gm 8 (by omega)]; exact m3 j hj
      · rw [mset_self, upd_ne (by omega), gm0 16 (by omega) (by omega) (by omega) (by omega)]; exact m4
