/-! PURE: acts, kept and undone; images -/
theorem svX_cg {f f' : Nat → Int32} {o sh : Nat} {G : Nat → Nat} (h : svX f o sh G) (e : ∀ j, o ≤ j → j < o + 40 → f' j = f j) : svX f' o sh G := by
  obtain ⟨⟨s0, s1, s2, s3⟩, st, hV, hs⟩ := h
  have h6 := hV.1.1.2
  refine ⟨⟨?_, ?_, ?_, ?_⟩, fun t ht => ⟨?_, ?_, ?_, ?_, ?_, ?_⟩, hV, hs⟩
  · rw [e _ (by omega) (by omega)]; exact s0
  · rw [e _ (by omega) (by omega)]; exact s1
  · rw [e _ (by omega) (by omega)]; exact s2
  · rw [e _ (by omega) (by omega)]; exact s3
  · rw [e _ (by omega) (by omega)]; exact (st t ht).1
  · rw [e _ (by omega) (by omega)]; exact (st t ht).2.1
  · rw [e _ (by omega) (by omega)]; exact (st t ht).2.2.1
  · rw [e _ (by omega) (by omega)]; exact (st t ht).2.2.2.1
  · rw [e _ (by omega) (by omega)]; exact (st t ht).2.2.2.2.1
  · rw [e _ (by omega) (by omega)]; exact (st t ht).2.2.2.2.2
section AC
variable {Mx Mm Mx' Mm' : Mem}
/-- the hall that is now, changed -/
theorem Inv.nw (I : Inv Mx Mm) {sh : Nat} {G : Nat → Nat} (hx : ∀ p, p < 15 ∨ 22 < p → Mx' p = Mx p) (hm0 : ∀ j, j ≤ 11 ∨ j = 16 → Mm' 0 j = Mm 0 j) (hm1 : ∀ j, 39 ≤ j → j < 1053 → Mm' 1 j = Mm 1 j) (hm : ∀ p, 2 ≤ p → p ≤ 8 → Mm' p = Mm p) (H : HX Mx' 15 0 sh G) (hA : atM Mm' 0 G) (hO : hOK G) : Inv Mx' Mm' :=
  ⟨rows_cg I.rows (fun p h1 h2 => hx p (by omega)) (fun p h1 h2 => hm p (by omega) (by omega)), tape_cg I.tape (by rw [hx 13 (by omega)]) (hx 14 (by omega)) (hm0 7 (by omega)) (hm 6 (by omega) (by omega)), trce_cg I.trce (by rw [hx 40 (by omega)]) (hx 41 (by omega)) (hm0 11 (by omega)) (hm 7 (by omega) (by omega)), Or.inr ⟨G, sh, H, hA, hO⟩, past_cg I.past (hx 31 (by omega)) (hx 32 (by omega)) (hm0 1 (by omega)) (fun j h1 h2 => hm1 j (by omega) (by omega)), img_cg I.img (by rw [hx 0 (by omega)]) (hx 42 (by omega)) (hm 2 (by omega) (by omega)) (fun j h1 h2 => hm1 j (by omega) (by omega)), ord_cg I.ord (hx 34 (by omega)) (hx 37 (by omega)) (hx 39 (by omega)), misc_cg I.misc (by rw [hx 0 (by omega)]) (by rw [hx 0 (by omega)]) (hm0 8 (by omega)) (hm0 9 (by omega)) (hm 8 (by omega) (by omega)) (hm0 16 (by omega))⟩
theorem keep_both (I : Inv Mx Mm) {sh : Nat} {G : Nat → Nat} (H : HX Mx 15 0 sh G) (hA : atM Mm 0 G) (hO : hOK G) : ∃ Mx1 Mm1, X0_keep 15 Mx = some Mx1 ∧ X8_keepPast Mm = some Mm1 ∧ Inv Mx1 Mm1 ∧ HX Mx1 15 0 sh G ∧ atM Mm1 0 G ∧ (∀ p, 15 ≤ p → p ≤ 22 → Mx1 p = Mx p) ∧ (∀ j, j < 39 → Mm1 1 j = Mm 1 j) := by
  obtain ⟨u, nx, hu, hn, e1, e2, e3, hp⟩ := I.past
  obtain ⟨Mm1, m1, m2, m3, m4, m5, m6⟩ := ref_keepPast hA hu e3
  have x1 : X0_keep 15 Mx = some (mset (mset Mx 32 (fun j => if 40 * nx ≤ j ∧ j < 40 * nx + 40 then svC Mx 15 (j - 40 * nx) else Mx 32 j)) 31 (upd (upd (Mx 31) 1 (nI ((nx + 1) % 24))) 2 (nI (if u = 24 then 24 else u + 1)))) := by
    unfold X0_keep
    rw [e1, li_40, nI_mul, Nat.mul_comm, cx_saveTo Mx 15 32 960 (40 * nx) (by omega) (by omega) (by omega), Option.bind_some]
    simp (disch := omega) only [mset_ne, e1, nI_1, li_24, nI_ltI, am_let_eq, mset_self, mset_mset]
    have h2 : ∀ v : Int32, upd (Mx 31) 1 v 2 = nI u := fun v => by rw [upd_ne (by omega)]; exact e2
    simp only [h2, nI_1]
    have h3 : (if nI 24 < nI (u + 1) then nI 24 else nI (u + 1)) = nI (if u = 24 then 24 else u + 1) := by
      by_cases c : u = 24
      · subst c; rfl
      · rw [if_neg (nI_nlt (by omega) (by omega)), if_neg c]
    rw [h3]
    by_cases c : nx + 1 < 24
    · rw [if_pos c, Nat.mod_eq_of_lt c]
    · rw [if_neg c, show nx + 1 = 24 by omega]; rfl
  refine ⟨_, Mm1, x1, m1, ?_, hx_frm H (fun q h1 h2 => by rw [mset_ne _ _ (by omega), mset_ne _ _ (by omega)]), atM_cong hA (fun k hk => m4 _ (by omega)), fun q h1 h2 => by rw [mset_ne _ _ (by omega), mset_ne _ _ (by omega)], fun j hj => m4 j (by omega)⟩
  have f0 : ∀ j, j ≠ 1 → Mm1 0 j = Mm 0 j := fun j hj => by rw [m3, upd_ne hj]
  refine ⟨rows_cg I.rows (fun p h1 h2 => by rw [mset_ne _ _ (by omega), mset_ne _ _ (by omega)]) (fun p h1 h2 => m2 p (by omega) (by omega)), tape_cg I.tape (by rw [mset_ne _ _ (by omega), mset_ne _ _ (by omega)]) (by rw [mset_ne _ _ (by omega), mset_ne _ _ (by omega)]) (f0 7 (by omega)) (m2 6 (by omega) (by omega)), trce_cg I.trce (by rw [mset_ne _ _ (by omega), mset_ne _ _ (by omega)]) (by rw [mset_ne _ _ (by omega), mset_ne _ _ (by omega)]) (f0 11 (by omega)) (m2 7 (by omega) (by omega)), hall_cg I.hall (fun p h1 h2 => by rw [mset_ne _ _ (by omega), mset_ne _ _ (by omega)]) (fun j hj => m4 j (by omega)), ?_, img_cg I.img (by rw [mset_ne _ _ (by omega), mset_ne _ _ (by omega)]) (by rw [mset_ne _ _ (by omega), mset_ne _ _ (by omega)]) (m2 2 (by omega) (by omega)) (fun j h1 h2 => m4 j (by omega)), ord_cg I.ord (by rw [mset_ne _ _ (by omega), mset_ne _ _ (by omega)]) (by rw [mset_ne _ _ (by omega), mset_ne _ _ (by omega)]) (by rw [mset_ne _ _ (by omega), mset_ne _ _ (by omega)]), misc_cg I.misc (by rw [mset_ne _ _ (by omega), mset_ne _ _ (by omega)]) (by rw [mset_ne _ _ (by omega), mset_ne _ _ (by omega)]) (f0 8 (by omega)) (f0 9 (by omega)) (m2 8 (by omega) (by omega)) (f0 16 (by omega))⟩
  refine ⟨if u = 24 then 24 else u + 1, (nx + 1) % 24, by split <;> omega, by omega, ?_, ?_, ?_, fun j hj => ?_⟩
  · rw [mset_self, upd_ne (by omega), upd_same]
  · rw [mset_self, upd_same]
  · rw [m3, upd_same]
  · rw [mset_ne _ _ (by omega), mset_self]
    by_cases c : j = (if u = 24 then 23 else u)
    · refine ⟨G, sh, ?_, by rw [c]; exact m5, hO⟩
      rw [show ((nx + 1) % 24 + 24 - (if u = 24 then 24 else u + 1) + j) % 24 = nx by split at c <;> split <;> omega]
      exact svC_hx H _ _
    · by_cases c2 : u = 24
      · rw [if_pos c2] at hj c ⊢
        obtain ⟨G', sh', g1, g2, g3⟩ := hp (j + 1) (by omega)
        refine ⟨G', sh', svX_cg (f := Mx 32) ?_ (fun i h1 h2 => ?_), fun k hk => ?_, g3⟩
        · rw [show ((nx + 1) % 24 + 24 - 24 + j) % 24 = (nx + 24 - u + (j + 1)) % 24 by omega]
          exact g1
        · rw [if_neg (by omega)]
        · rw [m6 j k (by rw [if_pos c2]; omega) hk, if_pos c2]
          exact g2 k hk
      · rw [if_neg c2] at hj c ⊢
        obtain ⟨G', sh', g1, g2, g3⟩ := hp j (by omega)
        refine ⟨G', sh', svX_cg (f := Mx 32) ?_ (fun i h1 h2 => ?_), fun k hk => ?_, g3⟩
        · rw [show ((nx + 1) % 24 + 24 - (u + 1) + j) % 24 = (nx + 24 - u + j) % 24 by omega]
          exact g1
        · rw [if_neg (by omega)]
        · rw [m6 j k (by rw [if_neg c2]; omega) hk, if_neg c2]
          exact g2 k hk
end AC
theorem ok_move_Inv : ok_move Inv := fun Mx Mm x y I => by
  unfold X7_move X8_move
  rcases one_dec I x with ⟨c, d⟩ | ⟨G, sh, t, H, hA, hO, ht, rfl, c, d⟩
  · rw [c, d]; exact ⟨_, _, _, rfl, rfl, I⟩
  have hP := hx_P H
  have hG := H.2.1.1.1
  rcases place_G H hA y with ⟨c', d'⟩ | ⟨p, hp, rfl, c', d'⟩
  · simp only [c, d, c', d', Option.bind_some, i10, i00, ↓reduceIte]; exact ⟨_, _, _, rfl, rfl, I⟩
  have e17 : Mx 17 t = nI (G (9 + t)) := H.1.2.2.1 t ht
  have hsd := hx_b H (9 + t)
  simp (disch := omega) only [c, d, c', d', Option.bind_some, i10, i00, ↓reduceIte, am_in_nI, nI_clamp, li_9, nI_add, cx_waits H ht, a0_waits hA hG, at_sd hA, e17, nI_eq]
  by_cases q : G (15 + t) = 0
  case neg =>
    rw [decide_eq_false q, if_neg q]
    simp only [bI_f, i00, ↓reduceIte]
    exact ⟨_, _, _, rfl, rfl, I⟩
  rw [decide_eq_true q, if_pos q]
  simp only [bI_t, i10, ↓reduceIte]
  by_cases q2 : G (9 + t) = p
  · rw [if_pos q2, if_pos q2]; exact ⟨_, _, _, rfl, rfl, I⟩
  rw [if_neg q2, if_neg q2]
  obtain ⟨Mx1, Mm1, k1, k2, k3, k4, k5, k6, k7⟩ := keep_both I H hA hO
  rw [k1, k2, Option.bind_some, Option.bind_some]
  simp only [am_let_eq]
  refine ⟨_, _, _, rfl, rfl, k3.nw (sh := sh) (G := upN G (9 + t) p) (fun p hp => mset_ne _ _ (by omega)) (fun j hj => by rw [mset_ne _ _ (by omega)]) (fun j h1 h2 => by rw [mset_self, upd_ne (by omega)]) (fun p h1 h2 => mset_ne _ _ (by omega)) (hx_stand k4 ht hp) ?_ ?_⟩
  · have := wrM_ssd Mm1 0 G p (show t < 6 by omega)
    rw [atM_wr k5, Nat.zero_add] at this
    rw [this]
    exact atM_of _ _ _
  · exact ⟨by rw [upN_ne (by omega)]; exact hO.1, by rw [upN_ne (by omega)]; exact hO.2⟩
theorem ok_paint_Inv : ok_paint Inv := fun Mx Mm x y I => by
  unfold X7_paint X8_paint
  rcases one_dec I x with ⟨c, d⟩ | ⟨G, sh, t, H, hA, hO, ht, rfl, c, d⟩
  · rw [c, d]; exact ⟨_, _, _, rfl, rfl, I⟩
  have hP := hx_P H
  have hG := H.2.1.1.1
  have e20 : Mx 20 t = nI (G (27 + t)) := H.1.2.2.2.2.2.1 t ht
  rcases rng y 0 3 (by omega) (by omega) with ⟨q, e⟩ | ⟨p, p1, p2, rfl, e⟩
  · simp only [c, d, e 0 3 (by decide) (by decide), Option.bind_some, i10, i00, ↓reduceIte]
    refine ⟨_, _, _, ?_, rfl, I⟩
    by_cases c : y < 0
    · rw [if_pos c]
    · rw [if_neg c, if_neg ?_]
      rcases q with q | q
      · exact absurd q c
      · rw [li_4, Int32.lt_iff_toInt_lt, nI_toInt (by omega)]
        rw [Int32.lt_iff_toInt_lt, nI_toInt (by omega)] at q
        omega
  · simp (disch := omega) only [c, d, e 0 3 (by decide) (by decide), Option.bind_some, i10, ↓reduceIte, nI_pos, show nI p < (4 : Int32) from nI_lt (b := 4) (by omega) (by omega), am_in_nI, nI_clamp, li_27, nI_add]
    obtain ⟨Mx1, Mm1, k1, k2, k3, k4, k5, k6, k7⟩ := keep_both I H hA hO
    rw [k1, k2, Option.bind_some, Option.bind_some]
    simp (disch := omega) only [am_let_eq, e20, at_cl k5]
    refine ⟨_, _, _, rfl, rfl, k3.nw (sh := sh) (G := upN G (27 + t) p) (fun p hp => mset_ne _ _ (by omega)) (fun j hj => by rw [mset_ne _ _ (by omega)]) (fun j h1 h2 => by rw [mset_self, upd_ne (by omega)]) (fun p h1 h2 => mset_ne _ _ (by omega)) (hx_paint k4 ht (by omega)) ?_ ?_⟩
    · have := wrM_scl Mm1 0 G p (show t < 6 by omega)
      rw [atM_wr k5, Nat.zero_add] at this
      rw [this]
      exact atM_of _ _ _
    · exact ⟨by rw [upN_ne (by omega)]; exact hO.1, by rw [upN_ne (by omega)]; exact hO.2⟩
theorem ok_back_Inv : ok_back Inv := fun Mx Mm x I => by
  unfold X7_back X8_back
  rcases one_dec I x with ⟨c, d⟩ | ⟨G, sh, t, H, hA, hO, ht, rfl, c, d⟩
  · rw [c, d]; exact ⟨_, _, _, rfl, rfl, I⟩
  have hP := hx_P H
  have hG := H.2.1.1.1
  have e19 : Mx 19 t = gI (G (15 + t)) := H.1.2.2.2.2.1 t ht
  simp (disch := omega) only [c, d, Option.bind_some, i10, i00, ↓reduceIte, am_in_nI, nI_clamp, li_15, nI_add, cx_waits H ht, a0_waits hA hG, e19]
  by_cases q : G (15 + t) = 0
  · rw [decide_eq_true q, if_pos q]
    simp only [bI_t, i10, ↓reduceIte]
    exact ⟨_, _, _, rfl, rfl, I⟩
  rw [decide_eq_false q, if_neg q]
  simp only [bI_f, i00, ↓reduceIte]
  obtain ⟨Mx1, Mm1, k1, k2, k3, k4, k5, k6, k7⟩ := keep_both I H hA hO
  obtain ⟨b, hb⟩ : ∃ b, G (15 + t) = b + 1 := ⟨G (15 + t) - 1, by omega⟩
  obtain ⟨hV, hbl, -⟩ := back_V H.2.1 ht hb
  obtain ⟨Mx2, x1, x2, x3⟩ := cx_comeBack k4 ht hb
  have y1 := ref_comesBack Mm1 0 hG (by omega) (show t < 6 by omega) (show b < 6 by omega) hb
  rw [atM_wr k5, nI_0] at y1
  rw [k1, k2, Option.bind_some, Option.bind_some, x1, y1, at_gn k5 (by omega)]
  have e : ∀ k, k < 15 → backG G t k = G k := fun k hk => by
    unfold backG
    rw [upN_ne (by omega), upN_ne (by omega), upN_ne (by omega)]
  refine ⟨_, _, _, rfl, rfl, k3.nw (sh := sh) (G := backG G t) (fun p hp => x3 p (by omega)) (fun j hj => by rw [wrM_ne _ _ _ (by omega)]) (fun j h1 h2 => by rw [wrM_out _ _ _ (by omega)]) (fun p h1 h2 => wrM_ne _ _ _ (by omega)) x2 (atM_of _ _ _) ⟨by rw [e 1 (by omega)]; exact hO.1, by rw [e 2 (by omega)]; exact hO.2⟩⟩
theorem ok_turn_Inv : ok_turn Inv := fun Mx Mm I => by
  unfold X7_turn X8_turn
  rcases hall_dec I with ⟨c, d⟩ | ⟨G, sh, H, hA, hO, c, d⟩
  · rw [c, d]; exact ⟨_, _, _, rfl, rfl, I⟩
  have hP := hx_P H
  have hG := H.2.1.1.1
  simp only [c, d, Option.bind_some, i10, i00, ↓reduceIte]
  obtain ⟨Mx1, Mm1, k1, k2, k3, k4, k5, k6, k7⟩ := keep_both I H hA hO
  obtain ⟨Mx2, a1, a2, a3⟩ := cx_turnBy (x := 1) (d := 1 + G 0) (e := 1) k4 (by omega) (by rw [Nat.add_mod_right, Nat.mod_eq_of_lt (by omega)]) (fm_1 ⟨hP.1, hP.2.1⟩ H.2.2)
  obtain ⟨-, te⟩ := turn_W (d := 1 + G 0) H.2.1.1
  have t1 : X8_turns 0 1 Mm1 = some (wrM Mm1 0 (turnL (1 + G 0) (G 1) G)) := by
    have := ref_turns Mm1 0 hG (by omega) hP.2.1 1 (1 + G 0) (fun w hw => by rw [li_1, nI_add, nI_add, Nat.add_assoc]) (by omega) (by omega)
    rwa [atM_wr k5] at this
  have hT := a2.2.1.1.1
  have o1 := cx_setOf a2 (g := 2) (by omega)
  have o2 := ref_onBelt Mm1 0 hT (by omega)
  rw [k1, k2, Option.bind_some, Option.bind_some, a1, t1, Option.bind_some, Option.bind_some, show X3_setOf 15 Mx2 2 = _ from o1, show X8_onBelt _ 0 = _ from o2, Option.bind_some, Option.bind_some, (btI_bits _ (hx_P a2).2.2).1, (btI_bits _ (hx_P a2).2.2).2]
  exact ⟨_, _, _, rfl, rfl, k3.nw (sh := _) (G := turnL (1 + G 0) (G 1) G) (fun p hp => a3 p (by omega)) (fun j hj => by rw [wrM_ne _ _ _ (by omega)]) (fun j h1 h2 => by rw [wrM_out _ _ _ (by omega)]) (fun p h1 h2 => wrM_ne _ _ _ (by omega)) a2 (atM_of _ _ _) ⟨by rw [te 1 (by omega)]; exact hO.1, by rw [te 2 (by omega)]; exact hO.2⟩⟩
