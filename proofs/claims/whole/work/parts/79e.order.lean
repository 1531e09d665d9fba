/-! PURE: order -/
theorem Inv.od {Mx Mm Mx' Mm' : Mem} (I : Inv Mx Mm) (hx : ∀ q, (q < 23 ∨ 30 < q) → q ≠ 34 → q ≠ 35 → q ≠ 36 → q ≠ 37 → q ≠ 38 → q ≠ 39 → Mx' q = Mx q) (ho : ordR Mx') (hm : odM Mm Mm') (hr : rkId Mm') : Inv Mx' Mm' := by
  have gx : ∀ q, (q < 23 ∨ 30 < q) → (q < 34 ∨ 39 < q) → Mx' q = Mx q := fun q a b => hx q a (by omega) (by omega) (by omega) (by omega) (by omega) (by omega)
  obtain ⟨m1, m2, m3, m4⟩ := I.misc
  refine ⟨rows_cg I.rows (fun p a b => gx p (by omega) (by omega)) (fun p a b => hm.2.2.2 p (by omega) (by omega)), tape_cg I.tape (by rw [gx 13 (by omega) (by omega)]) (gx 14 (by omega) (by omega)) (hm.1 7 (by omega)) (hm.2.2.2 6 (by omega) (by omega)), trce_cg I.trce (by rw [gx 40 (by omega) (by omega)]) (gx 41 (by omega) (by omega)) (hm.1 11 (by omega)) (hm.2.2.2 7 (by omega) (by omega)), hall_cg I.hall (fun p a b => gx p (by omega) (by omega)) (fun j hj => hm.2.2.1 j (by omega)), past_cg I.past (gx 31 (by omega) (by omega)) (gx 32 (by omega) (by omega)) (hm.1 1 (by omega)) (fun j a b => hm.2.2.1 j (by omega)), img_cg I.img (by rw [gx 0 (by omega) (by omega)]) (gx 42 (by omega) (by omega)) (hm.2.2.2 2 (by omega) (by omega)) (fun j a b => hm.2.2.1 j (by omega)), ho, ?_, ?_, hr, ?_⟩
  · rw [gx 0 (by omega) (by omega), hm.1 8 (by omega)]; exact m1
  · rw [gx 0 (by omega) (by omega), hm.1 9 (by omega)]; exact m2
  · rw [hm.2.1]; exact m4
theorem cx_search {M : Mem} {sh : Nat} {G : Nat → Nat} {n : Nat} (H : HX M 15 0 sh G) (hO : hOK G) (hn : 1 ≤ n ∧ n ≤ 40) (ho : ordR M) : ∃ M' w f, bestL n G = some (w, f) ∧ X4_search 15 (nI n) M = some M' ∧ M' 34 8 = nI w.1 ∧ M' 34 6 = nI f.length ∧ f.length ≤ 6 ∧ (∀ i, i < f.length → M' 39 i = nI (f.getD i 0)) ∧ ordR M' ∧ (∀ q, (q < 23 ∨ 30 < q) → q ≠ 34 → q ≠ 35 → q ≠ 36 → q ≠ 37 → q ≠ 38 → q ≠ 39 → M' q = M q) ∧ HX M' 15 0 sh G := by
  have h2 := hO.2
  unfold X4_search
  rw [li_0, cx_saveTo M 15 36 40 0 (by omega) (by omega) (by omega), Option.bind_some]
  have s1 := svC_hx H 0 (M 36)
  have g1 : ∀ q, q ≠ 36 → mset M 36 (fun j => if 0 ≤ j ∧ j < 0 + 40 then svC M 15 (j - 0) else M 36 j) q = M q := fun q hq => mset_ne _ _ hq
  have g36 : mset M 36 (fun j => if 0 ≤ j ∧ j < 0 + 40 then svC M 15 (j - 0) else M 36 j) 36 = (fun j => if 0 ≤ j ∧ j < 0 + 40 then svC M 15 (j - 0) else M 36 j) := mset_self _ _ _
  generalize mset M 36 (fun j => if 0 ≤ j ∧ j < 0 + 40 then svC M 15 (j - 0) else M 36 j) = M1 at g1 g36 ⊢
  rw [← g36] at s1
  have H1 : HX M1 15 0 sh G := hx_frm H (fun z _ _ => g1 z (by omega))
  have o1 : ordR M1 := ord_cg ho (g1 34 (by omega)) (g1 37 (by omega)) (g1 39 (by omega))
  have anew : ∃ M' w f, bestL n G = some (w, f) ∧ X4_search_25 15 (nI n) M1 = some M' ∧ M' 34 8 = nI w.1 ∧ M' 34 6 = nI f.length ∧ f.length ≤ 6 ∧ (∀ i, i < f.length → M' 39 i = nI (f.getD i 0)) ∧ ordR M' ∧ (∀ q, (q < 23 ∨ 30 < q) → q ≠ 34 → q ≠ 35 → q ≠ 36 → q ≠ 37 → q ≠ 38 → q ≠ 39 → M' q = M q) ∧ HX M' 15 0 sh G := by
    obtain ⟨M', w, f, a1, a2, a3, a4, ⟨b1, b2, b3, b4, b5, b6, b7⟩, a6⟩ := cx_search25 H1 hO hn s1
    refine ⟨M', w, f, a1, a2, b1, b3, b4, b5, Or.inr ⟨n, G, sh, w, f, hn.1, hn.2, a3, ?_, hO, a1, b1, b3, b4, b5⟩, fun q h1 h2 h3 h4 h5 h6 h7 => by rw [a6 q h1 h2 h3 h5 h6 h7, g1 q h4], hx_frm H1 (fun z z1 z2 => a6 z (by omega) (by omega) (by omega) (by omega) (by omega) (by omega))⟩
    rw [a4]
    exact svX_cg s1 (fun j _ hj => if_pos (by omega))
  by_cases c : nI n = M1 34 7
  · rw [if_pos c]
    have key := srch_loop (M := M1) 40 0 am_fuel rfl (by omega) (by show 40 < 2000; omega)
    have key : (X4_isSearched M1 = some 1 ∧ ∀ j, 0 ≤ j → j < 40 → M1 36 j = M1 37 j) ∨ X4_isSearched M1 = some 0 := key
    rcases key with ⟨k1, k2⟩ | k1
    · rw [k1, Option.bind_some, if_neg (by decide)]
      rcases o1 with o1 | ⟨n', G0, sh0, w, f, c1, c2, c3, c4, c5, c6, c7, c8, c9, c10⟩
      · rw [o1] at c
        exact absurd c (nI_ne0 (by omega) (by omega))
      · rw [c3, nI_eq (by omega) (by omega)] at c
        subst c
        have c52 := c5.2
        have eq := eq_sv c4 s1 (fun j hj => k2 j (by omega) hj)
        have eb := eq_best c4.2.2.1 H.2.1 (n := n) (by omega) eq
        exact ⟨M1, w, f, by rw [eb]; exact c6, rfl, c7, c8, c9, c10, ord_cg ho (g1 34 (by omega)) (g1 37 (by omega)) (g1 39 (by omega)), fun q _ _ _ h _ _ _ => g1 q h, H1⟩
    · rw [k1, Option.bind_some, if_pos (show (0 : Int32) = nI 0 from li_0)]
      exact anew
  · rw [if_neg c]
    exact anew
theorem ok_order_Inv : ok_order Inv := fun Mx Mm x y I => by
  unfold X7_order X8_order
  rcases hall_dec I with ⟨a1, a2⟩ | ⟨G, sh, H, hA, hO, a1, a2⟩
  · rw [a1, a2, Option.bind_some, Option.bind_some, if_neg (show ¬ (1 : Int32) = 0 by decide), if_pos rfl]
    exact ⟨_, Mx, Mm, rfl, rfl, I⟩
  rw [a1, a2, Option.bind_some, Option.bind_some, if_pos rfl, if_neg (show ¬ (1 : Int32) = 0 by decide)]
  have hP := hx_P H
  rcases rng x 1 40 (by omega) (by omega) with ⟨b1, b2⟩ | ⟨n, n1, n2, rfl, b2⟩
  · rw [b2 1 40 (by decide) (by decide), Option.bind_some, if_pos rfl]
    refine ⟨-1000001, Mx, Mm, ?_, rfl, I⟩
    rw [← li_1, ← li_40] at b1
    by_cases c : x < 1
    · rw [if_pos c]
    · rw [if_neg c, if_pos (b1.resolve_left c)]
  rw [b2 1 40 (by decide) (by decide), Option.bind_some, if_neg (show ¬ (1 : Int32) = 0 by decide), if_neg (show ¬ nI n < 1 from nI_nlt (b := 1) (by omega) (by omega)), if_neg (show ¬ (40 : Int32) < nI n by rw [li_40]; exact nI_nlt (by omega) (by omega))]
  by_cases c : y < -1
  · rw [if_pos c, if_pos c]
    exact ⟨_, Mx, Mm, rfl, rfl, I⟩
  rw [if_neg c, if_neg c, H.1.1.2.1]
  obtain ⟨w, f, e1, e2⟩ := ref_order hA H.2.1 hO n2 I.misc.2.2.2 I.misc.2.2.1
  obtain ⟨Mm', d1, d2, d3, d4⟩ := e2 y
  obtain ⟨Mx', w', f', g1, g2, g3, g4, g5, g6, g7, g8, g9⟩ := cx_search H hO ⟨n1, n2⟩ I.ord
  rw [e1] at g1
  cases g1
  have I' : Inv Mx' Mm' := I.od g8 g7 d1 d2
  by_cases c0 : y < 0
  · have ey : y = -1 := by
      rw [Int32.lt_iff_toInt_lt] at c c0
      have h1 : (-1 : Int32).toInt = -1 := by decide
      have h0 : (0 : Int32).toInt = 0 := by decide
      exact Int32.toInt_inj.mp (by omega)
    rw [d3 ey, if_pos (show y < nI (G 1) by rw [ey]; exact m1_lt (by omega)), g2, Option.bind_some, if_pos c0]
    unfold X4_mostOwn
    rw [Option.bind_some]
    exact ⟨nI w.1, Mx', Mm', by rw [g3], rfl, I'⟩
  · obtain ⟨k, hk, ek⟩ := nI_of c0
    rw [d4 k ek hk, ek]
    simp only [nI_ltI hk (show G 1 < 2 ^ 31 by omega)]
    by_cases ck : k < G 1
    · rw [if_pos ck, if_pos ck, g2, Option.bind_some, if_neg (by rw [← ek]; exact c0)]
      have hO2 := hO.2
      rw [cx_bag g9 (n := n) (by omega) e1 g4 g5 g6 ck, Option.bind_some]
      exact ⟨_, Mx', Mm', rfl, rfl, I'⟩
    · rw [if_neg ck, if_neg ck]
      exact ⟨_, Mx, Mm', rfl, rfl, I.od (fun _ _ _ _ _ _ _ _ => rfl) I.ord d1 d2⟩
