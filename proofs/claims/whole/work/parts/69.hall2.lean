/-! PURE: the tape read, by both -/
def g0 : Nat → Nat := fun k => if 33 ≤ k ∧ k < 39 then 20 else 0
theorem l98 : (98 : Int32) = nI 98 := Eq.symm (by decide)
theorem l59 : (59 : Int32) = nI 59 := Eq.symm (by decide)
theorem l44 : (44 : Int32) = nI 44 := Eq.symm (by decide)
theorem l1054 : (1054 : Int32) = nI 1054 := Eq.symm (by decide)
theorem m1056 : (1056 : Int32) = nI 1056 := Eq.symm (by decide)
theorem nz {e : Nat} (h1 : 1 ≤ e) (h3 : e ≤ 3) : ¬ nI e = 0 := nI_ne0 (by omega) (by omega)
section HL
variable {n : Nat} {B : Nat → Nat} {Mx Mm : Mem} {p : Nat}
theorem tkW.fx {M M' : Mem} (T : tkW n B M p) (e : M' 13 = M 13) (e14 : M' 14 = M 14) : tkW n B M' p := by
  obtain ⟨⟨t1, t2, t3, t4⟩, t5, t6, t7⟩ := T
  refine ⟨⟨t1, t2, by rw [e]; exact t3, fun i hi => by rw [e14]; exact t4 i hi⟩, by rw [e]; exact t5, by rw [e]; exact t6, by rw [e]; exact t7⟩
theorem tkS.fx {M M' : Mem} (T : tkS n B M p) (e : M' 13 = M 13) (e14 : M' 14 = M 14) : tkS n B M' p := by
  obtain ⟨⟨t1, t2, t3, t4⟩, t5, t6, t7, t8⟩ := T
  refine ⟨⟨t1, t2, by rw [e]; exact t3, fun i hi => by rw [e14]; exact t4 i hi⟩, by rw [e]; exact t5, by rw [e]; exact t6, by rw [e]; exact t7, fun z => by rw [e]; exact t8 z⟩
theorem law_both (T : tkS n B Mx p) (R : rdS n B Mm p) (hp : p ≤ n) (A : atM Mm 1053 g0) : rdFail Mx Mm (X6_readLaw 23 Mx) (X8_readsLaw Mm) ∨ ∃ q Mx' Mm' G, q ≤ n ∧ X6_readLaw 23 Mx = some (0, Mx') ∧ tkS n B Mx' q ∧ clF Mx' 23 G ∧ frG G ∧ G 1 = 0 ∧ X8_readsLaw Mm = some (1, Mm') ∧ rdS n B Mm' q ∧ atM Mm' 1053 G ∧ FX Mx Mx' ∧ FM Mm Mm' := by
  unfold X6_readLaw X8_readsLaw
  rw [l98, l59]
  rcases sign_both (c := 98) (Or.inl rfl) T.w R hp with ⟨a1, Mm1, a2, a3, a4, a5⟩ | ⟨hlt, Mx1, Mm1, a1, a2, a3, a4, a5, a6⟩
  · left
    rw [a1, a2]
    exact ⟨1, p, Mx, Mm1, by omega, by omega, rfl, T.2.1, rfl, a3, a4, FX.rf, a5.FM⟩
  rw [a1, a4, Option.bind_some, Option.bind_some]
  simp only [i10, ↓reduceIte]
  have R1 : rdS n B Mm1 (p + 1) := ⟨a6.tp R.1, a5⟩
  rcases num_both (lo := 4) (hi := 12) a2 R1 (by omega) (by omega) (by omega) with ⟨e, Mm2, he, b1, b2, b3, b4, b5⟩ | ⟨v, q, Mx2, Mm2, v1, v2, hq, b1, b2, b3, b4, b5, b6, b7, b8⟩
  · left
    rw [← li_4, ← li_12] at b1 b2
    rw [b1, b2, Option.bind_some, Option.bind_some]
    simp only [if_neg (nz (show 1 ≤ e by omega) (show e ≤ 3 by omega)), ↓reduceIte]
    exact ⟨e, p + 1, Mx1, Mm2, by omega, by omega, rfl, a2.2.1, rfl, b3, b4, a3.FX, a6.FM.tr b5.FM⟩
  rw [← li_4, ← li_12] at b1 b5
  rw [b1, b5, Option.bind_some, Option.bind_some]
  simp only [i10, ↓reduceIte]
  obtain ⟨Mx3, c1, c2, c3, c4⟩ := cx_begin Mx2 v
  rw [b3, c1, Option.bind_some, li_1053, am_in_nI (by omega) (by omega), if_pos rfl, nI_clamp (by omega), b7, am_let_eq]
  have A1 : atM (wr1 Mm2 0 (nI v)) 1053 (upN g0 0 v) := wr1_at (b8.at (a6.at A)) (by omega) (by omega)
  have eG : upN g0 0 v = (fun k => if k = 0 then v else if 33 ≤ k ∧ k < 39 then 20 else 0) := by
    funext k
    unfold upN g0
    rfl
  rw [eG] at A1
  have R3 : rdS n B (wr1 Mm2 0 (nI v)) q := (wr1_F Mm2 0 (nI v)).rdS (b8.tp R1.1) (by rw [wr1_0]; exact b6)
  have T3 : tkW n B Mx3 q := b2.fx c4 (c3 14 (by omega) (by omega))
  have FG : frG (fun k => if k = 0 then v else if 33 ≤ k ∧ k < 39 then 20 else 0) := by
    refine ⟨v1, v2, Nat.zero_le _, rfl, fun t ht => absurd ht (Nat.not_lt_zero _), fun t ht => ⟨?_, ?_, ?_⟩, fun k => ?_⟩
    · show (if _ then _ else _) = _
      rw [if_neg (by omega), if_neg (by omega)]
    · show (if _ then _ else _) = _
      rw [if_neg (by omega), if_neg (by omega)]
    · show (if _ then _ else _) = _
      rw [if_neg (by omega), if_pos (by omega)]
    · show (if _ then _ else _) < _
      split
      · omega
      · split <;> omega
  have eW : mset Mm2 1 (upd (Mm2 1) 1053 (nI v)) = wr1 Mm2 0 (nI v) := rfl
  rw [eW]
  have fX : FX Mx Mx3 := (a3.FX.tr b4.FX).tr c3
  have fM : FM Mm (wr1 Mm2 0 (nI v)) := (a6.FM.tr b8.FM).tr (wr1_F _ _ _)
  rcases sign_both (c := 59) (by omega) T3 R3 hq with ⟨d1, Mm4, d2, d3, d4, d5⟩ | ⟨hlt3, Mx4, Mm4, d1, d2, d3, d4, d5, d6⟩
  · left
    rw [d1, d2]
    exact ⟨1, q, Mx3, Mm4, by omega, by omega, rfl, T3.2.1, rfl, d3, d4, fX, fM.tr d5.FM⟩
  · right
    rw [d1, d4]
    refine ⟨q + 1, Mx4, Mm4, _, by omega, rfl, d2, ?_, FG, rfl, rfl, d6.FM.rdS R3.1 d5, d6.at A1, fX.tr d3.FX, fM.tr d6.FM⟩
    obtain ⟨e1, e2, e3⟩ := c2
    refine ⟨by rw [d3 23 (by omega)]; exact e1, fun t ht => absurd ht (Nat.not_lt_zero _), by rw [d3 30 (by omega)]; exact e3⟩
theorem clF.c {M M' : Mem} {G : Nat → Nat} (C : clF M 23 G) (f : ∀ q, 23 ≤ q → q ≤ 30 → M' q = M q) : clF M' 23 G := by
  unfold clF at C ⊢
  rw [f 23 (by omega) (by omega), f 24 (by omega) (by omega), f 25 (by omega) (by omega), f 26 (by omega) (by omega), f 27 (by omega) (by omega), f 28 (by omega) (by omega), f 29 (by omega) (by omega), f 30 (by omega) (by omega)]
  exact C
theorem trav_both {G : Nat → Nat} (T : tkS n B Mx p) (R : rdS n B Mm p) (hp : p ≤ n) (C : clF Mx 23 G) (F : frG G) (A : atM Mm 1053 G) (hk : kdP n B p ≠ 0) : rdFail Mx Mm (X6_readTraveller 23 Mx) (X8_readsTraveller Mm) ∨ ∃ q Mx' Mm' G', q ≤ n ∧ X6_readTraveller 23 Mx = some (0, Mx') ∧ tkS n B Mx' q ∧ clF Mx' 23 G' ∧ frG G' ∧ G' 1 = G 1 + 1 ∧ G 1 < 6 ∧ X8_readsTraveller Mm = some (1, Mm') ∧ rdS n B Mm' q ∧ atM Mm' 1053 G' ∧ FX Mx Mx' ∧ FM Mm Mm' := by
  obtain ⟨k1, k2, k3, k4, k5⟩ := tv_kd hk
  have hn := T.1.1
  have k6 : kdP n B p ≤ 5 := by rw [k5]; exact kdN_le _
  have hB := T.1.2.1 p k1
  have c1 := C.1.2.1
  have a1 : Mm 1 1054 = nI (G 1) := by rw [A 1 (by omega), cI_n (by omega)]
  have f3 := F.2.2.1
  rw [cx_sort T.w, show nI (kdP n B p) - 1 = nI (kdP n B p - 1) from by rw [li_1, pk_sub (by omega)]]
  unfold X6_readTraveller_22 X8_readsTraveller
  rw [if_neg (nI_pos (by omega)), c1, l1054, am_in_nI (by omega) (by omega), if_pos rfl, nI_clamp (by omega), a1, li_6]
  simp only [nI_ltI (show G 1 < 2 ^ 31 by omega) (show 6 < 2 ^ 31 by omega), nI_eq (show G 1 < 2 ^ 31 by omega) (show 6 < 2 ^ 31 by omega)]
  by_cases h6 : G 1 = 6
  · left
    rw [if_neg (by omega), if_pos h6]
    exact ⟨3, p, Mx, mset Mm 0 (upd (Mm 0) 13 3), by omega, by omega, rfl, T.2.1, rfl, by rw [mset_self, upd_same]; rfl, by rw [mset_self, upd_ne (by omega)]; exact R.2, FX.rf, fun q hq => mset_ne _ _ (by omega), fun j h1 h2 h3 => by rw [mset_self, upd_ne h2], fun j _ => by rw [mset_ne _ _ (by omega)]⟩
  have h6' : G 1 < 6 := by omega
  rw [if_pos h6', if_neg h6]
  obtain ⟨Mx1, x1, x2, x3⟩ := cx_next T.1 T.2.2.2.1 (by rw [k3]; omega)
  rw [k3] at x2
  have x3 : fr13 Mx Mx1 := x3
  rw [x1, Option.bind_some, R.2, am_in_nI (by omega) (by omega), if_pos rfl, nI_clamp (by omega), R.1.2.2.2 p k1, kd_256 _ hB, Option.bind_some, ← k5, m1056, nI_add, am_in_nI (by omega) (by omega), if_pos rfl, nI_clamp (by omega), am_let_eq, am_let_eq]
  have eW : mset Mm 1 (upd (Mm 1) (1056 + G 1) (nI (kdP n B p))) = wr1 Mm (3 + G 1) (nI (kdP n B p)) := by unfold wr1; rw [show 1053 + (3 + G 1) = 1056 + G 1 by omega]
  rw [eW, li_1053, am_in_nI (by omega) (by omega), if_pos rfl, nI_clamp (by omega), wr1_0, R.2, nI_1]
  have A2 : atM (wr1 Mm (3 + G 1) (nI (kdP n B p))) 1053 (upN G (3 + G 1) (kdP n B p)) := wr1_at A (by omega) (by omega)
  have F2 : FM Mm (wr1 Mm (3 + G 1) (nI (kdP n B p))) := wr1_F _ _ _
  have e20 : wr1 Mm (3 + G 1) (nI (kdP n B p)) 0 = Mm 0 := wr1_0 _ _ _
  generalize wr1 Mm (3 + G 1) (nI (kdP n B p)) = Mm2 at A2 F2 e20 ⊢
  have F3 : fr0 Mm2 (mset Mm2 0 (upd (Mm 0) 12 (nI (p + 1)))) := ⟨fun q hq => mset_ne _ _ hq, fun j h1 h2 h3 => by rw [mset_self, upd_ne h1, e20]⟩
  have e312 : mset Mm2 0 (upd (Mm 0) 12 (nI (p + 1))) 0 12 = nI (p + 1) := by rw [mset_self, upd_same]
  generalize mset Mm2 0 (upd (Mm 0) 12 (nI (p + 1))) = Mm3 at F3 e312 ⊢
  have A3 := F3.at A2
  have FM3 : FM Mm Mm3 := F2.tr F3.FM
  have R3 : rdS n B Mm3 (p + 1) := FM3.rdS R.1 e312
  have e30 : Mm3 1 1053 = nI (G 0) := by rw [A3 0 (by omega), cI_n (by omega), upN_ne (by omega)]
  have P0 : 4 ≤ G 0 ∧ G 0 ≤ 12 := ⟨F.1, F.2.1⟩
  have e10 : Mx1 23 0 = nI (G 0) := by rw [x3 23 (by omega)]; exact C.1.1
  rw [e30, e10, show nI (G 0) - 1 = nI (G 0 - 1) from by rw [li_1, pk_sub (by omega)]]
  rcases num_both (lo := 0) (hi := G 0 - 1) x2 R3 (by omega) (by omega) (by omega) with ⟨e, Mm4, he, b1, b2, b3, b4, b5⟩ | ⟨v, q, Mx2, Mm4, v1, v2, hq, b1, b2, b3, b4, b5, b6, b7, b8⟩
  · left
    have hz := nz (show 1 ≤ e by omega) (show e ≤ 3 by omega)
    rw [← li_0] at b1 b2
    rw [b1, b2, Option.bind_some, Option.bind_some]
    unfold X6_readTraveller_84
    simp only [if_neg hz, ↓reduceIte]
    exact ⟨e, p + 1, Mx1, Mm4, by omega, by omega, rfl, x2.2.1, rfl, b3, b4, x3.FX, FM3.tr b5.FM⟩
  rw [← li_0] at b1 b5
  rw [b1, b5, Option.bind_some, Option.bind_some]
  simp only [i10, ↓reduceIte]
  rw [l1062, nI_add, am_in_nI (by omega) (by omega), if_pos rfl, nI_clamp (by omega), b7, am_let_eq]
  have eW2 : mset Mm4 1 (upd (Mm4 1) (1062 + G 1) (nI v)) = wr1 Mm4 (9 + G 1) (nI v) := by unfold wr1; rw [show 1053 + (9 + G 1) = 1062 + G 1 by omega]
  rw [eW2]
  have A5 : atM (wr1 Mm4 (9 + G 1) (nI v)) 1053 (upN (upN G (3 + G 1) (kdP n B p)) (9 + G 1) v) := wr1_at (b8.at A3) (by omega) (by omega)
  have FM5 : FM Mm (wr1 Mm4 (9 + G 1) (nI v)) := (FM3.tr b8.FM).tr (wr1_F _ _ _)
  have R5 : rdS n B (wr1 Mm4 (9 + G 1) (nI v)) q := FM5.rdS R.1 (by rw [wr1_0]; exact b6)
  generalize wr1 Mm4 (9 + G 1) (nI v) = Mm5 at A5 FM5 R5 ⊢
  have fx2 : FX Mx Mx2 := x3.FX.tr b4.FX
  rw [l44]
  rcases sign_both (c := 44) (by omega) b2 R5 hq with ⟨d1, Mm6, d2, d3, d4, d5⟩ | ⟨hlt3, Mx3, Mm6, d1, d2, d3, d4, d5, d6⟩
  · left
    rw [d1, d2, Option.bind_some, Option.bind_some]
    unfold X6_readTraveller_84
    simp only [i10, ↓reduceIte]
    exact ⟨1, q, Mx2, Mm6, by omega, by omega, rfl, b2.2.1, rfl, d3, d4, fx2, FM5.tr d5.FM⟩
  rw [d1, d4, Option.bind_some, Option.bind_some]
  simp only [i10, ↓reduceIte]
  have FM6 := FM5.tr d6.FM
  have R6 : rdS n B Mm6 (q + 1) := FM6.rdS R.1 d5
  have fx3 : FX Mx Mx3 := fx2.tr d3.FX
  rw [li_3]
  rcases num_both (lo := 0) (hi := 3) d2 R6 (by omega) (by omega) (by omega) with ⟨e, Mm7, he, g1, g2, g3, g4, g5⟩ | ⟨w, r, Mx4, Mm7, w1, w2, hr, g1, g2, g3, g4, g5, g6, g7, g8⟩
  · left
    have hz := nz (show 1 ≤ e by omega) (show e ≤ 3 by omega)
    rw [← li_0] at g1 g2
    rw [g1, g2, Option.bind_some, Option.bind_some]
    unfold X6_readTraveller_84
    simp only [if_neg hz, ↓reduceIte]
    exact ⟨e, q + 1, Mx3, Mm7, by omega, by omega, rfl, d2.2.1, rfl, g3, g4, fx3, FM6.tr g5.FM⟩
  rw [← li_0] at g1 g5
  rw [g1, g5, Option.bind_some, Option.bind_some]
  simp only [i10, ↓reduceIte]
  rw [l1080, nI_add, am_in_nI (by omega) (by omega), if_pos rfl, nI_clamp (by omega), g7, am_let_eq, am_let_eq]
  have eW3 : mset Mm7 1 (upd (Mm7 1) (1080 + G 1) (nI w)) = wr1 Mm7 (27 + G 1) (nI w) := by unfold wr1; rw [show 1053 + (27 + G 1) = 1080 + G 1 by omega]
  rw [eW3]
  have A8 : atM (wr1 Mm7 (27 + G 1) (nI w)) 1053 (upN (upN (upN G (3 + G 1) (kdP n B p)) (9 + G 1) v) (27 + G 1) w) := wr1_at (g8.at (d6.at A5)) (by omega) (by omega)
  have FM8 : FM Mm (wr1 Mm7 (27 + G 1) (nI w)) := (FM6.tr g8.FM).tr (wr1_F _ _ _)
  have e80 : wr1 Mm7 (27 + G 1) (nI w) 0 12 = nI r := by rw [wr1_0]; exact g6
  generalize wr1 Mm7 (27 + G 1) (nI w) = Mm8 at A8 FM8 e80 ⊢
  have e81 : Mm8 1 1054 = nI (G 1) := by rw [A8 1 (by omega), cI_n (by omega), upN_ne (by omega), upN_ne (by omega), upN_ne (by omega)]
  rw [e81, nI_1]
  have eW4 : mset Mm8 1 (upd (Mm8 1) 1054 (nI (G 1 + 1))) = wr1 Mm8 1 (nI (G 1 + 1)) := rfl
  rw [eW4]
  have A9 : atM (wr1 Mm8 1 (nI (G 1 + 1))) 1053 (jnG G (kdP n B p) v w) := wr1_at A8 (by omega) (by omega)
  have FM9 : FM Mm (wr1 Mm8 1 (nI (G 1 + 1))) := FM8.tr (wr1_F _ _ _)
  have R9 : rdS n B (wr1 Mm8 1 (nI (G 1 + 1))) r := FM9.rdS R.1 (by rw [wr1_0]; exact e80)
  generalize wr1 Mm8 1 (nI (G 1 + 1)) = Mm9 at A9 FM9 R9 ⊢
  have fx4 : FX Mx Mx4 := fx3.tr g4.FX
  unfold X6_readTraveller_84
  rw [l59]
  simp only [↓reduceIte]
  rcases sign_both (c := 59) (by omega) g2 R9 hr with ⟨j1, Mm10, j2, j3, j4, j5⟩ | ⟨hlt4, Mx5, Mm10, j1, j2, j3, j4, j5, j6⟩
  · left
    rw [j1, j2]
    exact ⟨1, r, Mx4, Mm10, by omega, by omega, rfl, g2.2.1, rfl, j3, j4, fx4, FM9.tr j5.FM⟩
  · right
    rw [j1, j4, Option.bind_some, Option.bind_some]
    simp only [↓reduceIte]
    have C5 : clF Mx5 23 G := C.c (fun z h1 h2 => by rw [j3 z (by omega), g4 z (by omega), d3 z (by omega), b4 z (by omega), x3 z (by omega)])
    obtain ⟨Mx6, m1, m2, m3, m4⟩ := cx_join C5 h6' (kdP n B p) v w
    rw [nI_1, show kdP n B p - 1 + 1 = kdP n B p by omega, b3, g3, m1]
    exact ⟨r + 1, Mx6, Mm10, jnG G (kdP n B p) v w, by omega, rfl, j2.fx m4 (m3 14 (by omega) (by omega)), m2, jn_fr F h6' ⟨by omega, k6⟩ (by omega) w2, upN_same _ _ _, h6', rfl, j6.FM.rdS R9.1 j5, j6.at A9, (fx4.tr j3.FX).tr m3, FM9.tr j6.FM⟩
end HL
