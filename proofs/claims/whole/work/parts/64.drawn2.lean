/-! PURE: days by draws, the loop -/
def dG (G : Nat → Nat) (v : Nat) : Nat → Nat := if G (15 + v % G 1) = 0 then (if v % 3 = 0 then upN G (9 + v % G 1) (v % G 0) else G) else backG G (v % G 1)
theorem dG_k {G : Nat → Nat} {v k : Nat} (hn : 1 ≤ G 1 ∧ G 1 ≤ 6) (hk : k < 9) : dG G v k = G k := by
  have := Nat.mod_lt v (show 0 < G 1 by omega)
  unfold dG
  split
  · split
    · rw [upN_ne (by omega)]
    · rfl
  · unfold backG
    rw [upN_ne (by omega), upN_ne (by omega), upN_ne (by omega)]
section DR
variable {Mx Mm : Mem}
theorem dr_x {M : Mem} {sh : Nat} {G : Nat → Nat} (H : HX M 23 0 sh G) (h1 : 1 ≤ G 1) {v : Nat} (hv : v < 2147483647) : ∃ M', X2_drawOne (lI v) M = some M' ∧ HX M' 23 0 sh (dG G v) ∧ frm M M' 23 := by
  have hP := hx_P H
  have hm := Nat.mod_lt v (show 0 < G 1 by omega)
  have hp := Nat.mod_lt v (show 0 < G 0 by omega)
  have e0 : M 23 0 = nI (G 0) := H.1.1.1
  have e1 : M 23 1 = nI (G 1) := H.1.1.2.1
  have l3 : (3 : Int64) = lI 3 := rfl
  have z1 : ¬ lI (G 1) = 0 := by rw [lI_0 (by omega)]; omega
  have z0 : ¬ lI (G 0) = 0 := by rw [lI_0 (by omega)]; omega
  have z3 : ¬ lI 3 = 0 := by rw [lI_0 (by omega)]; omega
  unfold X2_drawOne dG
  rw [e0, e1, if_neg (show ¬ nI (G 1) < (1 : Int32) from nI_nlt (b := 1) h1 (by omega)), if_neg (show ¬ nI (G 0) < (1 : Int32) from nI_nlt (b := 1) (by omega) (by omega)), nI_64 (by omega), nI_64 (by omega), if_neg z1, lI_mod (by omega) (by omega), lI_32 (by omega), cx_has (G := G) H.1.1.2.1 (by omega), nI_toInt (by omega), decide_eq_true (by omega), Option.bind_some, if_neg (show ¬ bI true = 0 by decide), cx_waits H hm, Option.bind_some, l3, if_neg z3, lI_mod (by omega) (by omega), if_neg z0, lI_mod (by omega) (by omega), lI_32 (by omega)]
  simp (disch := omega) only [lg_0, am_in_nI, nI_clamp, ↓reduceIte, am_let_eq]
  by_cases c : G (15 + v % G 1) = 0
  · rw [decide_eq_true c, if_neg (show ¬ bI true = 0 by decide), if_pos c]
    by_cases c3 : v % 3 = 0
    · rw [if_pos c3, if_pos c3]
      exact ⟨_, rfl, hx_stand H hm hp, frm.rf.st _ (by omega)⟩
    · rw [if_neg c3, if_neg c3]
      exact ⟨M, rfl, H, frm.rf⟩
  · rw [decide_eq_false c, if_pos (show bI false = 0 from rfl), if_neg c]
    obtain ⟨b, hb⟩ : ∃ b, G (15 + v % G 1) = b + 1 := ⟨G (15 + v % G 1) - 1, by omega⟩
    obtain ⟨M', a1, a2, a3⟩ := cx_comeBack H hm hb
    rw [a1]
    exact ⟨M', rfl, a2, a3⟩
/-- a draw and a tick, in the reference -/
theorem dr_m {M : Mem} {G : Nat → Nat} (hV : gV G) (hA : atM M 1053 G) (h1 : 1 ≤ G 1) (e0 : M 1 0 = nI (G 0)) (e1 : M 1 1 = nI (G 1)) {v : Nat} (hv : v < 2147483647) (f : Nat) (x1 x3 x6 : Int32) (y : Int64) (hy : (y * 16807) - (y * 16807) / 2147483647 * 2147483647 = lI v) (hlt : x6 < x1) : ∃ M2, X8_drawn_68 (f + 1) x1 x3 y x6 M = (Option.bind (X8_ticksOf 1053 1 M2) fun M5 => X8_drawn_68 f x1 x3 (lI v) (x6 + 1) M5) ∧ atM M2 1053 (dG G v) ∧ tfM M M2 ∧ M2 0 = M 0 := by
  have h6 := hV.1.1.2
  obtain ⟨p4, p12, -⟩ := hV.1.2.1
  have hm := Nat.mod_lt v (show 0 < G 1 by omega)
  have hp := Nat.mod_lt v (show 0 < G 0 by omega)
  have l3 : (3 : Int64) = lI 3 := rfl
  have z1 : ¬ lI (G 1) = 0 := by rw [lI_0 (by omega)]; omega
  have z0 : ¬ lI (G 0) = 0 := by rw [lI_0 (by omega)]; omega
  have z3 : ¬ lI 3 = 0 := by rw [lI_0 (by omega)]; omega
  have wt := ref_waits M 1053 hV.1.1 (show v % G 1 < 6 by omega) (by omega)
  rw [atM_wr hA] at wt
  rw [X8_drawn_68, if_pos hlt, if_neg (show ¬ (2147483647 : Int64) = 0 by decide), hy, am_let_eq, if_pos (show am_in (1 : Int32) 1092 = true by decide), show (1 : Int32).toNatClampNeg = 1 by decide, e1, nI_64 (by omega), if_neg z1, lI_mod (by omega) (by omega), lI_32 (by omega), am_let_eq, show X8_waits M 1053 (nI (v % G 1)) = _ from wt, Option.bind_some, l3, if_neg z3, lI_mod (by omega) (by omega), if_pos (show am_in (0 : Int32) 1092 = true by decide), show (0 : Int32).toNatClampNeg = 0 by decide, e0, nI_64 (by omega), if_neg z0, lI_mod (by omega) (by omega), lI_32 (by omega)]
  simp (disch := omega) only [lg_0, l1062, nI_add, am_in_nI, nI_clamp, ↓reduceIte, am_let_eq]
  unfold dG
  by_cases c : G (15 + v % G 1) = 0
  · rw [if_pos c, if_neg (show ¬ (1 : Int32) = 0 by decide), if_pos c]
    by_cases c3 : v % 3 = 0
    · rw [if_pos c3, if_pos c3]
      refine ⟨_, rfl, ?_, ⟨fun j hj => by rw [mset_ne _ _ (by omega)], fun j hj => by rw [mset_self, upd_ne (by omega)], fun q h1 h2 => mset_ne _ _ (by omega)⟩, mset_ne _ _ (by omega)⟩
      have := wrM_ssd M 1053 G (v % G 0) (show v % G 1 < 6 by omega)
      rw [atM_wr hA] at this
      rw [show 1062 + v % G 1 = 1053 + 9 + v % G 1 by omega, this]
      exact atM_of _ _ _
    · rw [if_neg c3, if_neg c3]
      exact ⟨M, rfl, hA, tfM.rf, rfl⟩
  · rw [if_neg c, if_pos rfl, if_neg c]
    obtain ⟨b, hb⟩ : ∃ b, G (15 + v % G 1) = b + 1 := ⟨G (15 + v % G 1) - 1, by omega⟩
    obtain ⟨-, hbl, -⟩ := back_V hV hm hb
    have := ref_comesBack M 1053 hV.1.1 (by omega) (show v % G 1 < 6 by omega) (show b < 6 by omega) hb
    rw [atM_wr hA] at this
    rw [show X8_comesBack 1053 (nI (v % G 1)) M = _ from this, Option.bind_some]
    exact ⟨_, rfl, atM_of _ _ _, tfM.wr _ _, wrM_ne _ _ _ (by omega)⟩
theorem drawn_loop (I : Inv Mx Mm) {G0 : Nat → Nat} (h00 : Mm 1 0 = nI (G0 0)) (h01 : Mm 1 1 = nI (G0 1)) (hn1 : 1 ≤ G0 1) {n w : Nat} (hn : n ≤ 60) (hw : w < 2) : ∀ (d k f y : Nat) (W Wr : Int32) (G : Nat → Nat) (sh : Nat) (Mx1 Mm1 : Mem), n - k = d → k ≤ n → d < f → y < 2147483647 → frm Mx Mx1 23 → tfM Mm Mm1 → Mm1 0 16 = 0 → HX Mx1 23 0 sh G → atM Mm1 1053 G → G 0 = G0 0 → G 1 = G0 1 → G 2 + d < 1400 → Mm1 0 17 = W → Mm1 0 18 = Wr → ∃ r Mx2 Mm2, X2_goneInDays_24 f (nI n) (nI w) (lI y) W Wr (nI k) Mx1 = some (r, Mx2) ∧ X8_drawn_68 f (nI n) (nI w) (lI y) (nI k) Mm1 = some (r, Mm2) ∧ Inv Mx2 Mm2
  | 0, k, 0, _, _, _, _, _, _, _, _, _, hf, _, _, _, _, _, _, _, _, _, _, _ => absurd hf (Nat.not_lt_zero _)
  | 0, k, f + 1, y, W, Wr, G, sh, Mx1, Mm1, hd, hk, _, _, hx, hm, h0, H, hA, _, _, _, hW, hWr => by
    rw [X2_goneInDays_24, X8_drawn_68, if_neg (nI_nlt (by omega) (by omega)), if_neg (nI_nlt (by omega) (by omega)), hW, hWr]
    have II := I.ft hx hm h0
    rcases (show w = 0 ∨ w = 1 by omega) with rfl | rfl
    · exact ⟨_, _, _, rfl, rfl, II⟩
    · exact ⟨_, _, _, rfl, rfl, II⟩
  | d + 1, k, 0, _, _, _, _, _, _, _, _, _, hf, _, _, _, _, _, _, _, _, _, _, _ => absurd hf (Nat.not_lt_zero _)
  | d + 1, k, f + 1, y, W, Wr, G, sh, Mx1, Mm1, hd, hk, hf, hy, hx, hm, h0, H, hA, g0, g1, h2, hW, hWr => by
    have hP := hx_P H
    have hv : y * 16807 % 2147483647 < 2147483647 := Nat.mod_lt _ (by omega)
    have ey : (lI y * 16807) - (lI y * 16807) / 2147483647 * 2147483647 = lI (y * 16807 % 2147483647) := by
      rw [show (16807 : Int64) = lI 16807 from rfl, show (2147483647 : Int64) = lI 2147483647 from rfl, lI_mul, lI_mod (by omega) (by omega)]
    generalize hvv : y * 16807 % 2147483647 = v at hv ey
    obtain ⟨Mx2, a1, a2, a3⟩ := dr_x H (by omega) hv
    have k2 : dG G v 2 = G 2 := dG_k ⟨by omega, hP.2.2⟩ (by omega)
    have k1 : dG G v 1 = G 1 := dG_k ⟨by omega, hP.2.2⟩ (by omega)
    have k0 : dG G v 0 = G 0 := dG_k ⟨by omega, hP.2.2⟩ (by omega)
    obtain ⟨Mx3, sh3, b1, b2, b3⟩ := cx_tk a2 (by omega)
    obtain ⟨w1, w2, w3⟩ := tk1_W (a := 0) a2.2.1.1 (show dG G v 2 < 1900 by omega)
    obtain ⟨Mm2, c1, c2, c3, c4⟩ := dr_m H.2.1 hA (by omega) (by rw [hm.2.1 0 (by omega), h00, g0]) (by rw [hm.2.1 1 (by omega), h01, g1]) hv f (nI n) (nI w) (nI k) (lI y) ey (nI_lt (by omega) (by omega))
    have t2 := hm.tr c3
    have y1 := ref_tk (n := 1) c2 (by omega) (fun j hj => by rw [t2.2.2 8 (by omega) (by omega)]; exact I.misc.2.2.1 j hj) (by omega) a2.2.1.1 (by omega)
    rw [c4, h0, hW, hWr] at y1
    have e1 : (ticksS 0 (fun j => j) 1 (dG G v, W, Wr)).1 = tk1 0 (dG G v) := tick_1 rfl
    have hA3 := st_A Mm2 1053 (ticksS 0 (fun j => j) 1 (dG G v, W, Wr))
    rw [e1] at hA3
    have t3 := t2.tr (tfM.st Mm2 (ticksS 0 (fun j => j) 1 (dG G v, W, Wr)))
    have f16 : stM Mm2 1053 (ticksS 0 (fun j => j) 1 (dG G v, W, Wr)) 0 16 = 0 := by rw [st_0 _ _ _ (by omega), c4]; exact h0
    obtain ⟨q1, q2⟩ := tick_cnt (a := 0) (S := (dG G v, W, Wr)) a2.2.1
    rw [show (tickS 0 (fun j => j) (dG G v, W, Wr)).1 = tk1 0 (dG G v) from tick_1 rfl] at q1 q2
    have f17 : stM Mm2 1053 (ticksS 0 (fun j => j) 1 (dG G v, W, Wr)) 0 17 = W + nI (cntN (fun j => inG 7 (tk1 0 (dG G v)) j && !inG 7 (dG G v) j) (dG G v 1)) := by
      unfold stM
      rw [wrM_ne _ _ _ (by omega), cntM_17]
      exact q1
    have f18 : stM Mm2 1053 (ticksS 0 (fun j => j) 1 (dG G v, W, Wr)) 0 18 = Wr + nI (cntN (fun j => inG 5 (tk1 0 (dG G v)) j && !inG 7 (dG G v) j) (dG G v 1)) := by
      unfold stM
      rw [wrM_ne _ _ _ (by omega), cntM_18]
      exact q2
    generalize stM Mm2 1053 (ticksS 0 (fun j => j) 1 (dG G v, W, Wr)) = Mm3 at y1 hA3 t3 f16 f17 f18
    have o1 := cx_setOf a2 (g := 7) (by omega)
    have o2 := cx_setOf b2 (g := 7) (by omega)
    have o3 := cx_setOf b2 (g := 5) (by omega)
    rw [w2 1 (by omega)] at o2 o3
    have h6 : dG G v 1 ≤ 6 := by rw [k1]; exact hP.2.2
    rw [X2_goneInDays_24, if_pos (nI_lt (by omega) (by omega)), if_neg (show ¬ (2147483647 : Int64) = 0 by decide), ey, am_let_eq, a1, Option.bind_some, show X3_setOf 23 Mx2 7 = _ from o1, Option.bind_some, b1, Option.bind_some, show X3_setOf 23 Mx3 7 = _ from o2, Option.bind_some, btI_andnot _ _ h6, (btI_bits _ h6).2, Option.bind_some, show X3_setOf 23 Mx3 5 = _ from o3, Option.bind_some, btI_andnot _ _ h6, (btI_bits _ h6).2, Option.bind_some, cnt_pc _ _ h6, cnt_pc _ _ h6, c1, show X8_ticksOf 1053 1 Mm2 = _ from y1, Option.bind_some, nI_1]
    exact drawn_loop I h00 h01 hn1 hn hw d (k + 1) f v _ _ (tk1 0 (dG G v)) sh3 Mx3 Mm3 (by omega) (by omega) (by omega) hv ((hx.tr a3).tr b3) t3 f16 b2 hA3 (by rw [w2 0 (by omega), k0]; exact g0) (by rw [w2 1 (by omega), k1]; exact g1) (by omega) f17 f18
end DR
theorem l999999 : (999999 : Int32) = nI 999999 := Eq.symm (by decide)
theorem ok_drawn_Inv : ok_drawn Inv := fun Mx Mm x y z I => by
  unfold X7_drawn X8_drawn
  rcases hall_dec I with ⟨c, d⟩ | ⟨G, sh, H, hA, hO, c, d⟩
  · rw [c, d]; exact ⟨_, _, _, rfl, rfl, I⟩
  have hP := hx_P H
  rcases rng x 0 60 (by omega) (by omega) with ⟨q, e⟩ | ⟨n, n1, n2, rfl, e⟩
  · simp only [c, d, e 0 60 (by decide) (by decide), Option.bind_some, i10, i00, ↓reduceIte]
    refine ⟨_, _, _, ?_, rfl, I⟩
    rcases q with q | q
    · rw [if_pos (show x < 0 from q)]
    · rw [if_pos (show (60 : Int32) < x from q), ite_self]
  simp (disch := omega) only [c, d, e 0 60 (by decide) (by decide), Option.bind_some, i10, i00, ↓reduceIte, nI_pos, show ¬ (60 : Int32) < nI n from nI_nlt (a := 60) (by omega) (by omega)]
  rcases rngB y 1 999999 (by omega) (by omega) with ⟨q, e⟩ | ⟨m, m1, m2, rfl, e⟩
  · simp only [e 1 999999 (by decide) (by decide), Option.bind_some, i00, ↓reduceIte]
    refine ⟨_, _, _, ?_, rfl, I⟩
    rcases q with q | q
    · rw [if_pos (show y < 1 from q)]
    · rw [if_pos (show (999999 : Int32) < y by rw [l999999]; exact q), ite_self]
  simp only [e 1 999999 (by decide) (by decide), Option.bind_some, i10, ↓reduceIte, show ¬ nI m < (1 : Int32) from nI_nlt (b := 1) m1 (by omega), show ¬ (999999 : Int32) < nI m by rw [l999999]; exact nI_nlt m2 (by omega)]
  rcases choice_dec z 2 (by omega) with ⟨q, e⟩ | ⟨w, hw, rfl, q, e⟩
  · simp only [show X7_isChoice z 2 = some 0 from q, e 0 1 (by decide) (by decide), Option.bind_some, i00, ↓reduceIte]; exact ⟨_, _, _, rfl, rfl, I⟩
  obtain ⟨Mx1, Mm1, a1, a2, t1, t2, ⟨sh2, H2⟩, hA2, h02⟩ := tr_lay (Mx1 := Mx) (Mm1 := Mm) H hA frm.rf tfM.rf I.misc.2.2.2
  have ec : mset (mset Mm1 0 (upd (Mm1 0) 17 0)) 0 (upd (upd (Mm1 0) 17 0) 18 0) = cntM Mm1 0 0 := by rw [mset_mset]; rfl
  simp only [show X7_isChoice (nI w) 2 = some 1 from q, e 0 1 (by decide) (by decide), Option.bind_some, i10, ↓reduceIte, X2_goneInDays, a1, a2, am_let_eq, mset_self, ec, nI_64 (show m < 2 ^ 31 by omega)]
  obtain ⟨r, Mx3, Mm3, b1, b2, b3⟩ := drawn_loop I (G0 := G) (at_0 hA) (at_1 hA) hO.1 n2 hw n 0 am_fuel m 0 0 G sh2 Mx1 (cntM Mm1 0 0) (by omega) (by omega) (by show n < 2000; omega) (by omega) t1 (t2.tr ⟨fun j hj => cntM_f _ _ _ (by omega), fun j hj => by rw [cntM_ne _ _ _ (by omega)], fun p h1 h2 => cntM_ne _ _ _ (by omega)⟩) (by rw [cntM_f _ _ _ (by omega)]; exact h02) H2 (fun k hk => by rw [cntM_ne _ _ _ (by omega)]; exact hA2 k hk) rfl rfl (by have := hO.2; omega) (cntM_17 _ _ _) (cntM_18 _ _ _)
  rw [show X2_goneInDays_24 am_fuel (nI n) (nI w) (lI m) 0 0 0 Mx1 = _ from b1]
  exact ⟨r, Mx3, Mm3, rfl, b2, b3⟩
