/-! PURE: of which kind one is, where one stood, of which colour a bag was -/
def asT (it : Nat → Int32) (b : Nat) : Nat → (Nat → Nat) → Nat → Bool
  | 0, _, _ => true
  | d + 1, G, k => decide (nI (tk1 0 G (33 + b)) = it k) && asT it b d (tk1 0 G) (k + 1)
section WH
variable {Mx Mm : Mem}
theorem told_x {it : Nat → Int32} {b p i n : Nat} (hp : p < 23) (hin : i + n ≤ 40) : ∀ (d k f : Nat) (M : Mem) (sh : Nat) (G : Nat → Nat), n - k = d → k ≤ n → d < f → HX M 23 0 sh G → b < G 1 → G 2 + d < 1500 → (∀ k, k < n → M p (i + k) = it k) → ∃ M', X2_goesAsTold_23 p 40 f (nI b) (nI i) (nI n) (nI k) M = some (bI (asT it b d G k), M') ∧ frm M M' 23
  | 0, k, 0, _, _, _, _, _, hf, _, _, _, _ => absurd hf (Nat.not_lt_zero _)
  | 0, k, f + 1, M, sh, G, hd, hk, _, H, _, _, _ => by
    rw [X2_goesAsTold_23, if_neg (nI_nlt (by omega) (by omega))]
    exact ⟨M, rfl, frm.rf⟩
  | d + 1, k, 0, _, _, _, _, _, hf, _, _, _, _ => absurd hf (Nat.not_lt_zero _)
  | d + 1, k, f + 1, M, sh, G, hd, hk, hf, H, hb, h2, hit => by
    obtain ⟨M1, sh1, x1, x2, x3⟩ := cx_tk H (by omega)
    obtain ⟨w1, w2, w3⟩ := tk1_W (a := 0) H.2.1.1 (show G 2 < 1900 by omega)
    have hb1 : b < tk1 0 G 1 := by rw [w2 1 (by omega)]; exact hb
    have e1 : M1 p (i + k) = it k := by rw [x3 p (by omega)]; exact hit k (by omega)
    rw [X2_goesAsTold_23, if_pos (nI_lt (by omega) (by omega)), x1, Option.bind_some, cx_whereIs x2 hb1, Option.bind_some, nI_add, am_in_nI (by omega) (by omega), if_pos rfl, nI_clamp (by omega), e1, asT, nI_1]
    by_cases c : nI (tk1 0 G (33 + b)) = it k
    · rw [if_pos c, decide_eq_true c, Bool.true_and]
      obtain ⟨M2, y1, y2⟩ := told_x (it := it) hp hin d (k + 1) f M1 sh1 (tk1 0 G) (by omega) (by omega) (by omega) x2 hb1 (by omega) (fun k hk => by rw [x3 p (by omega)]; exact hit k hk)
      exact ⟨M2, y1, x3.tr y2⟩
    · rw [if_neg c, decide_eq_false c, Bool.false_and]
      exact ⟨M1, rfl, x3⟩
theorem told_m {it : Nat → Int32} {b o n : Nat} (ho : o + n ≤ 320) : ∀ (d k f : Nat) (fl : Bool) (M : Mem) (G : Nat → Nat), n - k = d → k ≤ n → d < f → atM M 1053 G → rkId M → M 0 16 = 0 → gW G → b < 6 → G 2 + d < 1500 → (∀ k, k < n → M 5 (o + k) = it k) → ∃ M', X8_isSo_6 f (nI b) (nI o) (nI n) (bI fl) (nI k) M = some (bI (fl && asT it b d G k), M') ∧ tfM M M' ∧ M' 0 16 = 0
  | 0, k, 0, _, _, _, _, _, hf, _, _, _, _, _, _, _ => absurd hf (Nat.not_lt_zero _)
  | 0, k, f + 1, fl, M, G, hd, hk, _, hA, hr, h0, hW, _, _, _ => by
    rw [X8_isSo_6, if_neg (nI_nlt (by omega) (by omega)), if_pos (bI_1 fl), asT, Bool.and_true]
    exact ⟨M, rfl, tfM.rf, h0⟩
  | d + 1, k, 0, _, _, _, _, _, hf, _, _, _, _, _, _, _ => absurd hf (Nat.not_lt_zero _)
  | d + 1, k, f + 1, fl, M, G, hd, hk, hf, hA, hr, h0, hW, hb, h2, hit => by
    have y1 := ref_tk (n := 1) hA (by omega) hr (by omega) hW (by omega)
    rw [h0] at y1
    have e1 : (ticksS 0 (fun j => j) 1 (G, M 0 17, M 0 18)).1 = tk1 0 G := tick_1 rfl
    obtain ⟨w1, w2, w3⟩ := tk1_W (a := 0) hW (show G 2 < 1900 by omega)
    have hA2 := st_A M 1053 (ticksS 0 (fun j => j) 1 (G, M 0 17, M 0 18))
    rw [e1] at hA2
    have t2 := tfM.st M (ticksS 0 (fun j => j) 1 (G, M 0 17, M 0 18))
    have h02 : stM M 1053 (ticksS 0 (fun j => j) 1 (G, M 0 17, M 0 18)) 0 16 = 0 := by rw [st_0 _ _ _ (by omega)]; exact h0
    generalize stM M 1053 (ticksS 0 (fun j => j) 1 (G, M 0 17, M 0 18)) = M1 at y1 hA2 t2 h02
    have c1 := hA2 (33 + b) (by omega)
    rw [cI_n (by omega), ← Nat.add_assoc] at c1
    have ih := fun fl' => told_m (it := it) ho d (k + 1) f fl' M1 (tk1 0 G) (by omega) (by omega) (by omega) hA2 (fun j hj => by rw [t2.2.2 8 (by omega) (by omega)]; exact hr j hj) h02 w1 hb (by omega) (fun k hk => by rw [t2.2.2 5 (by omega) (by omega)]; exact hit k hk)
    have e5 : M1 5 (o + k) = it k := by rw [t2.2.2 5 (by omega) (by omega)]; exact hit k (by omega)
    rw [X8_isSo_6, if_pos (nI_lt (by omega) (by omega)), show X8_ticksOf 1053 1 M = _ from y1, Option.bind_some, asT, nI_1]
    cases fl with
    | false =>
      rw [if_pos (show bI false = 0 from rfl)]
      obtain ⟨M', a1, a2, a3⟩ := ih false
      rw [Bool.false_and] at a1
      exact ⟨M', by rw [Bool.false_and]; exact a1, t2.tr a2, a3⟩
    | true =>
      rw [if_neg (show ¬ bI true = 0 by decide)]
      simp (disch := omega) only [l1086, nI_add, am_in_nI, nI_clamp, ↓reduceIte, c1, e5]
      by_cases c : nI (tk1 0 G (33 + b)) = it k
      · rw [if_pos c, decide_eq_true c]
        obtain ⟨M', a1, a2, a3⟩ := ih true
        exact ⟨M', a1, t2.tr a2, a3⟩
      · rw [if_neg c, decide_eq_false c]
        obtain ⟨M', a1, a2, a3⟩ := ih false
        exact ⟨M', a1, t2.tr a2, a3⟩
theorem try_told (I : Inv Mx Mm) {r b i n sh : Nat} {G : Nat → Nat} (hr : r < 8) (hn : n ≤ 12) (hin : i + n ≤ 40) {Mx2 Mm2 : Mem} (hx : frm Mx Mx2 23) (hm : tfM Mm Mm2) (h0 : Mm2 0 16 = 0) (H : HX Mx2 23 0 sh G) (hA : atM Mm2 1053 G) (hb : b < G 1) (h2 : G 2 ≤ 999) : ∃ t Mx3 Mm3, X2_goesAsTold (5 + r) 40 (nI b) (nI i) (nI n) Mx2 = some (bI t, Mx3) ∧ X8_isSo (nI b) (nI (40 * r + i)) (nI n) Mm2 = some (bI t, Mm3) ∧ frm Mx Mx3 23 ∧ tfM Mm Mm3 ∧ Mm3 0 16 = 0 := by
  have hP := hx_P H
  obtain ⟨Mx3, a1, a2⟩ := told_x (it := fun k => Mx (5 + r) (i + k)) (b := b) (p := 5 + r) (i := i) (n := n) (by omega) hin n 0 am_fuel Mx2 sh G (by omega) (by omega) (by show n < 2000; omega) H hb (by omega) (fun k hk => by rw [hx (5 + r) (by omega)])
  obtain ⟨Mm3, b1, b2, b3⟩ := told_m (it := fun k => Mx (5 + r) (i + k)) (b := b) (o := 40 * r + i) (n := n) (by omega) n 0 am_fuel true Mm2 G (by omega) (by omega) (by show n < 2000; omega) hA (fun j hj => by rw [hm.2.2 8 (by omega) (by omega)]; exact I.misc.2.2.1 j hj) h0 H.2.1.1 (by omega) (by omega) (fun k hk => by rw [hm.2.2 5 (by omega) (by omega), I.rows.2 r (i + k) hr (by omega), Nat.add_assoc])
  refine ⟨_, Mx3, Mm3, ?_, b1, hx.tr a2, hm.tr b2, b3⟩
  unfold X2_goesAsTold
  rw [if_neg (nI_pos (by omega)), if_neg (nI_pos (by omega)), show Int32.ofNat 40 = nI 40 from rfl, pk_sub (by omega), if_neg (nI_nlt (by omega) (by omega)), Bool.true_and]
  exact a1
variable {G : Nat → Nat} {sh : Nat}
/-- 'fine', behind what was tried -/
theorem c_fine2 (I : Inv Mx Mm) (v : Int32) {Mx2 Mm2 : Mem} (hx : frm Mx Mx2 23) (hm : tfM Mm Mm2) (h0 : Mm2 0 16 = 0) : ∃ r Mx' Mm', (Option.bind (X7_fine v Mx2) fun u => some (u.1, u.2)) = some (r, Mx') ∧ (Option.bind (X8_well v Mm2) fun u => some (u.1, u.2)) = some (r, Mm') ∧ Inv Mx' Mm' := c_fine (I.ft hx hm h0) v
theorem l1056 : (1053 : Int32) + 3 = nI 1056 := by decide
theorem l1062' : (1053 : Int32) + 9 = nI 1062 := by decide
theorem kinds_loop (I : Inv Mx Mm) (H : HX Mx 15 0 sh G) (hA : atM Mm 0 G) (hO : hOK G) {r b i n t : Nat} (hr : r < 8) (hn : n ≤ 12) (hin : i + n ≤ 40) (hb : b < G 1) (ht : t < G 1) : ∀ (d v f : Nat) (x6 : Int32) (Mx1 Mm1 : Mem), 6 - v = d → v ≤ 6 → 1 ≤ v → d < f → frm Mx Mx1 23 → tfM Mm Mm1 → Mm1 0 16 = 0 → ∃ q Mx' Mm', (Option.bind (X2_kindsThatFit_6 (5 + r) 40 f (nI t) (nI b) (nI i) (nI n) x6 (nI v) Mx1) fun u8 => Option.bind (X7_fine u8.1 u8.2) fun u9 => some (u9.1, u9.2)) = some (q, Mx') ∧ X8_who_78 f (nI t) 0 (nI b) (nI r) (nI i) (nI n) x6 (nI v) Mm1 = some (q, Mm') ∧ Inv Mx' Mm'
  | 0, v, 0, _, _, _, _, _, _, hf, _, _, _ => absurd hf (Nat.not_lt_zero _)
  | 0, v, f + 1, x6, Mx1, Mm1, hd, hv, _, _, hx, hm, h0 => by
    rw [X2_kindsThatFit_6, X8_who_78, if_pos (show (5 : Int32) < nI v from nI_lt (a := 5) (by omega) (by omega)), Option.bind_some, if_pos rfl]
    unfold X8_who_95
    rw [if_neg (show ¬ nI v < (6 : Int32) from nI_nlt (b := 6) (by omega) (by omega))]
    exact c_fine2 I x6 hx hm h0
  | d + 1, v, 0, _, _, _, _, _, _, hf, _, _, _ => absurd hf (Nat.not_lt_zero _)
  | d + 1, v, f + 1, x6, Mx1, Mm1, hd, hv, h1, hf, hx, hm, h0 => by
    have hP := hx_P H
    obtain ⟨Mx2, Mm2, a1, a2, t1, t2, ⟨sh2, H2⟩, hA2, h02⟩ := tr_lay H hA hx hm h0
    have H3 := hx_kind H2 ht (v := v) (by omega)
    have hA3 : atM (mset Mm2 1 (upd (Mm2 1) (1056 + t) (nI v))) 1053 (upN G (3 + t) v) := by
      have := wrM_skd Mm2 1053 G v (show t < 6 by omega)
      rw [atM_wr hA2] at this
      rw [show 1056 + t = 1053 + 3 + t by omega, this]
      exact atM_of _ _ _
    obtain ⟨tt, Mx3, Mm3, b1, b2, b3, b4, b5⟩ := try_told I (r := r) (b := b) (i := i) (n := n) hr hn hin (t1.tr (frm.rf.st _ (by omega))) (t2.tr ⟨fun j hj => by rw [mset_ne _ _ (by omega)], fun j hj => by rw [mset_self, upd_ne (by omega)], fun q h1 h2 => mset_ne _ _ (by omega)⟩) (by rw [mset_ne _ _ (by omega)]; exact h02) H3 hA3 (by rw [upN_ne (by omega)]; exact hb) (by rw [upN_ne (by omega)]; exact hO.2)
    rw [X2_kindsThatFit_6, X8_who_78, if_neg (show ¬ (5 : Int32) < nI v from nI_nlt (a := 5) (by omega) (by omega)), a1, Option.bind_some, if_pos rfl]
    unfold X8_who_95 X8_who_119
    rw [if_pos (show nI v < (6 : Int32) from nI_lt (b := 6) (by omega) (by omega)), a2, Option.bind_some, if_pos rfl, l1056]
    simp (disch := omega) only [am_in_nI, nI_clamp, ↓reduceIte, am_let_eq, li_40, nI_mul, nI_add, b1, b2, Option.bind_some, nI_1]
    cases tt with
    | false => rw [if_pos (show bI false = 0 from rfl), if_pos (show bI false = 0 from rfl)]; exact kinds_loop I H hA hO hr hn hin hb ht d (v + 1) f _ Mx3 Mm3 (by omega) (by omega) (by omega) (by omega) b3 b4 b5
    | true => rw [if_neg (show ¬ bI true = 0 by decide), if_neg (show ¬ bI true = 0 by decide)]; exact kinds_loop I H hA hO hr hn hin hb ht d (v + 1) f _ Mx3 Mm3 (by omega) (by omega) (by omega) (by omega) b3 b4 b5
theorem stands_loop (I : Inv Mx Mm) (H : HX Mx 15 0 sh G) (hA : atM Mm 0 G) (hO : hOK G) {r b i n t : Nat} (hr : r < 8) (hn : n ≤ 12) (hin : i + n ≤ 40) (hb : b < G 1) (ht : t < G 1) : ∀ (d v f : Nat) (x6 : Int32) (Mx1 Mm1 : Mem), G 0 - v = d → v ≤ G 0 → d < f → frm Mx Mx1 23 → tfM Mm Mm1 → Mm1 0 16 = 0 → ∃ q Mx' Mm', (Option.bind (X2_standsThatFit_6 (5 + r) 40 f (nI t) (nI b) (nI i) (nI n) x6 (nI v) Mx1) fun u8 => Option.bind (X7_fine u8.1 u8.2) fun u9 => some (u9.1, u9.2)) = some (q, Mx') ∧ X8_who_78 f (nI t) 1 (nI b) (nI r) (nI i) (nI n) x6 (nI v) Mm1 = some (q, Mm') ∧ Inv Mx' Mm'
  | 0, v, 0, _, _, _, _, _, hf, _, _, _ => absurd hf (Nat.not_lt_zero _)
  | 0, v, f + 1, x6, Mx1, Mm1, hd, hv, _, hx, hm, h0 => by
    have hP := hx_P H
    rw [X2_standsThatFit_6, X8_who_78, hx 15 (by omega), show Mx 15 0 = _ from H.1.1.1, if_neg (nI_nlt (by omega) (by omega)), Option.bind_some, if_neg (show ¬ (1 : Int32) = 0 by decide), if_pos (show am_in (0 : Int32) 1092 = true by decide), show (0 : Int32).toNatClampNeg = 0 by decide, hm.2.1 0 (by omega), at_0 hA]
    unfold X8_who_95
    rw [if_neg (nI_nlt (by omega) (by omega))]
    exact c_fine2 I x6 hx hm h0
  | d + 1, v, 0, _, _, _, _, _, hf, _, _, _ => absurd hf (Nat.not_lt_zero _)
  | d + 1, v, f + 1, x6, Mx1, Mm1, hd, hv, hf, hx, hm, h0 => by
    have hP := hx_P H
    obtain ⟨Mx2, Mm2, a1, a2, t1, t2, ⟨sh2, H2⟩, hA2, h02⟩ := tr_lay H hA hx hm h0
    have H3 := hx_stand H2 ht (v := v) (by omega)
    have hA3 : atM (mset Mm2 1 (upd (Mm2 1) (1062 + t) (nI v))) 1053 (upN G (9 + t) v) := by
      have := wrM_ssd Mm2 1053 G v (show t < 6 by omega)
      rw [atM_wr hA2] at this
      rw [show 1062 + t = 1053 + 9 + t by omega, this]
      exact atM_of _ _ _
    obtain ⟨tt, Mx3, Mm3, b1, b2, b3, b4, b5⟩ := try_told I (r := r) (b := b) (i := i) (n := n) hr hn hin (t1.tr (frm.rf.st _ (by omega))) (t2.tr ⟨fun j hj => by rw [mset_ne _ _ (by omega)], fun j hj => by rw [mset_self, upd_ne (by omega)], fun q h1 h2 => mset_ne _ _ (by omega)⟩) (by rw [mset_ne _ _ (by omega)]; exact h02) H3 hA3 (by rw [upN_ne (by omega)]; exact hb) (by rw [upN_ne (by omega)]; exact hO.2)
    rw [X2_standsThatFit_6, X8_who_78, hx 15 (by omega), show Mx 15 0 = _ from H.1.1.1, if_pos (nI_lt (show v < G 0 by omega) (by omega)), a1, Option.bind_some, if_neg (show ¬ (1 : Int32) = 0 by decide), if_pos (show am_in (0 : Int32) 1092 = true by decide), show (0 : Int32).toNatClampNeg = 0 by decide, hm.2.1 0 (by omega), at_0 hA]
    unfold X8_who_95 X8_who_119
    rw [if_pos (nI_lt (show v < G 0 by omega) (by omega)), a2, Option.bind_some, if_neg (show ¬ (1 : Int32) = 0 by decide), l1062']
    simp (disch := omega) only [am_in_nI, nI_clamp, ↓reduceIte, am_let_eq, li_40, nI_mul, nI_add, b1, b2, Option.bind_some, nI_1]
    cases tt with
    | false => rw [if_pos (show bI false = 0 from rfl), if_pos (show bI false = 0 from rfl)]; exact stands_loop I H hA hO hr hn hin hb ht d (v + 1) f _ Mx3 Mm3 (by omega) (by omega) (by omega) b3 b4 b5
    | true => rw [if_neg (show ¬ bI true = 0 by decide), if_neg (show ¬ bI true = 0 by decide)]; exact stands_loop I H hA hO hr hn hin hb ht d (v + 1) f _ Mx3 Mm3 (by omega) (by omega) (by omega) b3 b4 b5
theorem colours_loop (I : Inv Mx Mm) (H : HX Mx 15 0 sh G) (hA : atM Mm 0 G) (hO : hOK G) {r b i n : Nat} (hr : r < 8) (hn : n ≤ 12) (hin : i + n ≤ 40) (hb : b < G 1) : ∀ (d v f : Nat) (x6 : Int32) (Mx1 Mm1 : Mem), 4 - v = d → v ≤ 4 → d < f → frm Mx Mx1 23 → tfM Mm Mm1 → Mm1 0 16 = 0 → ∃ q Mx' Mm', (Option.bind (X2_coloursThatFit_6 (5 + r) 40 f (nI b) (nI i) (nI n) x6 (nI v) Mx1) fun u8 => Option.bind (X7_fine u8.1 u8.2) fun u9 => some (u9.1, u9.2)) = some (q, Mx') ∧ X8_colours_55 f (nI b) (nI r) (nI i) (nI n) x6 (nI v) Mm1 = some (q, Mm') ∧ Inv Mx' Mm'
  | 0, v, 0, _, _, _, _, _, hf, _, _, _ => absurd hf (Nat.not_lt_zero _)
  | 0, v, f + 1, x6, Mx1, Mm1, hd, hv, _, hx, hm, h0 => by
    rw [X2_coloursThatFit_6, X8_colours_55, if_neg (show ¬ nI v < (4 : Int32) from nI_nlt (b := 4) (by omega) (by omega)), if_neg (show ¬ nI v < (4 : Int32) from nI_nlt (b := 4) (by omega) (by omega)), Option.bind_some]
    exact c_fine2 I x6 hx hm h0
  | d + 1, v, 0, _, _, _, _, _, hf, _, _, _ => absurd hf (Nat.not_lt_zero _)
  | d + 1, v, f + 1, x6, Mx1, Mm1, hd, hv, hf, hx, hm, h0 => by
    have hP := hx_P H
    obtain ⟨Mx2, Mm2, a1, a2, t1, t2, ⟨sh2, H2⟩, hA2, h02⟩ := tr_lay H hA hx hm h0
    have H3 := hx_paint H2 hb (v := v) (by omega)
    have hA3 : atM (mset Mm2 1 (upd (Mm2 1) (1080 + b) (nI v))) 1053 (upN G (27 + b) v) := by
      have := wrM_scl Mm2 1053 G v (show b < 6 by omega)
      rw [atM_wr hA2] at this
      rw [show 1080 + b = 1053 + 27 + b by omega, this]
      exact atM_of _ _ _
    obtain ⟨tt, Mx3, Mm3, b1, b2, b3, b4, b5⟩ := try_told I (r := r) (b := b) (i := i) (n := n) hr hn hin (t1.tr (frm.rf.st _ (by omega))) (t2.tr ⟨fun j hj => by rw [mset_ne _ _ (by omega)], fun j hj => by rw [mset_self, upd_ne (by omega)], fun q h1 h2 => mset_ne _ _ (by omega)⟩) (by rw [mset_ne _ _ (by omega)]; exact h02) H3 hA3 (by rw [upN_ne (by omega)]; exact hb) (by rw [upN_ne (by omega)]; exact hO.2)
    rw [X2_coloursThatFit_6, X8_colours_55, if_pos (show nI v < (4 : Int32) from nI_lt (b := 4) (by omega) (by omega)), if_pos (show nI v < (4 : Int32) from nI_lt (b := 4) (by omega) (by omega)), a1, a2, Option.bind_some, Option.bind_some]
    simp (disch := omega) only [am_in_nI, nI_clamp, ↓reduceIte, am_let_eq, l1080, li_40, nI_mul, nI_add, b1, b2, Option.bind_some, nI_1]
    cases tt with
    | false => rw [if_pos (show bI false = 0 from rfl), if_pos (show bI false = 0 from rfl)]; exact colours_loop I H hA hO hr hn hin hb d (v + 1) f _ Mx3 Mm3 (by omega) (by omega) (by omega) b3 b4 b5
    | true => rw [if_neg (show ¬ bI true = 0 by decide), if_neg (show ¬ bI true = 0 by decide)]; exact colours_loop I H hA hO hr hn hin hb d (v + 1) f _ Mx3 Mm3 (by omega) (by omega) (by omega) b3 b4 b5
theorem told_dec (x y : Int32) : (X7_isTold Mx x y = some 0 ∧ (X8_isRow x = some 0 ∨ X8_isRow x = some 1 ∧ X8_in y.toInt64 1 12 = some 0)) ∨ ∃ r n, r < 8 ∧ 1 ≤ n ∧ n ≤ 12 ∧ x = nI r ∧ y = nI n ∧ X7_isTold Mx x y = some 1 ∧ X8_isRow x = some 1 ∧ X8_in y.toInt64 1 12 = some 1 := by
  unfold X7_isTold
  rcases row_dec x with ⟨c, d⟩ | ⟨r, hr, rfl, c, d⟩
  · left
    rw [c, Option.bind_some, if_pos rfl]
    exact ⟨rfl, Or.inl d⟩
  · rw [c, Option.bind_some, if_neg (by decide)]
    rcases rng y 1 12 (by omega) (by omega) with ⟨q, e⟩ | ⟨n, n1, n2, rfl, e⟩
    · left
      refine ⟨?_, Or.inr ⟨d, e 1 12 (by decide) (by decide)⟩⟩
      rcases q with q | q
      · rw [if_pos (show y < 1 from q)]
      · rw [if_pos (show (12 : Int32) < y from q), ite_self]
    · right
      exact ⟨r, n, hr, n1, n2, rfl, rfl, by rw [if_neg (show ¬ nI n < (1 : Int32) from nI_nlt (b := 1) n1 (by omega)), if_neg (show ¬ (12 : Int32) < nI n from nI_nlt (a := 12) n2 (by omega))], d, e 1 12 (by decide) (by decide)⟩
theorem items_dec (I : Inv Mx Mm) {r n : Nat} (hr : r < 8) (hn : 1 ≤ n ∧ n ≤ 12) (x : Int32) : (∃ v, (v = 1 ∨ v = 2) ∧ X7_findingOfItems Mx (nI r) x (nI n) = some (nI v) ∧ X8_refusal (nI r) x (nI n) Mm = (Option.bind (X8_find (nI v) Mm) fun u => some (u.1, u.2))) ∨ ∃ i, i + n ≤ 40 ∧ x = nI i ∧ X7_findingOfItems Mx (nI r) x (nI n) = some 0 ∧ X8_refusal (nI r) x (nI n) Mm = some (0, Mm) := by
  unfold X7_findingOfItems X8_refusal
  rw [am_in_nI (by omega) (by omega), if_pos rfl, nI_clamp (by omega)]
  rcases miss_dec I.rows hr with ⟨h1, h2, h3, h4⟩ | ⟨l, k, h1, h2, h3, h4, h5, h6, h7, h8⟩
  · left
    refine ⟨1, Or.inl rfl, ?_, ?_⟩
    · rw [h3, Option.bind_some, if_neg (by decide)]; rfl
    · rw [if_pos h4]; rfl
  · rw [h7, Option.bind_some, if_pos rfl, if_neg h8, reach_x (l := l) hr h2 h5 h7 x (nI n), reach_m hr h2 h6 x (nI n), Option.bind_some, Option.bind_some]
    have hnn := nI_toInt (show n < 2 ^ 31 by omega)
    by_cases c : 0 ≤ x.toInt ∧ 0 ≤ (nI n).toInt ∧ x.toInt + (nI n).toInt ≤ k
    · right
      rw [decide_eq_true c]
      exact ⟨x.toInt.toNat, by omega, nI_is (by omega) (by omega), rfl, rfl⟩
    · left
      rw [decide_eq_false c]
      exact ⟨2, Or.inr rfl, rfl, rfl⟩
theorem items_of {r : Nat} (hr : r < 8) : X5_itemsOf Mx (nI r) = some (5 + r) := by
  unfold X5_itemsOf
  rw [num_1 hr, Option.bind_some, if_neg (by decide), am_in_nI (by omega) (by omega), if_pos rfl, nI_clamp (by omega)]
end WH
theorem ok_who_Inv : ok_who Inv := fun Mx Mm x1 x2 x3 x4 x5 x6 I => by
  unfold X7_who X8_who
  rcases one_dec I x1 with ⟨c, d⟩ | ⟨G, sh, t, H, hA, hO, ht, rfl, c, d⟩
  · rw [c, d]; exact ⟨_, _, _, rfl, rfl, I⟩
  have hP := hx_P H
  rcases choice_dec x2 2 (by omega) with ⟨q, e⟩ | ⟨w, hw, rfl, q, e⟩
  · simp only [c, d, show X7_isChoice x2 2 = some 0 from q, e 0 1 (by decide) (by decide), Option.bind_some, i10, i00, ↓reduceIte]; exact ⟨_, _, _, rfl, rfl, I⟩
  rcases one_G H hA x3 with ⟨c', d'⟩ | ⟨b, hb, rfl, c', d'⟩
  · simp only [c, d, c', d', show X7_isChoice (nI w) 2 = some 1 from q, e 0 1 (by decide) (by decide), Option.bind_some, i10, i00, ↓reduceIte]; exact ⟨_, _, _, rfl, rfl, I⟩
  simp only [c, d, c', d', show X7_isChoice (nI w) 2 = some 1 from q, e 0 1 (by decide) (by decide), Option.bind_some, i10, ↓reduceIte]
  rcases told_dec (Mx := Mx) x4 x6 with ⟨g, k | ⟨k1, k2⟩⟩ | ⟨r, n, hr, n1, n2, rfl, rfl, g, k1, k2⟩
  · simp only [g, k, Option.bind_some, i00, ↓reduceIte]; exact ⟨_, _, _, rfl, rfl, I⟩
  · simp only [g, k1, k2, Option.bind_some, i10, i00, ↓reduceIte]; exact ⟨_, _, _, rfl, rfl, I⟩
  simp only [g, k1, k2, Option.bind_some, i10, ↓reduceIte]
  rcases items_dec I hr ⟨n1, n2⟩ x5 with ⟨v, hv, g1, g2⟩ | ⟨i, hi, rfl, g1, g2⟩
  · rw [g1, g2, Option.bind_some, if_neg (nI_ne0 (by omega) (by omega))]
    obtain ⟨q1, q2, q3, q4, q5, q6⟩ := c_found I (nI v)
    rw [q5, Option.bind_some, if_neg ?_]
    · exact ⟨_, _, _, q4, rfl, q6⟩
    · rcases hv with rfl | rfl
      · have : q1 = -1000010 - nI 1 := by
          have := congrArg (fun o => o.map Prod.fst) q5
          exact (Option.some.inj this).symm
        rw [this]; show ¬ (-1000010 - nI 1 : Int32) = 0; decide
      · have : q1 = -1000010 - nI 2 := by
          have := congrArg (fun o => o.map Prod.fst) q5
          exact (Option.some.inj this).symm
        rw [this]; show ¬ (-1000010 - nI 2 : Int32) = 0; decide
  · rw [g1, g2, Option.bind_some, Option.bind_some, if_pos rfl, items_of hr, Option.bind_some, if_pos (by omega)]
    simp only [i00, ↓reduceIte]
    rcases (show w = 0 ∨ w = 1 by omega) with rfl | rfl
    · rw [if_pos (show nI 0 = 0 from rfl)]
      exact kinds_loop I H hA hO hr n2 hi hb ht 5 1 am_fuel 0 Mx Mm (by omega) (by omega) (by omega) (by decide) frm.rf tfM.rf I.misc.2.2.2
    · rw [if_neg (show ¬ nI 1 = 0 by decide)]
      exact stands_loop I H hA hO hr n2 hi hb ht (G 0) 0 am_fuel 0 Mx Mm (by omega) (by omega) (by show _ < 2000; omega) frm.rf tfM.rf I.misc.2.2.2
theorem ok_colours_Inv : ok_colours Inv := fun Mx Mm x3 x4 x5 x6 I => by
  unfold X7_colours X8_colours
  rcases one_dec I x3 with ⟨c, d⟩ | ⟨G, sh, b, H, hA, hO, hb, rfl, c, d⟩
  · rw [c, d]; exact ⟨_, _, _, rfl, rfl, I⟩
  have hP := hx_P H
  simp only [c, d, Option.bind_some, i10, ↓reduceIte]
  rcases told_dec (Mx := Mx) x4 x6 with ⟨g, k | ⟨k1, k2⟩⟩ | ⟨r, n, hr, n1, n2, rfl, rfl, g, k1, k2⟩
  · simp only [g, k, Option.bind_some, i00, ↓reduceIte]; exact ⟨_, _, _, rfl, rfl, I⟩
  · simp only [g, k1, k2, Option.bind_some, i10, i00, ↓reduceIte]; exact ⟨_, _, _, rfl, rfl, I⟩
  simp only [g, k1, k2, Option.bind_some, i10, ↓reduceIte]
  rcases items_dec I hr ⟨n1, n2⟩ x5 with ⟨v, hv, g1, g2⟩ | ⟨i, hi, rfl, g1, g2⟩
  · rw [g1, g2, Option.bind_some, if_neg (nI_ne0 (by omega) (by omega))]
    obtain ⟨q1, q2, q3, q4, q5, q6⟩ := c_found I (nI v)
    rw [q5, Option.bind_some, if_neg ?_]
    · exact ⟨_, _, _, q4, rfl, q6⟩
    · rcases hv with rfl | rfl
      · have : q1 = -1000010 - nI 1 := by
          have := congrArg (fun o => o.map Prod.fst) q5
          exact (Option.some.inj this).symm
        rw [this]; show ¬ (-1000010 - nI 1 : Int32) = 0; decide
      · have : q1 = -1000010 - nI 2 := by
          have := congrArg (fun o => o.map Prod.fst) q5
          exact (Option.some.inj this).symm
        rw [this]; show ¬ (-1000010 - nI 2 : Int32) = 0; decide
  · rw [g1, g2, Option.bind_some, Option.bind_some, if_pos rfl, items_of hr, Option.bind_some, if_pos (by omega)]
    simp only [i00, ↓reduceIte]
    exact colours_loop I H hA hO hr n2 hi hb 4 0 am_fuel 0 Mx Mm (by omega) (by omega) (by decide) frm.rf tfM.rf I.misc.2.2.2
