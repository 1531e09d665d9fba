/-! PURE: counts; where to stand best -/
theorem cnt_rows {Mx Mm : Mem} (I : rowsR Mx Mm) : ∀ (d k f c : Nat), 8 - k = d → k ≤ 8 → d < f → ∃ r, X5_howMany_4 Mx f (nI c) (nI k) = some r ∧ X8_count_50 Mm f (nI c) (nI k) = some r
  | 0, k, 0, _, _, _, hf => absurd hf (Nat.not_lt_zero _)
  | 0, k, f + 1, c, hd, hk, _ => by
    rw [X5_howMany_4, X8_count_50, if_neg (show ¬ nI k < (8 : Int32) from nI_nlt (b := 8) (by omega) (by omega)), if_neg (show ¬ nI k < (8 : Int32) from nI_nlt (b := 8) (by omega) (by omega))]
    exact ⟨_, rfl, rfl⟩
  | d + 1, k, 0, _, _, _, hf => absurd hf (Nat.not_lt_zero _)
  | d + 1, k, f + 1, c, hd, hk, hf => by
    rw [X5_howMany_4, X8_count_50, if_pos (show nI k < (8 : Int32) from nI_lt (b := 8) (by omega) (by omega)), if_pos (show nI k < (8 : Int32) from nI_lt (b := 8) (by omega) (by omega)), am_in_nI (by omega) (by omega), if_pos rfl, nI_clamp (by omega), nI_1 k]
    rcases miss_dec I (show k < 8 by omega) with ⟨h1, h2, h3, h4⟩ | ⟨l, n, h1, h2, h3, h4, h5, h6, h7, h8⟩
    · rw [h3, Option.bind_some, if_neg (by decide), if_pos h4, show nI c + 0 = nI c from nI_add c 0]
      exact cnt_rows I d (k + 1) f c (by omega) (by omega) (by omega)
    · rw [h7, Option.bind_some, if_pos rfl, if_neg h8, nI_1]
      exact cnt_rows I d (k + 1) f (c + 1) (by omega) (by omega) (by omega)
theorem ok_count_Inv : ok_count Inv := fun Mx Mm x I => by
  unfold X7_count X8_count
  obtain ⟨z0, z1⟩ : ∃ r, X5_howMany Mx = some r ∧ X8_count_50 Mm am_fuel 0 0 = some r := cnt_rows I.rows 8 0 am_fuel 0 (by omega) (by omega) (by decide)
  obtain ⟨u, nx, hu, hn, e1, e2, e3, hp⟩ := I.past
  obtain ⟨n, n1, n2, n3, n4⟩ := I.tape
  have key : ∃ v0 v1 v2 r4 r5 r6 : Int32, Mx 15 0 = v0 ∧ Mm 1 0 = v0 ∧ Mx 15 1 = v1 ∧ Mm 1 1 = v1 ∧ Mx 15 2 = v2 ∧ Mm 1 2 = v2 ∧ X3_setOf 15 Mx 7 = some r4 ∧ X8_goneOnes Mm 0 = some r4 ∧ J6_bitCount_0f7a4 r4 = some r5 ∧ X8_bits r4 = some r5 ∧ X3_seenTogether 15 Mx = some r6 ∧ X8_allSaw Mm 0 = some r6 := by
    rcases I.hall with ⟨h0, h1, h2, h3, h4, h5, h6⟩ | ⟨G, sh, H, hA, hO⟩
    · refine ⟨0, 0, 0, 0, 0, 0, h0, h4, h1, h5, h2, h6, ?_, ?_, by decide +kernel, by decide +kernel, ?_, ?_⟩
      · show X3_setOf_4 15 Mx (1999 + 1) 7 0 0 = _
        rw [X3_setOf_4, h1]; rfl
      · show X8_goneOnes_4 Mm (1999 + 1) 0 0 0 = _
        rw [X8_goneOnes_4, if_pos (by decide), show ((0 : Int32) + 1).toNatClampNeg = 1 by decide, h5]; rfl
      · show X3_seenTogether_4 15 Mx (1999 + 1) 0 0 = _
        rw [X3_seenTogether_4, h1]; rfl
      · show X8_allSaw_4 Mm (1999 + 1) 0 0 0 = _
        rw [X8_allSaw_4, if_pos (by decide), show ((0 : Int32) + 1).toNatClampNeg = 1 by decide, h5]; rfl
    · have hP := hx_P H
      exact ⟨_, _, _, _, _, _, H.1.1.1, at_0 hA, H.1.1.2.1, at_1 hA, H.1.1.2.2.1, at_2 hA, cx_setOf H (g := 7) (by omega), a0_gone hA H.2.1.1.1, (btI_bits _ hP.2.2).2, (btI_bits _ hP.2.2).1, cx_seen H, a0_allSaw hA H.2.1.1⟩
  obtain ⟨v0, v1, v2, r4, r5, r6, k1, k2, k3, k4, k5, k6, k7, k8, k9, k10, k11, k12⟩ := key
  simp only [z1.1, z1.2, X0_kept, X6_size, e2, e3, n2, n3, k1, k2, k3, k4, k5, k6, k7, k8, k9, k10, k11, k12, Option.bind_some, show (0 : Int32).toNatClampNeg = 0 by decide, show (1 : Int32).toNatClampNeg = 1 by decide, show (2 : Int32).toNatClampNeg = 2 by decide, show am_in (0 : Int32) 1092 = true by decide, show am_in (1 : Int32) 1092 = true by decide, show am_in (2 : Int32) 1092 = true by decide, ↓reduceIte]
  by_cases c0 : x = 0
  · rw [if_pos c0]; exact ⟨_, rfl, rfl, I⟩
  rw [if_neg c0]
  by_cases c1 : x = 1
  · rw [if_pos c1]; exact ⟨_, rfl, rfl, I⟩
  rw [if_neg c1]
  by_cases c2 : x = 2
  · rw [if_pos c2]; exact ⟨_, rfl, rfl, I⟩
  rw [if_neg c2]
  by_cases c3 : x = 3
  · rw [if_pos c3]; exact ⟨_, rfl, rfl, I⟩
  rw [if_neg c3]
  by_cases c4 : x = 4
  · rw [if_pos c4]; exact ⟨_, rfl, rfl, I⟩
  rw [if_neg c4]
  by_cases c5 : x = 5
  · rw [if_pos c5]; exact ⟨_, rfl, rfl, I⟩
  rw [if_neg c5]
  by_cases c6 : x = 6
  · rw [if_pos c6]; exact ⟨_, rfl, rfl, I⟩
  rw [if_neg c6]
  by_cases c7 : x = 7
  · rw [if_pos c7]; exact ⟨_, rfl, rfl, I⟩
  rw [if_neg c7]
  exact ⟨_, rfl, rfl, I⟩
/-! who is gone stays gone -/
theorem look_stay {a : Int32} {t t' : Nat} {S : tS} (ht : t < 6) (h : S.1 (15 + t) ≠ 0) : (lookS a t' S).1 (15 + t) = S.1 (15 + t) := by
  unfold lookS
  split
  · next hg =>
    have hne : t ≠ t' := fun e => h (by rw [e]; exact hg)
    split
    · rfl
    · split
      · rfl
      · simp only []
        generalize (S.1 (21 + t') + if bagG S.1 (S.1 (9 + t')) (S.1 1) - 1 = t' ∧ S.1 (21 + t') < 99 then 1 else 0) = δ
        by_cases c6 : t' < 6
        · split
          · show upN _ _ _ (15 + t) = _
            rw [upN_ne (by omega), upN_ne (by omega), upN_ne (by omega)]
          · show upN _ _ _ (15 + t) = _
            rw [upN_ne (by omega)]
        · split
          · show upN _ _ _ (15 + t) = _
            rw [upN_ne (by omega), upN_ne (by omega), upN_ne (by omega)]
          · show upN _ _ _ (15 + t) = _
            rw [upN_ne (by omega)]
  · rfl
theorem looks_stay {a : Int32} {t : Nat} {S : tS} (ht : t < 6) (h : S.1 (15 + t) ≠ 0) : ∀ k, (looksS a k S).1 (15 + t) = S.1 (15 + t)
  | 0 => rfl
  | k + 1 => by
    have ih := looks_stay (a := a) ht h k
    show (lookS a k (looksS a k S)).1 (15 + t) = _
    rw [look_stay ht (by rw [ih]; exact h), ih]
theorem tk_stay {a : Int32} {rk : Nat → Nat} {S : tS} {t : Nat} (hW : gW S.1) (hr : ∀ j, j < 6 → rk j < 6) (ht : t < 6) (h : S.1 (15 + t) ≠ 0) : (tickS a rk S).1 (15 + t) = S.1 (15 + t) := by
  obtain ⟨tw, te⟩ := turn_W (d := 1 + S.1 0) hW
  obtain ⟨fw, fe⟩ := fall_W tw hr
  have e : fallG rk (turnL (1 + S.1 0) (S.1 1) S.1) (15 + t) = S.1 (15 + t) := by rw [fe _ (by omega), te _ (by omega)]
  unfold tickS
  simp only []
  rw [upN_ne (by omega), looks_stay (S := (fallG rk (turnL (1 + S.1 0) (S.1 1) S.1), S.2.1, S.2.2)) ht (by show fallG rk _ (15 + t) ≠ 0; rw [e]; exact h)]
  exact e
theorem tk1_stay {a : Int32} {G : Nat → Nat} {t : Nat} (hW : gW G) (ht : t < 6) (h : G (15 + t) ≠ 0) : tk1 a G (15 + t) = G (15 + t) := tk_stay (S := (G, 0, 0)) hW (fun j hj => hj) ht h
/-- behind how many ticks one has its own -/
def fG (t : Nat) : Nat → Nat → (Nat → Nat) → Nat
  | 0, k, _ => k
  | d + 1, k, G => if G (15 + t) = t + 1 then k else fG t d (k + 1) (tk1 0 G)
def wG (t : Nat) : Nat → Nat → (Nat → Nat) → Nat
  | 0, _, _ => 0
  | d + 1, i, G => if tk1 0 G (15 + t) = 0 then wG t d (i + 1) (tk1 0 G) else if tk1 0 G (15 + t) = t + 1 then i else 0
theorem fG_ge (t : Nat) : ∀ d k G, k ≤ fG t d k G
  | 0, k, _ => Nat.le_refl _
  | d + 1, k, G => by
    rw [fG]
    split
    · exact Nat.le_refl _
    · have := fG_ge t d (k + 1) (tk1 0 G)
      omega
theorem fG_wr {t : Nat} (ht : t < 6) : ∀ d k G, gW G → G 2 + d < 1900 → G (15 + t) ≠ 0 → G (15 + t) ≠ t + 1 → fG t d k G = k + d
  | 0, k, _, _, _, _, _ => rfl
  | d + 1, k, G, hW, h2, h0, h1 => by
    obtain ⟨w1, w2, w3⟩ := tk1_W (a := 0) hW (show G 2 < 1900 by omega)
    have e := tk1_stay (a := 0) hW ht h0
    rw [fG, if_neg h1, fG_wr ht d (k + 1) (tk1 0 G) w1 (by omega) (by rw [e]; exact h0) (by rw [e]; exact h1)]
    omega
theorem wG_fG {t : Nat} (ht : t < 6) : ∀ (d D k : Nat) (G : Nat → Nat), d ≤ D → gW G → G 2 + D < 1800 → G (15 + t) = 0 → wG t d (k + 1) G = if fG t (D + 1) k G ≤ k + d then fG t (D + 1) k G else 0
  | 0, D, k, G, _, hW, _, h0 => by
    have := fG_ge t D (k + 1) (tk1 0 G)
    rw [fG, if_neg (show ¬ G (15 + t) = t + 1 by omega), if_neg (by omega)]
    rfl
  | d + 1, 0, k, G, hd, _, _, _ => by omega
  | d + 1, D + 1, k, G, hd, hW, h2, h0 => by
    obtain ⟨w1, w2, w3⟩ := tk1_W (a := 0) hW (show G 2 < 1900 by omega)
    rw [wG, fG, if_neg (show ¬ G (15 + t) = t + 1 by omega)]
    by_cases c : tk1 0 G (15 + t) = 0
    · rw [if_pos c, wG_fG ht d D (k + 1) (tk1 0 G) (by omega) w1 (by omega) c, show k + 1 + d = k + (d + 1) by omega]
    · rw [if_neg c]
      by_cases c2 : tk1 0 G (15 + t) = t + 1
      · rw [if_pos c2, fG, if_pos c2, if_pos (by omega)]
      · rw [if_neg c2, fG_wr ht (D + 1) (k + 1) (tk1 0 G) w1 (by omega) c c2, if_neg (by omega)]
def oI (v : Nat) : Int32 := if v = 0 then -1000000 else nI v
section BE
variable {Mx Mm : Mem}
theorem gone_x {t m : Nat} (hm : m ≤ 60) : ∀ (d i f : Nat) (M : Mem) (sh : Nat) (G : Nat → Nat), m + 1 - i = d → i ≤ m + 1 → d < f → HX M 23 0 sh G → t < G 1 → G 2 + d < 1500 → 1 ≤ i → ∃ M', X2_whenGoneWithOwn_24 f (nI t) (nI m) (nI i) M = some (oI (wG t d i G), M') ∧ frm M M' 23
  | 0, i, 0, _, _, _, _, _, hf, _, _, _, _ => absurd hf (Nat.not_lt_zero _)
  | 0, i, f + 1, M, sh, G, hd, hi, _, H, _, _, _ => by
    rw [X2_whenGoneWithOwn_24, if_pos (nI_lt (by omega) (by omega))]
    exact ⟨M, rfl, frm.rf⟩
  | d + 1, i, 0, _, _, _, _, _, hf, _, _, _, _ => absurd hf (Nat.not_lt_zero _)
  | d + 1, i, f + 1, M, sh, G, hd, hi, hf, H, ht, h2, h1 => by
    obtain ⟨M1, sh1, x1, x2, x3⟩ := cx_tk H (by omega)
    obtain ⟨w1, w2, w3⟩ := tk1_W (a := 0) H.2.1.1 (show G 2 < 1900 by omega)
    have ht1 : t < tk1 0 G 1 := by rw [w2 1 (by omega)]; exact ht
    rw [X2_whenGoneWithOwn_24, if_neg (nI_nlt (by omega) (by omega)), x1, Option.bind_some, cx_waits x2 ht1, Option.bind_some, cx_isWrong x2 ht1, Option.bind_some, wG, nI_1]
    by_cases c : tk1 0 G (15 + t) = 0
    · rw [decide_eq_true c, if_neg (show ¬ bI true = 0 by decide), if_pos c]
      obtain ⟨M2, y1, y2⟩ := gone_x hm d (i + 1) f M1 sh1 (tk1 0 G) (by omega) (by omega) (by omega) x2 ht1 (by omega) (by omega)
      exact ⟨M2, y1, x3.tr y2⟩
    · rw [decide_eq_false c, if_pos (show bI false = 0 from rfl), if_neg c]
      refine ⟨M1, ?_, x3⟩
      by_cases c2 : tk1 0 G (15 + t) = t + 1
      · rw [decide_eq_false (by omega), if_pos (show bI false = 0 from rfl), if_pos c2]
        unfold oI
        rw [if_neg (by omega)]
      · rw [decide_eq_true ⟨c, c2⟩, if_neg (show ¬ bI true = 0 by decide), if_neg c2]
        rfl
theorem l1068 : (1068 : Int32) = nI 1068 := Eq.symm (by decide)
theorem l1062 : (1062 : Int32) = nI 1062 := Eq.symm (by decide)
theorem gone_m {t n : Nat} (ht6 : t < 6) (hn : n ≤ 60) : ∀ (d k f : Nat) (M : Mem) (G : Nat → Nat), n + 1 - k = d → k ≤ n + 1 → d < f → atM M 1053 G → rkId M → M 0 16 = 0 → gW G → G 2 + d < 1500 → ∃ M', X8_goneFrom_18 f (nI t) (nI n) (nI k) M = some (nI (fG t d k G), M') ∧ tfM M M' ∧ M' 0 16 = 0
  | 0, k, 0, _, _, _, _, hf, _, _, _, _, _ => absurd hf (Nat.not_lt_zero _)
  | 0, k, f + 1, M, G, hd, hk, _, hA, hr, h0, hW, _ => by
    rw [X8_goneFrom_18, if_pos (nI_lt (by omega) (by omega))]
    exact ⟨M, rfl, tfM.rf, h0⟩
  | d + 1, k, 0, _, _, _, _, hf, _, _, _, _, _ => absurd hf (Nat.not_lt_zero _)
  | d + 1, k, f + 1, M, G, hd, hk, hf, hA, hr, h0, hW, h2 => by
    have c1 := hA (15 + t) (by omega)
    rw [cI_g (by omega), ← Nat.add_assoc] at c1
    have hv := hW.1.1 (15 + t)
    rw [X8_goneFrom_18, if_neg (nI_nlt (by omega) (by omega))]
    simp (disch := omega) only [l1068, nI_add, am_in_nI, nI_clamp, ↓reduceIte, c1, gI_nI, nI_1]
    rw [fG]
    by_cases c : G (15 + t) = t + 1
    · rw [if_pos c, if_pos c]
      exact ⟨M, rfl, tfM.rf, h0⟩
    · rw [if_neg c, if_neg c]
      have y1 := ref_tk (n := 1) hA (by omega) hr (by omega) hW (by omega)
      rw [h0] at y1
      have e1 : (ticksS 0 (fun j => j) 1 (G, M 0 17, M 0 18)).1 = tk1 0 G := tick_1 rfl
      obtain ⟨w1, w2, w3⟩ := tk1_W (a := 0) hW (show G 2 < 1900 by omega)
      have hA2 := st_A M 1053 (ticksS 0 (fun j => j) 1 (G, M 0 17, M 0 18))
      rw [e1] at hA2
      rw [show X8_ticksOf 1053 1 M = _ from y1, Option.bind_some]
      obtain ⟨M2, z1, z2, z3⟩ := gone_m ht6 hn d (k + 1) f _ (tk1 0 G) (by omega) (by omega) (by omega) hA2 (fun j hj => by rw [st_ne _ _ _ (by omega) (by omega)]; exact hr j hj) (by rw [st_0 _ _ _ (by omega)]; exact h0) w1 (by omega)
      exact ⟨M2, z1, (tfM.st _ _).tr z2, z3⟩
theorem best_one (I : Inv Mx Mm) {G : Nat → Nat} {sh t p m n : Nat} (H : HX Mx 15 0 sh G) (hA : atM Mm 0 G) (hO : hOK G) (ht : t < G 1) (hp : p < G 0) (hm : m ≤ n) (hn : n ≤ 60) (hw : G (15 + t) = 0) {Mx1 Mm1 : Mem} (hx : frm Mx Mx1 23) (hmm : tfM Mm Mm1) (h0 : Mm1 0 16 = 0) : ∃ (v : Nat) (Mx2 Mm2 : Mem), 1 ≤ v ∧ X2_whenGoneWithOwn (nI t) (nI p) (nI m) Mx1 = some (if v ≤ m then nI v else -1000000, Mx2) ∧ X8_goneFrom (nI t) (nI p) (nI n) Mm1 = some (nI v, Mm2) ∧ v ≤ n + 1 ∧ frm Mx Mx2 23 ∧ tfM Mm Mm2 ∧ Mm2 0 16 = 0 := by
  have hP := hx_P H
  have h2 := hO.2
  obtain ⟨Mx2, Mm2, a1, a2, T⟩ := tr_lay H hA hx hmm h0
  obtain ⟨t1, t2, ⟨sh2, H2⟩, hA2, h02⟩ := T
  have H3 := hx_stand H2 ht hp
  have hA3 : atM (mset Mm2 1 (upd (Mm2 1) (1062 + t) (nI p))) 1053 (upN G (9 + t) p) := by
    have := wrM_ssd Mm2 1053 G p (show t < 6 by omega)
    rw [atM_wr hA2] at this
    rw [show 1062 + t = 1053 + 9 + t by omega, this]
    exact atM_of _ _ _
  have e : ∀ j, j ≠ 9 + t → upN G (9 + t) p j = G j := fun j hj => upN_ne hj
  have hg : upN G (9 + t) p (15 + t) = 0 := by rw [e _ (by omega)]; exact hw
  obtain ⟨Mx3, b1, b2⟩ := gone_x (t := t) (m := m) (by omega) m 1 am_fuel _ sh2 (upN G (9 + t) p) (by omega) (by omega) (by show m < 2000; omega) H3 (by rw [e 1 (by omega)]; exact ht) (by rw [e 2 (by omega)]; omega) (by omega)
  obtain ⟨Mm3, c1, c2, c3⟩ := gone_m (t := t) (n := n) (by omega) hn (n + 1) 0 am_fuel (mset Mm2 1 (upd (Mm2 1) (1062 + t) (nI p))) (upN G (9 + t) p) (by omega) (by omega) (by show n + 1 < 2000; omega) hA3 (fun j hj => by rw [mset_ne _ _ (by omega), t2.2.2 8 (by omega) (by omega)]; exact I.misc.2.2.1 j hj) (by rw [mset_ne _ _ (by omega)]; exact h02) H3.2.1.1 (by rw [e 2 (by omega)]; omega)
  have hr := wG_fG (t := t) (by omega) m n 0 (upN G (9 + t) p) hm H3.2.1.1 (by rw [e 2 (by omega)]; omega) hg
  rw [Nat.zero_add, Nat.zero_add] at hr
  have hv1 : 1 ≤ fG t (n + 1) 0 (upN G (9 + t) p) := by
    rw [fG, if_neg (by omega)]
    exact fG_ge _ _ _ _
  have hv2 : ∀ d k G, fG t d k G ≤ k + d := fun d => by
    induction d with
    | zero => intro k G; exact Nat.le_refl _
    | succ d ih =>
      intro k G
      rw [fG]
      split
      · omega
      · have := ih (k + 1) (tk1 0 G)
        omega
  refine ⟨fG t (n + 1) 0 (upN G (9 + t) p), Mx3, Mm3, hv1, ?_, ?_, by have := hv2 (n + 1) 0 (upN G (9 + t) p); omega, (t1.tr (frm.rf.st _ (by omega))).tr b2, (t2.tr ⟨fun j hj => by rw [mset_ne _ _ (by omega)], fun j hj => by rw [mset_self, upd_ne (by omega)], fun q h1 h2 => mset_ne _ _ (by omega)⟩).tr c2, c3⟩
  · unfold X2_whenGoneWithOwn
    rw [a1, Option.bind_some]
    simp (disch := omega) only [am_in_nI, nI_clamp, ↓reduceIte, am_let_eq]
    rw [show X2_whenGoneWithOwn_24 am_fuel (nI t) (nI m) 1 _ = _ from b1, hr]
    unfold oI
    by_cases c : fG t (n + 1) 0 (upN G (9 + t) p) ≤ m
    · rw [if_pos c, if_pos c, if_neg (by omega)]
    · rw [if_neg c, if_neg c, if_pos rfl]
  · unfold X8_goneFrom
    rw [a2, Option.bind_some]
    simp (disch := omega) only [l1062, nI_add, am_in_nI, nI_clamp, ↓reduceIte, am_let_eq]
    exact c1
theorem best_loop (I : Inv Mx Mm) {G : Nat → Nat} {sh t n w : Nat} (H : HX Mx 15 0 sh G) (hA : atM Mm 0 G) (hO : hOK G) (ht : t < G 1) (hn : n ≤ 60) (hn1 : 1 ≤ n) (hw : G (15 + t) = 0) (hw2 : w < 2) : ∀ (d k f b l : Nat) (Mx1 Mm1 : Mem), G 0 - k = d → k ≤ G 0 → d < f → frm Mx Mx1 23 → tfM Mm Mm1 → Mm1 0 16 = 0 → (b = 0 → l = n + 1) → 1 ≤ l → l ≤ n + 1 → b ≤ 12 → ∃ r Mx2 Mm2, X2_bestStand_11 f (nI t) (nI n) (nI w) (gI b) (if b = 0 then -1000000 else nI l) (nI k) Mx1 = some (r, Mx2) ∧ X8_best_57 f (nI t) (nI n) (nI w) (gI b) (nI l) (nI k) Mm1 = some (r, Mm2) ∧ Inv Mx2 Mm2
  | 0, k, 0, _, _, _, _, _, _, hf, _, _, _, _, _, _, _ => absurd hf (Nat.not_lt_zero _)
  | 0, k, f + 1, b, l, Mx1, Mm1, hd, hk, _, hx, hm, h0, hb, hl, hl2, hb2 => by
    have hP := hx_P H
    have e : k = G 0 := by omega
    subst e
    rw [X2_bestStand_11, X8_best_57, if_pos (show am_in (0 : Int32) 1092 = true by decide), show (0 : Int32).toNatClampNeg = 0 by decide, hx 15 (by omega), hm.2.1 0 (by omega), at_0 hA, show Mx 15 0 = _ from H.1.1.1, if_neg (nI_nlt (Nat.le_refl _) (by omega)), if_neg (nI_nlt (Nat.le_refl _) (by omega))]
    simp only [gI_none (show b < 2 ^ 31 by omega)]
    have II := I.ft hx hm h0
    by_cases c : b = 0
    · subst c
      rw [if_pos rfl, if_pos rfl, gI_0, ite_self]
      exact ⟨_, _, _, rfl, rfl, II⟩
    · rw [if_neg c, if_neg c]
      rcases (show w = 0 ∨ w = 1 by omega) with rfl | rfl
      · exact ⟨_, _, _, rfl, rfl, II⟩
      · exact ⟨_, _, _, rfl, rfl, II⟩
  | d + 1, k, 0, _, _, _, _, _, _, hf, _, _, _, _, _, _, _ => absurd hf (Nat.not_lt_zero _)
  | d + 1, k, f + 1, b, l, Mx1, Mm1, hd, hk, hf, hx, hm, h0, hb, hl, hl2, hb2 => by
    have hP := hx_P H
    have hlt : k < G 0 := by omega
    obtain ⟨v, Mx2, Mm2, v1, a1, a2, v2, x2, m2, z2⟩ := best_one I H hA hO ht hlt (show l - 1 ≤ n by omega) hn hw hx hm h0
    rw [X2_bestStand_11, X8_best_57, if_pos (show am_in (0 : Int32) 1092 = true by decide), show (0 : Int32).toNatClampNeg = 0 by decide, hx 15 (by omega), hm.2.1 0 (by omega), at_0 hA, show Mx 15 0 = _ from H.1.1.1, if_pos (nI_lt hlt (by omega)), if_pos (nI_lt hlt (by omega)), a2, Option.bind_some]
    have k1 : (if (if b = 0 then (-1000000 : Int32) else nI l) = -1000000 then X2_bestStand_38 (X2_bestStand_11 f) (nI t) (nI n) (nI w) (gI b) (if b = 0 then -1000000 else nI l) (nI k) (nI n) Mx1 else X2_bestStand_38 (X2_bestStand_11 f) (nI t) (nI n) (nI w) (gI b) (if b = 0 then -1000000 else nI l) (nI k) ((if b = 0 then -1000000 else nI l) - 1) Mx1) = X2_bestStand_38 (X2_bestStand_11 f) (nI t) (nI n) (nI w) (gI b) (if b = 0 then -1000000 else nI l) (nI k) (nI (l - 1)) Mx1 := by
      by_cases c : b = 0
      · rw [if_pos c, if_pos rfl, hb c, Nat.add_sub_cancel]
      · rw [if_neg c, if_neg (nI_ne_none (by omega)), li_1, pk_sub (by omega)]
    rw [k1]
    unfold X2_bestStand_38 X8_best_92
    rw [a1, Option.bind_some, nI_1]
    simp only [nI_ltI (show v < 2 ^ 31 by omega) (show l < 2 ^ 31 by omega)]
    by_cases c : v < l
    · simp only [if_pos c, if_pos (show v ≤ l - 1 by omega)]
      rw [if_neg (nI_ne_none (by omega))]
      have := best_loop I H hA hO ht hn hn1 hw hw2 d (k + 1) f (k + 1) v Mx2 Mm2 (by omega) (by omega) (by omega) x2 m2 z2 (by omega) v1 v2 (by omega)
      rw [gI_s, if_neg (by omega)] at this
      exact this
    · simp only [if_neg c, if_neg (show ¬ v ≤ l - 1 by omega), ↓reduceIte]
      exact best_loop I H hA hO ht hn hn1 hw hw2 d (k + 1) f b l Mx2 Mm2 (by omega) (by omega) (by omega) x2 m2 z2 hb hl hl2 hb2
end BE
theorem ok_best_Inv : ok_best Inv := fun Mx Mm x y z I => by
  unfold X7_best X8_best
  rcases one_dec I x with ⟨c, d⟩ | ⟨G, sh, t, H, hA, hO, ht, rfl, c, d⟩
  · rw [c, d]; exact ⟨_, _, _, rfl, rfl, I⟩
  have hP := hx_P H
  rcases rng y 1 60 (by omega) (by omega) with ⟨q, e⟩ | ⟨n, n1, n2, rfl, e⟩
  · simp only [c, d, e 1 60 (by decide) (by decide), Option.bind_some, i10, i00, ↓reduceIte]
    refine ⟨_, _, _, ?_, rfl, I⟩
    rcases q with q | q
    · rw [if_pos (show y < 1 from q)]
    · rw [if_pos (show (60 : Int32) < y from q), ite_self]
  simp (disch := omega) only [c, d, e 1 60 (by decide) (by decide), Option.bind_some, i10, ↓reduceIte, show ¬ nI n < (1 : Int32) from nI_nlt (b := 1) n1 (by omega), show ¬ (60 : Int32) < nI n from nI_nlt (a := 60) (by omega) (by omega)]
  rcases choice_dec z 2 (by omega) with ⟨q, e⟩ | ⟨w, hw, rfl, q, e⟩
  · simp only [show X7_isChoice z 2 = some 0 from q, e 0 1 (by decide) (by decide), Option.bind_some, i00, ↓reduceIte]; exact ⟨_, _, _, rfl, rfl, I⟩
  simp only [show X7_isChoice (nI w) 2 = some 1 from q, e 0 1 (by decide) (by decide), Option.bind_some, i10, ↓reduceIte, cx_waits H ht, a0_waits hA H.2.1.1.1 (show t < 6 by omega)]
  by_cases g : G (15 + t) = 0
  · rw [decide_eq_true g, if_pos g]
    simp only [bI_t, i10, ↓reduceIte, X2_bestStand, nI_1]
    obtain ⟨r, Mx2, Mm2, b1, b2, b3⟩ := best_loop I H hA hO ht n2 n1 g hw (G 0) 0 am_fuel 0 (n + 1) Mx Mm (by omega) (by omega) (by show _ < 2000; omega) frm.rf tfM.rf I.misc.2.2.2 (fun _ => rfl) (by omega) (by omega) (by omega)
    rw [show X2_bestStand_11 am_fuel (nI t) (nI n) (nI w) (-1000000) (-1000000) 0 Mx = _ from b1]
    exact ⟨r, Mx2, Mm2, rfl, b2, b3⟩
  · rw [decide_eq_false g, if_neg g]
    simp only [bI_f, i00, ↓reduceIte]
    exact ⟨_, _, _, rfl, rfl, I⟩
