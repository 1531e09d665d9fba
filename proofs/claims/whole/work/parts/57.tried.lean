/-! PURE: what is tried, in the class and in the reference -/
def tfM (M M' : Mem) : Prop := (∀ j, j ≤ 11 → M' 0 j = M 0 j) ∧ (∀ j, j < 1053 → M' 1 j = M 1 j) ∧ ∀ p, 2 ≤ p → p ≤ 8 → M' p = M p
theorem tfM.rf {M : Mem} : tfM M M := ⟨fun _ _ => rfl, fun _ _ => rfl, fun _ _ _ => rfl⟩
theorem tfM.tr {M M1 M2 : Mem} (a : tfM M M1) (b : tfM M1 M2) : tfM M M2 := ⟨fun j hj => (b.1 j hj).trans (a.1 j hj), fun j hj => (b.2.1 j hj).trans (a.2.1 j hj), fun p h1 h2 => (b.2.2 p h1 h2).trans (a.2.2 p h1 h2)⟩
theorem tfM.wr (M : Mem) (G : Nat → Nat) : tfM M (wrM M 1053 G) := ⟨fun j hj => by rw [wrM_ne _ _ _ (by omega)], fun j hj => wrM_out _ _ _ (by omega), fun p h1 h2 => wrM_ne _ _ _ (by omega)⟩
theorem tfM.st (M : Mem) (S : tS) : tfM M (stM M 1053 S) := ⟨fun j hj => st_0 _ _ _ (by omega), fun j hj => st_1 _ _ _ (by omega), fun p h1 h2 => st_ne _ _ _ (by omega) (by omega)⟩
theorem Inv.ft {Mx Mm Mx' Mm' : Mem} (I : Inv Mx Mm) (hx : frm Mx Mx' 23) (hm : tfM Mm Mm') (h0 : Mm' 0 16 = 0) : Inv Mx' Mm' :=
  I.fr (fun p hp => hx p (by omega)) (fun j hj => by
    rcases hj with hj | rfl
    · exact hm.1 j hj
    · rw [h0, I.misc.2.2.2]) hm.2.1 hm.2.2
/-- both have tried, and have the same hall there -/
def Tr (Mx Mm Mx1 Mm1 : Mem) (a : Int32) (G : Nat → Nat) : Prop := frm Mx Mx1 23 ∧ tfM Mm Mm1 ∧ (∃ sh, HX Mx1 23 a sh G) ∧ atM Mm1 1053 G ∧ Mm1 0 16 = a
section TR
variable {Mx Mm Mx1 Mm1 : Mem} {a : Int32} {G G0 : Nat → Nat} {sh : Nat}
theorem tr_lay (H : HX Mx 15 0 sh G0) (hA : atM Mm 0 G0) (hx : frm Mx Mx1 23) (hm : tfM Mm Mm1) (h0 : Mm1 0 16 = 0) : ∃ Mx2 Mm2, X3_become 23 15 Mx1 = some Mx2 ∧ X8_layTried Mm1 = some Mm2 ∧ Tr Mx Mm Mx2 Mm2 0 G0 := by
  obtain ⟨Mx2, x1, x2, x3⟩ := cx_become (h := 23) (hx_frm (M' := Mx1) H (fun q h1 h2 => hx q (by omega))) (by omega)
  have y1 := ref_lay (M := Mm1) (G := G0) (fun k hk => by rw [hm.2.1 _ (by omega)]; exact hA k hk)
  exact ⟨Mx2, _, x1, y1, hx.tr x3, hm.tr (tfM.wr _ _), ⟨_, x2⟩, atM_of _ _ _, by rw [wrM_ne _ _ _ (by omega)]; exact h0⟩
theorem Tr.P (T : Tr Mx Mm Mx1 Mm1 a G) : 4 ≤ G 0 ∧ G 0 ≤ 12 ∧ G 1 ≤ 6 := by
  obtain ⟨-, -, ⟨sh, H⟩, -⟩ := T
  exact hx_P H
theorem Tr.V (T : Tr Mx Mm Mx1 Mm1 a G) : gV G := by
  obtain ⟨-, -, ⟨sh, H⟩, -⟩ := T
  exact H.2.1
theorem tr_tick (T : Tr Mx Mm Mx1 Mm1 a G) (I : Inv Mx Mm) (h2 : G 2 < 1500) : ∃ Mx2 Mm2, X3_tickOnce 23 Mx1 = some Mx2 ∧ X8_ticksOf 1053 1 Mm1 = some Mm2 ∧ Tr Mx Mm Mx2 Mm2 a (tk1 a G) := by
  obtain ⟨hx, hm, ⟨sh, H⟩, hA, h0⟩ := T
  obtain ⟨Mx2, sh2, x1, x2, x3⟩ := cx_tk H (by omega)
  have y1 := ref_tk (n := 1) hA (by omega) (fun j hj => by rw [hm.2.2 8 (by omega) (by omega)]; exact I.misc.2.2.1 j hj) (by omega) H.2.1.1 h2
  rw [h0] at y1
  have e1 : (ticksS a (fun j => j) 1 (G, Mm1 0 17, Mm1 0 18)).1 = tk1 a G := tick_1 rfl
  refine ⟨Mx2, _, x1, y1, hx.tr x3, hm.tr (tfM.st _ _), ⟨_, x2⟩, ?_, by rw [st_0 _ _ _ (by omega)]; exact h0⟩
  have := st_A Mm1 1053 (ticksS a (fun j => j) 1 (G, Mm1 0 17, Mm1 0 18))
  rwa [e1] at this
theorem cx_goOn_loop {h : Nat} (n : Nat) (hn : n < 100) : ∀ (d k f : Nat) (M : Mem) (sh : Nat) (G : Nat → Nat), n - k = d → k ≤ n → d < f → HX M 23 a sh G → G 2 + d < 1800 → ∃ M' sh', X2_goOn_2 f (nI n) (nI k) M = some (23, M') ∧ HX M' 23 a sh' (tkN a d G) ∧ frm M M' 23
  | 0, k, 0, _, _, _, _, _, hf, _, _ => absurd hf (Nat.not_lt_zero _)
  | 0, k, f + 1, M, sh, G, hd, hk, _, H, _ => by
    rw [X2_goOn_2, if_neg (nI_nlt (by omega) (by omega))]
    exact ⟨M, sh, rfl, H, frm.rf⟩
  | d + 1, k, 0, _, _, _, _, _, hf, _, _ => absurd hf (Nat.not_lt_zero _)
  | d + 1, k, f + 1, M, sh, G, hd, hk, hf, H, h2 => by
    obtain ⟨M1, sh1, x1, x2, x3⟩ := cx_tk H (by omega)
    obtain ⟨w1, w2, w3⟩ := tk1_W (a := a) H.2.1.1 (show G 2 < 1900 by omega)
    obtain ⟨M2, sh2, y1, y2, y3⟩ := cx_goOn_loop (h := h) n hn d (k + 1) f M1 sh1 (tk1 a G) (by omega) (by omega) (by omega) x2 (by rw [w3]; omega)
    rw [X2_goOn_2, if_pos (nI_lt (by omega) (by omega)), x1, Option.bind_some, nI_1]
    refine ⟨M2, sh2, y1, ?_, x3.tr y3⟩
    have : ∀ d, tkN a d (tk1 a G) = tkN a (d + 1) G := fun d => by
      induction d with
      | zero => rfl
      | succ d ih => rw [tkN, ih]; rfl
    rwa [this] at y2
theorem tr_ticks (T : Tr Mx Mm Mx1 Mm1 a G) (I : Inv Mx Mm) {n : Nat} (hn : n < 100) (h2 : G 2 < 1500) : ∃ Mx2 Mm2, X2_goOn (nI n) Mx1 = some (23, Mx2) ∧ X8_ticksOf 1053 (nI n) Mm1 = some Mm2 ∧ Tr Mx Mm Mx2 Mm2 a (tkN a n G) := by
  obtain ⟨hx, hm, ⟨sh, H⟩, hA, h0⟩ := T
  obtain ⟨Mx2, sh2, x1, x2, x3⟩ := cx_goOn_loop (h := 0) (a := a) n hn n 0 am_fuel Mx1 sh G (by omega) (by omega) (by show n < 2000; omega) H (by omega)
  have y1 := ref_tk (n := n) hA (by omega) (fun j hj => by rw [hm.2.2 8 (by omega) (by omega)]; exact I.misc.2.2.1 j hj) hn H.2.1.1 h2
  rw [h0] at y1
  refine ⟨Mx2, _, x1, y1, hx.tr x3, hm.tr (tfM.st _ _), ⟨_, x2⟩, ?_, by rw [st_0 _ _ _ (by omega)]; exact h0⟩
  have := st_A Mm1 1053 (ticksS a (fun j => j) n (G, Mm1 0 17, Mm1 0 18))
  rwa [tkN_S] at this
theorem tr_behind (H : HX Mx 15 0 sh G0) (hA : atM Mm 0 G0) (hO : hOK G0) (I : Inv Mx Mm) {n : Nat} (hn : n < 100) : ∃ Mx2 Mm1 Mm2, X2_behind (nI n) Mx = some (23, Mx2) ∧ X8_layTried Mm = some Mm1 ∧ X8_ticksOf 1053 (nI n) Mm1 = some Mm2 ∧ Tr Mx Mm Mx2 Mm2 0 (tkN 0 n G0) := by
  have h2 := hO.2
  obtain ⟨Mx1, Mm1, a1, a2, T⟩ := tr_lay (Mx1 := Mx) (Mm1 := Mm) H hA frm.rf tfM.rf I.misc.2.2.2
  obtain ⟨Mx2, Mm2, b1, b2, T2⟩ := tr_ticks T I hn (by omega)
  refine ⟨Mx2, Mm1, Mm2, ?_, a2, b2, T2⟩
  unfold X2_behind
  rw [a1, Option.bind_some, b1, Option.bind_some, if_pos rfl]
theorem Tr.cell (T : Tr Mx Mm Mx1 Mm1 a G) {k : Nat} (hk : k < 39) : Mm1 1 (1053 + k) = cI k (G k) := T.2.2.2.1 k hk
theorem Tr.fin (T : Tr Mx Mm Mx1 Mm1 0 G) (I : Inv Mx Mm) : Inv Mx1 Mm1 := I.ft T.1 T.2.1 T.2.2.2.2
theorem Tr.setOf (T : Tr Mx Mm Mx1 Mm1 a G) {g : Nat} (hg : 1 ≤ g ∧ g ≤ 7) : X3_setOf 23 Mx1 (nI g) = some (btI (inG g G) (G 1)) := by
  obtain ⟨-, -, ⟨sh, H⟩, -⟩ := T
  exact cx_setOf H hg
theorem Tr.gone (T : Tr Mx Mm Mx1 Mm1 a G) : X8_goneOnes Mm1 1053 = some (btI (inG 7 G) (G 1)) := by
  have := ref_goneOnes Mm1 1053 T.V.1.1 (by omega)
  rwa [atM_wr T.2.2.2.1] at this
theorem Tr.wrong (T : Tr Mx Mm Mx1 Mm1 a G) : X8_wrongOnes Mm1 1053 = some (btI (inG 5 G) (G 1)) := by
  have := ref_wrongOnes Mm1 1053 T.V.1.1 (by omega)
  rwa [atM_wr T.2.2.2.1] at this
theorem Tr.robbed (T : Tr Mx Mm Mx1 Mm1 a G) : X8_robbedOnes Mm1 1053 = some (btI (inG 6 G) (G 1)) := by
  have := ref_robbedOnes Mm1 1053 T.V.1.1 (by omega)
  rwa [atM_wr T.2.2.2.1] at this
theorem Tr.waits (T : Tr Mx Mm Mx1 Mm1 a G) {t : Nat} (ht : t < G 1) : X3_waits 23 Mx1 (nI t) = some (bI (decide (G (15 + t) = 0))) ∧ X8_waits Mm1 1053 (nI t) = some (bI (decide (G (15 + t) = 0))) := by
  have hP := T.P
  obtain ⟨-, -, ⟨sh, H⟩, hA, -⟩ := T
  refine ⟨cx_waits H ht, ?_⟩
  have := ref_waits Mm1 1053 H.2.1.1.1 (show t < 6 by omega) (by omega)
  rw [atM_wr hA] at this
  refine (show X8_waits Mm1 1053 (nI t) = _ from this).trans ?_
  by_cases c : G (15 + t) = 0
  · rw [if_pos c, decide_eq_true c]; rfl
  · rw [if_neg c, decide_eq_false c]; rfl
end TR
theorem l1086 : (1086 : Int32) = nI 1086 := Eq.symm (by decide)
theorem ok_ahead_Inv : ok_ahead Inv := fun Mx Mm x y I => by
  unfold X7_ahead X8_ahead
  rcases one_dec I x with ⟨c, d⟩ | ⟨G, sh, t, H, hA, hO, ht, rfl, c, d⟩
  · rw [c, d]; exact ⟨_, _, _, rfl, rfl, I⟩
  have hP := hx_P H
  rcases rng y 0 60 (by omega) (by omega) with ⟨q, e⟩ | ⟨n, n1, n2, rfl, e⟩
  · simp only [c, d, e 0 60 (by decide) (by decide), Option.bind_some, i10, i00, ↓reduceIte]
    refine ⟨_, _, _, ?_, rfl, I⟩
    rcases q with q | q
    · rw [if_pos (show y < 0 from q)]
    · rw [if_pos (show (60 : Int32) < y from q), ite_self]
  · obtain ⟨Mx2, Mm1, Mm2, a1, a2, a3, T⟩ := tr_behind H hA hO I (n := n) (by omega)
    obtain ⟨w1, w2, w3⟩ := tkN_W (a := 0) H.2.1.1 n (by have := hO.2; omega)
    have e1 := w2 1 (by omega)
    obtain ⟨sh2, H2⟩ := T.2.2.1
    have c1 := T.cell (k := 33 + t) (by omega)
    rw [cI_n (by omega), ← Nat.add_assoc] at c1
    simp (disch := omega) only [c, d, e 0 60 (by decide) (by decide), Option.bind_some, i10, ↓reduceIte, nI_pos, show ¬ (60 : Int32) < nI n from nI_nlt (a := 60) (by omega) (by omega), a1, a2, a3, l1086, nI_add, am_in_nI, nI_clamp, c1, cx_whereIs H2 (by rw [e1]; exact ht : t < tkN 0 n G 1)]
    exact ⟨_, _, _, rfl, rfl, T.fin I⟩
theorem ok_with_Inv : ok_with Inv := fun Mx Mm x y z I => by
  unfold X7_with X8_with
  rcases one_dec I x with ⟨c, d⟩ | ⟨G, sh, t, H, hA, hO, ht, rfl, c, d⟩
  · rw [c, d]; exact ⟨_, _, _, rfl, rfl, I⟩
  have hP := hx_P H
  rcases rng y 0 60 (by omega) (by omega) with ⟨q, e⟩ | ⟨n, n1, n2, rfl, e⟩
  · simp only [c, d, e 0 60 (by decide) (by decide), Option.bind_some, i10, i00, ↓reduceIte]
    refine ⟨_, _, _, ?_, rfl, I⟩
    rcases q with q | q
    · rw [if_pos (show y < 0 from q)]
    · rw [if_pos (show (60 : Int32) < y from q), ite_self]
  simp (disch := omega) only [c, d, e 0 60 (by decide) (by decide), Option.bind_some, i10, ↓reduceIte, nI_pos, show ¬ (60 : Int32) < nI n from nI_nlt (a := 60) (by omega) (by omega)]
  rcases choice_dec z 2 (by omega) with ⟨q, e⟩ | ⟨w, hw, rfl, q, e⟩
  · simp only [show X7_isChoice z 2 = some 0 from q, e 0 1 (by decide) (by decide), Option.bind_some, i00, ↓reduceIte]; exact ⟨_, _, _, rfl, rfl, I⟩
  · obtain ⟨Mx2, Mm1, Mm2, a1, a2, a3, T⟩ := tr_behind H hA hO I (n := n) (by omega)
    obtain ⟨w1, w2, w3⟩ := tkN_W (a := 0) H.2.1.1 n (by have := hO.2; omega)
    have e1 := w2 1 (by omega)
    obtain ⟨sh2, H2⟩ := T.2.2.1
    have ht2 : t < tkN 0 n G 1 := by rw [e1]; exact ht
    have c1 := T.cell (k := 15 + t) (by omega)
    rw [cI_g (by omega), ← Nat.add_assoc] at c1
    have c2 := T.cell (k := 21 + t) (by omega)
    rw [cI_n (by omega), ← Nat.add_assoc] at c2
    simp only [show X7_isChoice (nI w) 2 = some 1 from q, e 0 1 (by decide) (by decide), a1, a2, a3, Option.bind_some, i10, ↓reduceIte]
    simp (disch := omega) only [↓reduceIte, li_1053, li_15, li_21, nI_add, am_in_nI, nI_clamp, c1, c2, show Mx2 27 t = _ from H2.1.2.2.2.2.1 t ht2, show Mx2 26 t = _ from H2.1.2.2.2.1 t ht2]
    rcases (show w = 0 ∨ w = 1 by omega) with rfl | rfl
    · exact ⟨_, _, _, rfl, rfl, T.fin I⟩
    · exact ⟨_, _, _, rfl, rfl, T.fin I⟩
theorem ok_all_Inv : ok_all Inv := fun Mx Mm y z I => by
  unfold X7_all X8_all
  rcases hall_dec I with ⟨c, d⟩ | ⟨G, sh, H, hA, hO, c, d⟩
  · rw [c, d]; exact ⟨_, _, _, rfl, rfl, I⟩
  have hP := hx_P H
  rcases rng y 0 60 (by omega) (by omega) with ⟨q, e⟩ | ⟨n, n1, n2, rfl, e⟩
  · simp only [c, d, e 0 60 (by decide) (by decide), Option.bind_some, i10, i00, ↓reduceIte]
    refine ⟨_, _, _, ?_, rfl, I⟩
    rcases q with q | q
    · rw [if_pos (show y < 0 from q)]
    · rw [if_pos (show (60 : Int32) < y from q), ite_self]
  simp (disch := omega) only [c, d, e 0 60 (by decide) (by decide), Option.bind_some, i10, i00, ↓reduceIte, nI_pos, show ¬ (60 : Int32) < nI n from nI_nlt (a := 60) (by omega) (by omega)]
  rcases choice_dec z 3 (by omega) with ⟨q, e⟩ | ⟨w, hw, rfl, q, e⟩
  · simp only [show X7_isChoice z 3 = some 0 from q, e 0 2 (by decide) (by decide), Option.bind_some, i00, ↓reduceIte]; exact ⟨_, _, _, rfl, rfl, I⟩
  · obtain ⟨Mx2, Mm1, Mm2, a1, a2, a3, T⟩ := tr_behind H hA hO I (n := n) (by omega)
    simp only [show X7_isChoice (nI w) 3 = some 1 from q, e 0 2 (by decide) (by decide), a1, a2, a3, Option.bind_some, i10, ↓reduceIte, T.gone, T.wrong, T.robbed, show X3_setOf 23 Mx2 7 = _ from T.setOf (g := 7) (by omega), show X3_setOf 23 Mx2 5 = _ from T.setOf (g := 5) (by omega), show X3_setOf 23 Mx2 6 = _ from T.setOf (g := 6) (by omega)]
    rcases (show w = 0 ∨ w = 1 ∨ w = 2 by omega) with rfl | rfl | rfl
    · exact ⟨_, _, _, rfl, rfl, T.fin I⟩
    · exact ⟨_, _, _, rfl, rfl, T.fin I⟩
    · exact ⟨_, _, _, rfl, rfl, T.fin I⟩
theorem when_loop {Mx Mm : Mem} (I : Inv Mx Mm) {t : Nat} : ∀ (d k f : Nat) (Mx1 Mm1 : Mem) (G : Nat → Nat), 61 - k = d → k ≤ 61 → d < f → Tr Mx Mm Mx1 Mm1 0 G → t < G 1 → G 2 + d < 1500 → ∃ r Mx2 Mm2, X2_whenGone_13 f (nI t) (nI k) Mx1 = some (r, Mx2) ∧ X8_when_17 f (nI t) (nI k) Mm1 = some (r, Mm2) ∧ Inv Mx2 Mm2
  | 0, k, 0, _, _, _, _, _, hf, _, _, _ => absurd hf (Nat.not_lt_zero _)
  | 0, k, f + 1, Mx1, Mm1, G, hd, hk, _, T, _, _ => by
    rw [X2_whenGone_13, X8_when_17, if_pos (show (60 : Int32) < nI k from nI_lt (a := 60) (by omega) (by omega)), if_neg (show ¬ nI k < (61 : Int32) from nI_nlt (b := 61) (by omega) (by omega))]
    exact ⟨_, _, _, rfl, rfl, T.fin I⟩
  | d + 1, k, 0, _, _, _, _, _, hf, _, _, _ => absurd hf (Nat.not_lt_zero _)
  | d + 1, k, f + 1, Mx1, Mm1, G, hd, hk, hf, T, ht, h2 => by
    rw [X2_whenGone_13, X8_when_17, if_neg (show ¬ (60 : Int32) < nI k from nI_nlt (a := 60) (by omega) (by omega)), if_pos (show nI k < (61 : Int32) from nI_lt (b := 61) (by omega) (by omega)), (T.waits ht).1, (T.waits ht).2, Option.bind_some, Option.bind_some]
    by_cases c : G (15 + t) = 0
    · rw [decide_eq_true c]
      simp only [bI_t, i10, ↓reduceIte]
      obtain ⟨Mx2, Mm2, a1, a2, T2⟩ := tr_tick T I (by omega)
      obtain ⟨w1, w2, w3⟩ := tk1_W (a := 0) T.V.1 (show G 2 < 1900 by omega)
      rw [a1, a2, Option.bind_some, Option.bind_some, nI_1]
      exact when_loop I d (k + 1) f Mx2 Mm2 (tk1 0 G) (by omega) (by omega) (by omega) T2 (by rw [w2 1 (by omega)]; exact ht) (by rw [w3]; omega)
    · rw [decide_eq_false c]
      exact ⟨_, _, _, rfl, rfl, T.fin I⟩
theorem ok_when_Inv : ok_when Inv := fun Mx Mm x I => by
  unfold X7_when X8_when X2_whenGone
  rcases one_dec I x with ⟨c, d⟩ | ⟨G, sh, t, H, hA, hO, ht, rfl, c, d⟩
  · rw [c, d]; exact ⟨_, _, _, rfl, rfl, I⟩
  obtain ⟨Mx1, Mm1, a1, a2, T⟩ := tr_lay (Mx1 := Mx) (Mm1 := Mm) H hA frm.rf tfM.rf I.misc.2.2.2
  obtain ⟨r, Mx2, Mm2, b1, b2, b3⟩ := when_loop I (t := t) 61 0 am_fuel Mx1 Mm1 G (by omega) (by omega) (by decide) T ht (by have := hO.2; omega)
  simp only [c, d, Option.bind_some, i10, ↓reduceIte, a1, a2]
  rw [show X2_whenGone_13 am_fuel (nI t) 0 Mx1 = _ from b1]
  exact ⟨r, Mx2, Mm2, rfl, b2, b3⟩
theorem full_N : ∀ n, n < 7 → ((1 : Int32) <<< (nI n &&& 31)) - 1 = nI (2 ^ n - 1) := by decide +kernel
theorem btN_full (p : Nat → Bool) : ∀ n, btN p n = 2 ^ n - 1 ↔ ∀ k, k < n → p k = true
  | 0 => ⟨fun _ k hk => absurd hk (Nat.not_lt_zero _), fun _ => rfl⟩
  | n + 1 => by
    have ih := btN_full p n
    have hl := btN_lt p n
    have hp : 2 ^ (n + 1) = 2 * 2 ^ n := by rw [Nat.pow_succ, Nat.mul_comm]
    rw [btN, hp]
    constructor
    · intro h
      cases hq : p n with
      | false =>
        rw [hq] at h
        simp at h
        omega
      | true =>
        rw [hq] at h
        simp at h
        intro k hk
        by_cases c : k = n
        · rw [c]; exact hq
        · exact ih.mp (by omega) k (by omega)
    · intro h
      rw [h n (by omega), ih.mpr (fun k hk => h k (by omega))]
      simp
      have : 0 < 2 ^ n := Nat.two_pow_pos n
      omega
theorem btI_full (p : Nat → Bool) {n : Nat} (hn : n ≤ 6) : btI p n = ((1 : Int32) <<< (nI n &&& 31)) - 1 ↔ ∀ k, k < n → p k = true := by
  have h1 := btN_le6 p hn
  have h2 : 2 ^ n ≤ 2 ^ 6 := Nat.pow_le_pow_right (by omega) hn
  rw [full_N n (by omega), btI_N p n hn, nI_eq (by omega) (by omega), btN_full]
def allG (G : Nat → Nat) (p : Nat → Bool) : Nat → Bool
  | 0 => true
  | k + 1 => allG G p k && p k
theorem allG_iff (G : Nat → Nat) (p : Nat → Bool) : ∀ n, allG G p n = true ↔ ∀ k, k < n → p k = true
  | 0 => ⟨fun _ k hk => absurd hk (Nat.not_lt_zero _), fun _ => rfl⟩
  | n + 1 => by
    rw [allG, Bool.and_eq_true, allG_iff G p n]
    constructor
    · intro h k hk
      by_cases c : k = n
      · rw [c]; exact h.2
      · exact h.1 k (by omega)
    · intro h
      exact ⟨fun k hk => h k (by omega), h n (by omega)⟩
theorem empty_in {M : Mem} {G : Nat → Nat} (K : Int32 → Mem → Option (Int32 × Mem)) (hA : atM M 1053 G) (hG : gB G) (h1 : M 1 1 = nI (G 1)) (x1 : Int32) : ∀ (d k f : Nat), G 1 - k = d → k ≤ G 1 → d < f → X8_empty_26 K f x1 (bI (allG G (inG 3 G) k)) (nI k) M = if allG G (inG 3 G) (G 1) then some (x1, M) else Option.bind (X8_ticksOf 1053 1 M) fun M1 => K (x1 + 1) M1
  | 0, k, 0, _, _, hf => absurd hf (Nat.not_lt_zero _)
  | 0, k, f + 1, hd, hk, _ => by
    have h6 := hG.2
    have e : k = G 1 := by omega
    subst e
    rw [X8_empty_26, if_pos (by decide), show (1 : Int32).toNatClampNeg = 1 by decide, h1, if_neg (nI_nlt (Nat.le_refl _) (by omega))]
    cases allG G (inG 3 G) (G 1) <;> rfl
  | d + 1, k, 0, _, _, hf => absurd hf (Nat.not_lt_zero _)
  | d + 1, k, f + 1, hd, hk, hf => by
    have h6 := hG.2
    have hv := hG.1 (33 + k)
    have ih := empty_in K hA hG h1 x1 d (k + 1) f (by omega) (by omega) (by omega)
    have c1 := hA (33 + k) (by omega)
    rw [cI_n (by omega), ← Nat.add_assoc] at c1
    rw [X8_empty_26, if_pos (by decide), show (1 : Int32).toNatClampNeg = 1 by decide, h1, if_pos (nI_lt (show k < G 1 by omega) (by omega)), nI_1]
    rw [allG] at ih
    cases hq : allG G (inG 3 G) k with
    | false =>
      rw [hq] at ih
      rw [if_pos (by rfl)]
      exact ih
    | true =>
      rw [hq] at ih
      rw [if_neg (by decide)]
      simp (disch := omega) only [l1086, li_30, nI_add, am_in_nI, nI_clamp, ↓reduceIte, c1, nI_ltI]
      by_cases c : G (33 + k) < 30
      · rw [show inG 3 G k = false by simp [inG, c]] at ih
        rw [if_pos c]; exact ih
      · rw [show inG 3 G k = true by simp [inG]; omega] at ih
        rw [if_neg c]; exact ih
theorem empty_loop {Mx Mm : Mem} (I : Inv Mx Mm) {n : Nat} (hn : Mm 1 1 = nI n) : ∀ (d k f : Nat) (Mx1 Mm1 : Mem) (G : Nat → Nat), 61 - k = d → k ≤ 61 → d < f → Tr Mx Mm Mx1 Mm1 0 G → G 1 = n → G 2 + d < 1500 → ∃ r Mx2 Mm2, X2_whenEmpty_25 f (((1 : Int32) <<< (nI n &&& 31)) - 1) (nI k) Mx1 = some (r, Mx2) ∧ X8_empty_16 f (nI k) Mm1 = some (r, Mm2) ∧ Inv Mx2 Mm2
  | 0, k, 0, _, _, _, _, _, hf, _, _, _ => absurd hf (Nat.not_lt_zero _)
  | 0, k, f + 1, Mx1, Mm1, G, hd, hk, _, T, _, _ => by
    rw [X2_whenEmpty_25, X8_empty_16, if_pos (show (60 : Int32) < nI k from nI_lt (a := 60) (by omega) (by omega)), if_neg (show ¬ nI k < (61 : Int32) from nI_nlt (b := 61) (by omega) (by omega))]
    exact ⟨_, _, _, rfl, rfl, T.fin I⟩
  | d + 1, k, 0, _, _, _, _, _, hf, _, _, _ => absurd hf (Nat.not_lt_zero _)
  | d + 1, k, f + 1, Mx1, Mm1, G, hd, hk, hf, T, ht, h2 => by
    have hP := T.P
    subst ht
    have hi := empty_in (X8_empty_16 f) T.2.2.2.1 T.V.1.1 (by rw [T.2.1.2.1 1 (by omega)]; exact hn) (nI k) (G 1) 0 am_fuel (by omega) (by omega) (by show _ < 2000; omega)
    rw [X2_whenEmpty_25, X8_empty_16, if_neg (show ¬ (60 : Int32) < nI k from nI_nlt (a := 60) (by omega) (by omega)), if_pos (show nI k < (61 : Int32) from nI_lt (b := 61) (by omega) (by omega)), show X3_setOf 23 Mx1 3 = _ from T.setOf (g := 3) (by omega), Option.bind_some, show X8_empty_26 (X8_empty_16 f) am_fuel (nI k) 1 0 Mm1 = _ from hi]
    by_cases c : allG G (inG 3 G) (G 1) = true
    · rw [if_pos c, if_pos ((btI_full _ hP.2.2).mpr ((allG_iff _ _ _).mp c))]
      exact ⟨_, _, _, rfl, rfl, T.fin I⟩
    · rw [if_neg c, if_neg (fun q => c ((allG_iff _ _ _).mpr ((btI_full _ hP.2.2).mp q)))]
      obtain ⟨Mx2, Mm2, a1, a2, T2⟩ := tr_tick T I (by omega)
      obtain ⟨w1, w2, w3⟩ := tk1_W (a := 0) T.V.1 (show G 2 < 1900 by omega)
      rw [a1, a2, Option.bind_some, Option.bind_some, nI_1]
      exact empty_loop I hn d (k + 1) f Mx2 Mm2 (tk1 0 G) (by omega) (by omega) (by omega) T2 (w2 1 (by omega)) (by rw [w3]; omega)
theorem ok_empty_Inv : ok_empty Inv := fun Mx Mm I => by
  unfold X7_empty X8_empty X2_whenEmpty
  rcases hall_dec I with ⟨c, d⟩ | ⟨G, sh, H, hA, hO, c, d⟩
  · rw [c, d]; exact ⟨_, _, _, rfl, rfl, I⟩
  obtain ⟨Mx1, Mm1, a1, a2, T⟩ := tr_lay (Mx1 := Mx) (Mm1 := Mm) H hA frm.rf tfM.rf I.misc.2.2.2
  obtain ⟨r, Mx2, Mm2, b1, b2, b3⟩ := empty_loop I (at_1 hA) 61 0 am_fuel Mx1 Mm1 G (by omega) (by omega) (by decide) T rfl (by have := hO.2; omega)
  simp only [c, d, Option.bind_some, i10, i00, ↓reduceIte, a1, a2, show Mx 15 1 = _ from H.1.1.2.1]
  rw [show X2_whenEmpty_25 am_fuel _ 0 Mx1 = _ from b1]
  exact ⟨r, Mx2, Mm2, rfl, b2, b3⟩
