/-! PURE: the class's search -/
def lvW (pf : List Nat) (n : Nat) (G : Nat → Nat) : List ((Nat × Nat) × List Nat) := (leaves n G).map (fun x => (wgh x.2, pf ++ x.1))
def frS (d : Nat) (M M' : Mem) : Prop := (∀ q, (q < 23 ∨ 30 < q) → q ≠ 34 → q ≠ 35 → q ≠ 38 → q ≠ 39 → M' q = M q) ∧ (∀ j, j ≠ 6 → j ≠ 8 → j ≠ 9 → M' 34 j = M 34 j) ∧ (∀ i, i < d → M' 38 i = M 38 i) ∧ ∀ j, j < d * 40 → M' 35 j = M 35 j
theorem frS.tr {d : Nat} {M M1 M2 : Mem} (a : frS d M M1) (b : frS d M1 M2) : frS d M M2 := ⟨fun q h h1 h2 h3 h4 => (b.1 q h h1 h2 h3 h4).trans (a.1 q h h1 h2 h3 h4), fun j h1 h2 h3 => (b.2.1 j h1 h2 h3).trans (a.2.1 j h1 h2 h3), fun i h => (b.2.2.1 i h).trans (a.2.2.1 i h), fun j h => (b.2.2.2 j h).trans (a.2.2.2 j h)⟩
theorem frS.rf {d : Nat} {M : Mem} : frS d M M := ⟨fun _ _ _ _ _ _ => rfl, fun _ _ _ _ => rfl, fun _ _ => rfl, fun _ _ => rfl⟩
theorem frS.le {d d' : Nat} {M M' : Mem} (a : frS d M M') (h : d' ≤ d) : frS d' M M' := ⟨a.1, a.2.1, fun i hi => a.2.2.1 i (by omega), fun j hj => a.2.2.2 j (by omega)⟩
theorem frm.S {M M' : Mem} (a : frm M M' 23) (d : Nat) : frS d M M' := ⟨fun q h _ _ _ _ => a q (by omega), fun j _ _ _ => by rw [a 34 (by omega)], fun i _ => by rw [a 38 (by omega)], fun j _ => by rw [a 35 (by omega)]⟩
def pfx (pf : List Nat) (M : Mem) : Prop := ∀ k, k < pf.length → M 38 k = nI (pf.getD k 0)
theorem cartN_drop {G G' : Nat → Nat} {c : Nat} : ∀ {k : Nat}, (∀ b, b < k → b ≠ c → (G' (33 + b) = 20 ↔ G (33 + b) = 20)) → G (33 + c) = 20 → G' (33 + c) ≠ 20 → c < k → cartN G' k + 1 = cartN G k
  | 0, _, _, _, h => absurd h (Nat.not_lt_zero _)
  | k + 1, hG, h1, h2, h => by
    rw [cartN, cartN]
    by_cases q : c = k
    · subst q
      rw [if_neg h2, if_pos h1, cartN_cong (G := G') (G' := G) (fun b hb => hG b (by omega) (by omega))]
    · have ih := cartN_drop (G := G) (G' := G') (c := c) (k := k) (fun b hb => hG b (by omega)) h1 h2 (by omega)
      have e := hG k (by omega) (Ne.symm q)
      by_cases w : G (33 + k) = 20
      · rw [if_pos w, if_pos (e.mpr w)]; omega
      · rw [if_neg w, if_neg (fun z => w (e.mp z))]; omega
def tryOk (N c : Nat) (g : Int32 → Int32 → Mem → Option Mem) : Prop := ∀ (i : Nat) (M : Mem) (sh : Nat) (G : Nat → Nat) (pf : List Nat) (o : Option ((Nat × Nat) × List Nat)), HX M 23 0 sh G → M 34 7 = nI N → i ≤ N → G 2 + (N - i) < 1900 → cartN G (G 1) ≤ c → pf.length + cartN G (G 1) ≤ 6 → pfx pf M → bsX o M → ∃ M', g (nI i) (nI pf.length) M = some M' ∧ bsX (cmb o (bst (lvW pf (N - i) G))) M' ∧ frS pf.length M M' ∧ M' 23 1 = nI (G 1) ∧ M' 23 3 = 0
def eachOk (N c : Nat) (g : Int32 → Int32 → Mem → Option Mem) : Prop := ∀ (i : Nat) (M : Mem) (sh : Nat) (G : Nat → Nat) (pf : List Nat) (o : Option ((Nat × Nat) × List Nat)), gV G → HX M 23 0 sh (trnG G) → dueG (trnG G) = true → M 34 7 = nI N → i < N → G 2 + (N - i) < 1900 → cartN G (G 1) ≤ c → pf.length + cartN G (G 1) ≤ 6 → pfx pf M → bsX o M → ∃ M', g (nI i) (nI pf.length) M = some M' ∧ bsX (cmb o (bst (lvW pf (N - i) G))) M' ∧ frS pf.length M M' ∧ M' 23 1 = nI (G 1) ∧ M' 23 3 = 0
theorem tf_loop {N c : Nat} (hN : N ≤ 40) {g1 g2 : Int32 → Int32 → Mem → Option Mem} (hE : eachOk N c g2) : ∀ (e i f : Nat) (M : Mem) (sh : Nat) (G : Nat → Nat) (pf : List Nat) (o : Option ((Nat × Nat) × List Nat)), N - i = e → i ≤ N → e < f → HX M 23 0 sh G → M 34 7 = nI N → G 2 + e < 1900 → cartN G (G 1) ≤ c → pf.length + cartN G (G 1) ≤ 6 → pfx pf M → bsX o M → ∃ M', X4_tryFrom_b_2 g1 g2 f (nI pf.length) (nI i) M = some M' ∧ bsX (cmb o (bst (lvW pf e G))) M' ∧ frS pf.length M M' ∧ M' 23 1 = nI (G 1) ∧ M' 23 3 = 0
  | 0, i, 0, _, _, _, _, _, _, _, hf, _, _, _, _, _, _, _ => absurd hf (Nat.not_lt_zero _)
  | 0, i, f + 1, M, sh, G, pf, o, he, hi, hf, H, h7, h2, hc, h6, hp, hb => by
    rw [X4_tryFrom_b_2, h7, if_neg (nI_nlt (by omega) (by omega))]
    obtain ⟨M', a1, a2, a3, a4⟩ := cx_weigh H hb (d := pf.length) rfl (by omega) hp
    rw [a1, Option.bind_some]
    refine ⟨M', rfl, ?_, ⟨fun q _ h1 _ _ h4 => a3 q h1 h4, a4, fun i _ => by rw [a3 38 (by omega) (by omega)], fun j _ => by rw [a3 35 (by omega) (by omega)]⟩, by rw [a3 23 (by omega) (by omega)]; exact H.1.1.2.1, by rw [a3 23 (by omega) (by omega)]; exact H.1.1.2.2.2.1⟩
    unfold lvW
    rw [leaves, List.map_cons, List.map_nil, List.append_nil]
    exact a2
  | e + 1, i, 0, _, _, _, _, _, _, _, hf, _, _, _, _, _, _, _ => absurd hf (Nat.not_lt_zero _)
  | e + 1, i, f + 1, M, sh, G, pf, o, he, hi, hf, H, h7, h2, hc, h6, hp, hb => by
    have hP := hx_P H
    have hV := H.2.1
    have hm : (1 + G 0) % G 0 = 1 := by rw [Nat.add_mod_right]; exact Nat.mod_eq_of_lt (by omega)
    obtain ⟨M1, a1, a2, a3⟩ := cx_turnBy (x := 1) (d := 1 + G 0) (e := 1) H (by omega) hm (fm_1 ⟨hP.1, hP.2.1⟩ H.2.2)
    have a2 : HX M1 23 0 (addm (G 0) sh 1) (trnG G) := a2
    obtain ⟨t1, t2, t3⟩ := trn_V hV
    have e1 : trnG G 1 = G 1 := t2 1 (by omega)
    have e2 : trnG G 2 = G 2 := t2 2 (by omega)
    rw [X4_tryFrom_b_2, h7, if_pos (nI_lt (by omega) (by omega)), a1, Option.bind_some, cx_isFallDue a2, Option.bind_some]
    have ed : (decide (0 < cartN (trnG G) (trnG G 1)) && decide (bagG (trnG G) 0 (trnG G 1) = 0)) = dueG (trnG G) := by unfold dueG; exact Bool.and_comm _ _
    rw [ed]
    have h71 : M1 34 7 = nI N := by rw [a3 34 (by omega)]; exact h7
    have hp1 : pfx pf M1 := fun k hk => by rw [a3 38 (by omega)]; exact hp k hk
    have hb1 : bsX o M1 := hb.c (a3 34 (by omega)) (a3 39 (by omega))
    cases hd : dueG (trnG G) with
    | false =>
      rw [if_pos (show bI false = 0 from rfl)]
      obtain ⟨M3, b1, b2, b3⟩ := cx_letTake a2 (by omega)
      obtain ⟨l1, -, l2, l3, l4⟩ := ltk_V t1 (by omega)
      have ec : cartN (ltkG (trnG G)) (ltkG (trnG G) 1) = cartN G (G 1) := by
        rw [l2, e1]
        exact cartN_cong (fun b hb => (l4 b).trans (t3 b hb))
      rw [b1, Option.bind_some, nI_1]
      obtain ⟨M', i1, i2, i3, i4, i5⟩ := tf_loop hN hE (g1 := g1) e (i + 1) f M3 _ (ltkG (trnG G)) pf o (by omega) (by omega) (by omega) b2 (by rw [b3 34 (by omega)]; exact h71) (by rw [l3, e2]; omega) (by omega) (by omega) (fun k hk => by rw [b3 38 (by omega)]; exact hp1 k hk) (hb1.c (b3 34 (by omega)) (b3 39 (by omega)))
      refine ⟨M', i1, ?_, ((a3.S _).tr (b3.S _)).tr i3, by rw [i4, l2, e1], i5⟩
      unfold lvW
      rw [leaves, if_neg (by rw [hd]; exact ff)]
      exact i2
    | true =>
      rw [if_neg (show ¬ bI true = 0 by decide)]
      obtain ⟨M', i1, i2, i3, i4, i5⟩ := hE i M1 _ G pf o hV a2 hd h71 (by omega) (by omega) hc h6 hp1 hb1
      rw [i1, Option.bind_some]
      rw [he] at i2
      exact ⟨M', rfl, i2, (a3.S _).tr i3, i4, i5⟩
def eaG (pf : List Nat) (n : Nat) (G : Nat → Nat) (c : Nat) : List ((Nat × Nat) × List Nat) := if G (33 + c) = 20 then lvW (pf ++ [c]) n (hlC G c) else []
theorem ef_loop {N c i : Nat} (hN : N ≤ 40) {g1 g2 : Int32 → Int32 → Mem → Option Mem} (hT : tryOk N c g1) {G : Nat → Nat} {sh : Nat} (hV : gV G) (hd : dueG (trnG G) = true) (hi : i < N) (h2 : G 2 + (N - i) < 1900) {pf : List Nat} (hc : cartN G (G 1) ≤ c + 1) (h6 : pf.length + cartN G (G 1) ≤ 6) : ∀ (e b f : Nat) (M : Mem) (o : Option ((Nat × Nat) × List Nat)), G 1 - b = e → b ≤ G 1 → e < f → M 23 1 = nI (G 1) → M 23 3 = 0 → svX (M 35) (pf.length * 40) sh (trnG G) → M 34 7 = nI N → pfx pf M → bsX o M → ∃ M', X4_tryEachFall_b_38 g1 g2 f (nI i) (nI pf.length) (btI (inG 1 (trnG G)) (G 1)) (nI b) M = some M' ∧ bsX (cmb o (bst ((List.range' b e).flatMap (eaG pf (N - (i + 1)) G)))) M' ∧ frS pf.length M M' ∧ M' 23 1 = nI (G 1) ∧ M' 23 3 = 0
  | 0, b, 0, _, _, _, _, hf, _, _, _, _, _, _ => absurd hf (Nat.not_lt_zero _)
  | 0, b, f + 1, M, o, he, hb, hf, m1, m3, hs, h7, hp, ho => by
    have h6' := hV.1.1.2
    rw [X4_tryEachFall_b_38, m1, if_neg (nI_nlt (by omega) (by omega))]
    exact ⟨M, rfl, ho, frS.rf, m1, m3⟩
  | e + 1, b, 0, _, _, _, _, hf, _, _, _, _, _, _ => absurd hf (Nat.not_lt_zero _)
  | e + 1, b, f + 1, M, o, he, hb, hf, m1, m3, hs, h7, hp, ho => by
    have h6' := hV.1.1.2
    have hbm : b < G 1 := by omega
    obtain ⟨t1, t2, t3⟩ := trn_V hV
    obtain ⟨d1, -⟩ := due_0 hd
    have e1 : trnG G 1 = G 1 := t2 1 (by omega)
    have eB : inG 1 (trnG G) b = true ↔ trnG G (33 + b) = 20 := by
      show decide (trnG G (33 + b) = 20) = true ↔ _
      rw [decide_eq_true_eq]
    have ef : bst ((List.range' b (e + 1)).flatMap (eaG pf (N - (i + 1)) G)) = cmb (bst (eaG pf (N - (i + 1)) G b)) (bst ((List.range' (b + 1) e).flatMap (eaG pf (N - (i + 1)) G))) := by
      rw [List.range'_succ, List.flatMap_cons, bst_app]
    rw [X4_tryEachFall_b_38, m1, if_pos (nI_lt hbm (by omega)), ef]
    by_cases q : G (33 + b) = 20
    case neg =>
      rw [if_neg (by rw [bt_tb _ h6' hbm, eB]; exact fun z => q ((t3 b hbm).mp z)), nI_1]
      have eg : eaG pf (N - (i + 1)) G b = [] := if_neg q
      rw [eg, show bst ([] : List ((Nat × Nat) × List Nat)) = none from rfl, cmb_n]
      exact ef_loop hN hT hV hd hi h2 hc h6 e (b + 1) f M o (by omega) (by omega) (by omega) m1 m3 hs h7 hp ho
    case pos =>
      have q' := (t3 b hbm).mpr q
      have hc1 : 1 ≤ cartN G (G 1) := by
        have : cartN G (G 1) ≠ 0 := fun z => cartN_0.mp z b hbm q
        omega
      have eg : eaG pf (N - (i + 1)) G b = lvW (pf ++ [b]) (N - (i + 1)) (hlC G b) := if_pos q
      rw [if_pos (by rw [bt_tb _ h6' hbm, eB]; exact q'), li_40, nI_mul, eg]
      obtain ⟨M1, a1, a2, a3⟩ := cx_loadFrom (M := M) (h := 23) (p := 35) (n := 240) (o := pf.length * 40) (by omega) (by omega) (by omega) hs
      rw [m3] at a2
      rw [a1, Option.bind_some, am_in_nI (by omega) (by omega), if_pos rfl, nI_clamp (by omega), am_let_eq]
      have H2 : HX (mset M1 38 (upd (M1 38) pf.length (nI b))) 23 0 sh (trnG G) := hx_frm a2 (fun z _ _ => mset_ne _ _ (by omega))
      have f2 : frS pf.length M (mset M1 38 (upd (M1 38) pf.length (nI b))) := (a3.S _).tr ⟨fun z _ _ _ h3 _ => mset_ne _ _ h3, fun j _ _ _ => by rw [mset_ne _ _ (by omega)], fun k hk => by rw [mset_self, upd_ne (by omega)], fun j _ => by rw [mset_ne _ _ (by omega)]⟩
      have p2 : mset M1 38 (upd (M1 38) pf.length (nI b)) 38 pf.length = nI b := by rw [mset_self, upd_same]
      have s2 : svX (mset M1 38 (upd (M1 38) pf.length (nI b)) 35) (pf.length * 40) sh (trnG G) := by rw [mset_ne _ _ (by omega), a3 35 (by omega)]; exact hs
      have o2 : bsX o (mset M1 38 (upd (M1 38) pf.length (nI b))) := ho.c (by rw [mset_ne _ _ (by omega), a3 34 (by omega)]) (by rw [mset_ne _ _ (by omega), a3 39 (by omega)])
      generalize mset M1 38 (upd (M1 38) pf.length (nI b)) = M2 at H2 f2 p2 s2 o2 ⊢
      obtain ⟨M3, b1, b2, b3⟩ := cx_fallDown H2 (b := b) (by rw [e1]; exact hbm) q' d1
      rw [b1, Option.bind_some]
      obtain ⟨M4, c1, c2, c3⟩ := cx_letTake b2 (by rw [upN_ne (by omega), t2 2 (by omega)]; omega)
      have c2 : HX M4 23 0 sh (hlC G b) := c2
      rw [c1, Option.bind_some]
      have f4 : frS pf.length M M4 := (f2.tr (b3.S _)).tr (c3.S _)
      have g4 : ∀ z, (z < 23 ∨ 30 < z) → M4 z = M2 z := fun z hz => by rw [c3 z (by omega), b3 z (by omega)]
      have o4 : bsX o M4 := o2.c (g4 34 (by omega)) (g4 39 (by omega))
      have s4 : svX (M4 35) (pf.length * 40) sh (trnG G) := by rw [g4 35 (by omega)]; exact s2
      have h74 : M4 34 7 = nI N := by rw [f4.2.1 7 (by omega) (by omega) (by omega)]; exact h7
      have p4 : pfx (pf ++ [b]) M4 := fun k hk => by
        rw [List.length_append, List.length_singleton] at hk
        rw [g4 38 (by omega)]
        by_cases z : k = pf.length
        · rw [z, p2, List.getD_eq_getElem?_getD, List.getElem?_append_right (Nat.le_refl _), Nat.sub_self]; rfl
        · rw [f2.2.2.1 k (by omega), hp k (by omega), List.getD_eq_getElem?_getD, List.getD_eq_getElem?_getD, List.getElem?_append_left (by omega)]
      have p4' : pfx pf M4 := fun k hk => by rw [f4.2.2.1 k hk]; exact hp k hk
      obtain ⟨v1, -, v2, v3, v4, v5⟩ := hlC_V hV (by omega) hd hbm q
      have ec : cartN (hlC G b) (hlC G b 1) + 1 = cartN G (G 1) := by
        rw [v2]
        exact cartN_drop v5 q v4 hbm
      have ed : (pf ++ [b]).length = pf.length + 1 := by rw [List.length_append]; rfl
      rcases cx_may c2 o4 with z | ⟨z, qq, eo, z1, z2⟩
      · rw [z, Option.bind_some, if_neg (show ¬ (1 : Int32) = 0 by decide), nI_1, nI_1, nI_1]
        obtain ⟨M6, i1, i2, i3, i4, i5⟩ := hT (i + 1) M4 sh (hlC G b) (pf ++ [b]) o c2 h74 (by omega) (by rw [v3]; omega) (by omega) (by rw [ed]; omega) p4 o4
        rw [ed] at i1 i3
        rw [i1, Option.bind_some]
        obtain ⟨M', j1, j2, j3, j4, j5⟩ := ef_loop hN hT (g2 := g2) hV hd hi h2 hc h6 e (b + 1) f M6 _ (by omega) (by omega) (by omega) (by rw [i4, v2]) i5 (svX_cg s4 (fun j h1 h2 => i3.2.2.2 j (by omega))) (by rw [i3.2.1 7 (by omega) (by omega) (by omega)]; exact h74) (fun k hk => by rw [i3.2.2.1 k (by omega)]; exact p4' k hk) i2
        refine ⟨M', j1, ?_, (f4.tr (i3.le (by omega))).tr j3, j4, j5⟩
        have ea : ∀ (a b c : Option ((Nat × Nat) × List Nat)), cmb (cmb a b) c = cmb a (cmb b c) := fun a b c => by
          cases b with
          | none => rw [cmb_n]; rfl
          | some x => exact cmb_as a x c
        rw [ea] at j2
        exact j2
      · rw [z, Option.bind_some, if_pos rfl, nI_1]
        obtain ⟨M', j1, j2, j3, j4, j5⟩ := ef_loop hN hT (g2 := g2) hV hd hi h2 hc h6 e (b + 1) f M4 o (by omega) (by omega) (by omega) (by rw [c2.1.1.2.1, v2]) c2.1.1.2.2.2.1 s4 h74 p4' o4
        refine ⟨M', j1, ?_, f4.tr j3, j4, j5⟩
        have ea : ∀ (a b c : Option ((Nat × Nat) × List Nat)), cmb (cmb a b) c = cmb a (cmb b c) := fun a b c => by
          cases b with
          | none => rw [cmb_n]; rfl
          | some x => exact cmb_as a x c
        rw [← ea]
        have pr := prune (n := N - (i + 1)) (G := hlC G b) v1 (by rw [v3]; omega) z1 z2 (fun x => (pf ++ [b]) ++ x.1)
        have pr : cmb (some qq) (bst (lvW (pf ++ [b]) (N - (i + 1)) (hlC G b))) = some qq := pr
        rw [eo] at j2 ⊢
        rw [pr]
        exact j2
