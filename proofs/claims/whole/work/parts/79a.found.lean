/-! PURE: the class's search, whole -/
theorem lv_due {G : Nat → Nat} (h : gV G) (hd : dueG (trnG G) = true) (n : Nat) (pf : List Nat) : lvW pf (n + 1) G = (List.range (G 1)).flatMap (eaG pf n G) := by
  obtain ⟨t1, t2, t3⟩ := trn_V h
  unfold lvW
  rw [leaves, if_pos hd, t2 1 (by omega), List.map_flatMap]
  have key : ∀ (l : List Nat), (∀ c, c ∈ l → c < G 1) → l.flatMap (fun c => List.map (fun x => (wgh x.2, pf ++ x.1)) (if trnG G (33 + c) = 20 then (leaves n (ltkG (upN (trnG G) (33 + c) 0))).map (fun x => (c :: x.1, x.2)) else [])) = l.flatMap (eaG pf n G) := by
    intro l
    induction l with
    | nil => intro _; rfl
    | cons c l ih =>
      intro hl
      rw [List.flatMap_cons, List.flatMap_cons, ih (fun x hx => hl x (List.mem_cons_of_mem _ hx))]
      congr 1
      have hc := hl c List.mem_cons_self
      unfold eaG
      by_cases q : G (33 + c) = 20
      · rw [if_pos ((t3 c hc).mpr q), if_pos q, List.map_map]
        unfold lvW
        apply List.map_congr_left
        intro x hx
        show (wgh x.2, pf ++ (c :: x.1)) = (wgh x.2, (pf ++ [c]) ++ x.1)
        rw [List.append_assoc]; rfl
      · rw [if_neg (fun z => q ((t3 c hc).mp z)), if_neg q]; rfl
  exact key _ (fun c hc => List.mem_range.mp hc)
theorem each_try {N c : Nat} (hN : N ≤ 40) {g1 g2 : Int32 → Int32 → Mem → Option Mem} (hT : tryOk N c g1) : eachOk N (c + 1) (X4_tryEachFall_b g1 g2) := by
  intro i M sh G pf o hV H hd h7 hi h2 hc h6 hp hb
  have h6' := hV.1.1.2
  obtain ⟨t1, t2, t3⟩ := trn_V hV
  obtain ⟨d1, b, hb1, hb2⟩ := due_0 hd
  have e1 : trnG G 1 = G 1 := t2 1 (by omega)
  rw [e1] at hb1
  have hc1 : 1 ≤ cartN G (G 1) := by
    have : cartN G (G 1) ≠ 0 := fun z => cartN_0.mp z b hb1 ((t3 b hb1).mp hb2)
    omega
  unfold X4_tryEachFall_b
  rw [if_neg (nI_pos (by omega)), if_pos (show nI pf.length < 6 from nI_lt (b := 6) (by omega) (by omega)), li_40, nI_mul]
  have hset := cx_setOf H (g := 1) (by omega)
  rw [e1, ← li_1] at hset
  rw [hset, Option.bind_some, cx_saveTo M 23 35 240 (pf.length * 40) (by omega) (by omega) (by omega), Option.bind_some]
  have s2 := svC_hx H (pf.length * 40) (M 35)
  have f2 : frS pf.length M (mset M 35 (fun j => if pf.length * 40 ≤ j ∧ j < pf.length * 40 + 40 then svC M 23 (j - pf.length * 40) else M 35 j)) := ⟨fun q _ _ h2 _ _ => mset_ne _ _ h2, fun j _ _ _ => by rw [mset_ne _ _ (by omega)], fun k _ => by rw [mset_ne _ _ (by omega)], fun j hj => by rw [mset_self, if_neg (by omega)]⟩
  have m23 : mset M 35 (fun j => if pf.length * 40 ≤ j ∧ j < pf.length * 40 + 40 then svC M 23 (j - pf.length * 40) else M 35 j) 23 = M 23 := mset_ne _ _ (by omega)
  have m39 : mset M 35 (fun j => if pf.length * 40 ≤ j ∧ j < pf.length * 40 + 40 then svC M 23 (j - pf.length * 40) else M 35 j) 39 = M 39 := mset_ne _ _ (by omega)
  have m34 : mset M 35 (fun j => if pf.length * 40 ≤ j ∧ j < pf.length * 40 + 40 then svC M 23 (j - pf.length * 40) else M 35 j) 34 = M 34 := mset_ne _ _ (by omega)
  have m35 : svX (mset M 35 (fun j => if pf.length * 40 ≤ j ∧ j < pf.length * 40 + 40 then svC M 23 (j - pf.length * 40) else M 35 j) 35) (pf.length * 40) sh (trnG G) := by rw [mset_self]; exact s2
  generalize mset M 35 (fun j => if pf.length * 40 ≤ j ∧ j < pf.length * 40 + 40 then svC M 23 (j - pf.length * 40) else M 35 j) = M2 at f2 m23 m39 m34 m35 ⊢
  obtain ⟨M', j1, j2, j3, j4, j5⟩ := ef_loop hN hT (g2 := g2) (sh := sh) hV hd hi h2 hc h6 (G 1) 0 am_fuel M2 o (by omega) (by omega) (by show G 1 < 2000; omega) (by rw [m23, H.1.1.2.1, e1]) (by rw [m23]; exact H.1.1.2.2.2.1) m35 (by rw [m34]; exact h7) (fun k hk => by rw [f2.2.2.1 k hk]; exact hp k hk) (hb.c m34 m39)
  refine ⟨M', j1, ?_, f2.tr j3, j4, j5⟩
  rw [show N - i = N - (i + 1) + 1 by omega, lv_due hV hd, List.range_eq_range']
  exact j2
theorem try_all {N : Nat} (hN : N ≤ 40) : ∀ (c r : Nat), 2 * c + 1 ≤ r → tryOk N c (X4_rec r).1
  | 0, 0, h => by omega
  | 0, r + 1, _ => by
    intro i M sh G pf o H h7 hi h2 hc h6 hp hb
    have hE : eachOk N 0 (X4_rec r).2 := by
      intro i M sh G pf o hV H hd h7 hi h2 hc h6 hp hb
      obtain ⟨t1, t2, t3⟩ := trn_V hV
      obtain ⟨d1, b, hb1, hb2⟩ := due_0 hd
      rw [t2 1 (by omega)] at hb1
      exact absurd ((t3 b hb1).mp hb2) (cartN_0.mp (show cartN G (G 1) = 0 by omega) b hb1)
    exact tf_loop hN hE (g1 := (X4_rec r).1) (N - i) i am_fuel M sh G pf o rfl hi (by show _ < 2000; omega) H h7 h2 hc h6 hp hb
  | c + 1, 0, h => by omega
  | c + 1, 1, h => by omega
  | c + 1, r + 2, h => by
    intro i M sh G pf o H h7 hi h2 hc h6 hp hb
    have hE : eachOk N (c + 1) (X4_rec (r + 1)).2 := each_try hN (g2 := (X4_rec r).2) (try_all hN c r (by omega))
    exact tf_loop hN hE (g1 := (X4_rec (r + 1)).1) (N - i) i am_fuel M sh G pf o rfl hi (by show _ < 2000; omega) H h7 h2 hc h6 hp hb
/-- what is searched anew -/
theorem cx_search25 {M : Mem} {sh : Nat} {G : Nat → Nat} {n : Nat} (H : HX M 15 0 sh G) (hO : hOK G) (hn : 1 ≤ n ∧ n ≤ 40) (hs : svX (M 36) 0 sh G) : ∃ M' w f, bestL n G = some (w, f) ∧ X4_search_25 15 (nI n) M = some M' ∧ M' 34 7 = nI n ∧ M' 37 = (fun j => if j < 40 then M 36 j else M 37 j) ∧ bsX (some (w, f)) M' ∧ ∀ q, (q < 23 ∨ 30 < q) → q ≠ 34 → q ≠ 35 → q ≠ 37 → q ≠ 38 → q ≠ 39 → M' q = M q := by
  have hP := hx_P H
  have h2 := hO.2
  unfold X4_search_25
  rw [if_pos (show am_cp (0 : Int32) (0 : Int32) (40 : Int32) 40 40 = true by decide), show (0 : Int32).toNatClampNeg = 0 by decide, show (40 : Int32).toNatClampNeg = 40 by decide, am_let_eq, am_let_eq, am_let_eq, mset_self, mset_mset]
  have ecp : va_cpy (M 36) (M 37) 0 0 40 = fun j => if j < 40 then M 36 j else M 37 j := by
    funext j
    unfold va_cpy
    by_cases c : j < 40
    · rw [if_pos (by omega), if_pos c, show 0 + (j - 0) = j by omega]
    · rw [if_neg (by omega), if_neg c]
  rw [ecp, mset_ne _ _ (show (34 : Nat) ≠ 37 by omega)]
  have H1 : HX (mset (mset M 37 (fun j => if j < 40 then M 36 j else M 37 j)) 34 (upd (upd (M 34) 7 (nI n)) 8 (-1))) 15 0 sh G := hx_frm H (fun z _ _ => by rw [mset_ne _ _ (by omega), mset_ne _ _ (by omega)])
  have g1 : ∀ q, q ≠ 34 → q ≠ 37 → mset (mset M 37 (fun j => if j < 40 then M 36 j else M 37 j)) 34 (upd (upd (M 34) 7 (nI n)) 8 (-1)) q = M q := fun q h1 h2 => by rw [mset_ne _ _ h1, mset_ne _ _ h2]
  have g37 : mset (mset M 37 (fun j => if j < 40 then M 36 j else M 37 j)) 34 (upd (upd (M 34) 7 (nI n)) 8 (-1)) 37 = (fun j => if j < 40 then M 36 j else M 37 j) := by rw [mset_ne _ _ (by omega), mset_self]
  have g7 : mset (mset M 37 (fun j => if j < 40 then M 36 j else M 37 j)) 34 (upd (upd (M 34) 7 (nI n)) 8 (-1)) 34 7 = nI n := by rw [mset_self, upd_ne (by omega), upd_same]
  have g8 : mset (mset M 37 (fun j => if j < 40 then M 36 j else M 37 j)) 34 (upd (upd (M 34) 7 (nI n)) 8 (-1)) 34 8 = -1 := by rw [mset_self, upd_same]
  generalize mset (mset M 37 (fun j => if j < 40 then M 36 j else M 37 j)) 34 (upd (upd (M 34) 7 (nI n)) 8 (-1)) = M1 at H1 g1 g37 g7 g8 ⊢
  obtain ⟨M2, b1, b2, b3⟩ := cx_become (h := 23) H1 (by omega)
  rw [b1, Option.bind_some]
  have hcl := cartN_le G (G 1)
  obtain ⟨M', t1, t2, t3, t4, t5⟩ := try_all hn.2 6 30 (by omega) 0 M2 sh G [] none b2 (by rw [b3 34 (by omega)]; exact g7) (by omega) (by omega) (by omega) (by show 0 + _ ≤ 6; omega) (fun k hk => absurd hk (Nat.not_lt_zero _)) (by show M2 34 8 = -1; rw [b3 34 (by omega)]; exact g8)
  obtain ⟨w, f, a1, -⟩ := ord_all n (G 1) (List.range (G 1)) G List.length_range List.pairwise_lt_range (fun r hr => List.mem_range.mp hr) (fun c hc _ => List.mem_range.mpr hc) H.2.1 (by omega)
  have el : lvW [] n G = (leaves n G).map (fun x => (wgh x.2, x.1)) := rfl
  rw [cmb_n, Nat.sub_zero, el, ← best_bst, a1] at t2
  refine ⟨M', w, f, a1, ?_, ?_, ?_, t2, fun q h1 h2 h3 h4 h5 h6 => ?_⟩
  · have : X4_tryFrom 30 0 0 M2 = some M' := t1
    rw [this, Option.bind_some]
  · rw [t3.2.1 7 (by omega) (by omega) (by omega), b3 34 (by omega)]; exact g7
  · rw [t3.1 37 (by omega) (by omega) (by omega) (by omega) (by omega), b3 37 (by omega)]; exact g37
  · rw [t3.1 q h1 h2 h3 h5 h6, b3 q (by omega), g1 q h2 h4]
theorem srch_loop {M : Mem} : ∀ (d k f : Nat), 40 - k = d → k ≤ 40 → d < f → (X4_isSearched_2 M f (nI k) = some 1 ∧ ∀ j, k ≤ j → j < 40 → M 36 j = M 37 j) ∨ X4_isSearched_2 M f (nI k) = some 0
  | 0, k, 0, _, _, hf => absurd hf (Nat.not_lt_zero _)
  | 0, k, f + 1, hd, hk, _ => by
    left
    rw [X4_isSearched_2, if_neg (show ¬ nI k < 40 from nI_nlt (b := 40) (by omega) (by omega))]
    exact ⟨rfl, fun j h1 h2 => by omega⟩
  | d + 1, k, 0, _, _, hf => absurd hf (Nat.not_lt_zero _)
  | d + 1, k, f + 1, hd, hk, hf => by
    rw [X4_isSearched_2, if_pos (show nI k < 40 from nI_lt (b := 40) (by omega) (by omega)), am_in_nI (by omega) (by omega), if_pos rfl, if_pos rfl, nI_clamp (by omega), nI_1]
    by_cases c : M 36 k = M 37 k
    · rw [if_pos c]
      rcases srch_loop d (k + 1) f (by omega) (by omega) (by omega) with ⟨a, b⟩ | a
      · left
        refine ⟨a, fun j h1 h2 => ?_⟩
        by_cases z : j = k
        · rw [z]; exact c
        · exact b j (by omega) h2
      · exact Or.inr a
    · rw [if_neg c]; exact Or.inr rfl
