/-! PURE: of all orders the first of the best: the first of the best falls, the others as early as can be -/
def crB (G : Nat → Nat) (c : Nat) : Bool := decide (G (33 + c) = 20)
def ordP (n k : Nat) (R : List Nat) (G : Nat → Nat) : Prop := ∃ w f, bestL n G = some (w, f) ∧ bst ((prm k R).map (fun σ => (wgh (simL n σ G), σ))) = some (w, gre k R (crB G) f)
theorem sim_go {G : Nat → Nat} (h : gV G) (hd : ¬ dueG (trnG G) = true) {σ : List Nat} (hσ : ∀ c, c ∈ σ → c < G 1) (n : Nat) : simL (n + 1) σ G = simL n σ (ltkG (trnG G)) := by
  rw [simL, due_no hd (fun c hc => by rw [(trn_V h).2.1 1 (by omega)]; exact hσ c hc)]
theorem ord_due (n : Nat) (ih : ∀ (k : Nat) (R : List Nat) (G : Nat → Nat), R.length = k → R.Pairwise (· < ·) → (∀ r, r ∈ R → r < G 1) → (∀ c, c < G 1 → G (33 + c) = 20 → c ∈ R) → gV G → G 2 + n < 1900 → ordP n k R G) {G : Nat → Nat} (hV : gV G) (h2 : G 2 + (n + 1) < 1900) (hd : dueG (trnG G) = true) : ∀ (k : Nat) (R : List Nat), R.length = k → R.Pairwise (· < ·) → (∀ r, r ∈ R → r < G 1) → (∀ c, c < G 1 → G (33 + c) = 20 → c ∈ R) → ordP (n + 1) k R G
  | 0, R, hk, hp, hR, hC => by
    obtain ⟨t1, t2, t3⟩ := trn_V hV
    obtain ⟨-, c, hc, h20⟩ := due_0 hd
    rw [t2 1 (by omega)] at hc
    have := hC c hc ((t3 c hc).mp h20)
    rw [List.eq_nil_of_length_eq_zero hk] at this
    simp at this
  | k + 1, R, hk, hp, hR, hC => by
    obtain ⟨t1, t2, t3⟩ := trn_V hV
    have hnd : ∀ r, r ∈ R → ∀ y, y ∈ R.erase r → y ≠ r := fun r hr y hy e => by
      rw [e] at hy
      have : R.Nodup := hp.imp (fun h => Nat.ne_of_lt h)
      exact (List.Nodup.not_mem_erase this) hy
    have hlen : ∀ r, r ∈ R → (R.erase r).length = k := fun r hr => by rw [List.length_erase_of_mem hr, hk]; rfl
    have hpw : ∀ r, (R.erase r).Pairwise (· < ·) := fun r => hp.sublist List.erase_sublist
    have ch : ∀ c, c ∈ R → G (33 + c) = 20 → ∃ w f, bestL n (hlC G c) = some (w, f) ∧ bst ((prm k (R.erase c)).map (fun σ => (wgh (simL n σ (hlC G c)), σ))) = some (w, gre k (R.erase c) (crB G) f) := fun c hc q => by
      have hc1 := hR c hc
      obtain ⟨v1, -, v2, v3, v4, v5⟩ := hlC_V hV (by omega) hd hc1 q
      obtain ⟨w, f, a1, a2⟩ := ih k (R.erase c) (hlC G c) (hlen c hc) (hpw c) (fun r hr => by rw [v2]; exact hR r (List.mem_of_mem_erase hr)) (fun b hb hb2 => by
        rw [v2] at hb
        have hbc : b ≠ c := fun e => by rw [e] at hb2; exact v4 hb2
        exact (List.mem_erase_of_ne hbc).mpr (hC b hb ((v5 b hb hbc).mp hb2))) v1 (by rw [v3]; omega)
      refine ⟨w, f, a1, ?_⟩
      rw [a2, gre_cg (C := crB (hlC G c)) (C' := crB G) (fun a ha => ?_)]
      have h1 := hnd c hc a ha
      have h2 := hR a (List.mem_of_mem_erase ha)
      unfold crB
      by_cases z : G (33 + a) = 20
      · rw [decide_eq_true z, decide_eq_true ((v5 a h2 h1).mpr z)]
      · rw [decide_eq_false z, decide_eq_false (fun y => z ((v5 a h2 h1).mp y))]
    obtain ⟨v, hv⟩ : ∃ v : Nat → (Nat × Nat) × List Nat, ∀ c w f, bestL n (hlC G c) = some (w, f) → v c = (w, c :: f) := ⟨fun c => match bestL n (hlC G c) with | some q => (q.1, c :: q.2) | none => ((0, 0), []), fun c w f e => by simp only [e]⟩
    have eB : bestL (n + 1) G = bst (((List.range (G 1)).filter (fun c => decide (G (33 + c) = 20))).map v) := by
      rw [best_due hV hd, fm_filter G _ v]
      intro c hc q
      obtain ⟨w, f, e, -⟩ := ch c (hC c (List.mem_range.mp hc) q) q
      rw [e, hv c w f e]; rfl
    have hpr : ((List.range (G 1)).filter (fun c => decide (G (33 + c) = 20))).Pairwise (· < ·) := List.Pairwise.filter _ List.pairwise_lt_range
    have hmem : ∀ c, c ∈ (List.range (G 1)).filter (fun c => decide (G (33 + c) = 20)) ↔ (c < G 1 ∧ G (33 + c) = 20) := fun c => by rw [List.mem_filter, List.mem_range, decide_eq_true_eq]
    cases hb : bst (((List.range (G 1)).filter (fun c => decide (G (33 + c) = 20))).map v) with
    | none =>
      obtain ⟨-, c, hc, h20⟩ := due_0 hd
      rw [t2 1 (by omega)] at hc
      have h1 := bst_none hb
      have h2 := (hmem c).mpr ⟨hc, (t3 c hc).mp h20⟩
      rw [List.map_eq_nil_iff] at h1
      rw [h1] at h2
      simp at h2
    | some q =>
      obtain ⟨c0, m0, eq, i1, i2⟩ := bst_asc' hpr hb
      obtain ⟨hc0, h20⟩ := (hmem c0).mp m0
      have hR0 := hC c0 hc0 h20
      obtain ⟨w0, f0, e0, p0⟩ := ch c0 hR0 h20
      rw [hv c0 w0 f0 e0] at eq
      rw [eq] at hb i1 i2
      simp only [] at i1 i2
      have eB2 : bestL (n + 1) G = some (w0, c0 :: f0) := eB.trans hb
      refine ⟨w0, c0 :: f0, eB2, ?_⟩
      obtain ⟨u, hu1, hu2⟩ : ∃ u : Nat → (Nat × Nat) × List Nat, (∀ r w f, G (33 + r) = 20 → bestL n (hlC G r) = some (w, f) → u r = (w, r :: gre k (R.erase r) (crB G) f)) ∧ ∀ r, G (33 + r) ≠ 20 → u r = (w0, r :: gre k (R.erase r) (crB G) (c0 :: f0)) :=
        ⟨fun r => if G (33 + r) = 20 then (match bestL n (hlC G r) with | some q => (q.1, r :: gre k (R.erase r) (crB G) q.2) | none => ((0, 0), [])) else (w0, r :: gre k (R.erase r) (crB G) (c0 :: f0)), fun r w f z e => by simp only [if_pos z, e], fun r z => if_neg z⟩
      have hu : ∀ r, r ∈ R → bst ((prm k (R.erase r)).map ((fun σ => (wgh (simL (n + 1) σ G), σ)) ∘ (fun t => r :: t))) = some (u r) := fun r hr => by
        have hr1 := hR r hr
        by_cases z : G (33 + r) = 20
        · obtain ⟨w, f, e, p⟩ := ch r hr z
          obtain ⟨v1, -, v2, v3, v4, v5⟩ := hlC_V hV (by omega) hd hr1 z
          have s : (prm k (R.erase r)).map ((fun σ => (wgh (simL (n + 1) σ G), σ)) ∘ (fun t => r :: t)) = ((prm k (R.erase r)).map (fun σ => (wgh (simL n σ (hlC G r)), σ))).map (fun x => (x.1, r :: x.2)) := by
            rw [List.map_map]
            apply List.map_congr_left
            intro τ hτ
            show (wgh (simL (n + 1) (r :: τ) G), r :: τ) = (wgh (simL n τ (hlC G r)), r :: τ)
            rw [sim_fall hV hd hr1 z, sim_drop n _ v1 (by rw [v3]; omega) (by rw [v2]; exact hr1) v4 (fun c hc => by rw [v2]; exact hR c (List.mem_of_mem_erase (prm_in hτ c hc)))]
          rw [s, bst_pay (fun t => r :: t), p, hu1 r w f z e]; rfl
        · obtain ⟨w, f, e, p⟩ := ord_due n ih hV h2 hd k (R.erase r) (hlen r hr) (hpw r) (fun y hy => hR y (List.mem_of_mem_erase hy)) (fun b hb hb2 => (List.mem_erase_of_ne (fun e => z (by rw [← e]; exact hb2))).mpr (hC b hb hb2))
          rw [eB2] at e
          cases e
          have s : (prm k (R.erase r)).map ((fun σ => (wgh (simL (n + 1) σ G), σ)) ∘ (fun t => r :: t)) = ((prm k (R.erase r)).map (fun σ => (wgh (simL (n + 1) σ G), σ))).map (fun x => (x.1, r :: x.2)) := by
            rw [List.map_map]
            apply List.map_congr_left
            intro τ hτ
            show (wgh (simL (n + 1) (r :: τ) G), r :: τ) = (wgh (simL (n + 1) τ G), r :: τ)
            rw [sim_drop (n + 1) _ hV (by omega) hr1 z (fun c hc => hR c (List.mem_of_mem_erase (prm_in hτ c hc)))]
          rw [s, bst_pay (fun t => r :: t), p, hu2 r z]; rfl
      have lo : ∀ y, y ∈ R → y < c0 → G (33 + y) = 20 → bt w0 (u y).1 := fun y hy hlt z => by
        obtain ⟨w, f, e, -⟩ := ch y hy z
        have := i1 y ((hmem y).mpr ⟨hR y hy, z⟩) hlt
        rw [hv y w f e] at this
        rw [hu1 y w f z e]; exact this
      have hi : ∀ y, y ∈ R → ¬ bt (u y).1 w0 := fun y hy => by
        by_cases z : G (33 + y) = 20
        · rcases Nat.lt_trichotomy y c0 with k1 | k1 | k1
          · have := lo y hy k1 z
            unfold bt at this ⊢
            omega
          · rw [k1, hu1 c0 w0 f0 h20 e0]
            show ¬ bt w0 w0
            unfold bt
            omega
          · obtain ⟨w, f, e, -⟩ := ch y hy z
            have := i2 y ((hmem y).mpr ⟨hR y hy, z⟩) k1
            rw [hv y w f e] at this
            rw [hu1 y w f z e]; exact this
        · rw [hu2 y z]
          show ¬ bt w0 w0
          unfold bt
          omega
      rw [prm, List.map_flatMap, bst_flat]
      simp only [List.map_map]
      rw [fm_map R hu]
      have uc : u c0 = (w0, c0 :: gre k (R.erase c0) (crB G) f0) := hu1 c0 w0 f0 h20 e0
      have at0 : (∀ y, y ∈ R → y < c0 → G (33 + y) = 20) → bst (R.map u) = some (w0, c0 :: gre k (R.erase c0) (crB G) f0) := fun hy => by
        rw [← uc]
        refine bst_asc hp hR0 (fun y h1 h2 => ?_) (fun y h1 h2 => ?_)
        · rw [uc]; exact lo y h1 h2 (hy y h1 h2)
        · rw [uc]; exact hi y h1
      rw [gre]
      cases hf : R.find? (fun a => !crB G a) with
      | none =>
        rw [List.find?_eq_none] at hf
        refine at0 (fun y hy _ => ?_)
        have := hf y hy
        unfold crB at this
        simpa using this
      | some a =>
        obtain ⟨a1, a2, a3⟩ := find_first hp hf
        have na : G (33 + a) ≠ 20 := by unfold crB at a2; simpa using a2
        have ya : ∀ y, y ∈ R → y < a → G (33 + y) = 20 := fun y hy hlt => by
          have := a3 y hy hlt
          unfold crB at this
          simpa using this
        simp only []
        by_cases c : a < c0
        · rw [if_pos c, ← hu2 a na]
          refine bst_asc hp a1 (fun y h1 h2 => ?_) (fun y h1 h2 => ?_)
          · rw [hu2 a na]; exact lo y h1 (by omega) (ya y h1 h2)
          · rw [hu2 a na]; exact hi y h1
        · rw [if_neg c]
          exact at0 (fun y hy hlt => ya y hy (by omega))
theorem ord_all : ∀ (n k : Nat) (R : List Nat) (G : Nat → Nat), R.length = k → R.Pairwise (· < ·) → (∀ r, r ∈ R → r < G 1) → (∀ c, c < G 1 → G (33 + c) = 20 → c ∈ R) → gV G → G 2 + n < 1900 → ordP n k R G
  | 0, k, R, G, hk, hp, hR, hC, hV, h2 => by
    refine ⟨wgh G, [], rfl, ?_⟩
    obtain ⟨l, e⟩ := prm_head hk
    rw [e, List.map_cons, gre_nil hk]
    exact bst_same _ (fun z hz => by
      rw [List.mem_map] at hz
      obtain ⟨σ, -, e⟩ := hz
      rw [← e]; rfl)
  | n + 1, k, R, G, hk, hp, hR, hC, hV, h2 => by
    by_cases hd : dueG (trnG G) = true
    · exact ord_due n (fun k R G a b c d e f => ord_all n k R G a b c d e f) hV h2 hd k R hk hp hR hC
    · obtain ⟨t1, t2, t3⟩ := trn_V hV
      obtain ⟨l1, -, l2, l3, l4⟩ := ltk_V t1 (by rw [t2 2 (by omega)]; omega)
      have e1 : ltkG (trnG G) 1 = G 1 := by rw [l2, t2 1 (by omega)]
      have e4 : ∀ b, b < G 1 → (ltkG (trnG G) (33 + b) = 20 ↔ G (33 + b) = 20) := fun b hb => (l4 b).trans (t3 b hb)
      obtain ⟨w, f, i1, i2⟩ := ord_all n k R (ltkG (trnG G)) hk hp (fun r hr => by rw [e1]; exact hR r hr) (fun c hc h20 => by rw [e1] at hc; exact hC c hc ((e4 c hc).mp h20)) l1 (by rw [l3, t2 2 (by omega)]; omega)
      refine ⟨w, f, by rw [best_go hd]; exact i1, ?_⟩
      rw [gre_cg (C := crB G) (C' := crB (ltkG (trnG G))) (fun a ha => ?_), ← i2]
      · congr 1
        apply List.map_congr_left
        intro σ hσ
        show (wgh (simL (n + 1) σ G), σ) = _
        rw [sim_go hV hd (fun c hc => hR c (prm_in hσ c hc))]
      · have := e4 a (hR a ha)
        unfold crB
        by_cases z : G (33 + a) = 20
        · rw [decide_eq_true z, decide_eq_true (this.mpr z)]
        · rw [decide_eq_false z, decide_eq_false (fun y => z (this.mp y))]
