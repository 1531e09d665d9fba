/-! PURE: orders, and the falls that they make -/
def fllL (σ : List Nat) (T : Nat → Nat) : Nat → Nat := if bagG T 0 (T 1) = 0 then (match σ.find? (fun c => decide (T (33 + c) = 20)) with | none => T | some c => upN T (33 + c) 0) else T
def simL : Nat → List Nat → (Nat → Nat) → Nat → Nat
  | 0, _, G => G
  | n + 1, σ, G => simL n σ (ltkG (fllL σ (trnG G)))
theorem crt_look {t : Nat} {S : tS} (h : gV S.1) (ht : t < S.1 1) (b : Nat) : (lookS 0 t S).1 (33 + b) = 20 ↔ S.1 (33 + b) = 20 := by
  have h1 := h.1.1.2
  have hP := h.1.2.1.2.1
  have hsd := h.1.2.1.2.2 t ht
  unfold lookS
  split
  · split
    · exact Iff.rfl
    · next hc0 =>
      split
      · exact Iff.rfl
      · simp only []
        rcases bagG_spec S.1 (S.1 (9 + t)) (S.1 1) with ⟨q, _⟩ | ⟨c, hc, q, hp, _⟩
        · exact absurd q hc0
        · rw [q, Nat.add_sub_cancel]
          generalize (if c = t ∧ S.1 (21 + t) < 99 then 1 else 0) = δ
          split
          · show upN (upN (upN S.1 _ _) _ _) _ _ (33 + b) = 20 ↔ _
            by_cases z : b = c
            · rw [z, upN_same]; omega
            · rw [upN_ne (by omega), upN_ne (by omega), upN_ne (by omega)]
          · show upN S.1 _ _ (33 + b) = 20 ↔ _
            rw [upN_ne (by omega)]
  · exact Iff.rfl
theorem crt_looks {S : tS} (h : gV S.1) (b : Nat) : ∀ k, k ≤ S.1 1 → ((looksS 0 k S).1 (33 + b) = 20 ↔ S.1 (33 + b) = 20)
  | 0, _ => Iff.rfl
  | k + 1, hk => by
    have ih := crt_looks h b k (by omega)
    have hv := looks_V (a := 0) h k (by omega)
    obtain ⟨-, l2⟩ := looks_W (a := 0) h.1 k (by omega)
    have e := l2 1 (by omega)
    exact (crt_look hv (by show k < (looksS 0 k S).1 1; omega) b).trans ih
theorem ltk_V {T : Nat → Nat} (h : gV T) (h2 : T 2 < 1900) : gV (ltkG T) ∧ ltkG T 0 = T 0 ∧ ltkG T 1 = T 1 ∧ ltkG T 2 = T 2 + 1 ∧ ∀ b, ltkG T (33 + b) = 20 ↔ T (33 + b) = 20 := by
  have hv := looks_V (a := 0) (S := (T, 0, 0)) h (T 1) (Nat.le_refl _)
  obtain ⟨-, l2⟩ := looks_W (a := 0) (S := (T, 0, 0)) h.1 (T 1) (Nat.le_refl _)
  have e2 : (looksS 0 (T 1) (T, 0, 0)).1 2 = T 2 := l2 2 (by omega)
  unfold ltkG
  rw [e2]
  refine ⟨tick2_V hv (by omega), ?_, ?_, upN_same _ _ _, fun b => ?_⟩
  · rw [upN_ne (by omega)]; exact l2 0 (by omega)
  · rw [upN_ne (by omega)]; exact l2 1 (by omega)
  · rw [upN_ne (by omega)]; exact crt_looks (S := (T, 0, 0)) h b (T 1) (Nat.le_refl _)
theorem trn_V {G : Nat → Nat} (h : gV G) : gV (trnG G) ∧ (∀ k, k < 33 → trnG G k = G k) ∧ ∀ b, b < G 1 → (trnG G (33 + b) = 20 ↔ G (33 + b) = 20) := by
  have hP4 : 4 ≤ G 0 := h.1.2.1.1
  have hP12 : G 0 ≤ 12 := h.1.2.1.2.1
  have hm : (1 + G 0) % G 0 = 1 := by rw [Nat.add_mod_right]; exact Nat.mod_eq_of_lt (by omega)
  unfold trnG
  refine ⟨turn_V h (by omega) hm, (turn_W h.1).2, fun b hb => ?_⟩
  rw [turnE_val h (by omega) hm]
  by_cases c : G (33 + b) < 20
  · rw [if_pos (by omega)]
    have := addm_lt (gV_belt h hb c) (show 1 < G 0 by omega)
    omega
  · rw [if_neg (by omega)]
theorem due_0 {T : Nat → Nat} (h : dueG T = true) : bagG T 0 (T 1) = 0 ∧ ∃ c, c < T 1 ∧ T (33 + c) = 20 := by
  unfold dueG at h
  rw [Bool.and_eq_true, decide_eq_true_eq, decide_eq_true_eq] at h
  refine ⟨h.1, ?_⟩
  apply Classical.byContradiction
  intro q
  have : cartN T (T 1) = 0 := cartN_0.mpr (fun b hb e => q ⟨b, hb, e⟩)
  omega
theorem due_no {T : Nat → Nat} (h : ¬ dueG T = true) {σ : List Nat} (hσ : ∀ c, c ∈ σ → c < T 1) : fllL σ T = T := by
  unfold fllL
  by_cases c : bagG T 0 (T 1) = 0
  · rw [if_pos c]
    have h0 : cartN T (T 1) = 0 := by
      unfold dueG at h
      rw [Bool.and_eq_true, decide_eq_true_eq, decide_eq_true_eq] at h
      omega
    have : σ.find? (fun c => decide (T (33 + c) = 20)) = none := by
      rw [List.find?_eq_none]
      intro x hx
      rw [decide_eq_true_eq]
      exact cartN_0.mp h0 x (hσ x hx)
    rw [this]
  · rw [if_neg c]
theorem fll_V {T : Nat → Nat} (h : gV T) {σ : List Nat} (hσ : ∀ c, c ∈ σ → c < T 1) : gV (fllL σ T) ∧ (∀ k, k < 33 → fllL σ T k = T k) ∧ ∀ b, fllL σ T (33 + b) = 20 → T (33 + b) = 20 := by
  unfold fllL
  split
  · next q =>
    cases e : σ.find? (fun c => decide (T (33 + c) = 20)) with
    | none => exact ⟨h, fun _ _ => rfl, fun _ z => z⟩
    | some c =>
      have h1 := List.find?_some e
      rw [decide_eq_true_eq] at h1
      have h2 := hσ c (List.mem_of_find?_eq_some e)
      refine ⟨drop_V h h2 h1 (bagG_none q), fun k hk => upN_ne (by omega), fun b z => ?_⟩
      by_cases w : b = c
      · rw [w]; exact h1
      · simp only [] at z
        rw [upN_ne (by omega)] at z; exact z
  · exact ⟨h, fun _ _ => rfl, fun _ z => z⟩
theorem stp_V {G : Nat → Nat} (h : gV G) (h2 : G 2 < 1900) {σ : List Nat} (hσ : ∀ c, c ∈ σ → c < G 1) : gV (ltkG (fllL σ (trnG G))) ∧ ltkG (fllL σ (trnG G)) 1 = G 1 ∧ ltkG (fllL σ (trnG G)) 2 = G 2 + 1 ∧ ∀ b, b < G 1 → ltkG (fllL σ (trnG G)) (33 + b) = 20 → G (33 + b) = 20 := by
  obtain ⟨t1, t2, t3⟩ := trn_V h
  obtain ⟨f1, f2, f3⟩ := fll_V t1 (σ := σ) (fun c hc => by rw [t2 1 (by omega)]; exact hσ c hc)
  have e2 : fllL σ (trnG G) 2 = G 2 := by rw [f2 2 (by omega), t2 2 (by omega)]
  obtain ⟨l1, -, l2, l3, l4⟩ := ltk_V f1 (by omega)
  exact ⟨l1, by rw [l2, f2 1 (by omega), t2 1 (by omega)], by rw [l3, e2], fun b hb z => (t3 b hb).mp (f3 b ((l4 b).mp z))⟩
/-- one that isn't in THE CART makes no difference -/
theorem sim_drop {r : Nat} {τ : List Nat} : ∀ (n : Nat) (G : Nat → Nat), gV G → G 2 + n < 1900 → r < G 1 → G (33 + r) ≠ 20 → (∀ c, c ∈ τ → c < G 1) → simL n (r :: τ) G = simL n τ G
  | 0, _, _, _, _, _, _ => rfl
  | n + 1, G, h, h2, hr, hc, hτ => by
    obtain ⟨t1, t2, t3⟩ := trn_V h
    have e : fllL (r :: τ) (trnG G) = fllL τ (trnG G) := by
      unfold fllL
      rw [List.find?_cons, decide_eq_false (fun z => hc ((t3 r hr).mp z))]
    obtain ⟨s1, s2, s3, s4⟩ := stp_V h (by omega) hτ
    rw [simL, simL, e]
    exact sim_drop n _ s1 (by omega) (by omega) (fun z => hc (s4 r hr z)) (fun c hc => by rw [s2]; exact hτ c hc)
def hlC (G : Nat → Nat) (c : Nat) : Nat → Nat := ltkG (upN (trnG G) (33 + c) 0)
theorem hlC_V {G : Nat → Nat} (h : gV G) (h2 : G 2 < 1900) (hd : dueG (trnG G) = true) {c : Nat} (hc : c < G 1) (h20 : G (33 + c) = 20) : gV (hlC G c) ∧ hlC G c 0 = G 0 ∧ hlC G c 1 = G 1 ∧ hlC G c 2 = G 2 + 1 ∧ hlC G c (33 + c) ≠ 20 ∧ ∀ b, b < G 1 → b ≠ c → (hlC G c (33 + b) = 20 ↔ G (33 + b) = 20) := by
  obtain ⟨t1, t2, t3⟩ := trn_V h
  obtain ⟨d1, -⟩ := due_0 hd
  have v := drop_V t1 (b := c) (by rw [t2 1 (by omega)]; exact hc) ((t3 c hc).mpr h20) (bagG_none d1)
  have e : ∀ k, k < 33 → upN (trnG G) (33 + c) 0 k = G k := fun k hk => by rw [upN_ne (by omega), t2 k hk]
  obtain ⟨l1, l0, l2, l3, l4⟩ := ltk_V v (by rw [e 2 (by omega)]; omega)
  refine ⟨l1, by unfold hlC; rw [l0, e 0 (by omega)], by unfold hlC; rw [l2, e 1 (by omega)], by unfold hlC; rw [l3, e 2 (by omega)], fun z => ?_, fun b hb hbc => ?_⟩
  · have := (l4 c).mp z
    rw [upN_same] at this
    omega
  · refine (l4 b).trans ?_
    rw [upN_ne (by omega)]
    exact t3 b hb
theorem sim_fall {G : Nat → Nat} (h : gV G) (hd : dueG (trnG G) = true) {c : Nat} (hc : c < G 1) (h20 : G (33 + c) = 20) (n : Nat) (τ : List Nat) : simL (n + 1) (c :: τ) G = simL n (c :: τ) (hlC G c) := by
  obtain ⟨t1, t2, t3⟩ := trn_V h
  obtain ⟨d1, -⟩ := due_0 hd
  rw [simL]
  unfold hlC fllL
  rw [if_pos d1, List.find?_cons, decide_eq_true ((t3 c hc).mpr h20)]
theorem fm_cg {α β : Type} {h k : α → Option β} : ∀ (R : List α), (∀ r, r ∈ R → h r = k r) → R.filterMap h = R.filterMap k
  | [], _ => rfl
  | r :: R, H => by rw [List.filterMap_cons, List.filterMap_cons, H r List.mem_cons_self, fm_cg R (fun x hx => H x (List.mem_cons_of_mem _ hx))]
theorem best_bst (n : Nat) (G : Nat → Nat) : bestL n G = bst ((leaves n G).map (fun x => (wgh x.2, x.1))) := by
  unfold bestL bst
  rw [List.foldl_map]
  congr 1
  funext o x
  cases o <;> rfl
theorem best_due {G : Nat → Nat} (h : gV G) (hd : dueG (trnG G) = true) (n : Nat) : bestL (n + 1) G = bst ((List.range (G 1)).filterMap (fun c => if G (33 + c) = 20 then (bestL n (hlC G c)).map (fun x => (x.1, c :: x.2)) else none)) := by
  obtain ⟨t1, t2, t3⟩ := trn_V h
  rw [best_bst, leaves, if_pos hd, t2 1 (by omega), List.map_flatMap, bst_flat]
  congr 1
  apply fm_cg
  intro c hc
  have hc := List.mem_range.mp hc
  by_cases q : G (33 + c) = 20
  · rw [if_pos ((t3 c hc).mpr q), if_pos q, best_bst, ← bst_pay, List.map_map, List.map_map]
    rfl
  · rw [if_neg (fun z => q ((t3 c hc).mp z)), if_neg q]
    rfl
theorem best_go {G : Nat → Nat} (hd : ¬ dueG (trnG G) = true) (n : Nat) : bestL (n + 1) G = bestL n (ltkG (trnG G)) := by
  unfold bestL
  rw [leaves, if_neg hd]
theorem fm_filter {β : Type} (G : Nat → Nat) (h : Nat → Option β) (u : Nat → β) : ∀ (l : List Nat), (∀ c, c ∈ l → G (33 + c) = 20 → h c = some (u c)) → l.filterMap (fun c => if G (33 + c) = 20 then h c else none) = (l.filter (fun c => decide (G (33 + c) = 20))).map u
  | [], _ => rfl
  | c :: l, H => by
    rw [List.filterMap_cons, List.filter_cons]
    by_cases q : G (33 + c) = 20
    · rw [if_pos q, H c List.mem_cons_self q, if_pos (decide_eq_true q), List.map_cons, ← fm_filter G h u l (fun x hx => H x (List.mem_cons_of_mem _ hx))]
    · rw [if_neg q, if_neg (by rw [decide_eq_true_eq]; exact q), ← fm_filter G h u l (fun x hx => H x (List.mem_cons_of_mem _ hx))]
