/-! PURE: the k-th bag of the order found -/
def setN (p : Nat → Bool) : Int32 := nI (btN p 6)
theorem or_64 : ∀ s, s < 64 → ∀ c, c < 6 → nI s ||| ((1 : Int32) <<< (nI c &&& 31)) = nI (btN (fun j => s.testBit j || decide (j = c)) 6) := by decide +kernel
theorem and_64 : ∀ a, a < 64 → ∀ b, b < 64 → nI a &&& nI b = nI (btN (fun k => a.testBit k && b.testBit k) 6) := by decide +kernel
theorem clr_64 : ∀ s, s < 64 → ∀ c, c < 6 → nI s &&& (((1 : Int32) <<< (nI c &&& 31)) ^^^ (-1)) = nI (btN (fun j => s.testBit j && !decide (j = c)) 6) := by decide +kernel
def lowI : Option Nat → Int32
  | none => -1000000
  | some k => nI k
theorem low_64 : ∀ s, s < 64 → X4_lowest (nI s) = some (lowI ((List.range 6).find? (fun k => s.testBit k))) := by decide +kernel
theorem tb_p (p : Nat → Bool) {j : Nat} (h : j < 6) : (btN p 6).testBit j = p j := by rw [btN_tb, decide_eq_true h, Bool.true_and]
theorem sN_lt (p : Nat → Bool) : btN p 6 < 64 := btN_le6 p (Nat.le_refl _)
theorem sN_cg {p q : Nat → Bool} (h : ∀ j, j < 6 → p j = q j) : setN p = setN q := by unfold setN; rw [btN_cong h]
theorem sN_or (p : Nat → Bool) {c : Nat} (hc : c < 6) : setN p ||| ((1 : Int32) <<< (nI c &&& 31)) = setN (fun j => p j || decide (j = c)) := by
  unfold setN
  rw [or_64 _ (sN_lt p) c hc, btN_cong (fun j hj => by rw [tb_p p hj])]
theorem sN_and (p q : Nat → Bool) : setN p &&& setN q = setN (fun j => p j && q j) := by
  unfold setN
  rw [and_64 _ (sN_lt p) _ (sN_lt q), btN_cong (fun j hj => by rw [tb_p p hj, tb_p q hj])]
theorem sN_andn (p q : Nat → Bool) : setN p &&& (setN q ^^^ (-1)) = setN (fun j => p j && !q j) := by
  unfold setN
  rw [and_not _ (sN_lt p) _ (sN_lt q), btN_cong (fun j hj => by rw [tb_p p hj, tb_p q hj])]
theorem sN_clr (p : Nat → Bool) {c : Nat} (hc : c < 6) : setN p &&& (((1 : Int32) <<< (nI c &&& 31)) ^^^ (-1)) = setN (fun j => p j && !decide (j = c)) := by
  unfold setN
  rw [clr_64 _ (sN_lt p) c hc, btN_cong (fun j hj => by rw [tb_p p hj])]
theorem find_rc {p q : Nat → Bool} : ∀ {R : List Nat}, (∀ j, j ∈ R → p j = q j) → R.find? p = R.find? q
  | [], _ => rfl
  | a :: R, h => by rw [List.find?_cons, List.find?_cons, h a List.mem_cons_self, find_rc (fun x hx => h x (List.mem_cons_of_mem _ hx))]
theorem sN_low (p : Nat → Bool) : X4_lowest (setN p) = some (lowI ((List.range 6).find? p)) := by
  unfold setN
  rw [low_64 _ (sN_lt p), find_rc (q := p) (fun j hj => tb_p p (List.mem_range.mp hj))]
theorem sN_full {m : Nat} (hm : m ≤ 6) {p : Nat → Bool} (hp : ∀ j, j < 6 → p j = true → j < m) : (((1 : Int32) <<< (nI m &&& 31)) - 1) &&& (setN p ^^^ (-1)) = setN (fun j => decide (j < m) && !p j) := by
  have e : btN p 6 = btN p m := by
    rw [btN_6 p hm]
    exact btN_cong (fun j hj => by
      by_cases c : j < m
      · rw [decide_eq_true c, Bool.true_and]
      · rw [decide_eq_false c, Bool.false_and]
        cases h : p j with
        | false => rfl
        | true => exact absurd (hp j hj h) c)
  unfold setN
  rw [e, all_not m (by omega) _ (btN_lt p m), btN_6 _ hm]
  congr 1
  exact btN_cong (fun j hj => by
    by_cases c : j < m
    · rw [btN_tb, decide_eq_true c]; simp
    · rw [decide_eq_false c, Bool.false_and, Bool.false_and])
theorem bt_set (p : Nat → Bool) {m : Nat} (hm : m ≤ 6) : btI p m = setN (fun j => decide (j < m) && p j) := by
  unfold setN
  rw [btI_N p m hm, btN_6 p hm]
theorem find_rng {R : List Nat} {p q : Nat → Bool} (hp : R.Pairwise (· < ·)) (h6 : ∀ r, r ∈ R → r < 6) (hq : ∀ j, j < 6 → (q j = true ↔ (j ∈ R ∧ p j = true))) : (List.range 6).find? q = R.find? p := by
  cases e : R.find? p with
  | none =>
    rw [List.find?_eq_none] at e ⊢
    intro x hx
    rw [hq x (List.mem_range.mp hx)]
    exact fun z => e x z.1 z.2
  | some a =>
    obtain ⟨a1, a2, a3⟩ := find_first hp e
    have ha := h6 a a1
    cases e2 : (List.range 6).find? q with
    | none =>
      rw [List.find?_eq_none] at e2
      exact absurd ((hq a ha).mpr ⟨a1, a2⟩) (e2 a (List.mem_range.mpr ha))
    | some b =>
      obtain ⟨b1, b2, b3⟩ := find_first List.pairwise_lt_range e2
      have hb := List.mem_range.mp b1
      obtain ⟨c1, c2⟩ := (hq b hb).mp b2
      rcases Nat.lt_trichotomy a b with z | z | z
      · have := b3 a (List.mem_range.mpr ha) z
        rw [(hq a ha).mpr ⟨a1, a2⟩] at this
        simp at this
      · rw [z]
      · have := a3 b c1 z
        rw [c2] at this
        simp at this
/-- a leaf's falls: bags of THE CART, each once -/
theorem leaf_in : ∀ (n : Nat) (G : Nat → Nat), gV G → G 2 + n < 1900 → ∀ x, x ∈ leaves n G → (∀ c, c ∈ x.1 → c < G 1 ∧ G (33 + c) = 20) ∧ x.1.Nodup
  | 0, G, _, _, x, hx => by
    rw [leaves, List.mem_singleton] at hx
    rw [hx]
    exact ⟨fun c hc => by simp at hc, List.nodup_nil⟩
  | n + 1, G, h, h2, x, hx => by
    obtain ⟨t1, t2, t3⟩ := trn_V h
    by_cases hd : dueG (trnG G) = true
    · rw [leaves, if_pos hd, List.mem_flatMap] at hx
      obtain ⟨c, hc, hx⟩ := hx
      rw [List.mem_range, t2 1 (by omega)] at hc
      by_cases q : trnG G (33 + c) = 20
      · rw [if_pos q, List.mem_map] at hx
        obtain ⟨y, hy, e⟩ := hx
        have h20 := (t3 c hc).mp q
        obtain ⟨v1, -, v2, v3, v4, v5⟩ := hlC_V h (by omega) hd hc h20
        obtain ⟨i1, i2⟩ := leaf_in n (hlC G c) v1 (by omega) y hy
        have hne : ∀ b, b ∈ y.1 → b ≠ c := fun b hb z => by
          have := (i1 b hb).2
          rw [z] at this
          exact v4 this
        rw [← e]
        refine ⟨fun b hb => ?_, ?_⟩
        · rcases List.mem_cons.mp hb with z | z
          · rw [z]; exact ⟨hc, h20⟩
          · have := i1 b z
            rw [v2] at this
            exact ⟨this.1, (v5 b this.1 (hne b z)).mp this.2⟩
        · rw [List.nodup_cons]
          exact ⟨fun z => hne c z rfl, i2⟩
      · rw [if_neg q] at hx
        simp at hx
    · rw [leaves, if_neg hd] at hx
      obtain ⟨l1, -, l2, l3, l4⟩ := ltk_V t1 (by rw [t2 2 (by omega)]; omega)
      obtain ⟨i1, i2⟩ := leaf_in n _ l1 (by rw [l3, t2 2 (by omega)]; omega) x hx
      refine ⟨fun c hc => ?_, i2⟩
      have := i1 c hc
      rw [l2, t2 1 (by omega)] at this
      exact ⟨this.1, (t3 c this.1).mp ((l4 c).mp this.2)⟩
theorem best_in {n : Nat} {G : Nat → Nat} (h : gV G) (h2 : G 2 + n < 1900) {w : Nat × Nat} {f : List Nat} (hb : bestL n G = some (w, f)) : (∀ c, c ∈ f → c < G 1 ∧ G (33 + c) = 20) ∧ f.Nodup := by
  rw [best_bst] at hb
  have := bst_mem hb
  rw [List.mem_map] at this
  obtain ⟨x, hx, e⟩ := this
  have := leaf_in n G h h2 x hx
  rw [Prod.mk.injEq] at e
  rw [e.2] at this
  exact this
