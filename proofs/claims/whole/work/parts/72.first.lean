/-! PURE: the first of the best -/
def bt (a b : Nat × Nat) : Prop := b.1 < a.1 ∨ (a.1 = b.1 ∧ a.2 < b.2)
theorem btr_iff (a b : Nat × Nat) : btr a b = true ↔ bt a b := by
  unfold btr bt
  rw [Bool.or_eq_true, Bool.and_eq_true, decide_eq_true_eq, decide_eq_true_eq, decide_eq_true_eq]
def bF {α : Type} (o : Option ((Nat × Nat) × α)) (x : (Nat × Nat) × α) : Option ((Nat × Nat) × α) :=
  match o with
  | none => some x
  | some q => if btr x.1 q.1 then some x else some q
def bst {α : Type} (l : List ((Nat × Nat) × α)) : Option ((Nat × Nat) × α) := l.foldl bF none
def cmb {α : Type} (a b : Option ((Nat × Nat) × α)) : Option ((Nat × Nat) × α) :=
  match b with
  | none => a
  | some y => bF a y
theorem cmb_n {α : Type} (a : Option ((Nat × Nat) × α)) : cmb none a = a := by cases a <;> rfl
theorem cmb_as {α : Type} (o : Option ((Nat × Nat) × α)) (x : (Nat × Nat) × α) (b : Option ((Nat × Nat) × α)) : cmb (bF o x) b = cmb o (cmb (some x) b) := by
  cases b with
  | none => rfl
  | some y =>
    cases o with
    | none => rw [cmb_n]; rfl
    | some q =>
      show bF (if btr x.1 q.1 then some x else some q) y = cmb (some q) (if btr y.1 x.1 then some y else some x)
      by_cases h1 : btr x.1 q.1 = true
      · rw [if_pos h1]
        show (if btr y.1 x.1 then some y else some x) = _
        by_cases h2 : btr y.1 x.1 = true
        · rw [if_pos h2]
          show _ = if btr y.1 q.1 then some y else some q
          rw [if_pos]
          rw [btr_iff] at h1 h2 ⊢
          unfold bt at h1 h2 ⊢
          omega
        · rw [if_neg h2]
          show _ = if btr x.1 q.1 then some x else some q
          rw [if_pos h1]
      · rw [if_neg h1]
        show (if btr y.1 q.1 then some y else some q) = _
        by_cases h2 : btr y.1 x.1 = true
        · rw [if_pos h2]; rfl
        · rw [if_neg h2]
          show _ = if btr x.1 q.1 then some x else some q
          rw [if_neg h1, if_neg]
          rw [btr_iff] at h1 h2 ⊢
          unfold bt at h1 h2 ⊢
          omega
theorem fold_cmb {α : Type} : ∀ (l : List ((Nat × Nat) × α)) (o : Option ((Nat × Nat) × α)), l.foldl bF o = cmb o (bst l)
  | [], o => rfl
  | x :: l, o => by
    have h1 : (x :: l).foldl bF o = l.foldl bF (bF o x) := rfl
    have h2 : bst (x :: l) = l.foldl bF (some x) := rfl
    rw [h1, h2, fold_cmb l, fold_cmb l, cmb_as]
theorem bst_cons {α : Type} (x : (Nat × Nat) × α) (l : List ((Nat × Nat) × α)) : bst (x :: l) = cmb (some x) (bst l) := fold_cmb l (some x)
theorem bst_app {α : Type} (a b : List ((Nat × Nat) × α)) : bst (a ++ b) = cmb (bst a) (bst b) := by
  unfold bst
  rw [List.foldl_append]
  exact fold_cmb b _
theorem bst_none {α : Type} {l : List ((Nat × Nat) × α)} (h : bst l = none) : l = [] := by
  cases l with
  | nil => rfl
  | cons x l =>
    rw [bst_cons] at h
    cases hb : bst l with
    | none => rw [hb] at h; exact absurd h (by simp [cmb])
    | some y =>
      rw [hb] at h
      have h : (if btr y.1 x.1 then some y else some x) = none := h
      split at h <;> simp at h
theorem bst_mem {α : Type} : ∀ {l : List ((Nat × Nat) × α)} {z : (Nat × Nat) × α}, bst l = some z → z ∈ l
  | [], z, h => by simp [bst] at h
  | x :: l, z, h => by
    rw [bst_cons] at h
    cases hb : bst l with
    | none =>
      rw [hb] at h
      have h : some x = some z := h
      cases h
      exact List.mem_cons_self
    | some y =>
      rw [hb] at h
      have h : (if btr y.1 x.1 then some y else some x) = some z := h
      split at h
      · cases h; exact List.mem_cons_of_mem _ (bst_mem hb)
      · cases h; exact List.mem_cons_self
theorem bst_pay {α β : Type} (g : α → β) : ∀ (l : List ((Nat × Nat) × α)), bst (l.map (fun x => (x.1, g x.2))) = (bst l).map (fun x => (x.1, g x.2))
  | [] => rfl
  | x :: l => by
    rw [List.map_cons, bst_cons, bst_cons, bst_pay g l]
    cases bst l with
    | none => rfl
    | some y =>
      show (if btr y.1 x.1 then some (y.1, g y.2) else some (x.1, g x.2)) = Option.map _ (if btr y.1 x.1 then some y else some x)
      split <;> rfl
theorem bst_flat {α β : Type} (g : β → List ((Nat × Nat) × α)) : ∀ (R : List β), bst (R.flatMap g) = bst (R.filterMap (fun r => bst (g r)))
  | [] => rfl
  | r :: R => by
    rw [List.flatMap_cons, bst_app, bst_flat g R, List.filterMap_cons]
    cases hb : bst (g r) with
    | none => rw [cmb_n]
    | some y => simp only []; rw [bst_cons]
theorem fm_map {α β : Type} {h : α → Option β} {u : α → β} : ∀ (R : List α), (∀ r, r ∈ R → h r = some (u r)) → R.filterMap h = R.map u
  | [], _ => rfl
  | r :: R, H => by
    rw [List.filterMap_cons, H r List.mem_cons_self]
    simp only []
    rw [fm_map R (fun x hx => H x (List.mem_cons_of_mem _ hx)), List.map_cons]
theorem bst_asc {α : Type} {u : Nat → (Nat × Nat) × α} : ∀ {l : List Nat} {x : Nat}, l.Pairwise (· < ·) → x ∈ l → (∀ y, y ∈ l → y < x → bt (u x).1 (u y).1) → (∀ y, y ∈ l → x < y → ¬ bt (u y).1 (u x).1) → bst (l.map u) = some (u x)
  | [], x, _, hx, _, _ => by simp at hx
  | a :: l, x, hp, hx, h1, h2 => by
    rw [List.map_cons, bst_cons]
    rw [List.pairwise_cons] at hp
    by_cases q : x = a
    · subst q
      cases hb : bst (l.map u) with
      | none => rfl
      | some z =>
        have hz := bst_mem hb
        rw [List.mem_map] at hz
        obtain ⟨y, hy, e⟩ := hz
        show (if btr z.1 (u x).1 then some z else some (u x)) = _
        rw [if_neg]
        rw [btr_iff, ← e]
        exact h2 y (List.mem_cons_of_mem _ hy) (hp.1 y hy)
    · have hx' : x ∈ l := by
        rcases List.mem_cons.mp hx with z | z
        · exact absurd z q
        · exact z
      rw [bst_asc hp.2 hx' (fun y hy => h1 y (List.mem_cons_of_mem _ hy)) (fun y hy => h2 y (List.mem_cons_of_mem _ hy))]
      show (if btr (u x).1 (u a).1 then some (u x) else some (u a)) = _
      rw [if_pos]
      rw [btr_iff]
      exact h1 a List.mem_cons_self (hp.1 x hx')
theorem bst_asc' {α : Type} {u : Nat → (Nat × Nat) × α} : ∀ {l : List Nat} {q : (Nat × Nat) × α}, l.Pairwise (· < ·) → bst (l.map u) = some q → ∃ x, x ∈ l ∧ q = u x ∧ (∀ y, y ∈ l → y < x → bt q.1 (u y).1) ∧ ∀ y, y ∈ l → x < y → ¬ bt (u y).1 q.1
  | [], q, _, h => by simp [bst] at h
  | a :: l, q, hp, h => by
    rw [List.map_cons, bst_cons] at h
    rw [List.pairwise_cons] at hp
    cases hb : bst (l.map u) with
    | none =>
      rw [hb] at h
      have h : some (u a) = some q := h
      cases h
      have : l = [] := by
        have := bst_none hb
        cases l with
        | nil => rfl
        | cons => simp at this
      subst this
      refine ⟨a, List.mem_cons_self, rfl, fun y hy hya => ?_, fun y hy hya => ?_⟩
      · rcases List.mem_cons.mp hy with z | z
        · omega
        · simp at z
      · rcases List.mem_cons.mp hy with z | z
        · omega
        · simp at z
    | some z =>
      rw [hb] at h
      obtain ⟨x, hx, ez, i1, i2⟩ := bst_asc' hp.2 hb
      have h : (if btr z.1 (u a).1 then some z else some (u a)) = some q := h
      by_cases c : btr z.1 (u a).1 = true
      · rw [if_pos c] at h
        cases h
        refine ⟨x, List.mem_cons_of_mem _ hx, ez, fun y hy hyx => ?_, fun y hy hyx => ?_⟩
        · rcases List.mem_cons.mp hy with w | w
          · rw [w]; exact (btr_iff _ _).mp c
          · exact i1 y w hyx
        · rcases List.mem_cons.mp hy with w | w
          · have := hp.1 x hx; omega
          · exact i2 y w hyx
      · rw [if_neg c] at h
        cases h
        rw [btr_iff] at c
        refine ⟨a, List.mem_cons_self, rfl, fun y hy hya => ?_, fun y hy hya => ?_⟩
        · rcases List.mem_cons.mp hy with w | w
          · omega
          · have := hp.1 y w; omega
        · rcases List.mem_cons.mp hy with w | w
          · omega
          · rcases Nat.lt_trichotomy y x with k | k | k
            · have := i1 y w k
              unfold bt at this c ⊢
              omega
            · rw [k, ← ez]; exact c
            · have := i2 y w k
              unfold bt at this c ⊢
              omega
/-- all alike: the first -/
theorem bst_same {α : Type} {w : Nat × Nat} {x : α} : ∀ (l : List ((Nat × Nat) × α)), (∀ z, z ∈ l → z.1 = w) → bst ((w, x) :: l) = some (w, x) := fun l h => by
  rw [bst_cons]
  cases hb : bst l with
  | none => rfl
  | some z =>
    show (if btr z.1 w then some z else some (w, x)) = _
    rw [if_neg]
    rw [btr_iff, h z (bst_mem hb)]
    unfold bt
    omega
/-! orders -/
def prm : Nat → List Nat → List (List Nat)
  | 0, _ => [[]]
  | k + 1, R => R.flatMap (fun r => (prm k (R.erase r)).map (fun t => r :: t))
def gre : Nat → List Nat → (Nat → Bool) → List Nat → List Nat
  | 0, _, _, _ => []
  | _ + 1, R, _, [] => R
  | k + 1, R, C, c :: f => match R.find? (fun a => !C a) with
    | none => c :: gre k (R.erase c) C f
    | some a => if a < c then a :: gre k (R.erase a) C (c :: f) else c :: gre k (R.erase c) C f
theorem gre_nil {k : Nat} {R : List Nat} (h : R.length = k) (C : Nat → Bool) : gre k R C [] = R := by
  cases k with
  | zero => rw [List.eq_nil_of_length_eq_zero h]; rfl
  | succ k => rfl
theorem find_cg {C C' : Nat → Bool} : ∀ {R : List Nat}, (∀ a, a ∈ R → C a = C' a) → R.find? (fun a => !C a) = R.find? (fun a => !C' a)
  | [], _ => rfl
  | a :: R, h => by
    rw [List.find?_cons, List.find?_cons, h a List.mem_cons_self, find_cg (fun x hx => h x (List.mem_cons_of_mem _ hx))]
theorem gre_cg {C C' : Nat → Bool} : ∀ {k : Nat} {R : List Nat} {f : List Nat}, (∀ a, a ∈ R → C a = C' a) → gre k R C f = gre k R C' f
  | 0, _, _, _ => rfl
  | k + 1, R, [], _ => rfl
  | k + 1, R, c :: f, h => by
    have he : ∀ r a, a ∈ R.erase r → C a = C' a := fun r a ha => h a (List.mem_of_mem_erase ha)
    rw [gre, gre, find_cg h]
    cases R.find? (fun a => !C' a) with
    | none => simp only []; rw [gre_cg (he c)]
    | some a => simp only []; rw [gre_cg (he c), gre_cg (he a)]
theorem prm_head : ∀ {k : Nat} {R : List Nat}, R.length = k → ∃ l, prm k R = R :: l
  | 0, R, h => ⟨[], by rw [List.eq_nil_of_length_eq_zero h]; rfl⟩
  | k + 1, [], h => by simp at h
  | k + 1, r :: R, h => by
    obtain ⟨l, e⟩ := prm_head (k := k) (R := R) (by simpa using h)
    rw [prm, List.flatMap_cons, List.erase_cons_head, e, List.map_cons, List.cons_append]
    exact ⟨_, rfl⟩
theorem prm_in : ∀ {k : Nat} {R σ : List Nat}, σ ∈ prm k R → ∀ c, c ∈ σ → c ∈ R
  | 0, R, σ, h, c, hc => by
    rw [prm, List.mem_singleton] at h
    rw [h] at hc; simp at hc
  | k + 1, R, σ, h, c, hc => by
    rw [prm, List.mem_flatMap] at h
    obtain ⟨r, hr, h⟩ := h
    rw [List.mem_map] at h
    obtain ⟨t, ht, e⟩ := h
    rw [← e] at hc
    rcases List.mem_cons.mp hc with z | z
    · rw [z]; exact hr
    · exact List.mem_of_mem_erase (prm_in ht c z)
theorem find_first {p : Nat → Bool} : ∀ {R : List Nat} {a : Nat}, R.Pairwise (· < ·) → R.find? p = some a → a ∈ R ∧ p a = true ∧ ∀ y, y ∈ R → y < a → p y = false
  | [], a, _, h => by simp at h
  | r :: R, a, hp, h => by
    rw [List.pairwise_cons] at hp
    rw [List.find?_cons] at h
    cases c : p r with
    | true =>
      rw [c] at h
      simp only [Option.some.injEq] at h
      subst h
      refine ⟨List.mem_cons_self, c, fun y hy hya => ?_⟩
      rcases List.mem_cons.mp hy with w | w
      · omega
      · have := hp.1 y w; omega
    | false =>
      rw [c] at h
      simp only [] at h
      obtain ⟨i1, i2, i3⟩ := find_first hp.2 h
      refine ⟨List.mem_cons_of_mem _ i1, i2, fun y hy hya => ?_⟩
      rcases List.mem_cons.mp hy with w | w
      · rw [w]; exact c
      · exact i3 y w hya
