/-! PURE: the k-th bag, by the class -/
def boS (m : Nat) (f : List Nat) (s : Nat) (R : List Nat) (p : Nat → Bool) : Prop := s ≤ f.length ∧ R.Pairwise (· < ·) ∧ (∀ r, r ∈ R → r < m) ∧ (∀ c, c ∈ f.drop s → c ∈ R) ∧ (∀ j, j ∈ R → j ∈ f → j ∈ f.drop s) ∧ ∀ j, j < 6 → (p j = true ↔ (j ∈ R ∧ ¬ j ∈ f.drop s))
theorem drop_c {f : List Nat} {s : Nat} (h : s < f.length) : f.drop s = f.getD s 0 :: f.drop (s + 1) := by
  rw [List.drop_eq_getElem_cons h, List.getD_eq_getElem?_getD, List.getElem?_eq_getElem h]; rfl
section KB
variable {M : Mem} {m : Nat} {f : List Nat} {C q : Nat → Bool}
theorem bo_a {s : Nat} {R : List Nat} {p : Nat → Bool} (S : boS m f s R p) {a : Nat} (hna : ¬ a ∈ f.drop s) : boS m f s (R.erase a) (fun j => p j && !decide (j = a)) := by
  obtain ⟨s1, s2, s3, s4, s5, s6⟩ := S
  have nd : R.Nodup := s2.imp (fun h => Nat.ne_of_lt h)
  refine ⟨s1, s2.sublist List.erase_sublist, fun r hr => s3 r (List.mem_of_mem_erase hr), fun c hc => ?_, fun j hj => s5 j (List.mem_of_mem_erase hj), fun j hj => ?_⟩
  · have : c ≠ a := fun z => hna (by rw [← z]; exact hc)
    exact (List.mem_erase_of_ne this).mpr (s4 c hc)
  · rw [Bool.and_eq_true, s6 j hj]
    by_cases z : j = a
    · rw [decide_eq_true z, z]
      constructor
      · intro w; simp at w
      · intro w; exact absurd w.1 (List.Nodup.not_mem_erase nd)
    · rw [decide_eq_false z, List.mem_erase_of_ne z]
      simp
theorem bo_c {s : Nat} {R : List Nat} {p : Nat → Bool} (hnd : f.Nodup) (S : boS m f s R p) (h : s < f.length) : boS m f (s + 1) (R.erase (f.getD s 0)) p := by
  obtain ⟨s1, s2, s3, s4, s5, s6⟩ := S
  have nd : R.Nodup := s2.imp (fun h => Nat.ne_of_lt h)
  have ed := drop_c h
  have nc : ¬ f.getD s 0 ∈ f.drop (s + 1) := by
    have : (f.drop s).Nodup := hnd.sublist (List.drop_sublist _ _)
    rw [ed, List.nodup_cons] at this
    exact this.1
  refine ⟨by omega, s2.sublist List.erase_sublist, fun r hr => s3 r (List.mem_of_mem_erase hr), fun c hc => ?_, fun j hj hj2 => ?_, fun j hj => ?_⟩
  · have : c ≠ f.getD s 0 := fun z => nc (by rw [← z]; exact hc)
    exact (List.mem_erase_of_ne this).mpr (s4 c (by rw [ed]; exact List.mem_cons_of_mem _ hc))
  · have hne : j ≠ f.getD s 0 := fun z => by
      rw [z] at hj
      exact (List.Nodup.not_mem_erase nd) hj
    have := s5 j (List.mem_of_mem_erase hj) hj2
    rw [ed] at this
    rcases List.mem_cons.mp this with w | w
    · exact absurd w hne
    · exact w
  · rw [s6 j hj, ed, List.mem_cons]
    by_cases z : j = f.getD s 0
    · constructor
      · intro w; exact absurd (Or.inl z) w.2
      · intro w
        rw [z] at w
        exact absurd w.1 (List.Nodup.not_mem_erase nd)
    · rw [List.mem_erase_of_ne z]
      constructor
      · intro w; exact ⟨w.1, fun y => w.2 (Or.inr y)⟩
      · intro w; exact ⟨w.1, fun y => y.elim z w.2⟩
theorem bo_step (e1 : M 15 1 = nI m) (hm : m ≤ 6) (e6 : M 34 6 = nI f.length) (hf6 : f.length ≤ 6) (h39 : ∀ i, i < f.length → M 39 i = nI (f.getD i 0)) (hnd : f.Nodup) (hfC : ∀ c, c ∈ f → c < m ∧ C c = true) (hq : ∀ j, j < 6 → (q j = true ↔ (j < m ∧ C j = true ∧ ¬ j ∈ f))) {k i s : Nat} (hk : k < m) (hi : i ≤ k) (fu : Nat) {R : List Nat} {p : Nat → Bool} (hR : R.length = m - i) (S : boS m f s R p) :
    ∃ b R' s' p', boS m f s' R' p' ∧ R'.length = m - (i + 1) ∧ gre (m - i) R C (f.drop s) = b :: gre (m - (i + 1)) R' C (f.drop s') ∧ ∀ x7, X4_bagInOrder_66 15 M (fu + 1) (nI k) (setN p) (setN q) (nI s) x7 (nI i) = X4_bagInOrder_66 15 M fu (nI k) (setN p') (setN q) (nI s') (nI b) (nI (i + 1)) := by
  obtain ⟨s1, s2, s3, s4, s5, s6⟩ := id S
  have hR6 : ∀ r, r ∈ R → r < 6 := fun r hr => by have := s3 r hr; omega
  have em : m - i = m - (i + 1) + 1 := by omega
  have n0 : ¬ nI k < nI i := nI_nlt hi (by omega)
  have n1 : nI i < nI m := nI_lt (by omega) (by omega)
  have hlen : ∀ a, a ∈ R → (R.erase a).length = m - (i + 1) := fun a ha => by rw [List.length_erase_of_mem ha, hR]; omega
  by_cases hs : s < f.length
  · have ed := drop_c hs
    have n2 : nI s < nI f.length := nI_lt hs (by omega)
    have hcm : f.getD s 0 ∈ f := List.mem_of_mem_drop (i := s) (by rw [ed]; exact List.mem_cons_self)
    have hc6 := (hfC _ hcm).1
    have hcR : f.getD s 0 ∈ R := s4 _ (by rw [ed]; exact List.mem_cons_self)
    have ef : (List.range 6).find? (fun j => p j && !q j) = R.find? (fun a => !C a) := by
      refine find_rng s2 hR6 (fun j hj => ?_)
      rw [Bool.and_eq_true, s6 j hj, Bool.not_eq_true', Bool.not_eq_true']
      constructor
      · rintro ⟨⟨a1, a2⟩, a3⟩
        refine ⟨a1, ?_⟩
        cases hC : C j with
        | false => rfl
        | true =>
          have : j ∈ f := Classical.byContradiction (fun z => by
            have := (hq j hj).mpr ⟨s3 j a1, hC, z⟩
            rw [a3] at this
            simp at this)
          exact absurd (s5 j a1 this) a2
      · rintro ⟨a1, a2⟩
        refine ⟨⟨a1, fun z => ?_⟩, ?_⟩
        · have := (hfC j (List.mem_of_mem_drop z)).2
          rw [a2] at this
          simp at this
        · cases hQ : q j with
          | false => rfl
          | true =>
            have := ((hq j hj).mp hQ).2.1
            rw [a2] at this
            simp at this
    have el : X4_lowest (setN p &&& (setN q ^^^ (-1))) = some (lowI (R.find? (fun a => !C a))) := by
      rw [sN_andn, sN_low, ef]
    have takeC : (gre (m - i) R C (f.drop s) = f.getD s 0 :: gre (m - (i + 1)) (R.erase (f.getD s 0)) C (f.drop (s + 1))) → (∀ x7, X4_bagInOrder_66 15 M (fu + 1) (nI k) (setN p) (setN q) (nI s) x7 (nI i) = X4_bagInOrder_66 15 M fu (nI k) (setN p) (setN q) (nI (s + 1)) (nI (f.getD s 0)) (nI (i + 1))) → ∃ b R' s' p', boS m f s' R' p' ∧ R'.length = m - (i + 1) ∧ gre (m - i) R C (f.drop s) = b :: gre (m - (i + 1)) R' C (f.drop s') ∧ ∀ x7, X4_bagInOrder_66 15 M (fu + 1) (nI k) (setN p) (setN q) (nI s) x7 (nI i) = X4_bagInOrder_66 15 M fu (nI k) (setN p') (setN q) (nI s') (nI b) (nI (i + 1)) := fun h1 h2 => ⟨_, _, _, _, bo_c hnd S hs, hlen _ hcR, h1, h2⟩
    have un : ∀ x7, X4_bagInOrder_66 15 M (fu + 1) (nI k) (setN p) (setN q) (nI s) x7 (nI i) = X4_bagInOrder_114 15 M (X4_bagInOrder_66 15 M fu) (nI k) (setN p) (setN q) (nI s) (nI i) 0 (setN p &&& (setN q ^^^ (-1))) := fun x7 => by
      rw [X4_bagInOrder_66, if_neg n0, e1, if_pos n1, e6, if_pos n2, if_pos rfl]
    cases hf : R.find? (fun a => !C a) with
    | none =>
      rw [hf] at el
      have el : X4_lowest (setN p &&& (setN q ^^^ (-1))) = some (-1000000) := el
      refine takeC ?_ (fun x7 => ?_)
      · rw [em, ed, gre, hf]
      · rw [un]
        unfold X4_bagInOrder_114
        rw [el, Option.bind_some, if_pos rfl, if_pos rfl, am_in_nI (by omega) (by omega), if_pos rfl, nI_clamp (by omega), h39 s hs, nI_1, nI_1]
    | some a =>
      obtain ⟨a1, a2, a3⟩ := find_first s2 hf
      rw [hf] at el
      have el : X4_lowest (setN p &&& (setN q ^^^ (-1))) = some (nI a) := el
      have ha6 := hR6 a a1
      have hCa : C a = false := by simpa using a2
      by_cases c : a < f.getD s 0
      · have hna : ¬ a ∈ f.drop s := fun z => by
          have := (hfC a (List.mem_of_mem_drop z)).2
          rw [hCa] at this
          simp at this
        refine ⟨a, R.erase a, s, _, bo_a S hna, hlen a a1, ?_, fun x7 => ?_⟩
        · rw [em, ed, gre, hf]
          simp only []
          rw [if_pos c]
        · rw [un]
          unfold X4_bagInOrder_114
          rw [el, Option.bind_some, if_pos rfl, if_neg (nI_ne_none (by omega)), am_in_nI (by omega) (by omega), if_pos rfl, nI_clamp (by omega), h39 s hs, if_pos (nI_lt c (by omega)), sN_clr p ha6, nI_1]
      · refine takeC ?_ (fun x7 => ?_)
        · rw [em, ed, gre, hf]
          simp only []
          rw [if_neg c]
        · rw [un]
          unfold X4_bagInOrder_114
          rw [el, Option.bind_some, if_pos rfl, if_neg (nI_ne_none (by omega)), am_in_nI (by omega) (by omega), if_pos rfl, nI_clamp (by omega), h39 s hs, if_neg (nI_nlt (by omega) (by omega)), if_pos rfl, nI_1, nI_1]
  · have n2 : ¬ nI s < nI f.length := nI_nlt (by omega) (by omega)
    have ed : f.drop s = [] := List.drop_eq_nil_of_le (by omega)
    cases R with
    | nil => simp at hR; omega
    | cons r R =>
      have hr6 := hR6 r List.mem_cons_self
      have ef : (List.range 6).find? p = (r :: R).find? (fun _ => true) := find_rng s2 hR6 (fun j hj => by rw [s6 j hj, ed]; simp)
      have el : X4_lowest (setN p) = some (nI r) := by rw [sN_low, ef]; rfl
      refine ⟨r, (r :: R).erase r, s, _, bo_a S (by rw [ed]; simp), hlen r List.mem_cons_self, ?_, fun x7 => ?_⟩
      · rw [ed, gre_nil hR, gre_nil (hlen r List.mem_cons_self), List.erase_cons_head]
      · rw [X4_bagInOrder_66, if_neg n0, e1, if_pos n1, e6, if_neg n2, if_neg (show ¬ (1 : Int32) = 0 by decide)]
        unfold X4_bagInOrder_114
        rw [el, Option.bind_some, if_neg (show ¬ (1 : Int32) = 0 by decide), sN_clr p hr6, nI_1]
theorem bo_loop (e1 : M 15 1 = nI m) (hm : m ≤ 6) (e6 : M 34 6 = nI f.length) (hf6 : f.length ≤ 6) (h39 : ∀ i, i < f.length → M 39 i = nI (f.getD i 0)) (hnd : f.Nodup) (hfC : ∀ c, c ∈ f → c < m ∧ C c = true) (hq : ∀ j, j < 6 → (q j = true ↔ (j < m ∧ C j = true ∧ ¬ j ∈ f))) {k : Nat} (hk : k < m) : ∀ (e i s fu : Nat) (R : List Nat) (p : Nat → Bool) (x7 : Int32), k - i = e → i ≤ k → R.length = m - i → e + 1 < fu → boS m f s R p → ∃ b, X4_bagInOrder_66 15 M fu (nI k) (setN p) (setN q) (nI s) x7 (nI i) = some (nI b) ∧ (gre (m - i) R C (f.drop s))[e]? = some b := by
  intro e
  induction e with
  | zero =>
    intro i s fu R p x7 he hi hR hfu S
    obtain ⟨fu, rfl⟩ : ∃ g, fu = g + 1 + 1 := ⟨fu - 2, by omega⟩
    obtain ⟨b, R', s', p', a1, a2, a3, a4⟩ := bo_step e1 hm e6 hf6 h39 hnd hfC hq hk hi (fu + 1) hR S
    refine ⟨b, ?_, by rw [a3]; rfl⟩
    rw [a4, X4_bagInOrder_66, if_pos (nI_lt (by omega) (by omega))]
  | succ e ih =>
    intro i s fu R p x7 he hi hR hfu S
    obtain ⟨fu, rfl⟩ : ∃ g, fu = g + 1 := ⟨fu - 1, by omega⟩
    obtain ⟨b, R', s', p', a1, a2, a3, a4⟩ := bo_step e1 hm e6 hf6 h39 hnd hfC hq hk hi fu hR S
    obtain ⟨c, i1, i2⟩ := ih (i + 1) s' fu R' p' (nI b) (by omega) (by omega) a2 (by omega) a1
    refine ⟨c, ?_, ?_⟩
    · rw [a4]; exact i1
    · rw [a3, List.getElem?_cons_succ]; exact i2
theorem bo_fall (e6 : M 34 6 = nI f.length) (hf6 : f.length ≤ 6) (h39 : ∀ i, i < f.length → M 39 i = nI (f.getD i 0)) (hm : m ≤ 6) (hfC : ∀ c, c ∈ f → c < m ∧ C c = true) (x2 : Int32) : ∀ (d i fu : Nat) (p : Nat → Bool), f.length - i = d → i ≤ f.length → d < fu → (∀ j, p j = true ↔ j ∈ f.take i) → ∃ p', (∀ j, p' j = true ↔ j ∈ f) ∧ X4_bagInOrder_5 15 M fu x2 (setN p) (nI i) = X4_bagInOrder_5 15 M 1 x2 (setN p') (nI f.length)
  | 0, i, 0, _, _, _, h, _ => absurd h (Nat.not_lt_zero _)
  | 0, i, fu + 1, p, hd, hi, _, hp => by
    have e : i = f.length := by omega
    subst e
    refine ⟨p, fun j => by rw [hp, List.take_length], ?_⟩
    rw [X4_bagInOrder_5, X4_bagInOrder_5, e6, if_neg (nI_nlt (Nat.le_refl _) (by omega)), if_neg (nI_nlt (Nat.le_refl _) (by omega))]
  | d + 1, i, 0, _, _, _, h, _ => absurd h (Nat.not_lt_zero _)
  | d + 1, i, fu + 1, p, hd, hi, hf, hp => by
    have hlt : i < f.length := by omega
    have eg : f.getD i 0 = f[i] := by rw [List.getD_eq_getElem?_getD, List.getElem?_eq_getElem hlt]; rfl
    have hc := (hfC (f.getD i 0) (by rw [eg]; exact List.getElem_mem hlt)).1
    rw [X4_bagInOrder_5, e6, if_pos (nI_lt hlt (by omega)), am_in_nI (by omega) (by omega), if_pos rfl, nI_clamp (by omega), h39 i hlt, sN_or p (by omega), nI_1]
    exact bo_fall e6 hf6 h39 hm hfC x2 d (i + 1) fu _ (by omega) (by omega) (by omega) (fun j => by
      rw [Bool.or_eq_true, hp j, decide_eq_true_eq, List.take_add_one, List.getElem?_eq_getElem hlt, List.mem_append, eg]
      simp)
end KB
theorem cx_bag {M : Mem} {sh : Nat} {G : Nat → Nat} {n : Nat} {w : Nat × Nat} {f : List Nat} (H : HX M 15 0 sh G) (h2 : G 2 + n < 1900) (hb : bestL n G = some (w, f)) (e6 : M 34 6 = nI f.length) (hf6 : f.length ≤ 6) (h39 : ∀ i, i < f.length → M 39 i = nI (f.getD i 0)) {k : Nat} (hk : k < G 1) : X4_bagInOrder 15 M (nI k) = some (nI (rkL (gre (G 1) (List.range (G 1)) (crB G) f) k)) := by
  have hP := hx_P H
  have hm := hP.2.2
  obtain ⟨f1, f2⟩ := best_in H.2.1 h2 hb
  have hfC : ∀ c, c ∈ f → c < G 1 ∧ crB G c = true := fun c hc => ⟨(f1 c hc).1, decide_eq_true (f1 c hc).2⟩
  obtain ⟨p', p1, p2⟩ := bo_fall (M := M) (m := G 1) (C := crB G) e6 hf6 h39 hm hfC (nI k) f.length 0 am_fuel (fun _ => false) (by omega) (by omega) (by show _ < 2000; omega) (fun j => by simp)
  have e0 : X4_bagInOrder 15 M (nI k) = X4_bagInOrder_5 15 M am_fuel (nI k) (setN (fun _ => false)) (nI 0) := by
    unfold X4_bagInOrder
    rw [show setN (fun _ => false) = 0 by decide]; rfl
  rw [e0, p2, X4_bagInOrder_5, e6, if_neg (nI_nlt (Nat.le_refl _) (by omega)), H.1.1.2.1, am_let_eq, sN_full hm (p := p') (fun j _ z => (hfC j ((p1 j).mp z)).1)]
  have hset := cx_setOf H (g := 1) (by omega)
  rw [← li_1] at hset
  rw [hset, Option.bind_some, bt_set _ hm, sN_and]
  obtain ⟨b, l1, l2⟩ := bo_loop (M := M) (m := G 1) (f := f) (C := crB G) (q := fun j => (decide (j < G 1) && !p' j) && (decide (j < G 1) && inG 1 G j)) H.1.1.2.1 hm e6 hf6 h39 f2 hfC (fun j hj => by
    have ei : inG 1 G j = crB G j := rfl
    rw [ei, Bool.and_eq_true, Bool.and_eq_true, Bool.and_eq_true, decide_eq_true_eq, Bool.not_eq_true']
    constructor
    · rintro ⟨⟨a1, a2⟩, -, a3⟩
      exact ⟨a1, a3, fun z => by
        have := (p1 j).mpr z
        rw [a2] at this
        simp at this⟩
    · rintro ⟨a1, a2, a3⟩
      refine ⟨⟨a1, ?_⟩, a1, a2⟩
      cases hp : p' j with
      | false => rfl
      | true => exact absurd ((p1 j).mp hp) a3) hk k 0 0 am_fuel (List.range (G 1)) (fun j => decide (j < G 1) && !p' j) (-1000000) (by omega) (by omega) (by rw [List.length_range]; omega) (by show _ < 2000; omega) ⟨by omega, List.pairwise_lt_range, fun r hr => List.mem_range.mp hr, fun c hc => List.mem_range.mpr (hfC c hc).1, fun j _ hj => hj, fun j hj => by
        rw [Bool.and_eq_true, decide_eq_true_eq, Bool.not_eq_true', List.mem_range, List.drop_zero, ← p1 j]
        simp⟩
  refine (show X4_bagInOrder_66 15 M am_fuel (nI k) _ _ 0 (-1000000) 0 = _ from l1).trans ?_
  rw [List.drop_zero, Nat.sub_zero] at l2
  unfold rkL
  rw [List.getD_eq_getElem?_getD, l2]; rfl
