/-! PURE: what one can hope for -/
def hpG (G : Nat → Nat) (t : Nat) : Bool := decide (G (15 + t) = t + 1) || (decide (G (15 + t) = 0) && decide (G (33 + t) < 30))
def hopeN (G : Nat → Nat) : Nat → Nat
  | 0 => 0
  | k + 1 => hopeN G k + if hpG G k then 1 else 0
theorem hp_iff (G : Nat → Nat) (t : Nat) : hpG G t = true ↔ (G (15 + t) = t + 1 ∨ (G (15 + t) = 0 ∧ G (33 + t) < 30)) := by
  unfold hpG
  rw [Bool.or_eq_true, Bool.and_eq_true, decide_eq_true_eq, decide_eq_true_eq, decide_eq_true_eq]
theorem own_hope (G : Nat → Nat) : ∀ k, ownN G k ≤ hopeN G k
  | 0 => Nat.le_refl _
  | k + 1 => by
    have := own_hope G k
    rw [ownN, hopeN]
    by_cases c : G (15 + k) = k + 1
    · rw [if_pos c, if_pos ((hp_iff G k).mpr (Or.inl c))]; omega
    · rw [if_neg c]; omega
theorem hope_le (G : Nat → Nat) : ∀ k, hopeN G k ≤ k
  | 0 => Nat.le_refl _
  | k + 1 => by
    have := hope_le G k
    rw [hopeN]
    split <;> omega
theorem hope_mn {G G' : Nat → Nat} : ∀ {k : Nat}, (∀ t, t < k → hpG G' t = true → hpG G t = true) → hopeN G' k ≤ hopeN G k
  | 0, _ => Nat.le_refl _
  | k + 1, h => by
    have := hope_mn (G := G) (G' := G') (k := k) (fun t ht => h t (by omega))
    rw [hopeN, hopeN]
    by_cases c : hpG G' k = true
    · rw [if_pos c, if_pos (h k (by omega) c)]; omega
    · rw [if_neg c]; omega
theorem sum_mn {G G' : Nat → Nat} : ∀ {k : Nat}, (∀ t, t < k → G (21 + t) ≤ G' (21 + t)) → sumG G k ≤ sumG G' k
  | 0, _ => Nat.le_refl _
  | k + 1, h => by
    have := sum_mn (G := G) (G' := G') (k := k) (fun t ht => h t (by omega))
    have := h k (by omega)
    rw [sumG, sumG]
    omega
/-- from G on to G' -/
def mnG (G G' : Nat → Nat) : Prop := G' 1 = G 1 ∧ (∀ t, t < G 1 → hpG G' t = true → hpG G t = true) ∧ ∀ t, t < G 1 → G (21 + t) ≤ G' (21 + t)
theorem mnG.rf {G : Nat → Nat} : mnG G G := ⟨rfl, fun _ _ h => h, fun _ _ => Nat.le_refl _⟩
theorem mnG.tr {G G1 G2 : Nat → Nat} (a : mnG G G1) (b : mnG G1 G2) : mnG G G2 := ⟨b.1.trans a.1, fun t ht h => a.2.1 t ht (b.2.1 t (by rw [a.1]; exact ht) h), fun t ht => Nat.le_trans (a.2.2 t ht) (b.2.2 t (by rw [a.1]; exact ht))⟩
theorem mn_look {t : Nat} {S : tS} (h : gV S.1) (ht : t < S.1 1) : mnG S.1 (lookS 0 t S).1 := by
  have h1 := h.1.1.2
  have hP := h.1.2.1.2.1
  have hsd := h.1.2.1.2.2 t ht
  unfold lookS
  split
  · next hg =>
    split
    · exact mnG.rf
    · next hc0 =>
      split
      · exact mnG.rf
      · simp only []
        rcases bagG_spec S.1 (S.1 (9 + t)) (S.1 1) with ⟨q, _⟩ | ⟨c, hc, q, hp, _⟩
        · exact absurd q hc0
        · rw [q, Nat.add_sub_cancel]
          generalize (if c = t ∧ S.1 (21 + t) < 99 then 1 else 0) = δ
          have m1 : mnG S.1 (upN S.1 (21 + t) (S.1 (21 + t) + δ)) := by
            refine ⟨upN_ne (by omega), fun s hs z => ?_, fun s hs => ?_⟩
            · rw [hp_iff] at z ⊢
              rw [upN_ne (by omega), upN_ne (by omega)] at z
              exact z
            · by_cases w : s = t
              · rw [w, upN_same]; omega
              · rw [upN_ne (by omega)]; exact Nat.le_refl _
          split
          · refine m1.tr ⟨?_, fun s hs z => ?_, fun s hs => ?_⟩
            · show upN (upN (upN S.1 _ _) _ _) _ _ 1 = _
              rw [upN_ne (by omega), upN_ne (by omega)]
            · rw [upN_ne (by omega)] at hs
              rw [hp_iff] at z ⊢
              have z : upN (upN (upN S.1 (21 + t) (S.1 (21 + t) + δ)) (15 + t) (c + 1)) (33 + c) (30 + t) (15 + s) = s + 1 ∨ (upN (upN (upN S.1 (21 + t) (S.1 (21 + t) + δ)) (15 + t) (c + 1)) (33 + c) (30 + t) (15 + s) = 0 ∧ upN (upN (upN S.1 (21 + t) (S.1 (21 + t) + δ)) (15 + t) (c + 1)) (33 + c) (30 + t) (33 + s) < 30) := z
              rw [upN_ne (by omega)] at z
              rw [upN_ne (by omega), upN_ne (by omega)]
              by_cases w : s = t
              · rw [w, upN_same] at z
                have hcs : c = t := by omega
                rw [w]
                right
                refine ⟨hg, ?_⟩
                rw [← hcs, hp]; omega
              · rw [upN_ne (by omega), upN_ne (by omega)] at z
                rcases z with z | ⟨z1, z2⟩
                · exact Or.inl z
                · by_cases w2 : s = c
                  · rw [w2, upN_same] at z2; omega
                  · rw [upN_ne (by omega), upN_ne (by omega), upN_ne (by omega)] at z2
                    exact Or.inr ⟨z1, z2⟩
            · show _ ≤ upN (upN (upN S.1 _ _) _ _) _ _ (21 + s)
              rw [upN_ne (by omega)] at hs
              rw [upN_ne (j := 21 + s) (k := 33 + c) (by omega), upN_ne (j := 21 + s) (k := 15 + t) (by omega)]
              exact Nat.le_refl _
          · exact m1
  · exact mnG.rf
theorem mn_looks {S : tS} (h : gV S.1) : ∀ k, k ≤ S.1 1 → mnG S.1 (looksS 0 k S).1
  | 0, _ => mnG.rf
  | k + 1, hk => by
    have ih := mn_looks h k (by omega)
    have hv := looks_V (a := 0) h k (by omega)
    exact ih.tr (mn_look hv (by show k < (looksS 0 k S).1 1; rw [ih.1]; omega))
theorem mn_ltk {T : Nat → Nat} (h : gV T) : mnG T (ltkG T) := by
  have h6 := h.1.1.2
  refine (mn_looks (S := (T, 0, 0)) h (T 1) (Nat.le_refl _)).tr ?_
  unfold ltkG
  refine ⟨upN_ne (by omega), fun t ht z => ?_, fun t ht => ?_⟩
  · rw [hp_iff] at z ⊢
    rw [upN_ne (by omega), upN_ne (by omega)] at z
    exact z
  · rw [upN_ne (by omega)]; exact Nat.le_refl _
theorem mn_trn {G : Nat → Nat} (h : gV G) : mnG G (trnG G) := by
  have h6 := h.1.1.2
  obtain ⟨t1, t2, t3⟩ := trn_V h
  have hP4 : 4 ≤ G 0 := h.1.2.1.1
  have hP12 : G 0 ≤ 12 := h.1.2.1.2.1
  have hm : (1 + G 0) % G 0 = 1 := by rw [Nat.add_mod_right]; exact Nat.mod_eq_of_lt (by omega)
  refine ⟨t2 1 (by omega), fun t ht z => ?_, fun t ht => by rw [t2 _ (by omega)]; exact Nat.le_refl _⟩
  rw [hp_iff] at z ⊢
  rw [t2 (15 + t) (by omega)] at z
  rcases z with z | ⟨z1, z2⟩
  · exact Or.inl z
  · refine Or.inr ⟨z1, ?_⟩
    unfold trnG at z2
    rw [turnE_val h (by omega) hm] at z2
    by_cases c : G (33 + t) < 20
    · omega
    · rw [if_neg (by omega)] at z2; exact z2
theorem mn_hlC {G : Nat → Nat} (h : gV G) (hd : dueG (trnG G) = true) {c : Nat} (hc : c < G 1) (h20 : G (33 + c) = 20) : mnG G (hlC G c) := by
  have h6 := h.1.1.2
  obtain ⟨t1, t2, t3⟩ := trn_V h
  obtain ⟨d1, -⟩ := due_0 hd
  have e20 := (t3 c hc).mpr h20
  have v := drop_V t1 (b := c) (by rw [t2 1 (by omega)]; exact hc) e20 (bagG_none d1)
  refine ((mn_trn h).tr ⟨upN_ne (by omega), fun t ht z => ?_, fun t ht => by rw [t2 1 (by omega)] at ht; rw [upN_ne (by omega)]; exact Nat.le_refl _⟩).tr (mn_ltk v)
  rw [t2 1 (by omega)] at ht
  rw [hp_iff] at z ⊢
  rw [upN_ne (by omega)] at z
  rcases z with z | ⟨z1, z2⟩
  · exact Or.inl z
  · by_cases w : t = c
    · exact Or.inr ⟨z1, by rw [w, e20]; omega⟩
    · rw [upN_ne (by omega)] at z2
      exact Or.inr ⟨z1, z2⟩
/-- no leaf is better than what one can hope for -/
theorem leaf_mn : ∀ (n : Nat) (G : Nat → Nat), gV G → G 2 + n < 1900 → ∀ x, x ∈ leaves n G → mnG G x.2
  | 0, G, _, _, x, hx => by
    rw [leaves, List.mem_singleton] at hx
    rw [hx]; exact mnG.rf
  | n + 1, G, h, h2, x, hx => by
    obtain ⟨t1, t2, t3⟩ := trn_V h
    by_cases hd : dueG (trnG G) = true
    · rw [leaves, if_pos hd, List.mem_flatMap] at hx
      obtain ⟨c, hc, hx⟩ := hx
      rw [List.mem_range, t2 1 (by omega)] at hc
      by_cases q : trnG G (33 + c) = 20
      · rw [if_pos q, List.mem_map] at hx
        obtain ⟨y, hy, e⟩ := hx
        have h20 := (t3 c hc).mp q
        obtain ⟨v1, -, v2, v3, -⟩ := hlC_V h (by omega) hd hc h20
        rw [← e]
        exact (mn_hlC h hd hc h20).tr (leaf_mn n (hlC G c) v1 (by omega) y hy)
      · rw [if_neg q] at hx
        simp at hx
    · rw [leaves, if_neg hd] at hx
      obtain ⟨l1, -, l2, l3, -⟩ := ltk_V t1 (by rw [t2 2 (by omega)]; omega)
      exact ((mn_trn h).tr (mn_ltk t1)).tr (leaf_mn n _ l1 (by rw [l3, t2 2 (by omega)]; omega) x hx)
theorem prune {n : Nat} {G : Nat → Nat} (h : gV G) (h2 : G 2 + n < 1900) {q : (Nat × Nat) × List Nat} (hq : ¬ q.1.1 < hopeN G (G 1)) (hq2 : hopeN G (G 1) = q.1.1 → ¬ sumG G (G 1) < q.1.2) (g : List Nat × (Nat → Nat) → List Nat) : cmb (some q) (bst ((leaves n G).map (fun x => (wgh x.2, g x)))) = some q := by
  cases hb : bst ((leaves n G).map (fun x => (wgh x.2, g x))) with
  | none => rfl
  | some z =>
    have hz := bst_mem hb
    rw [List.mem_map] at hz
    obtain ⟨x, hx, e⟩ := hz
    obtain ⟨m1, m2, m3⟩ := leaf_mn n G h h2 x hx
    have o1 := own_hope x.2 (G 1)
    have o2 := hope_mn m2
    have o3 := sum_mn m3
    show (if btr z.1 q.1 then some z else some q) = _
    rw [if_neg]
    rw [btr_iff, ← e]
    show ¬ bt (ownN x.2 (x.2 1), sumG x.2 (x.2 1)) q.1
    rw [m1]
    unfold bt
    simp only []
    omega
theorem tb6 : ∀ s, s < 64 → ∀ k, k < 6 → decide ((nI s >>> (nI k &&& 31)) &&& 1 = 1) = s.testBit k := by decide +kernel
theorem bt_tb (p : Nat → Bool) {n k : Nat} (hn : n ≤ 6) (hk : k < n) : ((btI p n >>> (nI k &&& 31)) &&& 1 = 1) ↔ p k = true := by
  have := tb6 (btN p n) (btN_le6 p hn) k (by omega)
  rw [btN_tb, decide_eq_true hk, Bool.true_and] at this
  rw [btI_N p n hn, ← this, decide_eq_true_eq]
