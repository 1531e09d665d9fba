/-! PURE: halls that are alike in all that counts have the same orders -/
def relK (m k : Nat) : Prop := k < 3 ∨ (3 ≤ k ∧ k < 39 ∧ (k - 3) % 6 < m)
def eqG (G G' : Nat → Nat) : Prop := ∀ k, relK (G 1) k → G' k = G k
section EQ
variable {G G' : Nat → Nat}
theorem eqG.r1 (h : eqG G G') : G' 1 = G 1 := h 1 (Or.inl (by omega))
theorem eqG.r0 (h : eqG G G') : G' 0 = G 0 := h 0 (Or.inl (by omega))
theorem eqG.r2 (h : eqG G G') : G' 2 = G 2 := h 2 (Or.inl (by omega))
theorem rel_t {m t b : Nat} (ht : t < m) (hm : m ≤ 6) (hb : b = 3 ∨ b = 9 ∨ b = 15 ∨ b = 21 ∨ b = 27 ∨ b = 33) : relK m (b + t) := Or.inr (by omega)
theorem eqG.t (h : eqG G G') (hm : G 1 ≤ 6) {t b : Nat} (ht : t < G 1) (hb : b = 3 ∨ b = 9 ∨ b = 15 ∨ b = 21 ∨ b = 27 ∨ b = 33) : G' (b + t) = G (b + t) := h _ (rel_t ht hm hb)
theorem eqG.up (h : eqG G G') {k v : Nat} (hk : k ≠ 1) : eqG (upN G k v) (upN G' k v) := fun j hj => by
  rw [upN_ne (Ne.symm hk)] at hj
  unfold upN
  by_cases c : j = k
  · rw [if_pos c, if_pos c]
  · rw [if_neg c, if_neg c]; exact h j hj
theorem eqG.bag (h : eqG G G') (hm : G 1 ≤ 6) (p : Nat) : bagG G' p (G 1) = bagG G p (G 1) := bagG_cong (fun b hb => by rw [h.t hm hb (by omega)])
theorem eqG.cart (h : eqG G G') (hm : G 1 ≤ 6) : cartN G' (G 1) = cartN G (G 1) := cartN_cong (fun b hb => by rw [h.t hm hb (by omega)])
theorem eqG.trn (h : eqG G G') (hm : G 1 ≤ 6) : eqG (trnG G) (trnG G') := fun k hk => by
  unfold trnG at hk ⊢
  rw [turnL_val _ _ _ 1 hm, if_neg (by omega)] at hk
  rw [h.r1, h.r0, turnL_val _ _ _ k hm, turnL_val _ _ _ k hm, h k hk, h.r0]
theorem eqG.due (h : eqG G G') (hm : G 1 ≤ 6) : dueG G' = dueG G := by
  unfold dueG
  rw [h.r1, h.bag hm, h.cart hm]
theorem eqG.seen (h : eqG G G') (hm : G 1 ≤ 6) {t : Nat} (ht : t < G 1) : ∀ k, k ≤ G 1 → seenG G' t k = seenG G t k
  | 0, _ => rfl
  | k + 1, hk => by
    rw [seenG, seenG, eqG.seen h hm ht k (by omega), h.t hm (t := k) (b := 15) (by omega) (by omega), h.r0, h.t hm (t := k) (b := 9) (by omega) (by omega), h.t hm (t := t) (b := 9) ht (by omega)]
theorem eqG.take (h : eqG G G') (hm : G 1 ≤ 6) {t c : Nat} (ht : t < G 1) (hc : c < G 1) : takeG G' t c = takeG G t c := by
  unfold takeG
  rw [h.t hm (t := t) (b := 3) ht (by omega), h.t hm (t := c) (b := 27) hc (by omega), h.t hm (t := t) (b := 27) ht (by omega), h.t hm (t := t) (b := 21) ht (by omega), h.r1, h.seen hm ht (G 1) (Nat.le_refl _)]
theorem eq_look {t : Nat} {S S' : tS} (h : eqG S.1 S'.1) (hm : S.1 1 ≤ 6) (ht : t < S.1 1) : eqG (lookS 0 t S).1 (lookS 0 t S').1 := by
  have e15 := h.t hm (t := t) (b := 15) ht (by omega)
  have e9 := h.t hm (t := t) (b := 9) ht (by omega)
  have e21 := h.t hm (t := t) (b := 21) ht (by omega)
  have eb : bagG S'.1 (S'.1 (9 + t)) (S'.1 1) = bagG S.1 (S.1 (9 + t)) (S.1 1) := by rw [e9, h.r1, h.bag hm]
  unfold lookS
  rw [e15, eb, e21]
  by_cases c1 : S.1 (15 + t) = 0
  · rw [if_pos c1, if_pos c1]
    by_cases c2 : bagG S.1 (S.1 (9 + t)) (S.1 1) = 0
    · rw [if_pos c2, if_pos c2]; exact h
    · rw [if_neg c2, if_neg c2]
      by_cases c3 : slp 0 t = true
      · rw [if_pos c3, if_pos c3]; exact h
      · rw [if_neg c3, if_neg c3]
        simp only []
        rcases bagG_spec S.1 (S.1 (9 + t)) (S.1 1) with ⟨q, _⟩ | ⟨c, hc, q, hp, _⟩
        · exact absurd q c2
        · rw [q, Nat.add_sub_cancel]
          generalize (if c = t ∧ S.1 (21 + t) < 99 then 1 else 0) = δ
          have h1 : eqG (upN S.1 (21 + t) (S.1 (21 + t) + δ)) (upN S'.1 (21 + t) (S.1 (21 + t) + δ)) := h.up (by omega)
          have e1 : upN S.1 (21 + t) (S.1 (21 + t) + δ) 1 = S.1 1 := upN_ne (by omega)
          rw [h1.take (by rw [e1]; exact hm) (t := t) (c := c) (by rw [e1]; exact ht) (by rw [e1]; exact hc)]
          by_cases c4 : takeG (upN S.1 (21 + t) (S.1 (21 + t) + δ)) t c = true
          · rw [if_pos c4, if_pos c4]
            exact (h1.up (by omega)).up (by omega)
          · rw [if_neg c4, if_neg c4]
            exact h1
  · rw [if_neg c1, if_neg c1]; exact h
theorem eq_looks {S S' : tS} (hV : gV S.1) (h : eqG S.1 S'.1) : ∀ k, k ≤ S.1 1 → eqG (looksS 0 k S).1 (looksS 0 k S').1
  | 0, _ => h
  | k + 1, hk => by
    have ih := eq_looks hV h k (by omega)
    obtain ⟨l1, l2⟩ := looks_W (a := 0) hV.1 k (by omega)
    have e := l2 1 (by omega)
    have hm := hV.1.1.2
    exact eq_look (S := looksS 0 k S) (S' := looksS 0 k S') ih (by omega) (by omega)
theorem eqG.ltk (h : eqG G G') (hV : gV G) : eqG (ltkG G) (ltkG G') := by
  have l := eq_looks (S := (G, 0, 0)) (S' := (G', 0, 0)) hV h (G 1) (Nat.le_refl _)
  unfold ltkG
  rw [h.r1, l.r2]
  exact l.up (by omega)
theorem eqG.own (h : eqG G G') (hm : G 1 ≤ 6) : ∀ k, k ≤ G 1 → ownN G' k = ownN G k
  | 0, _ => rfl
  | k + 1, hk => by rw [ownN, ownN, eqG.own h hm k (by omega), h.t hm (t := k) (b := 15) (by omega) (by omega)]
theorem eqG.sum (h : eqG G G') (hm : G 1 ≤ 6) : ∀ k, k ≤ G 1 → sumG G' k = sumG G k
  | 0, _ => rfl
  | k + 1, hk => by rw [sumG, sumG, eqG.sum h hm k (by omega), h.t hm (t := k) (b := 21) (by omega) (by omega)]
end EQ
theorem eq_lv : ∀ (n : Nat) (G G' : Nat → Nat) (pf : List Nat), gV G → gV G' → G 2 + n < 1900 → eqG G G' → lvW pf n G' = lvW pf n G
  | 0, G, G', pf, hV, hV', h2, h => by
    have hm := hV.1.1.2
    unfold lvW
    rw [leaves, leaves, List.map_cons, List.map_cons, List.map_nil]
    show [(wgh G', _)] = [(wgh G, _)]
    unfold wgh
    rw [h.r1, h.own hm _ (Nat.le_refl _), h.sum hm _ (Nat.le_refl _)]
  | n + 1, G, G', pf, hV, hV', h2, h => by
    have hm := hV.1.1.2
    obtain ⟨t1, t2, t3⟩ := trn_V hV
    obtain ⟨t1', t2', t3'⟩ := trn_V hV'
    have ht := h.trn hm
    have e1 : trnG G 1 = G 1 := t2 1 (by omega)
    have hd := ht.due (by rw [e1]; exact hm)
    by_cases c : dueG (trnG G) = true
    · have c' : dueG (trnG G') = true := by rw [hd]; exact c
      rw [lv_due hV c, lv_due hV' c', h.r1]
      have key : ∀ (l : List Nat), (∀ c, c ∈ l → c < G 1) → l.flatMap (eaG pf n G') = l.flatMap (eaG pf n G) := by
        intro l
        induction l with
        | nil => intro _; rfl
        | cons b l ih =>
          intro hl
          rw [List.flatMap_cons, List.flatMap_cons, ih (fun x hx => hl x (List.mem_cons_of_mem _ hx))]
          congr 1
          have hb := hl b List.mem_cons_self
          have eb := h.t hm (t := b) (b := 33) hb (by omega)
          unfold eaG
          rw [eb]
          by_cases q : G (33 + b) = 20
          · rw [if_pos q, if_pos q]
            obtain ⟨d1, -⟩ := due_0 c
            have v := drop_V t1 (b := b) (by rw [e1]; exact hb) ((t3 b hb).mpr q) (bagG_none d1)
            obtain ⟨v1, -, v2, v3, -⟩ := hlC_V hV (by omega) c hb q
            obtain ⟨w1, -⟩ := hlC_V hV' (by rw [h.r2]; omega) c' (by rw [h.r1]; exact hb) (by rw [eb]; exact q)
            exact eq_lv n (hlC G b) (hlC G' b) (pf ++ [b]) v1 w1 (by rw [v3]; omega) ((ht.up (by omega)).ltk v)
          · rw [if_neg q, if_neg q]
      exact key _ (fun c hc => List.mem_range.mp hc)
    · have c' : ¬ dueG (trnG G') = true := by rw [hd]; exact c
      obtain ⟨l1, -, l2, l3, -⟩ := ltk_V t1 (by rw [t2 2 (by omega)]; omega)
      obtain ⟨m1, -⟩ := ltk_V t1' (by rw [t2' 2 (by omega), h.r2]; omega)
      have ih := eq_lv n (ltkG (trnG G)) (ltkG (trnG G')) pf l1 m1 (by rw [l3, t2 2 (by omega)]; omega) (ht.ltk t1)
      unfold lvW at ih ⊢
      rw [leaves, leaves, if_neg c, if_neg c']
      exact ih
theorem eq_best {n : Nat} {G G' : Nat → Nat} (hV : gV G) (hV' : gV G') (h2 : G 2 + n < 1900) (h : eqG G G') : bestL n G' = bestL n G := by
  have := eq_lv n G G' [] hV hV' h2 h
  rw [best_bst, best_bst]
  exact congrArg bst this
/-- the same cells: the same hall -/
theorem eq_sv {f f' : Nat → Int32} {sh sh' : Nat} {G G' : Nat → Nat} (a : svX f 0 sh G) (b : svX f' 0 sh' G') (e : ∀ j, j < 40 → f' j = f j) : eqG G G' := by
  obtain ⟨⟨a0, a1, a2, a3⟩, at_, aV, ash⟩ := a
  obtain ⟨⟨b0, b1, b2, b3⟩, bt_, bV, bsh⟩ := b
  have i : ∀ {x y : Nat}, x < 2000 → y < 2000 → nI x = nI y → x = y := fun hx hy h => (nI_eq (by omega) (by omega)).mp h
  have gi : ∀ {x y : Nat}, x < 2000 → y < 2000 → gI x = gI y → x = y := fun {x y} hx hy h => by
    cases y with
    | zero => rw [gI_0] at h; exact (gI_none (by omega)).mp h
    | succ y => rw [gI_s] at h; exact (gI_nI (by omega) (by omega)).mp h
  have bA := aV.1.1.1
  have bB := bV.1.1.1
  have hm := aV.1.1.2
  have P1 := aV.1.2.1.1
  have P2 := aV.1.2.1.2.1
  have Q2 := bV.1.2.1.2.1
  have e0 : G' 0 = G 0 := i (bB 0) (bA 0) (by rw [← a0, ← b0, e 0 (by omega)])
  have e1 : G' 1 = G 1 := i (bB 1) (bA 1) (by rw [← a1, ← b1, e 1 (by omega)])
  have e2 : G' 2 = G 2 := i (bB 2) (bA 2) (by rw [← a2, ← b2, e 2 (by omega)])
  have e3 : sh' = sh := i (by omega) (by omega) (by rw [← a3, ← b3, e 3 (by omega)])
  have key : ∀ t, t < G 1 → G' (3 + t) = G (3 + t) ∧ G' (9 + t) = G (9 + t) ∧ G' (21 + t) = G (21 + t) ∧ G' (15 + t) = G (15 + t) ∧ G' (27 + t) = G (27 + t) ∧ G' (33 + t) = G (33 + t) := fun t ht => by
    obtain ⟨x1, x2, x3, x4, x5, x6⟩ := at_ t ht
    obtain ⟨y1, y2, y3, y4, y5, y6⟩ := bt_ t (by omega)
    refine ⟨i (bB _) (bA _) (by rw [← x1, ← y1, e _ (by omega)]), i (bB _) (bA _) (by rw [← x2, ← y2, e _ (by omega)]), i (bB _) (bA _) (by rw [← x3, ← y3, e _ (by omega)]), gi (bB _) (bA _) (by rw [← x4, ← y4, e _ (by omega)]), i (bB _) (bA _) (by rw [← x5, ← y5, e _ (by omega)]), ?_⟩
    have z1 : spG G sh t < 2000 := by
      have := bA (33 + t)
      unfold spG
      by_cases c : G (33 + t) < 20
      · rw [if_pos c]; have := subm_lt (gV_belt aV ht c) ash; omega
      · rw [if_neg c]; omega
    have z2 : spG G' sh' t < 2000 := by
      have := bB (33 + t)
      unfold spG
      by_cases c : G' (33 + t) < 20
      · rw [if_pos c]; have := subm_lt (gV_belt bV (by omega) c) bsh; omega
      · rw [if_neg c]; omega
    have es : spG G' sh' t = spG G sh t := i z2 z1 (by rw [← x6, ← y6, e _ (by omega)])
    unfold spG at es
    rw [e0, e3] at es
    by_cases c : G (33 + t) < 20
    · have hb := gV_belt aV ht c
      have hs := subm_lt hb ash
      rw [if_pos c] at es
      by_cases c' : G' (33 + t) < 20
      · rw [if_pos c'] at es
        have hb' := gV_belt bV (show t < G' 1 by omega) c'
        rw [e0] at hb'
        rw [← add_subm hb' ash, es, add_subm hb ash]
      · rw [if_neg c'] at es; omega
    · rw [if_neg c] at es
      by_cases c' : G' (33 + t) < 20
      · rw [if_pos c'] at es
        have hb' := gV_belt bV (show t < G' 1 by omega) c'
        rw [e0] at hb'
        have := subm_lt hb' ash
        omega
      · rw [if_neg c'] at es; exact es
  intro k hk
  rcases hk with hk | ⟨h1, h2, h3⟩
  · rcases (show k = 0 ∨ k = 1 ∨ k = 2 by omega) with rfl | rfl | rfl
    · exact e0
    · exact e1
    · exact e2
  · obtain ⟨t, ht⟩ : ∃ t, t = (k - 3) % 6 := ⟨_, rfl⟩
    obtain ⟨k1, k2, k3, k4, k5, k6⟩ := key t (by omega)
    rcases (show k = 3 + t ∨ k = 9 + t ∨ k = 15 + t ∨ k = 21 + t ∨ k = 27 + t ∨ k = 33 + t by omega) with q | q | q | q | q | q <;> rw [q]
    · exact k1
    · exact k2
    · exact k4
    · exact k3
    · exact k5
    · exact k6
