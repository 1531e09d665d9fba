/-! PURE: what holds of every hall; places counted round -/
def addm (P x e : Nat) : Nat := if x + e < P then x + e else x + e - P
def subm (P x e : Nat) : Nat := if e ≤ x then x - e else x + P - e
theorem addm_lt {P x e : Nat} (hx : x < P) (he : e < P) : addm P x e < P := by unfold addm; split <;> omega
theorem subm_lt {P x e : Nat} (hx : x < P) (he : e < P) : subm P x e < P := by unfold subm; split <;> omega
theorem add_subm {P x e : Nat} (hx : x < P) (he : e < P) : addm P (subm P x e) e = x := by unfold addm subm; split <;> split <;> omega
theorem sub_addm {P x e : Nat} (hx : x < P) (he : e < P) : subm P (addm P x e) e = x := by unfold addm subm; split <;> split <;> omega
theorem addm_inj {P x y e : Nat} (hx : x < P) (hy : y < P) (he : e < P) (h : addm P x e = addm P y e) : x = y := by rw [← sub_addm hx he, h, sub_addm hy he]
theorem addm_comm3 {P x s e : Nat} (hx : x < P) (hs : s < P) (he : e < P) : addm P x (addm P s e) = addm P (addm P x s) e := by unfold addm; split <;> split <;> split <;> first | omega | (split <;> omega)
theorem mod_addm {P x e : Nat} (hx : x < P) (he : e < P) : (x + e) % P = addm P x e := by
  unfold addm
  split
  · exact Nat.mod_eq_of_lt (by omega)
  · rw [Nat.mod_eq_sub_mod (by omega), Nat.mod_eq_of_lt (by omega)]
/-- the bags, and who has which -/
def gZ (G : Nat → Nat) : Prop :=
  (∀ t, t < G 1 → 1 ≤ G (3 + t) ∧ G (3 + t) ≤ 5) ∧
  (∀ b, b < G 1 → G (33 + b) < G 0 ∨ G (33 + b) = 20 ∨ ∃ t, t < G 1 ∧ G (33 + b) = 30 + t ∧ G (15 + t) = b + 1) ∧
  (∀ b c, b < G 1 → c < G 1 → G (33 + b) = G (33 + c) → G (33 + b) < 20 → b = c) ∧
  (∀ t, t < G 1 → G (15 + t) = 0 ∨ ∃ c, c < G 1 ∧ G (15 + t) = c + 1 ∧ G (33 + c) = 30 + t)
/-- a hall: as it may be, bags and travellers agreeing -/
def gV (G : Nat → Nat) : Prop := gW G ∧ gZ G
theorem turnE_val {G : Nat → Nat} (h : gV G) {d e : Nat} (he : e < G 0) (hd : d % G 0 = e) (j : Nat) : turnL d (G 1) G j = if 33 ≤ j ∧ j < 33 + G 1 ∧ G j < 20 then addm (G 0) (G j) e else G j := by
  have h1 := h.1.1.2
  have hP := h.1.2.1.1
  rw [turnL_val d G _ j h1]
  by_cases c : 33 ≤ j ∧ j < 33 + G 1 ∧ G j < 20
  · rw [if_pos c, if_pos c]
    have hlt : G j < G 0 := by
      have := h.2.2.1 (j - 33) (by omega)
      rw [show 33 + (j - 33) = j by omega] at this
      rcases this with q | q | ⟨t, _, q, _⟩ <;> omega
    rw [Nat.add_mod, Nat.mod_eq_of_lt hlt, hd, mod_addm hlt he]
  · rw [if_neg c, if_neg c]
theorem gV_belt {G : Nat → Nat} (h : gV G) {b : Nat} (hb : b < G 1) (hw : G (33 + b) < 20) : G (33 + b) < G 0 := by
  rcases h.2.2.1 b hb with q | q | ⟨t, _, q, _⟩ <;> omega
theorem turn_V {G : Nat → Nat} (h : gV G) {d e : Nat} (he : e < G 0) (hd : d % G 0 = e) : gV (turnL d (G 1) G) := by
  obtain ⟨tw, te⟩ := turn_W (d := d) h.1
  have hP := h.1.2.1.2.1
  have hv := turnE_val h he hd
  have e0 := te 0 (by omega)
  have e1 := te 1 (by omega)
  obtain ⟨z1, z2, z3, z4⟩ := h.2
  refine ⟨tw, ?_, ?_, ?_, ?_⟩
  · intro t ht
    rw [e1] at ht
    have h1 := h.1.1.2
    rw [te (3 + t) (by omega)]
    exact z1 t ht
  · intro b hb
    rw [e1] at hb
    rw [e0, e1, hv (33 + b)]
    by_cases c : G (33 + b) < 20
    · rw [if_pos (by omega)]
      exact Or.inl (addm_lt (gV_belt h hb c) he)
    · rw [if_neg (by omega)]
      rcases z2 b hb with q | q | ⟨t, ht, q, q2⟩
      · omega
      · exact Or.inr (Or.inl q)
      · refine Or.inr (Or.inr ⟨t, ht, q, ?_⟩)
        have h1 := h.1.1.2
        rw [te (15 + t) (by omega)]
        exact q2
  · intro b c hb hc
    rw [e1] at hb hc
    rw [hv (33 + b), hv (33 + c)]
    by_cases cb : G (33 + b) < 20 <;> by_cases cc : G (33 + c) < 20
    · rw [if_pos (by omega), if_pos (by omega)]
      intro q _
      exact z3 b c hb hc (addm_inj (gV_belt h hb cb) (gV_belt h hc cc) he q) cb
    · rw [if_pos (by omega), if_neg (by omega)]
      intro q _
      have := addm_lt (gV_belt h hb cb) he
      omega
    · rw [if_neg (by omega), if_pos (by omega)]
      intro q q2
      omega
    · rw [if_neg (by omega), if_neg (by omega)]
      intro q q2
      omega
  · intro t ht
    rw [e1] at ht ⊢
    have h1 := h.1.1.2
    rw [te (15 + t) (by omega)]
    rcases z4 t ht with q | ⟨c, hc, q, q2⟩
    · exact Or.inl q
    · refine Or.inr ⟨c, hc, q, ?_⟩
      rw [hv (33 + c), if_neg (by omega)]
      exact q2
/-- a bag that is in THE CART falls into the empty place 0 -/
theorem drop_V {G : Nat → Nat} (h : gV G) {b : Nat} (hb : b < G 1) (hw : G (33 + b) = 20) (h0 : ∀ c, c < G 1 → G (33 + c) ≠ 0) : gV (upN G (33 + b) 0) := by
  obtain ⟨⟨hG, hs, h9⟩, z1, z2, z3, z4⟩ := h
  have h1 := hG.2
  have e : ∀ k, k < 33 → upN G (33 + b) 0 k = G k := fun k hk => upN_ne (by omega)
  refine ⟨⟨hG.up (by omega) (by omega), ?_, fun t ht => by rw [e _ (by omega)]; exact h9 t ht⟩, ?_, ?_, ?_, ?_⟩
  · unfold gS at hs ⊢
    rw [e 0 (by omega), e 1 (by omega)]
    exact ⟨hs.1, hs.2.1, fun j hj => by rw [e (9 + j) (by omega)]; exact hs.2.2 j hj⟩
  · intro t ht
    rw [e 1 (by omega)] at ht
    rw [e (3 + t) (by omega)]
    exact z1 t ht
  · intro c hc
    rw [e 1 (by omega)] at hc
    rw [e 0 (by omega), e 1 (by omega)]
    by_cases q : c = b
    · subst q
      rw [upN_same]
      have := hs.1
      exact Or.inl (by omega)
    · rw [upN_ne (by omega)]
      rcases z2 c hc with r | r | ⟨t, ht, r, r2⟩
      · exact Or.inl r
      · exact Or.inr (Or.inl r)
      · exact Or.inr (Or.inr ⟨t, ht, r, by rw [e (15 + t) (by omega)]; exact r2⟩)
  · intro c c' hc hc'
    rw [e 1 (by omega)] at hc hc'
    by_cases q : c = b <;> by_cases q' : c' = b
    · intro _ _
      omega
    · rw [q, upN_same, upN_ne (by omega)]
      intro r _
      exact absurd r.symm (h0 c' hc')
    · rw [q', upN_same, upN_ne (by omega)]
      intro r _
      exact absurd r (h0 c hc)
    · rw [upN_ne (by omega), upN_ne (by omega)]
      exact z3 c c' hc hc'
  · intro t ht
    rw [e 1 (by omega)] at ht ⊢
    rw [e (15 + t) (by omega)]
    rcases z4 t ht with r | ⟨c, hc, r, r2⟩
    · exact Or.inl r
    · have : c ≠ b := fun q => by rw [q] at r2; omega
      refine Or.inr ⟨c, hc, r, ?_⟩
      rw [upN_ne (by omega)]
      exact r2
/-- one that waits takes a bag that is on THE BELT -/
theorem take_V {G : Nat → Nat} (h : gV G) {t b : Nat} (ht : t < G 1) (hb : b < G 1) (hw : G (33 + b) < 20) (hg : G (15 + t) = 0) : gV (upN (upN G (15 + t) (b + 1)) (33 + b) (30 + t)) := by
  obtain ⟨⟨hG, hs, h9⟩, z1, z2, z3, z4⟩ := h
  have h1 := hG.2
  have e : ∀ k, k < 33 → k ≠ 15 + t → upN (upN G (15 + t) (b + 1)) (33 + b) (30 + t) k = G k := fun k hk hk2 => by rw [upN_ne (by omega), upN_ne hk2]
  have e33 : ∀ c, c ≠ b → upN (upN G (15 + t) (b + 1)) (33 + b) (30 + t) (33 + c) = G (33 + c) := fun c hc => by rw [upN_ne (by omega), upN_ne (by omega)]
  have eb : upN (upN G (15 + t) (b + 1)) (33 + b) (30 + t) (33 + b) = 30 + t := upN_same _ _ _
  have et : upN (upN G (15 + t) (b + 1)) (33 + b) (30 + t) (15 + t) = b + 1 := by rw [upN_ne (by omega), upN_same]
  refine ⟨⟨(hG.up (by omega) (by omega)).up (by omega) (by omega), ?_, fun j hj => by rw [e _ (by omega) (by omega)]; exact h9 j hj⟩, ?_, ?_, ?_, ?_⟩
  · unfold gS at hs ⊢
    rw [e 0 (by omega) (by omega), e 1 (by omega) (by omega)]
    exact ⟨hs.1, hs.2.1, fun j hj => by rw [e (9 + j) (by omega) (by omega)]; exact hs.2.2 j hj⟩
  · intro j hj
    rw [e 1 (by omega) (by omega)] at hj
    rw [e (3 + j) (by omega) (by omega)]
    exact z1 j hj
  · intro c hc
    rw [e 1 (by omega) (by omega)] at hc
    rw [e 0 (by omega) (by omega), e 1 (by omega) (by omega)]
    by_cases q : c = b
    · subst q
      rw [eb]
      exact Or.inr (Or.inr ⟨t, ht, rfl, et⟩)
    · rw [e33 c q]
      rcases z2 c hc with r | r | ⟨t', ht', r, r2⟩
      · exact Or.inl r
      · exact Or.inr (Or.inl r)
      · refine Or.inr (Or.inr ⟨t', ht', r, ?_⟩)
        have : t' ≠ t := fun q => by rw [q, hg] at r2; omega
        rw [e (15 + t') (by omega) (by omega)]
        exact r2
  · intro c c' hc hc'
    rw [e 1 (by omega) (by omega)] at hc hc'
    by_cases q : c = b <;> by_cases q' : c' = b
    · intro _ _; omega
    · rw [q, eb]
      intro _ r; omega
    · rw [q', eb, e33 c q]
      intro r r2; omega
    · rw [e33 c q, e33 c' q']
      exact z3 c c' hc hc'
  · intro j hj
    rw [e 1 (by omega) (by omega)] at hj ⊢
    by_cases q : j = t
    · rw [q, et]
      exact Or.inr ⟨b, hb, rfl, by rw [eb]⟩
    · rw [e (15 + j) (by omega) (by omega)]
      rcases z4 j hj with r | ⟨c, hc, r, r2⟩
      · exact Or.inl r
      · have : c ≠ b := fun q2 => by rw [q2] at r2; omega
        exact Or.inr ⟨c, hc, r, by rw [e33 c this]; exact r2⟩
theorem saw_V {G : Nat → Nat} (h : gV G) {t v : Nat} (ht : t < G 1) (hv : v ≤ 99) : gV (upN G (21 + t) v) := by
  obtain ⟨⟨hG, hs, h9⟩, z1, z2, z3, z4⟩ := h
  have h1 := hG.2
  have e : ∀ k, k ≠ 21 + t → upN G (21 + t) v k = G k := fun k hk => upN_ne hk
  refine ⟨⟨hG.up (by omega) (by omega), ?_, fun j hj => ?_⟩, ?_, ?_, ?_, ?_⟩
  · unfold gS at hs ⊢
    rw [e 0 (by omega), e 1 (by omega)]
    exact ⟨hs.1, hs.2.1, fun j hj => by rw [e (9 + j) (by omega)]; exact hs.2.2 j hj⟩
  · by_cases q : j = t
    · rw [q, upN_same]; exact hv
    · rw [e _ (by omega)]; exact h9 j hj
  · intro j hj
    rw [e 1 (by omega)] at hj
    rw [e (3 + j) (by omega)]; exact z1 j hj
  · intro c hc
    rw [e 1 (by omega)] at hc
    rw [e 0 (by omega), e 1 (by omega), e (33 + c) (by omega)]
    rcases z2 c hc with r | r | ⟨t', ht', r, r2⟩
    · exact Or.inl r
    · exact Or.inr (Or.inl r)
    · exact Or.inr (Or.inr ⟨t', ht', r, by rw [e _ (by omega)]; exact r2⟩)
  · intro c c' hc hc'
    rw [e 1 (by omega)] at hc hc'
    rw [e (33 + c) (by omega), e (33 + c') (by omega)]
    exact z3 c c' hc hc'
  · intro j hj
    rw [e 1 (by omega)] at hj ⊢
    rw [e (15 + j) (by omega)]
    rcases z4 j hj with r | ⟨c, hc, r, r2⟩
    · exact Or.inl r
    · exact Or.inr ⟨c, hc, r, by rw [e _ (by omega)]; exact r2⟩
theorem look_V {a : Int32} {t : Nat} {S : tS} (h : gV S.1) (ht : t < S.1 1) : gV (lookS a t S).1 := by
  have h1 := h.1.1.2
  have hw := h.1.2.2 t (by omega)
  unfold lookS
  split
  · next hg =>
    split
    · exact h
    · next hc0 =>
      split
      · exact h
      · simp only []
        rcases bagG_spec S.1 (S.1 (9 + t)) (S.1 1) with ⟨q, _⟩ | ⟨c, hc, q, hp, _⟩
        · exact absurd q hc0
        · rw [q, Nat.add_sub_cancel]
          have hP := h.1.2.1.2.1
          have hsd := h.1.2.1.2.2 t ht
          have hV1 : gV (upN S.1 (21 + t) (S.1 (21 + t) + if c = t ∧ S.1 (21 + t) < 99 then 1 else 0)) := saw_V h ht (by split <;> omega)
          generalize (if c = t ∧ S.1 (21 + t) < 99 then 1 else 0) = δ at hV1 ⊢
          split
          · refine take_V hV1 (by rw [upN_ne (by omega)]; exact ht) (by rw [upN_ne (by omega)]; exact hc) ?_ ?_
            · rw [upN_ne (by omega)]; omega
            · rw [upN_ne (by omega)]; exact hg
          · exact hV1
  · exact h
theorem looks_V {a : Int32} {S : tS} (h : gV S.1) : ∀ k, k ≤ S.1 1 → gV (looksS a k S).1
  | 0, _ => h
  | k + 1, hk => by
    have ih := looks_V (a := a) h k (by omega)
    obtain ⟨-, l2⟩ := looks_W (a := a) h.1 k (by omega)
    have e := l2 1 (by omega)
    exact look_V ih (by show k < (looksS a k S).1 1; omega)
theorem tick2_V {G : Nat → Nat} (h : gV G) {v : Nat} (hv : v < 2000) : gV (upN G 2 v) := by
  obtain ⟨⟨hG, hs, h9⟩, z1, z2, z3, z4⟩ := h
  have e : ∀ k, k ≠ 2 → upN G 2 v k = G k := fun k hk => upN_ne hk
  refine ⟨⟨hG.up hv (by omega), ?_, fun j hj => by rw [e _ (by omega)]; exact h9 j hj⟩, ?_, ?_, ?_, ?_⟩
  · unfold gS at hs ⊢
    rw [e 0 (by omega), e 1 (by omega)]
    exact ⟨hs.1, hs.2.1, fun j hj => by rw [e (9 + j) (by omega)]; exact hs.2.2 j hj⟩
  · intro j hj
    rw [e 1 (by omega)] at hj
    rw [e (3 + j) (by omega)]; exact z1 j hj
  · intro c hc
    rw [e 1 (by omega)] at hc
    rw [e 0 (by omega), e 1 (by omega), e (33 + c) (by omega)]
    rcases z2 c hc with r | r | ⟨t', ht', r, r2⟩
    · exact Or.inl r
    · exact Or.inr (Or.inl r)
    · exact Or.inr (Or.inr ⟨t', ht', r, by rw [e _ (by omega)]; exact r2⟩)
  · intro c c' hc hc'
    rw [e 1 (by omega)] at hc hc'
    rw [e (33 + c) (by omega), e (33 + c') (by omega)]
    exact z3 c c' hc hc'
  · intro j hj
    rw [e 1 (by omega)] at hj ⊢
    rw [e (15 + j) (by omega)]
    rcases z4 j hj with r | ⟨c, hc, r, r2⟩
    · exact Or.inl r
    · exact Or.inr ⟨c, hc, r, by rw [e _ (by omega)]; exact r2⟩
