/-! PURE: the reference's looks and ticks. A state: the hall, how many went, how many of these wrongly -/
abbrev tS : Type := (Nat → Nat) × Int32 × Int32
def cntM (M : Mem) (w v : Int32) : Mem := mset M 0 (upd (upd (M 0) 17 w) 18 v)
def stM (M : Mem) (b : Nat) (S : tS) : Mem := wrM (cntM M S.2.1 S.2.2) b S.1
theorem cntM_ne (M : Mem) (w v : Int32) {p : Nat} (h : p ≠ 0) : cntM M w v p = M p := mset_ne _ _ h
theorem cntM_17 (M : Mem) (w v : Int32) : cntM M w v 0 17 = w := by
  unfold cntM
  rw [mset_self, upd_ne (by omega), upd_same]
theorem cntM_18 (M : Mem) (w v : Int32) : cntM M w v 0 18 = v := by
  unfold cntM
  rw [mset_self, upd_same]
theorem cntM_f (M : Mem) (w v : Int32) {j : Nat} (h : j ≠ 17 ∧ j ≠ 18) : cntM M w v 0 j = M 0 j := by
  unfold cntM
  rw [mset_self, upd_ne h.2, upd_ne h.1]
theorem cntM_s17 (M : Mem) (w v x : Int32) : mset (cntM M w v) 0 (upd (cntM M w v 0) 17 x) = cntM M x v := by
  unfold cntM
  rw [mset_mset, mset_self]
  congr 1
  funext j
  unfold upd
  by_cases a : j = 17
  · rw [if_pos a, if_neg (by omega), if_pos a]
  · rw [if_neg a, if_neg a]
    by_cases c : j = 18
    · rw [if_pos c, if_pos c]
    · rw [if_neg c, if_neg c, if_neg a]
theorem cntM_s18 (M : Mem) (w v x : Int32) : mset (cntM M w v) 0 (upd (cntM M w v 0) 18 x) = cntM M w x := by
  unfold cntM
  rw [mset_mset, mset_self]
  congr 1
  funext j
  unfold upd
  by_cases c : j = 18
  · rw [if_pos c, if_pos c]
  · rw [if_neg c, if_neg c, if_neg c]
theorem rkM_cnt {M : Mem} {rk : Nat → Nat} (h : rkM M rk) (w v : Int32) : rkM (cntM M w v) rk := ⟨fun j hj => by rw [cntM_ne M w v (by omega)]; exact h.1 j hj, h.2⟩
/-- asleep -/
def slp (a : Int32) (t : Nat) : Bool := decide ((a >>> (nI t &&& 31)) &&& 1 = 1)
def lookS (a : Int32) (t : Nat) (S : tS) : tS :=
  if S.1 (15 + t) = 0 then
    if bagG S.1 (S.1 (9 + t)) (S.1 1) = 0 then S else
    if slp a t then S else
    let c := bagG S.1 (S.1 (9 + t)) (S.1 1) - 1
    let G1 := upN S.1 (21 + t) (S.1 (21 + t) + if c = t ∧ S.1 (21 + t) < 99 then 1 else 0)
    if takeG G1 t c then (upN (upN G1 (15 + t) (c + 1)) (33 + c) (30 + t), S.2.1 + 1, S.2.2 + if c = t then 0 else 1) else (G1, S.2.1, S.2.2)
  else S
theorem ref_looks73 (M : Mem) (b : Nat) {G : Nat → Nat} (hG : gB G) (hs : gS G) {t c : Nat} (ht : t < G 1) (hc : c < 6) (hb : b + 39 ≤ 1092) (w v : Int32) (δ : Nat) (hδ : G (21 + t) + δ < 2000) : X8_looks_73 (nI b) (nI t) (nI c) (nI δ) (nI (G (21 + t))) (nI (b + 21 + t)) (stM M b (G, w, v)) =
    some (stM M b (if takeG (upN G (21 + t) (G (21 + t) + δ)) t c then (upN (upN (upN G (21 + t) (G (21 + t) + δ)) (15 + t) (c + 1)) (33 + c) (30 + t), w + 1, v + if c = t then 0 else 1) else (upN G (21 + t) (G (21 + t) + δ), w, v))) := by
  have h1 := hG.2
  have hG1 : gB (upN G (21 + t) (G (21 + t) + δ)) := hG.up hδ (by omega)
  have hs1 : gS (upN G (21 + t) (G (21 + t) + δ)) := by
    unfold gS at hs ⊢
    rw [upN_ne (by omega), upN_ne (by omega)]
    exact ⟨hs.1, hs.2.1, fun j hj => by rw [upN_ne (by omega)]; exact hs.2.2 j hj⟩
  unfold X8_looks_73 stM
  simp only []
  simp (disch := omega) only [am_in_nI, nI_clamp, nI_add, wrM_ssw, am_let_eq, ↓reduceIte]
  rw [ref_takes _ b hG1 hs1 (by rw [upN_ne (by omega)]; exact ht) hc hb, Option.bind_some]
  cases htk : takeG (upN G (21 + t) (G (21 + t) + δ)) t c with
  | false => simp [bI]
  | true =>
    have e1 : nI c = gI (c + 1) := (gI_s c).symm
    have n10 : ¬ bI true = 0 := by decide
    simp only [n10, ↓reduceIte]
    simp (disch := omega) only [li_15, li_33, li_30, nI_add, am_in_nI, nI_clamp, ↓reduceIte]
    rw [e1]
    simp (disch := omega) only [wrM_sgn, wrM_swh]
    rw [wrM_ne _ _ _ (by omega), cntM_17, wrM_mset _ _ _ _ (by omega), cntM_s17, wrM_ne _ _ _ (by omega), cntM_18, wrM_mset _ _ _ _ (by omega), cntM_s18, wrM_mset _ _ _ _ (by omega), cntM_s18]
    by_cases q : c = t
    · subst q
      simp [gI_s]
    · have : ¬ gI (c + 1) = nI t := by rw [gI_s, nI_eq (by omega) (by omega)]; exact q
      simp [q, this]
theorem ref_looks (M : Mem) (b : Nat) {G : Nat → Nat} (hG : gB G) (hs : gS G) {t : Nat} (ht : t < G 1) (hb : b + 39 ≤ 1092) (w v : Int32) (hw0 : G (15 + t) = 0) (h99 : G (21 + t) ≤ 99) : X8_looks (nI b) (nI t) (stM M b (G, w, v)) = some (stM M b (lookS (M 0 16) t (G, w, v))) := by
  have h1 := hG.2
  have hsd := hG.1 (9 + t)
  have hsw := hG.1 (21 + t)
  have hbl := bagG_le G (G (9 + t)) (G 1)
  have e16 : stM M b (G, w, v) 0 16 = M 0 16 := by
    unfold stM
    rw [wrM_ne _ _ _ (by omega), cntM_f _ _ _ (by omega)]
  have l73 := fun (c δ : Nat) (hc : c < 6) (hδ : G (21 + t) + δ < 2000) => ref_looks73 M b hG hs ht hc hb w v δ hδ
  unfold X8_looks lookS
  rw [e16]
  simp only [hw0, ↓reduceIte]
  have eR : ∀ c : Mem, (wrM c b G) 1 (b + 9 + t) = nI (G (9 + t)) := fun c => wrM_sd c b G (by omega)
  simp (disch := omega) only [li_9, nI_add, am_in_nI, nI_clamp, ↓reduceIte]
  rw [show stM M b (G, w, v) 1 (b + 9 + t) = nI (G (9 + t)) from wrM_sd _ b G (by omega), show X8_bagIn (stM M b (G, w, v)) (nI b) (nI (G (9 + t))) = _ from ref_bagIn _ b hG (by omega) hb, Option.bind_some]
  simp only [gI_none (show bagG G (G (9 + t)) (G 1) < 2 ^ 31 by omega)]
  by_cases c0 : bagG G (G (9 + t)) (G 1) = 0
  · rw [if_pos c0, if_pos c0]
  · rw [if_neg c0, if_neg c0]
    obtain ⟨c, hc⟩ : ∃ c, bagG G (G (9 + t)) (G 1) = c + 1 := ⟨bagG G (G (9 + t)) (G 1) - 1, by omega⟩
    rw [hc, Nat.add_sub_cancel, gI_s]
    have eh : X8_has (M 0 16) (nI t) = some (bI (slp (M 0 16) t)) := by
      unfold X8_has slp bI
      by_cases q : (M 0 16 >>> (nI t &&& 31)) &&& 1 = 1 <;> simp [q]
    rw [eh, Option.bind_some]
    cases hsl : slp (M 0 16) t with
    | true => simp [bI]
    | false =>
      rw [if_pos (by decide)]
      simp (disch := omega) only [li_21, li_99, nI_add, am_in_nI, nI_clamp, ↓reduceIte, nI_eq]
      rw [show stM M b (G, w, v) 1 (b + 21 + t) = nI (G (21 + t)) from wrM_sw _ b G (by omega)]
      simp (disch := omega) only [nI_ltI]
      have h0 := l73 c 0 (by omega) (by omega)
      rw [← li_0] at h0
      have hh1 := l73 c 1 (by omega) (by omega)
      rw [← li_1] at hh1
      rw [h0, hh1]
      by_cases q : c = t
      · by_cases q2 : G (21 + t) < 99
        · simp [q, q2]
        · simp [q, q2]
      · simp [q]
theorem look_B {a : Int32} {t : Nat} {S : tS} (hG : gB S.1) (hs : gS S.1) (ht : t < S.1 1) (hsw : S.1 (21 + t) ≤ 99) : gB (lookS a t S).1 ∧ (∀ k, (k < 15 ∨ (27 ≤ k ∧ k < 33)) → (lookS a t S).1 k = S.1 k) ∧ (∀ j, S.1 (21 + j) ≤ 99 → (lookS a t S).1 (21 + j) ≤ 99 ∨ 6 ≤ j) := by
  have h1 := hG.2
  have hbl := bagG_le S.1 (S.1 (9 + t)) (S.1 1)
  unfold lookS
  split
  · split
    · exact ⟨hG, fun _ _ => rfl, fun _ h => Or.inl h⟩
    · next hc0 =>
      split
      · exact ⟨hG, fun _ _ => rfl, fun _ h => Or.inl h⟩
      · simp only []
        generalize hδ : (if bagG S.1 (S.1 (9 + t)) (S.1 1) - 1 = t ∧ S.1 (21 + t) < 99 then 1 else 0) = δ
        have hd : S.1 (21 + t) + δ ≤ 99 := by
          rw [← hδ]; split <;> omega
        have hG1 : gB (upN S.1 (21 + t) (S.1 (21 + t) + δ)) := hG.up (by omega) (by omega)
        split
        · refine ⟨(hG1.up (by omega) (by omega)).up (by omega) (by omega), fun k hk => ?_, fun j hj => ?_⟩
          · show upN (upN (upN S.1 _ _) _ _) _ _ k = _
            rw [upN_ne (by omega), upN_ne (by omega), upN_ne (by omega)]
          · by_cases q6 : 6 ≤ j
            · exact Or.inr q6
            · refine Or.inl ?_
              show upN (upN (upN S.1 _ _) _ _) _ _ (21 + j) ≤ 99
              rw [upN_ne (by omega), upN_ne (by omega)]
              by_cases q : j = t
              · rw [q, upN_same]; exact hd
              · rw [upN_ne (by omega)]; exact hj
        · refine ⟨hG1, fun k hk => ?_, fun j hj => ?_⟩
          · show upN S.1 _ _ k = _
            rw [upN_ne (by omega)]
          · refine Or.inl ?_
            show upN S.1 _ _ (21 + j) ≤ 99
            by_cases q : j = t
            · rw [q, upN_same]; exact hd
            · rw [upN_ne (by omega)]; exact hj
  · exact ⟨hG, fun _ _ => rfl, fun _ h => Or.inl h⟩
/-- a hall as it may be -/
def gW (G : Nat → Nat) : Prop := gB G ∧ gS G ∧ ∀ t, t < 6 → G (21 + t) ≤ 99
theorem look_W {a : Int32} {t : Nat} {S : tS} (h : gW S.1) (ht : t < S.1 1) : gW (lookS a t S).1 ∧ ∀ k, (k < 15 ∨ (27 ≤ k ∧ k < 33)) → (lookS a t S).1 k = S.1 k := by
  obtain ⟨hG, hs, hw⟩ := h
  have h1 := hG.2
  obtain ⟨a1, a2, a3⟩ := look_B (a := a) hG hs ht (hw t (by omega))
  refine ⟨⟨a1, ?_, fun j hj => ?_⟩, a2⟩
  · unfold gS at hs ⊢
    rw [a2 0 (by omega), a2 1 (by omega)]
    exact ⟨hs.1, hs.2.1, fun j hj => by rw [a2 (9 + j) (by omega)]; exact hs.2.2 j hj⟩
  · rcases a3 j (hw j hj) with q | q
    · exact q
    · omega
def looksS (a : Int32) (k : Nat) (S : tS) : tS := loopN (lookS a) k S
theorem looks_W {a : Int32} {S : tS} (h : gW S.1) : ∀ k, k ≤ S.1 1 → gW (looksS a k S).1 ∧ ∀ j, (j < 15 ∨ (27 ≤ j ∧ j < 33)) → (looksS a k S).1 j = S.1 j
  | 0, _ => ⟨h, fun _ _ => rfl⟩
  | k + 1, hk => by
    obtain ⟨b1, b2⟩ := looks_W (a := a) h k (by omega)
    obtain ⟨c1, c2⟩ := look_W (a := a) (t := k) b1 (by rw [b2 1 (by omega)]; omega)
    exact ⟨c1, fun j hj => (c2 j hj).trans (b2 j hj)⟩
theorem fall_W {rk G : Nat → Nat} (h : gW G) (hr : ∀ j, j < 6 → rk j < 6) : gW (fallG rk G) ∧ ∀ k, k < 33 → fallG rk G k = G k := by
  obtain ⟨hG, hs, hw⟩ := h
  have h1 := hG.2
  unfold fallG
  split
  · split
    · exact ⟨⟨hG, hs, hw⟩, fun _ _ => rfl⟩
    · next hc =>
      have e : ∀ k, k < 33 → upN G (33 + rk (cartG rk G (G 1) - 1)) 0 k = G k := fun k hk => upN_ne (by omega)
      refine ⟨⟨hG.up (by omega) (by omega), ?_, fun t ht => ?_⟩, e⟩
      · unfold gS at hs ⊢
        rw [e 0 (by omega), e 1 (by omega)]
        exact ⟨hs.1, hs.2.1, fun j hj => by rw [e (9 + j) (by omega)]; exact hs.2.2 j hj⟩
      · rw [e _ (by omega)]; exact hw t ht
  · exact ⟨⟨hG, hs, hw⟩, fun _ _ => rfl⟩
theorem turn_W {d : Nat} {G : Nat → Nat} (h : gW G) : gW (turnL d (G 1) G) ∧ ∀ k, k < 33 → turnL d (G 1) G k = G k := by
  obtain ⟨hG, hs, hw⟩ := h
  have h1 := hG.2
  have e : ∀ k, k < 33 → turnL d (G 1) G k = G k := fun k hk => by rw [turnL_val d G _ k h1, if_neg (by omega)]
  refine ⟨⟨turnL_gB hG h1 (by have := hs.1; omega) hs.2.1, ?_, fun t ht => ?_⟩, e⟩
  · unfold gS at hs ⊢
    rw [e 0 (by omega), e 1 (by omega)]
    exact ⟨hs.1, hs.2.1, fun j hj => by rw [e (9 + j) (by omega)]; exact hs.2.2 j hj⟩
  · rw [e _ (by omega)]; exact hw t ht
/-- A TICK -/
def tickS (a : Int32) (rk : Nat → Nat) (S : tS) : tS :=
  let S1 := looksS a (S.1 1) (fallG rk (turnL (1 + S.1 0) (S.1 1) S.1), S.2.1, S.2.2)
  (upN S1.1 2 (S1.1 2 + 1), S1.2.1, S1.2.2)
theorem tick_W {a : Int32} {rk : Nat → Nat} {S : tS} (h : gW S.1) (hr : ∀ j, j < 6 → rk j < 6) (h2 : S.1 2 < 1900) : gW (tickS a rk S).1 ∧ (∀ k, (k < 15 ∧ k ≠ 2 ∨ (27 ≤ k ∧ k < 33)) → (tickS a rk S).1 k = S.1 k) ∧ (tickS a rk S).1 2 = S.1 2 + 1 := by
  obtain ⟨t1, t2⟩ := turn_W (d := 1 + S.1 0) h
  obtain ⟨f1, f2⟩ := fall_W t1 hr
  have e1 : (fallG rk (turnL (1 + S.1 0) (S.1 1) S.1)) 1 = S.1 1 := by rw [f2 1 (by omega), t2 1 (by omega)]
  obtain ⟨l1, l2⟩ := looks_W (a := a) (S := (fallG rk (turnL (1 + S.1 0) (S.1 1) S.1), S.2.1, S.2.2)) f1 (S.1 1) (by show _ ≤ fallG rk _ 1; rw [e1]; exact Nat.le_refl _)
  have e2 : (looksS a (S.1 1) (fallG rk (turnL (1 + S.1 0) (S.1 1) S.1), S.2.1, S.2.2)).1 2 = S.1 2 := by
    rw [l2 2 (by omega)]
    show fallG rk _ 2 = _
    rw [f2 2 (by omega), t2 2 (by omega)]
  unfold tickS
  simp only []
  rw [e2]
  generalize hX : (looksS a (S.1 1) (fallG rk (turnL (1 + S.1 0) (S.1 1) S.1), S.2.1, S.2.2)) = X at l1 l2 e2
  have hk : ∀ k, (k < 15 ∧ k ≠ 2 ∨ (27 ≤ k ∧ k < 33)) → X.1 k = S.1 k := fun k hk => by
    rw [l2 k (by omega)]
    show fallG rk _ k = _
    rw [f2 k (by omega), t2 k (by omega)]
  obtain ⟨w1, w2, w3⟩ := l1
  refine ⟨⟨w1.up (by omega) (by omega), ?_, fun t ht => ?_⟩, fun k hk' => ?_, upN_same _ _ _⟩
  · unfold gS at w2 ⊢
    rw [upN_ne (by omega), upN_ne (by omega)]
    exact ⟨w2.1, w2.2.1, fun j hj => by rw [upN_ne (by omega)]; exact w2.2.2 j hj⟩
  · rw [upN_ne (by omega)]; exact w3 t ht
  · rw [upN_ne (by omega)]; exact hk k hk'
theorem ref_tick_in (M : Mem) (b : Nat) (hb : b + 39 ≤ 1092) (K : Int32 → Int32 → Int32 → Mem → Option Mem) (x2 x3 : Int32) {S : tS} (h : gW S.1) (h2 : S.1 2 < 1900) : ∀ (d k f : Nat), S.1 1 - k = d → k ≤ S.1 1 → d < f → X8_ticksOf_21 K f (nI b) x2 x3 (nI k) (stM M b (looksS (M 0 16) k S)) = K (nI b) x2 (x3 + 1) (stM M b (upN (looksS (M 0 16) (S.1 1) S).1 2 (S.1 2 + 1), (looksS (M 0 16) (S.1 1) S).2.1, (looksS (M 0 16) (S.1 1) S).2.2))
  | 0, k, 0, _, _, hf => absurd hf (Nat.not_lt_zero _)
  | 0, k, f + 1, hd, hk, _ => by
    have h1 := h.1.2
    have e : k = S.1 1 := by omega
    subst e
    obtain ⟨l1, l2⟩ := looks_W (a := M 0 16) h (S.1 1) (Nat.le_refl _)
    have e1 := l2 1 (by omega)
    have e2 := l2 2 (by omega)
    rw [X8_ticksOf_21]
    unfold stM
    simp (disch := omega) only [li_1, li_2, nI_add, am_in_nI, nI_clamp, wrM_1, wrM_2, e1, e2, nI_ltI, Nat.lt_irrefl, am_let_eq, wrM_s2, ↓reduceIte]
  | d + 1, k, 0, _, _, hf => absurd hf (Nat.not_lt_zero _)
  | d + 1, k, f + 1, hd, hk, hf => by
    have h1 := h.1.2
    have hlt : k < S.1 1 := by omega
    obtain ⟨l1, l2⟩ := looks_W (a := M 0 16) h k (by omega)
    have e1 := l2 1 (by omega)
    have hv := l1.1.1 (15 + k)
    have ih := ref_tick_in M b hb K x2 x3 h h2 d (k + 1) f (by omega) (by omega) (by omega)
    have el : looksS (M 0 16) (k + 1) S = lookS (M 0 16) k (looksS (M 0 16) k S) := rfl
    rw [el] at ih
    generalize hX : looksS (M 0 16) k S = X at l1 l2 e1 ih hv ⊢
    have ew : X8_waits (stM M b X) (nI b) (nI k) = some (if X.1 (15 + k) = 0 then 1 else 0) := ref_waits _ b l1.1 (by omega) hb
    have er : stM M b X 1 (b + 1) = nI (S.1 1) := by unfold stM; rw [wrM_1, e1]
    rw [X8_ticksOf_21]
    simp (disch := omega) only [li_1, nI_add, am_in_nI, nI_clamp, er, nI_ltI, hlt, ew, Option.bind_some, ↓reduceIte]
    by_cases c : X.1 (15 + k) = 0
    · have hl := ref_looks M b l1.1 l1.2.1 (t := k) (by omega) hb X.2.1 X.2.2 c (l1.2.2 k (by omega))
      rw [if_pos c, if_neg (by decide)]
      have hl' : X8_looks (nI b) (nI k) (stM M b X) = some (stM M b (lookS (M 0 16) k X)) := hl
      rw [hl', Option.bind_some]
      rw [li_1] at ih
      exact ih
    · have e0 : lookS (M 0 16) k X = X := by unfold lookS; rw [if_neg c]
      rw [e0] at ih
      rw [if_neg c, if_pos (by decide)]
      rw [li_1] at ih
      exact ih
def ticksS (a : Int32) (rk : Nat → Nat) : Nat → tS → tS
  | 0, S => S
  | n + 1, S => ticksS a rk n (tickS a rk S)
theorem ref_ticks_loop (M : Mem) (b : Nat) (hb : b + 39 ≤ 1092) {rk : Nat → Nat} (hr : rkM M rk) (n : Nat) (hn : n < 1000) : ∀ (d k f : Nat) (S : tS), gW S.1 → S.1 2 + d < 1900 → n - k = d → k ≤ n → d < f → X8_ticksOf_2 f (nI b) (nI n) (nI k) (stM M b S) = some (stM M b (ticksS (M 0 16) rk d S))
  | 0, k, 0, _, _, _, _, _, hf => absurd hf (Nat.not_lt_zero _)
  | 0, k, f + 1, S, h, h2, hd, hk, _ => by
    rw [X8_ticksOf_2, if_neg (by rw [nI_ltI (by omega) (by omega)]; omega)]
    rfl
  | d + 1, k, 0, _, _, _, _, _, hf => absurd hf (Nat.not_lt_zero _)
  | d + 1, k, f + 1, S, h, h2, hd, hk, hf => by
    have hlt : k < n := by omega
    have h1 := h.1.2
    have hs := h.2.1
    rw [X8_ticksOf_2, if_pos (by rw [nI_ltI (by omega) (by omega)]; exact hlt)]
    have t1 : X8_turns (nI b) 1 (stM M b S) = some (stM M b (turnL (1 + S.1 0) (S.1 1) S.1, S.2.1, S.2.2)) := ref_turns _ b h.1 (by have := hs.1; omega) hs.2.1 1 (1 + S.1 0) (fun w hw => by rw [li_1, nI_add, nI_add, Nat.add_assoc]) (by have := hs.2.1; omega) hb
    obtain ⟨tw, te⟩ := turn_W (d := 1 + S.1 0) h
    have t2 : X8_falls (nI b) (stM M b (turnL (1 + S.1 0) (S.1 1) S.1, S.2.1, S.2.2)) = some (stM M b (fallG rk (turnL (1 + S.1 0) (S.1 1) S.1), S.2.1, S.2.2)) := ref_falls _ b tw.1 (rkM_cnt hr _ _) hb
    obtain ⟨fw, fe⟩ := fall_W tw hr.2
    rw [t1, Option.bind_some, t2, Option.bind_some]
    have e1 : fallG rk (turnL (1 + S.1 0) (S.1 1) S.1) 1 = S.1 1 := by rw [fe 1 (by omega), te 1 (by omega)]
    have e2 : fallG rk (turnL (1 + S.1 0) (S.1 1) S.1) 2 = S.1 2 := by rw [fe 2 (by omega), te 2 (by omega)]
    have t3 := ref_tick_in M b hb (X8_ticksOf_2 f) (nI n) (nI k) (S := (fallG rk (turnL (1 + S.1 0) (S.1 1) S.1), S.2.1, S.2.2)) fw (by show fallG rk _ 2 < _; rw [e2]; omega) (S.1 1) 0 am_fuel (by show fallG rk _ 1 - 0 = _; rw [e1]; omega) (Nat.zero_le _) (by show S.1 1 < 2000; omega)
    have t4 : X8_ticksOf_21 (X8_ticksOf_2 f) am_fuel (nI b) (nI n) (nI k) 0 (stM M b (fallG rk (turnL (1 + S.1 0) (S.1 1) S.1), S.2.1, S.2.2)) = X8_ticksOf_2 f (nI b) (nI n) (nI k + 1) (stM M b (tickS (M 0 16) rk S)) := by
      rw [li_0]
      refine t3.trans ?_
      show X8_ticksOf_2 f (nI b) (nI n) (nI k + 1) (stM M b (upN (looksS (M 0 16) (fallG rk (turnL (1 + S.1 0) (S.1 1) S.1) 1) _).1 2 (fallG rk (turnL (1 + S.1 0) (S.1 1) S.1) 2 + 1), _, _)) = _
      rw [e1, e2]
      obtain ⟨tk1, tk2, tk3⟩ := tick_W (a := M 0 16) (S := S) h hr.2 (by omega)
      obtain ⟨-, l2⟩ := looks_W (a := M 0 16) (S := (fallG rk (turnL (1 + S.1 0) (S.1 1) S.1), S.2.1, S.2.2)) fw (S.1 1) (by show _ ≤ fallG rk _ 1; rw [e1]; exact Nat.le_refl _)
      have e3 : (looksS (M 0 16) (S.1 1) (fallG rk (turnL (1 + S.1 0) (S.1 1) S.1), S.2.1, S.2.2)).1 2 = S.1 2 := by
        rw [l2 2 (by omega)]; exact e2
      unfold tickS
      simp only []
      rw [e3]
      simp only [e1]
    rw [t4, nI_1]
    obtain ⟨tk1, tk2, tk3⟩ := tick_W (a := M 0 16) (S := S) h hr.2 (by omega)
    exact ref_ticks_loop M b hb hr n hn d (k + 1) f _ tk1 (by rw [tk3]; omega) (by omega) (by omega) (by omega)
theorem ref_ticks (M : Mem) (b : Nat) (hb : b + 39 ≤ 1092) {rk : Nat → Nat} (hr : rkM M rk) (n : Nat) (hn : n < 100) {S : tS} (h : gW S.1) (h2 : S.1 2 < 1500) : X8_ticksOf (nI b) (nI n) (stM M b S) = some (stM M b (ticksS (M 0 16) rk n S)) := by
  unfold X8_ticksOf
  rw [li_0]
  exact ref_ticks_loop M b hb hr n (by omega) n 0 am_fuel S h (by omega) (by omega) (by omega) (by show n < 2000; omega)
