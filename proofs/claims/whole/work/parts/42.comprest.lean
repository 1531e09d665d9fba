/-! PURE: the class's halls: brought back, become, changed -/
theorem cx_follow {M : Mem} {h sh : Nat} {G : Nat → Nat} (hV : gV G) (hsh : sh < G 0) (e1 : M h 1 = nI (G 1)) (e6 : rwS sh G (M (h + 6))) : ∃ M', X3_followSpots h M = some M' ∧ M' h = upd (M h) 5 (nI (cartN G (G 1))) ∧ rwL sh G (M' (h + 7)) ∧ ∀ q, q ≠ h → q ≠ h + 7 → M' q = M q := by
  have h6 := hV.1.1.2
  obtain ⟨p4, p12, -⟩ := hV.1.2.1
  unfold X3_followSpots
  rw [am_let_eq, fill_spec _ _ _ _ (by omega), Option.bind_some, li_0]
  obtain ⟨M', m1, m2, m3, m4⟩ := cx_follow_loop (h := h) hV hsh (G 1) 0 am_fuel (mset (mset M h (upd (M h) 5 (nI 0))) (h + 7) (fun j => if j < 12 then (-1000000 : Int32) else mset M h (upd (M h) 5 (nI 0)) (h + 7) j)) (by omega) (by omega) (by show G 1 < 2000; omega) (by rw [mset_ne _ _ (by omega), mset_self, upd_ne (by omega)]; exact e1) (by rw [mset_ne _ _ (by omega), mset_self, upd_same]; rfl) (by rw [mset_ne _ _ (by omega), mset_ne _ _ (by omega)]; exact e6) (fun s hs => by
    rw [mset_self]
    show (if s < 12 then _ else _) = _
    rw [if_pos (by omega)]; rfl)
  refine ⟨M', m1, ?_, m3, fun q q1 q2 => by rw [m4 q q1 q2, mset_ne _ _ q2, mset_ne _ _ q1]⟩
  rw [m2, mset_ne _ _ (by omega), mset_self]
  funext j
  unfold upd
  split <;> rfl
theorem cx_loadFrom {M : Mem} {h p n o sh : Nat} {G : Nat → Nat} (hp : p < h ∨ h + 7 < p) (ho : o + 40 ≤ n) (hn : n < 2000) (hs : svX (M p) o sh G) : ∃ M', X3_loadFrom h p n (nI o) M = some M' ∧ HX M' h (M h 3) sh G ∧ frm M M' h := by
  obtain ⟨⟨s0, s1, s2, s3⟩, st, hV, hsh⟩ := hs
  have h6 := hV.1.1.2
  have e1 : ¬ nI o < 0 := nI_pos (by omega)
  have e2 : ¬ (Int32.ofNat n - (40 : Int32)) < nI o := by
    rw [show Int32.ofNat n = nI n from rfl, li_40, pk_sub (by omega), nI_ltI (by omega) (by omega)]
    omega
  have n1 : p ≠ h := by omega
  have m1 : p ≠ h + 1 := by omega
  have m2 : p ≠ h + 2 := by omega
  have m3 : p ≠ h + 3 := by omega
  have m4 : p ≠ h + 4 := by omega
  have m5 : p ≠ h + 5 := by omega
  have key : ∀ M9 : Mem, M9 h = upd (upd (upd (upd (M h) 0 (M p o)) 1 (M p (o + 1))) 2 (M p (o + 2))) 4 (M p (o + 3)) → (∀ t, t < 6 → M9 (h + 1) t = M p (o + 4 + t)) → (∀ t, t < 6 → M9 (h + 2) t = M p (o + 10 + t)) → (∀ t, t < 6 → M9 (h + 3) t = M p (o + 16 + t)) → (∀ t, t < 6 → M9 (h + 4) t = M p (o + 22 + t)) → (∀ t, t < 6 → M9 (h + 5) t = M p (o + 28 + t)) → (∀ t, t < 6 → M9 (h + 6) t = M p (o + 34 + t)) → frm M M9 h → ∃ M', (Option.bind (X3_followSpots h M9) fun M11 => some M11) = some M' ∧ HX M' h (M h 3) sh G ∧ frm M M' h := by
    intro M9 k0 k1 k2 k3 k4 k5 k6 kf
    obtain ⟨M', a1, a2, a3, a4⟩ := cx_follow (M := M9) (h := h) hV hsh (by rw [k0, upd_ne (by omega), upd_ne (by omega), upd_same]; exact s1) (fun t ht => by rw [k6 t (by omega)]; exact (st t ht).2.2.2.2.2)
    refine ⟨M', by rw [a1]; rfl, ⟨⟨?_, ?_, ?_, ?_, ?_, ?_, ?_, a3⟩, hV, hsh⟩, fun q hq => by rw [a4 q (by omega) (by omega)]; exact kf q hq⟩
    · rw [a2, k0]
      refine ⟨?_, ?_, ?_, ?_, ?_, upd_same _ _ _⟩
      · rw [upd_ne (by omega), upd_ne (by omega), upd_ne (by omega), upd_ne (by omega), upd_same]; exact s0
      · rw [upd_ne (by omega), upd_ne (by omega), upd_ne (by omega), upd_same]; exact s1
      · rw [upd_ne (by omega), upd_ne (by omega), upd_same]; exact s2
      · rw [upd_ne (by omega), upd_ne (by omega), upd_ne (by omega), upd_ne (by omega), upd_ne (by omega)]
      · rw [upd_ne (by omega), upd_same]; exact s3
    · intro t ht; rw [a4 _ (by omega) (by omega), k1 t (by omega)]; exact (st t ht).1
    · intro t ht; rw [a4 _ (by omega) (by omega), k2 t (by omega)]; exact (st t ht).2.1
    · intro t ht; rw [a4 _ (by omega) (by omega), k3 t (by omega)]; exact (st t ht).2.2.1
    · intro t ht; rw [a4 _ (by omega) (by omega), k4 t (by omega)]; exact (st t ht).2.2.2.1
    · intro t ht; rw [a4 _ (by omega) (by omega), k5 t (by omega)]; exact (st t ht).2.2.2.2.1
    · intro t ht; rw [a4 _ (by omega) (by omega), k6 t (by omega)]; exact (st t ht).2.2.2.2.2
  have cp : ∀ (f g : Nat → Int32) (x t : Nat), t < 6 → va_cpy f g x 0 6 t = f (x + t) := fun f g x t ht => by
    unfold va_cpy
    rw [if_pos (by omega)]
    congr 1
  unfold X3_loadFrom
  rw [if_neg e1, if_neg e2]
  simp (disch := omega) only [li_0, li_1, li_2, li_3, li_4, li_6, li_12, li_18, li_24, li_30, nI_add, am_in_nI, nI_clamp, am_cp_nI, am_let_eq, ↓reduceIte, mset_mset, mset_self, mset_ne _ _ n1, mset_ne _ _ m1, mset_ne _ _ m2, mset_ne _ _ m3, mset_ne _ _ m4, mset_ne _ _ m5]
  refine key _ ?_ (fun t ht => ?_) (fun t ht => ?_) (fun t ht => ?_) (fun t ht => ?_) (fun t ht => ?_) (fun t ht => ?_) ?_
  · simp (disch := omega) only [mset_ne, mset_self]
  · simp (disch := omega) only [mset_ne, mset_self, cp]
  · simp (disch := omega) only [mset_ne, mset_self, cp]
  · simp (disch := omega) only [mset_ne, mset_self, cp]
  · simp (disch := omega) only [mset_ne, mset_self, cp]
  · simp (disch := omega) only [mset_ne, mset_self, cp]
  · simp (disch := omega) only [mset_ne, mset_self, cp]
  · intro q hq
    simp (disch := omega) only [mset_ne]
theorem cx_become {M : Mem} {h h1 : Nat} {a : Int32} {sh : Nat} {G : Nat → Nat} (H : HX M h1 a sh G) (hh : h + 7 < h1 ∨ h1 + 7 < h) : ∃ M', X3_become h h1 M = some M' ∧ HX M' h a sh G ∧ frm M M' h := by
  have hP := hx_P H
  obtain ⟨r0, r1, r2, r3, r4, r5, r6, r7⟩ := H.1
  have c6 : am_cp (nI 0) (nI 0) (nI 6) 6 6 = true := by decide
  have c12 : am_cp (nI 0) (nI 0) (nI 12) 12 12 = true := by decide
  have cp : ∀ (f g : Nat → Int32) (n t : Nat), t < n → va_cpy f g 0 0 n t = f t := fun f g n t ht => by
    unfold va_cpy
    rw [if_pos (by omega)]
    congr 1
    omega
  unfold X3_become
  simp (disch := omega) only [li_0, li_6, li_12, c6, c12, nI_clamp, am_let_eq, ↓reduceIte, mset_ne, mset_self, mset_mset]
  refine ⟨_, rfl, ⟨⟨?_, fun t ht => ?_, fun t ht => ?_, fun t ht => ?_, fun t ht => ?_, fun t ht => ?_, fun t ht => ?_, fun t ht => ?_⟩, H.2⟩, fun q hq => ?_⟩
  · simp (disch := omega) only [mset_ne, mset_self]
    refine ⟨?_, ?_, ?_, ?_, ?_, ?_⟩
    · simp (disch := omega) only [upd_ne, upd_same]; exact r0.1
    · simp (disch := omega) only [upd_ne, upd_same]; exact r0.2.1
    · simp (disch := omega) only [upd_ne, upd_same]; exact r0.2.2.1
    · simp (disch := omega) only [upd_ne, upd_same]; exact r0.2.2.2.1
    · simp (disch := omega) only [upd_ne, upd_same]; exact r0.2.2.2.2.1
    · simp (disch := omega) only [upd_same]; exact r0.2.2.2.2.2
  · simp (disch := omega) only [mset_ne, mset_self, cp]; exact r1 t ht
  · simp (disch := omega) only [mset_ne, mset_self, cp]; exact r2 t ht
  · simp (disch := omega) only [mset_ne, mset_self, cp]; exact r3 t ht
  · simp (disch := omega) only [mset_ne, mset_self, cp]; exact r4 t ht
  · simp (disch := omega) only [mset_ne, mset_self, cp]; exact r5 t ht
  · simp (disch := omega) only [mset_ne, mset_self, cp]; exact r6 t ht
  · simp (disch := omega) only [mset_ne, mset_self, cp]; exact r7 t ht
  · simp (disch := omega) only [mset_ne]
/-- a cell that says nothing of who has which bag -/
theorem cell_V {G : Nat → Nat} (h : gV G) {k v : Nat} (hk : (3 ≤ k ∧ k < 9 ∧ 1 ≤ v ∧ v ≤ 5) ∨ (9 ≤ k ∧ k < 15 ∧ v < G 0) ∨ (27 ≤ k ∧ k < 33 ∧ v < 2000)) : gV (upN G k v) := by
  obtain ⟨⟨hG, hs, h9⟩, z1, z2, z3, z4⟩ := h
  have h1 := hG.2
  have p12 := hs.2.1
  have e : ∀ j, (j < 3 ∨ (15 ≤ j ∧ j < 27) ∨ 33 ≤ j) → upN G k v j = G j := fun j hj => upN_ne (by omega)
  refine ⟨⟨hG.up (by omega) (by omega), ?_, fun j hj => by rw [e _ (by omega)]; exact h9 j hj⟩, ?_, ?_, ?_, ?_⟩
  · unfold gS at hs ⊢
    rw [e 0 (by omega), e 1 (by omega)]
    refine ⟨hs.1, hs.2.1, fun j hj => ?_⟩
    by_cases q : 9 + j = k
    · rw [q, upN_same]; omega
    · rw [upN_ne q]; exact hs.2.2 j hj
  · intro j hj
    rw [e 1 (by omega)] at hj
    by_cases q : 3 + j = k
    · rw [q, upN_same]; omega
    · rw [upN_ne q]; exact z1 j hj
  · intro c hc
    rw [e 1 (by omega)] at hc
    rw [e 0 (by omega), e 1 (by omega), e (33 + c) (by omega)]
    rcases z2 c hc with r | r | ⟨t', ht', r, r2⟩
    · exact Or.inl r
    · exact Or.inr (Or.inl r)
    · exact Or.inr (Or.inr ⟨t', ht', r, by rw [e _ (by omega)]; exact r2⟩)
  · intro c c' hc hc'
    rw [e 1 (by omega)] at hc hc'
    rw [e (33 + c) (by omega), e (33 + c') (by omega)]
    exact z3 c c' hc hc'
  · intro j hj
    rw [e 1 (by omega)] at hj ⊢
    rw [e (15 + j) (by omega)]
    rcases z4 j hj with r | ⟨c, hc, r, r2⟩
    · exact Or.inl r
    · exact Or.inr ⟨c, hc, r, by rw [e _ (by omega)]; exact r2⟩
section CS
variable {M : Mem} {h : Nat} {a : Int32} {sh : Nat} {G : Nat → Nat}
theorem spG_cong {G G' : Nat → Nat} {sh b : Nat} (h0 : G' 0 = G 0) (hb : G' (33 + b) = G (33 + b)) : spG G' sh b = spG G sh b := by unfold spG; rw [h0, hb]
theorem hx_kind (H : HX M h a sh G) {t v : Nat} (ht : t < G 1) (hv : 1 ≤ v ∧ v ≤ 5) : HX (mset M (h + 1) (upd (M (h + 1)) t (nI v))) h a sh (upN G (3 + t) v) := by
  have hP := hx_P H
  obtain ⟨r0, r1, r2, r3, r4, r5, r6, r7⟩ := H.1
  have e : ∀ j, j ≠ 3 + t → upN G (3 + t) v j = G j := fun j hj => upN_ne hj
  have e1 := e 1 (by omega)
  have e0 := e 0 (by omega)
  refine ⟨⟨?_, ?_, ?_, ?_, ?_, ?_, ?_, ?_⟩, cell_V H.2.1 (by omega), by rw [e0]; exact H.2.2⟩
  · rw [mset_ne _ _ (by omega)]
    unfold rw0
    rw [e 0 (by omega), e 1 (by omega), e 2 (by omega), cartN_cong (G' := G) (fun b _ => by rw [e (33 + b) (by omega)])]
    exact r0
  · rw [mset_self]
    intro j hj
    rw [e1] at hj
    by_cases q : j = t
    · rw [q, upd_same, upN_same]
    · rw [upd_ne q, upN_ne (by omega)]; exact r1 j hj
  · rw [mset_ne _ _ (by omega)]; intro j hj; rw [e1] at hj; rw [e _ (by omega)]; exact r2 j hj
  · rw [mset_ne _ _ (by omega)]; intro j hj; rw [e1] at hj; rw [e _ (by omega)]; exact r3 j hj
  · rw [mset_ne _ _ (by omega)]; intro j hj; rw [e1] at hj; rw [e _ (by omega)]; exact r4 j hj
  · rw [mset_ne _ _ (by omega)]; intro j hj; rw [e1] at hj; rw [e _ (by omega)]; exact r5 j hj
  · rw [mset_ne _ _ (by omega)]; intro j hj; rw [e1] at hj; rw [spG_cong e0 (e _ (by omega))]; exact r6 j hj
  · rw [mset_ne _ _ (by omega)]; intro j hj; rw [e0] at hj; rw [e0, e1, bagG_cong (G := G) (p := addm (G 0) j sh) (fun b _ => by rw [e _ (by omega)])]; exact r7 j hj
theorem hx_stand (H : HX M h a sh G) {t v : Nat} (ht : t < G 1) (hv : v < G 0) : HX (mset M (h + 2) (upd (M (h + 2)) t (nI v))) h a sh (upN G (9 + t) v) := by
  have hP := hx_P H
  obtain ⟨r0, r1, r2, r3, r4, r5, r6, r7⟩ := H.1
  have e : ∀ j, j ≠ 9 + t → upN G (9 + t) v j = G j := fun j hj => upN_ne hj
  have e1 := e 1 (by omega)
  have e0 := e 0 (by omega)
  refine ⟨⟨?_, ?_, ?_, ?_, ?_, ?_, ?_, ?_⟩, cell_V H.2.1 (by omega), by rw [e0]; exact H.2.2⟩
  · rw [mset_ne _ _ (by omega)]
    unfold rw0
    rw [e 0 (by omega), e 1 (by omega), e 2 (by omega), cartN_cong (G' := G) (fun b _ => by rw [e (33 + b) (by omega)])]
    exact r0
  · rw [mset_ne _ _ (by omega)]; intro j hj; rw [e1] at hj; rw [e _ (by omega)]; exact r1 j hj
  · rw [mset_self]
    intro j hj
    rw [e1] at hj
    by_cases q : j = t
    · rw [q, upd_same, upN_same]
    · rw [upd_ne q, upN_ne (by omega)]; exact r2 j hj
  · rw [mset_ne _ _ (by omega)]; intro j hj; rw [e1] at hj; rw [e _ (by omega)]; exact r3 j hj
  · rw [mset_ne _ _ (by omega)]; intro j hj; rw [e1] at hj; rw [e _ (by omega)]; exact r4 j hj
  · rw [mset_ne _ _ (by omega)]; intro j hj; rw [e1] at hj; rw [e _ (by omega)]; exact r5 j hj
  · rw [mset_ne _ _ (by omega)]; intro j hj; rw [e1] at hj; rw [spG_cong e0 (e _ (by omega))]; exact r6 j hj
  · rw [mset_ne _ _ (by omega)]; intro j hj; rw [e0] at hj; rw [e0, e1, bagG_cong (G := G) (p := addm (G 0) j sh) (fun b _ => by rw [e _ (by omega)])]; exact r7 j hj
theorem hx_paint (H : HX M h a sh G) {t v : Nat} (ht : t < G 1) (hv : v < 2000) : HX (mset M (h + 5) (upd (M (h + 5)) t (nI v))) h a sh (upN G (27 + t) v) := by
  have hP := hx_P H
  obtain ⟨r0, r1, r2, r3, r4, r5, r6, r7⟩ := H.1
  have e : ∀ j, j ≠ 27 + t → upN G (27 + t) v j = G j := fun j hj => upN_ne hj
  have e1 := e 1 (by omega)
  have e0 := e 0 (by omega)
  refine ⟨⟨?_, ?_, ?_, ?_, ?_, ?_, ?_, ?_⟩, cell_V H.2.1 (by omega), by rw [e0]; exact H.2.2⟩
  · rw [mset_ne _ _ (by omega)]
    unfold rw0
    rw [e 0 (by omega), e 1 (by omega), e 2 (by omega), cartN_cong (G' := G) (fun b _ => by rw [e (33 + b) (by omega)])]
    exact r0
  · rw [mset_ne _ _ (by omega)]; intro j hj; rw [e1] at hj; rw [e _ (by omega)]; exact r1 j hj
  · rw [mset_ne _ _ (by omega)]; intro j hj; rw [e1] at hj; rw [e _ (by omega)]; exact r2 j hj
  · rw [mset_ne _ _ (by omega)]; intro j hj; rw [e1] at hj; rw [e _ (by omega)]; exact r3 j hj
  · rw [mset_ne _ _ (by omega)]; intro j hj; rw [e1] at hj; rw [e _ (by omega)]; exact r4 j hj
  · rw [mset_self]
    intro j hj
    rw [e1] at hj
    by_cases q : j = t
    · rw [q, upd_same, upN_same]
    · rw [upd_ne q, upN_ne (by omega)]; exact r5 j hj
  · rw [mset_ne _ _ (by omega)]; intro j hj; rw [e1] at hj; rw [spG_cong e0 (e _ (by omega))]; exact r6 j hj
  · rw [mset_ne _ _ (by omega)]; intro j hj; rw [e0] at hj; rw [e0, e1, bagG_cong (G := G) (p := addm (G 0) j sh) (fun b _ => by rw [e _ (by omega)])]; exact r7 j hj
theorem hx_asleep (H : HX M h a sh G) (x : Int32) : HX (mset M h (upd (M h) 3 x)) h x sh G := by
  obtain ⟨r0, r1, r2, r3, r4, r5, r6, r7⟩ := H.1
  refine ⟨⟨?_, ?_, ?_, ?_, ?_, ?_, ?_, ?_⟩, H.2⟩
  · rw [mset_self]
    exact ⟨by rw [upd_ne (by omega)]; exact r0.1, by rw [upd_ne (by omega)]; exact r0.2.1, by rw [upd_ne (by omega)]; exact r0.2.2.1, upd_same _ _ _, by rw [upd_ne (by omega)]; exact r0.2.2.2.2.1, by rw [upd_ne (by omega)]; exact r0.2.2.2.2.2⟩
  all_goals rw [mset_ne _ _ (by omega)]; assumption
theorem hx_frm {M' : Mem} (H : HX M h a sh G) (hf : ∀ q, h ≤ q → q ≤ h + 7 → M' q = M q) : HX M' h a sh G := by
  refine ⟨?_, H.2⟩
  unfold RX
  rw [hf h (by omega) (by omega), hf (h + 1) (by omega) (by omega), hf (h + 2) (by omega) (by omega), hf (h + 3) (by omega) (by omega), hf (h + 4) (by omega) (by omega), hf (h + 5) (by omega) (by omega), hf (h + 6) (by omega) (by omega), hf (h + 7) (by omega) (by omega)]
  exact H.1
end CS
