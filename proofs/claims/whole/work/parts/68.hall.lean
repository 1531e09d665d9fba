/-! PURE: a hall that is told -/
def frG (G : Nat → Nat) : Prop := 4 ≤ G 0 ∧ G 0 ≤ 12 ∧ G 1 ≤ 6 ∧ G 2 = 0 ∧ (∀ t, t < G 1 → 1 ≤ G (3 + t) ∧ G (3 + t) ≤ 5 ∧ G (9 + t) < G 0) ∧ (∀ t, t < 6 → G (15 + t) = 0 ∧ G (21 + t) = 0 ∧ G (33 + t) = 20) ∧ ∀ k, G k < 2000
def clF (M : Mem) (h : Nat) (G : Nat → Nat) : Prop :=
  (M h 0 = nI (G 0) ∧ M h 1 = nI (G 1) ∧ M h 2 = 0 ∧ M h 3 = 0 ∧ M h 4 = 0 ∧ M h 5 = nI (G 1)) ∧
  (∀ t, t < G 1 → M (h + 1) t = nI (G (3 + t)) ∧ M (h + 2) t = nI (G (9 + t)) ∧ M (h + 3) t = 0 ∧ M (h + 4) t = -1000000 ∧ M (h + 5) t = nI (G (27 + t)) ∧ M (h + 6) t = 20) ∧ ∀ s, s < 12 → M (h + 7) s = -1000000
theorem fr_V {G : Nat → Nat} (F : frG G) : gV G := by
  obtain ⟨f1, f2, f3, f4, f5, f6, f7⟩ := F
  refine ⟨⟨⟨f7, f3⟩, ⟨f1, f2, fun t ht => (f5 t ht).2.2⟩, fun t ht => by rw [(f6 t ht).2.1]; omega⟩, fun t ht => ⟨(f5 t ht).1, (f5 t ht).2.1⟩, fun b hb => Or.inr (Or.inl (f6 b (by omega)).2.2), fun b c hb hc _ h => ?_, fun t ht => Or.inl (f6 t (by omega)).1⟩
  rw [(f6 b (by omega)).2.2] at h
  omega
theorem cartN_all {G : Nat → Nat} : ∀ k, (∀ t, t < k → G (33 + t) = 20) → cartN G k = k
  | 0, _ => rfl
  | k + 1, h => by rw [cartN, cartN_all k (fun t ht => h t (by omega)), if_pos (h k (by omega))]
theorem fr_HX {M : Mem} {h : Nat} {G : Nat → Nat} (F : frG G) (C : clF M h G) : HX M h 0 0 G := by
  have hV := fr_V F
  obtain ⟨f1, f2, f3, f4, f5, f6, f7⟩ := F
  obtain ⟨⟨c0, c1, c2, c3, c4, c5⟩, ct, cs⟩ := C
  refine ⟨⟨⟨c0, c1, by rw [c2, f4]; rfl, c3, by rw [c4]; rfl, by rw [c5, cartN_all _ (fun t ht => (f6 t (by omega)).2.2)]⟩, fun t ht => (ct t ht).1, fun t ht => (ct t ht).2.1, fun t ht => ?_, fun t ht => ?_, fun t ht => (ct t ht).2.2.2.2.1, fun t ht => ?_, fun s hs => ?_⟩, hV, by omega⟩
  · rw [(ct t ht).2.2.1, (f6 t (by omega)).2.1]; rfl
  · rw [(ct t ht).2.2.2.1, (f6 t (by omega)).1]; rfl
  · rw [(ct t ht).2.2.2.2.2]
    unfold spG
    rw [(f6 t (by omega)).2.2]; rfl
  · rw [cs s (by omega), bagG_no (fun c hc => ?_)]
    · rfl
    · have := addm_lt (P := G 0) hs (show 0 < G 0 by omega)
      rw [(f6 c (by omega)).2.2]; omega
def FX (M M' : Mem) : Prop := ∀ q, q ≠ 13 → (q < 23 ∨ 30 < q) → M' q = M q
def FM (M M' : Mem) : Prop := (∀ q, 2 ≤ q → M' q = M q) ∧ (∀ j, j ≠ 12 → j ≠ 13 → j ≠ 14 → M' 0 j = M 0 j) ∧ ∀ j, j < 1053 → M' 1 j = M 1 j
theorem FX.tr {M M1 M2 : Mem} (a : FX M M1) (b : FX M1 M2) : FX M M2 := fun q h1 h2 => (b q h1 h2).trans (a q h1 h2)
theorem FX.rf {M : Mem} : FX M M := fun _ _ _ => rfl
theorem FM.tr {M M1 M2 : Mem} (a : FM M M1) (b : FM M1 M2) : FM M M2 := ⟨fun q h => (b.1 q h).trans (a.1 q h), fun j h1 h2 h3 => (b.2.1 j h1 h2 h3).trans (a.2.1 j h1 h2 h3), fun j h => (b.2.2 j h).trans (a.2.2 j h)⟩
theorem fr0.FM {M M' : Mem} (f : fr0 M M') : FM M M' := ⟨fun q h => f.1 q (by omega), f.2, fun j _ => by rw [f.1 1 (by omega)]⟩
theorem fr13.FX {M M' : Mem} (f : fr13 M M') : FX M M' := fun q h _ => f q h
theorem FM.rdS {n : Nat} {B : Nat → Nat} {M M' : Mem} {p : Nat} (f : FM M M') (T : tpM n B M) (h : M' 0 12 = nI p) : rdS n B M' p := ⟨⟨T.1, T.2.1, by rw [f.2.1 7 (by omega) (by omega) (by omega)]; exact T.2.2.1, fun i hi => by rw [f.1 6 (by omega)]; exact T.2.2.2 i hi⟩, h⟩
theorem fr0.at {M M' : Mem} {b : Nat} {G : Nat → Nat} (f : fr0 M M') (h : atM M b G) : atM M' b G := atM_cong h (fun k hk => by rw [f.1 1 (by omega)])
/-- a cell of what is tried -/
def wr1 (M : Mem) (k : Nat) (x : Int32) : Mem := mset M 1 (upd (M 1) (1053 + k) x)
theorem wr1_at {M : Mem} {G : Nat → Nat} {k v : Nat} (h : atM M 1053 G) (hk : k < 39) (hk2 : k < 15 ∨ 21 ≤ k) : atM (wr1 M k (nI v)) 1053 (upN G k v) := by
  intro j hj
  unfold wr1 upN
  rw [mset_self]
  by_cases q : j = k
  · rw [q, upd_same, if_pos rfl, cI_n hk2]
  · rw [upd_ne (by omega), if_neg q]; exact h j hj
theorem wr1_F (M : Mem) (k : Nat) (x : Int32) : FM M (wr1 M k x) := ⟨fun q h => mset_ne _ _ (by omega), fun j _ _ _ => by unfold wr1; rw [mset_ne _ _ (by omega)], fun j h => by unfold wr1; rw [mset_self, upd_ne (by omega)]⟩
theorem wr1_0 (M : Mem) (k : Nat) (x : Int32) : wr1 M k x 0 = M 0 := mset_ne _ _ (by omega)
def rdFail (Mx Mm : Mem) (rx rm : Option (Int32 × Mem)) : Prop := ∃ e q Mx' Mm', 1 ≤ e ∧ e ≤ 3 ∧ rx = some (nI e, Mx') ∧ Mx' 13 3 = nI q ∧ rm = some (0, Mm') ∧ Mm' 0 13 = nI e ∧ Mm' 0 12 = nI q ∧ FX Mx Mx' ∧ FM Mm Mm'
theorem cx_begin (M : Mem) (v : Nat) : ∃ M', X3_begin 23 (nI v) M = some M' ∧ clF M' 23 (fun k => if k = 0 then v else if 33 ≤ k ∧ k < 39 then 20 else 0) ∧ FX M M' ∧ M' 13 = M 13 := by
  unfold X3_begin
  simp only [am_let_eq, mset_self, mset_mset]
  rw [fill_spec _ _ _ _ (by omega), Option.bind_some]
  refine ⟨_, rfl, ⟨⟨?_, ?_, ?_, ?_, ?_, ?_⟩, fun t ht => absurd ht (Nat.not_lt_zero _), fun s hs => ?_⟩, fun q h1 h2 => ?_, ?_⟩
  · rw [mset_ne _ _ (by omega), mset_self]; rfl
  · rw [mset_ne _ _ (by omega), mset_self]; rfl
  · rw [mset_ne _ _ (by omega), mset_self]; rfl
  · rw [mset_ne _ _ (by omega), mset_self]; rfl
  · rw [mset_ne _ _ (by omega), mset_self]; rfl
  · rw [mset_ne _ _ (by omega), mset_self]; rfl
  · rw [mset_self, if_pos hs]
  · rw [mset_ne _ _ (by omega), mset_ne _ _ (by omega)]
  · rw [mset_ne _ _ (by omega), mset_ne _ _ (by omega)]
def jnG (G : Nat → Nat) (k v w : Nat) : Nat → Nat := upN (upN (upN (upN G (3 + G 1) k) (9 + G 1) v) (27 + G 1) w) 1 (G 1 + 1)
theorem cx_join {M : Mem} {G : Nat → Nat} (C : clF M 23 G) (h6 : G 1 < 6) (k v w : Nat) : ∃ M', X3_join 23 (nI k) (nI v) (nI w) M = some M' ∧ clF M' 23 (jnG G k v w) ∧ FX M M' ∧ M' 13 = M 13 := by
  obtain ⟨⟨c0, c1, c2, c3, c4, c5⟩, ct, cs⟩ := C
  have e1 : jnG G k v w 1 = G 1 + 1 := upN_same _ _ _
  have e0 : jnG G k v w 0 = G 0 := by unfold jnG; rw [upN_ne (by omega), upN_ne (by omega), upN_ne (by omega), upN_ne (by omega)]
  unfold X3_join
  simp (disch := omega) only [am_let_eq, c1, li_6, nI_ltI, h6, am_in_nI, nI_clamp, mset_self, mset_ne, ↓reduceIte]
  refine ⟨_, rfl, ⟨⟨?_, ?_, ?_, ?_, ?_, ?_⟩, fun t ht => ?_, fun s hs => ?_⟩, fun q h1 h2 => ?_, ?_⟩
  · rw [e0, mset_self, upd_ne (by omega), upd_ne (by omega)]; exact c0
  · rw [e1, mset_self, upd_same, upd_ne (by omega), c1, nI_1]
  · rw [mset_self, upd_ne (by omega), upd_ne (by omega)]; exact c2
  · rw [mset_self, upd_ne (by omega), upd_ne (by omega)]; exact c3
  · rw [mset_self, upd_ne (by omega), upd_ne (by omega)]; exact c4
  · rw [e1, mset_self, upd_ne (by omega), upd_same, c5, nI_1]
  · rw [e1] at ht
    by_cases q : t = G 1
    · subst q
      simp (disch := omega) only [mset_self, mset_ne, upd_same, jnG, upN_ne, upN_same]
      exact ⟨trivial, trivial, trivial, trivial, trivial, trivial⟩
    · have := ct t (by omega)
      simp (disch := omega) only [mset_self, mset_ne, upd_ne, jnG, upN_ne]
      exact this
  · simp (disch := omega) only [mset_ne]
    exact cs s hs
  · simp (disch := omega) only [mset_ne]
  · simp (disch := omega) only [mset_ne]
theorem jn_fr {G : Nat → Nat} (F : frG G) (h6 : G 1 < 6) {k v w : Nat} (hk : 1 ≤ k ∧ k ≤ 5) (hv : v < G 0) (hw : w ≤ 3) : frG (jnG G k v w) := by
  obtain ⟨f1, f2, f3, f4, f5, f6, f7⟩ := F
  have e1 : jnG G k v w 1 = G 1 + 1 := upN_same _ _ _
  have e0 : jnG G k v w 0 = G 0 := by unfold jnG; rw [upN_ne (by omega), upN_ne (by omega), upN_ne (by omega), upN_ne (by omega)]
  refine ⟨by rw [e0]; exact f1, by rw [e0]; exact f2, by rw [e1]; omega, ?_, fun t ht => ?_, fun t ht => ?_, fun j => ?_⟩
  · unfold jnG; rw [upN_ne (by omega), upN_ne (by omega), upN_ne (by omega), upN_ne (by omega)]; exact f4
  · rw [e1] at ht
    rw [e0]
    by_cases q : t = G 1
    · subst q
      simp (disch := omega) only [jnG, upN_ne, upN_same]
      exact ⟨hk.1, hk.2, hv⟩
    · simp (disch := omega) only [jnG, upN_ne]
      exact f5 t (by omega)
  · simp (disch := omega) only [jnG, upN_ne]
    exact f6 t ht
  · have := f7 j
    unfold jnG upN
    repeat (split; omega)
    exact this
