/-! PURE: the reference's ORDER -/
def odM (M M' : Mem) : Prop := (∀ j, j ≤ 11 → M' 0 j = M 0 j) ∧ M' 0 16 = M 0 16 ∧ (∀ j, j < 1053 → M' 1 j = M 1 j) ∧ ∀ p, 2 ≤ p → p ≤ 7 → M' p = M p
theorem odM.tr {M M1 M2 : Mem} (a : odM M M1) (b : odM M1 M2) : odM M M2 := ⟨fun j h => (b.1 j h).trans (a.1 j h), b.2.1.trans a.2.1, fun j h => (b.2.2.1 j h).trans (a.2.2.1 j h), fun p h1 h2 => (b.2.2.2 p h1 h2).trans (a.2.2.2 p h1 h2)⟩
theorem odM.rf {M : Mem} : odM M M := ⟨fun _ _ => rfl, rfl, fun _ _ => rfl, fun _ _ _ => rfl⟩
theorem odM.hi (M : Mem) {p : Nat} (f : Nat → Int32) (hp : 8 ≤ p) : odM M (mset M p f) := ⟨fun j _ => by rw [mset_ne _ _ (by omega)], by rw [mset_ne _ _ (by omega)], fun j _ => by rw [mset_ne _ _ (by omega)], fun q h1 h2 => mset_ne _ _ (by omega)⟩
theorem own_cnt (G : Nat → Nat) : ∀ n, cntN (fun k => inG 7 G k && !inG 5 G k) n = ownN G n
  | 0 => rfl
  | n + 1 => by
    rw [cntN, ownN, own_cnt G n]
    have e7 : inG 7 G n = decide (G (15 + n) ≠ 0) := rfl
    have e5 : inG 5 G n = decide (G (15 + n) ≠ 0 ∧ G (15 + n) ≠ n + 1) := rfl
    rw [e7, e5]
    by_cases c : G (15 + n) = n + 1
    · rw [if_pos c, decide_eq_true (by omega), decide_eq_false (by omega)]; rfl
    · rw [if_neg c]
      by_cases d : G (15 + n) = 0
      · rw [decide_eq_false (by omega)]; rfl
      · rw [decide_eq_true (by omega), decide_eq_true (by omega)]; rfl
theorem own_le (G : Nat → Nat) : ∀ n, ownN G n ≤ n
  | 0 => Nat.le_refl _
  | n + 1 => by
    have := own_le G n
    rw [ownN]
    split <;> omega
theorem ref_weigh {M : Mem} {G : Nat → Nat} {σ : List Nat} {n : Nat} (hA : atM M 0 G) (hV : gV G) (h2 : G 2 ≤ 999) (hn : n ≤ 40) (h16 : M 0 16 = 0) (R : rkM M (rkL σ)) (hl : σ.length = G 1) (hσ : ∀ c, c ∈ σ → c < G 1) :
    ∃ M2 M3 r4 r5, X8_layTried M = some M2 ∧ X8_ticksOf 1053 (nI n) M2 = some M3 ∧ X8_goneOnes M3 1053 = some r4 ∧ X8_wrongOnes M3 1053 = some r5 ∧ X8_bits (r4 &&& (r5 ^^^ (-1))) = some (nI (wgh (simL n σ G)).1) ∧ X8_allSaw M3 1053 = some (nI (wgh (simL n σ G)).2) ∧ odM M M3 ∧ M3 8 = M 8 ∧ M3 9 = M 9 ∧ (wgh (simL n σ G)).1 < 2000 ∧ (wgh (simL n σ G)).2 < 2000 := by
  have hA2 : atM (wrM M 1053 G) 1053 G := atM_of _ _ _
  have R2 : rkM (wrM M 1053 G) (rkL σ) := ⟨fun j hj => by rw [wrM_ne _ _ _ (by omega)]; exact R.1 j hj, R.2⟩
  have e16 : wrM M 1053 G 0 16 = 0 := by rw [wrM_ne _ _ _ (by omega)]; exact h16
  have f2 : odM M (wrM M 1053 G) := ⟨fun j _ => by rw [wrM_ne _ _ _ (by omega)], by rw [wrM_ne _ _ _ (by omega)], fun j hj => wrM_out _ _ _ (by omega), fun p h1 h2 => wrM_ne _ _ _ (by omega)⟩
  have e8 : wrM M 1053 G 8 = M 8 := wrM_ne _ _ _ (by omega)
  have e9 : wrM M 1053 G 9 = M 9 := wrM_ne _ _ _ (by omega)
  refine ⟨wrM M 1053 G, ?_⟩
  rw [ref_lay hA]
  generalize wrM M 1053 G = M2 at hA2 R2 e16 f2 e8 e9 ⊢
  have t := ref_ticks M2 1053 (by omega) R2 n (by omega) (S := (G, M2 0 17, M2 0 18)) hV.1 (by show G 2 < _; omega)
  rw [st_at hA2, e16] at t
  obtain ⟨k1, k2, k3⟩ := ticks_L (σ := σ) n (G, M2 0 17, M2 0 18) hV (by show G 2 + n < _; omega) hl hσ
  have k2 : gV (simL n σ G) := k2
  have k3 : simL n σ G 1 = G 1 := k3
  have hm6 := k2.1.1.2
  generalize hS : ticksS 0 (rkL σ) n (G, M2 0 17, M2 0 18) = S at t k1
  have k1 : S.1 = simL n σ G := k1
  have e3 : stM M2 1053 S = wrM (cntM M2 S.2.1 S.2.2) 1053 (simL n σ G) := by unfold stM; rw [k1]
  have g1 := ref_goneOnes (cntM M2 S.2.1 S.2.2) 1053 k2.1.1 (by omega)
  have g2 := ref_wrongOnes (cntM M2 S.2.1 S.2.2) 1053 k2.1.1 (by omega)
  have g3 := ref_allSaw (cntM M2 S.2.1 S.2.2) 1053 k2.1.1 (by omega) k2.1
  rw [← e3, ← li_1053] at g1 g2 g3
  have s1 := sumG_le k2.1 (simL n σ G 1) hm6
  have s2 := own_le (simL n σ G) (simL n σ G 1)
  refine ⟨stM M2 1053 S, _, _, rfl, t, g1, g2, ?_, g3, f2.tr ⟨fun j hj => st_0 _ _ _ (by omega), st_0 _ _ _ (by omega), fun j hj => st_1 _ _ _ (by omega), fun p h1 h2 => st_ne _ _ _ (by omega) (by omega)⟩, by rw [st_ne _ _ _ (by omega) (by omega)]; exact e8, by rw [st_ne _ _ _ (by omega) (by omega)]; exact e9, by show ownN _ _ < _; omega, by show sumG _ _ < _; omega⟩
  rw [btI_andnot _ _ hm6, (btI_bits _ hm6).1, cnt_pc _ _ hm6, own_cnt]; rfl
def bsM (o : Option ((Nat × Nat) × List Nat)) (x3 x4 : Int32) (M : Mem) : Prop :=
  match o with
  | none => x3 = -1 ∧ x4 = 0
  | some q => x3 = nI q.1.1 ∧ x4 = nI q.1.2 ∧ (∀ j, j < 6 → M 9 j = nI (rkL q.2 j)) ∧ q.1.1 < 2000 ∧ q.1.2 < 2000
theorem or_115 (K : Int32 → Int32 → Int32 → Int32 → Int32 → Mem → Option (Int32 × Mem)) {m : Nat} (x1 x2 x3 x4 : Int32) : ∀ (d k f : Nat) (M : Mem), M 1 1 = nI m → 6 - k = d → k ≤ 6 → d < f → X8_order_115 K f x1 x2 x3 x4 (nI k) M = Option.bind (X8_nextRanks (nI m) (mset M 9 (fun j => if k ≤ j ∧ j < 6 then M 8 j else M 9 j))) fun u2 => K x1 x2 x3 x4 u2.1 u2.2
  | 0, k, 0, M, _, _, _, h => absurd h (Nat.not_lt_zero _)
  | 0, k, f + 1, M, e1, hd, hk, _ => by
    have e : k = 6 := by omega
    subst e
    have e2 : (fun j => if 6 ≤ j ∧ j < 6 then M 8 j else M 9 j) = M 9 := by
      funext j
      rw [if_neg (by omega)]
    rw [e2, mset_id, X8_order_115, if_neg (show ¬ nI 6 < 6 by decide), li_1, am_in_nI (by omega) (by omega), if_pos rfl, nI_clamp (by omega), e1]
  | d + 1, k, 0, M, _, _, _, h => absurd h (Nat.not_lt_zero _)
  | d + 1, k, f + 1, M, e1, hd, hk, hf => by
    rw [X8_order_115, if_pos (show nI k < 6 from nI_lt (b := 6) (by omega) (by omega)), am_in_nI (by omega) (by omega), if_pos rfl, if_pos rfl, nI_clamp (by omega), am_let_eq, nI_1, or_115 K x1 x2 x3 x4 d (k + 1) f _ (by rw [mset_ne _ _ (by omega)]; exact e1) (by omega) (by omega) (by omega), mset_mset, mset_self, mset_ne _ _ (by omega)]
    congr 2
    congr 1
    funext j
    unfold upd
    by_cases q : j = k
    · rw [if_neg (by omega), if_pos q, if_pos (by omega), q]
    · by_cases q2 : k ≤ j ∧ j < 6
      · rw [if_pos (by omega), if_pos q2]
      · rw [if_neg (by omega), if_neg q, if_neg q2]
theorem or_step {Mm : Mem} {G : Nat → Nat} (hA : atM Mm 0 G) (hV : gV G) (hO : hOK G) {n : Nat} (hn : n ≤ 40) (h16 : Mm 0 16 = 0) (x2 : Int32) {σ : List Nat} {o : Option ((Nat × Nat) × List Nat)} (f : Nat) {M : Mem} {x3 x4 : Int32} (hl : σ.length = G 1) (hσ : ∀ c, c ∈ σ → c < G 1) (hM : odM Mm M) (R : rkM M (rkL σ)) (hb : bsM o x3 x4 M) :
    ∃ M4 y3 y4, X8_order_38 (f + 1) (nI n) x2 x3 x4 1 M = (Option.bind (X8_nextRanks (nI (G 1)) M4) fun u => X8_order_38 f (nI n) x2 y3 y4 u.1 u.2) ∧ bsM (bF o (wgh (simL n σ G), σ)) y3 y4 M4 ∧ odM Mm M4 ∧ rkM M4 (rkL σ) := by
  have hA1 : atM M 0 G := atM_cong hA (fun k hk => hM.2.2.1 _ (by omega))
  obtain ⟨M2, M3, r4, r5, a1, a2, a3, a4, a5, a6, a7, a8, a9, a10, a11⟩ := ref_weigh hA1 hV hO.2 hn (by rw [hM.2.1]; exact h16) R hl hσ
  have hM3 := hM.tr a7
  have e1 : M3 1 1 = nI (G 1) := by
    rw [hM3.2.2.1 1 (by omega)]
    have := hA 1 (by omega)
    rw [cI_n (by omega)] at this
    exact this
  have R3 : rkM M3 (rkL σ) := ⟨fun j hj => by rw [a8]; exact R.1 j hj, R.2⟩
  rw [X8_order_38, if_neg (show ¬ (1 : Int32) = 0 by decide), a1, Option.bind_some, a2, Option.bind_some, a3, Option.bind_some, a4, Option.bind_some, a5, Option.bind_some, a6, Option.bind_some]
  have better : bF o (wgh (simL n σ G), σ) = some (wgh (simL n σ G), σ) → ∃ M4 y3 y4, X8_order_115 (X8_order_38 f) am_fuel (nI n) x2 (nI (wgh (simL n σ G)).1) (nI (wgh (simL n σ G)).2) 0 M3 = (Option.bind (X8_nextRanks (nI (G 1)) M4) fun u => X8_order_38 f (nI n) x2 y3 y4 u.1 u.2) ∧ bsM (bF o (wgh (simL n σ G), σ)) y3 y4 M4 ∧ odM Mm M4 ∧ rkM M4 (rkL σ) := fun e => by
    have c := or_115 (X8_order_38 f) (m := G 1) (nI n) x2 (nI (wgh (simL n σ G)).1) (nI (wgh (simL n σ G)).2) 6 0 am_fuel M3 e1 rfl (by omega) (by show 6 < 2000; omega)
    rw [e]
    refine ⟨_, _, _, c, ⟨rfl, rfl, fun j hj => ?_, a10, a11⟩, hM3.tr (odM.hi _ _ (by omega)), fun j hj => ?_, R3.2⟩
    · rw [mset_self, if_pos (by omega)]; exact R3.1 j hj
    · rw [mset_ne _ _ (by omega)]; exact R3.1 j hj
  have worse : bF o (wgh (simL n σ G), σ) = o → ∃ M4 y3 y4, (if am_in (1 : Int32) 1092 = true then Option.bind (X8_nextRanks (M3 1 (1 : Int32).toNatClampNeg) M3) fun u3 => X8_order_38 f (nI n) x2 x3 x4 u3.1 u3.2 else none) = (Option.bind (X8_nextRanks (nI (G 1)) M4) fun u => X8_order_38 f (nI n) x2 y3 y4 u.1 u.2) ∧ bsM (bF o (wgh (simL n σ G), σ)) y3 y4 M4 ∧ odM Mm M4 ∧ rkM M4 (rkL σ) := fun e => by
    rw [e, li_1, am_in_nI (by omega) (by omega), if_pos rfl, nI_clamp (by omega), e1]
    refine ⟨M3, x3, x4, rfl, ?_, hM3, R3⟩
    cases o with
    | none => exact hb
    | some q => exact ⟨hb.1, hb.2.1, fun j hj => by rw [a9]; exact hb.2.2.1 j hj, hb.2.2.2⟩
  cases o with
  | none =>
    obtain ⟨b1, b2⟩ := hb
    rw [b1, if_pos (show (-1 : Int32) < nI (wgh (simL n σ G)).1 by rw [Int32.lt_iff_toInt_lt, nI_toInt (by omega), show (-1 : Int32).toInt = -1 by decide]; omega)]
    exact better rfl
  | some q =>
    obtain ⟨b1, b2, b3, b4, b5⟩ := hb
    have e : bF (some q) (wgh (simL n σ G), σ) = if btr (wgh (simL n σ G)) q.1 then some (wgh (simL n σ G), σ) else some q := rfl
    rw [b1, b2] at worse ⊢
    simp only [nI_ltI (show q.1.1 < 2 ^ 31 by omega) (show (wgh (simL n σ G)).1 < 2 ^ 31 by omega), nI_eq (show (wgh (simL n σ G)).1 < 2 ^ 31 by omega) (show q.1.1 < 2 ^ 31 by omega), nI_ltI (show (wgh (simL n σ G)).2 < 2 ^ 31 by omega) (show q.1.2 < 2 ^ 31 by omega)]
    by_cases c1 : q.1.1 < (wgh (simL n σ G)).1
    · rw [if_pos c1]
      exact better (by rw [e, if_pos ((btr_iff _ _).mpr (Or.inl c1))])
    · rw [if_neg c1]
      by_cases c2 : (wgh (simL n σ G)).1 = q.1.1
      · rw [if_pos c2]
        by_cases c3 : (wgh (simL n σ G)).2 < q.1.2
        · rw [if_pos c3]
          exact better (by rw [e, if_pos ((btr_iff _ _).mpr (Or.inr ⟨c2, c3⟩))])
        · rw [if_neg c3]
          refine worse (by rw [e, if_neg]; rw [btr_iff]; unfold bt; omega)
      · rw [if_neg c2]
        refine worse (by rw [e, if_neg]; rw [btr_iff]; unfold bt; omega)
theorem or_loop {Mm : Mem} {G : Nat → Nat} (hA : atM Mm 0 G) (hV : gV G) (hO : hOK G) {n : Nat} (hn : n ≤ 40) (h16 : Mm 0 16 = 0) (x2 : Int32) : ∀ (l : List (List Nat)) (σ : List Nat) (o : Option ((Nat × Nat) × List Nat)) (f : Nat) (M : Mem) (x3 x4 : Int32), chn (G 1) (σ :: l) = true → (∀ τ, τ ∈ σ :: l → τ.length = G 1 ∧ ∀ c, c ∈ τ → c < G 1) → l.length + 1 < f → odM Mm M → rkM M (rkL σ) → bsM o x3 x4 M →
    ∃ M' y3 y4, X8_order_38 f (nI n) x2 x3 x4 1 M = X8_order_160 am_fuel x2 y3 0 M' ∧ bsM (cmb o (bst ((σ :: l).map (fun σ => (wgh (simL n σ G), σ))))) y3 y4 M' ∧ odM Mm M' := by
  have hm := hV.1.1.2
  have h1 := hO.1
  intro l
  induction l with
  | nil =>
    intro σ o f M x3 x4 hch hτ hf hM R hb
    have hf : 1 < f := by simpa using hf
    obtain ⟨f, rfl⟩ : ∃ g, f = g + 1 + 1 := ⟨f - 2, by omega⟩
    obtain ⟨s1, s2⟩ := hτ σ List.mem_cons_self
    obtain ⟨M4, y3, y4, e, b, hM4, R4⟩ := or_step hA hV hO hn h16 x2 (f + 1) s1 s2 hM R hb
    rcases ref_next (m := G 1) (by omega) h1 R4 with ⟨n1, n2⟩ | ⟨F, rk', n1, n2, n3⟩
    · refine ⟨M4, y3, y4, ?_, b, hM4⟩
      rw [e, n2, Option.bind_some, X8_order_38, if_pos rfl]
    · rw [chn, n1] at hch
      simp at hch
  | cons τ l ih =>
    intro σ o f M x3 x4 hch hτ hf hM R hb
    have hf : l.length + 1 + 1 < f := by simpa using hf
    obtain ⟨f, rfl⟩ : ∃ g, f = g + 1 := ⟨f - 1, by omega⟩
    obtain ⟨s1, s2⟩ := hτ σ List.mem_cons_self
    obtain ⟨M4, y3, y4, e, b, hM4, R4⟩ := or_step hA hV hO hn h16 x2 f s1 s2 hM R hb
    rcases ref_next (m := G 1) (by omega) h1 R4 with ⟨n1, n2⟩ | ⟨F, rk', n1, n2, n3⟩
    · rw [chn, n1] at hch
      simp at hch
    · rw [chn, n1, Bool.and_eq_true] at hch
      have hj : ∀ j, j < 6 → rk' j = rkL τ j := fun j hj => by
        have := List.all_eq_true.mp hch.1 j (List.mem_range.mpr hj)
        exact eq_of_beq this
      have R5 : rkM (mset M4 8 F) (rkL τ) := ⟨fun j h => by rw [n3.1 j h, hj j h], fun j h => by rw [← hj j h]; exact n3.2 j h⟩
      have b5 : bsM (bF o (wgh (simL n σ G), σ)) y3 y4 (mset M4 8 F) := by
        cases hq : bF o (wgh (simL n σ G), σ) with
        | none => rw [hq] at b; exact b
        | some q => rw [hq] at b; exact ⟨b.1, b.2.1, fun j hj => by rw [mset_ne _ _ (by omega)]; exact b.2.2.1 j hj, b.2.2.2⟩
      obtain ⟨M6, z3, z4, i1, i2, i3⟩ := ih τ _ f (mset M4 8 F) y3 y4 hch.2 (fun t ht => hτ t (List.mem_cons_of_mem _ ht)) (by omega) (hM4.tr (odM.hi _ _ (by omega))) R5 b5
      refine ⟨M6, z3, z4, ?_, ?_, i3⟩
      · rw [e, n2, Option.bind_some]; exact i1
      · rw [cmb_as] at i2
        rw [List.map_cons, bst_cons]
        exact i2
theorem prm_len : ∀ {k : Nat} {R σ : List Nat}, R.length = k → σ ∈ prm k R → σ.length = k
  | 0, R, σ, h, hs => by
    rw [prm, List.mem_singleton] at hs
    rw [hs]; rfl
  | k + 1, R, σ, h, hs => by
    rw [prm, List.mem_flatMap] at hs
    obtain ⟨r, hr, hs⟩ := hs
    rw [List.mem_map] at hs
    obtain ⟨t, ht, e⟩ := hs
    rw [← e, List.length_cons, prm_len (by rw [List.length_erase_of_mem hr, h]; rfl) ht]
theorem prm_cnt : ∀ m, m < 7 → (prm m (List.range m)).length < 1000 := by decide +kernel
theorem rkL_id (m : Nat) : ∀ j, rkL (List.range m) j = j := fun j => by
  unfold rkL
  rw [List.getD_eq_getElem?_getD]
  by_cases h : j < m
  · rw [List.getElem?_range h]; rfl
  · rw [List.getElem?_eq_none (by rw [List.length_range]; omega)]; rfl
theorem or_160 (x2 x3 : Int32) : ∀ (d k f : Nat) (M : Mem), 6 - k = d → k ≤ 6 → d < f → X8_order_160 f x2 x3 (nI k) M = X8_order_160 1 x2 x3 (nI 6) (mset M 8 (fun j => if k ≤ j ∧ j < 6 then nI j else M 8 j))
  | 0, k, 0, M, _, _, h => absurd h (Nat.not_lt_zero _)
  | 0, k, f + 1, M, hd, hk, _ => by
    have e : k = 6 := by omega
    subst e
    have e2 : (fun j => if 6 ≤ j ∧ j < 6 then nI j else M 8 j) = M 8 := by
      funext j
      rw [if_neg (by omega)]
    rw [e2, mset_id, X8_order_160, X8_order_160, if_neg (show ¬ nI 6 < 6 by decide), if_neg (show ¬ nI 6 < 6 by decide)]
  | d + 1, k, 0, M, _, _, h => absurd h (Nat.not_lt_zero _)
  | d + 1, k, f + 1, M, hd, hk, hf => by
    rw [X8_order_160, if_pos (show nI k < 6 from nI_lt (b := 6) (by omega) (by omega)), am_in_nI (by omega) (by omega), if_pos rfl, nI_clamp (by omega), am_let_eq, nI_1, or_160 x2 x3 d (k + 1) f _ (by omega) (by omega) (by omega), mset_mset, mset_self]
    congr 2
    funext j
    unfold upd
    by_cases q : j = k
    · rw [if_neg (by omega), if_pos q, if_pos (by omega), q]
    · by_cases q2 : k ≤ j ∧ j < 6
      · rw [if_pos (by omega), if_pos q2]
      · rw [if_neg (by omega), if_neg q, if_neg q2]
/-- the reference's ORDER -/
theorem ref_order {Mm : Mem} {G : Nat → Nat} (hA : atM Mm 0 G) (hV : gV G) (hO : hOK G) {n : Nat} (hn : n ≤ 40) (h16 : Mm 0 16 = 0) (hr : rkId Mm) : ∃ w f, bestL n G = some (w, f) ∧ ∀ x2 : Int32, ∃ Mm', odM Mm Mm' ∧ rkId Mm' ∧ (x2 = -1 → X8_order_38 am_fuel (nI n) x2 (-1) 0 1 Mm = some (nI w.1, Mm')) ∧ (∀ k, x2 = nI k → k < 2 ^ 31 → X8_order_38 am_fuel (nI n) x2 (-1) 0 1 Mm = some (if k < G 1 then nI (rkL (gre (G 1) (List.range (G 1)) (crB G) f) k) else -1000000, Mm')) := by
  have hm := hV.1.1.2
  have h1 := hO.1
  have h2 := hO.2
  obtain ⟨w, f, a1, a2⟩ := ord_all n (G 1) (List.range (G 1)) G List.length_range List.pairwise_lt_range (fun r hr => List.mem_range.mp hr) (fun c hc _ => List.mem_range.mpr hc) hV (by omega)
  refine ⟨w, f, a1, fun x2 => ?_⟩
  obtain ⟨l, el⟩ := prm_head (k := G 1) (R := List.range (G 1)) List.length_range
  have hc := chn_all (G 1) (by omega) h1
  have hcnt := prm_cnt (G 1) (by omega)
  have hτ : ∀ τ, τ ∈ prm (G 1) (List.range (G 1)) → τ.length = G 1 ∧ ∀ c, c ∈ τ → c < G 1 := fun τ ht => ⟨prm_len List.length_range ht, fun c hc => List.mem_range.mp (prm_in ht c hc)⟩
  rw [el] at hc hcnt hτ a2
  have hcnt : l.length + 1 < 1000 := by simpa using hcnt
  obtain ⟨M', y3, y4, e, b, hM⟩ := or_loop hA hV hO hn h16 x2 l (List.range (G 1)) none am_fuel Mm (-1) 0 hc hτ (by show _ < 2000; omega) odM.rf ⟨fun j hj => by rw [rkL_id]; exact hr j hj, fun j hj => by rw [rkL_id]; exact hj⟩ ⟨rfl, rfl⟩
  rw [cmb_n, a2] at b
  obtain ⟨b1, b2, b3, b4, b5⟩ := b
  have e160 : X8_order_160 am_fuel x2 y3 0 M' = X8_order_160 1 x2 y3 (nI 6) (mset M' 8 (fun j => if 0 ≤ j ∧ j < 6 then nI j else M' 8 j)) := or_160 x2 y3 6 0 am_fuel M' rfl (by omega) (by show 6 < 2000; omega)
  rw [e, e160, X8_order_160, if_neg (show ¬ nI 6 < 6 by decide), b1]
  have e1 : M' 1 1 = nI (G 1) := by
    rw [hM.2.2.1 1 (by omega)]
    have := hA 1 (by omega)
    rw [cI_n (by omega)] at this
    exact this
  refine ⟨mset M' 8 (fun j => if 0 ≤ j ∧ j < 6 then nI j else M' 8 j), hM.tr (odM.hi _ _ (by omega)), fun j hj => by rw [mset_self, if_pos (by omega)], fun q => by rw [if_pos q], fun k q hk => ?_⟩
  have nq : ¬ nI k = (-1 : Int32) := fun z => by
    have := congrArg Int32.toInt z
    rw [nI_toInt hk, show (-1 : Int32).toInt = -1 by decide] at this
    omega
  rw [q, if_neg nq, show (1 : Int32).toNatClampNeg = 1 by decide, if_pos (show am_in (1 : Int32) 1092 = true by decide), mset_ne _ _ (by omega), e1]
  simp only [nI_ltI hk (show G 1 < 2 ^ 31 by omega)]
  by_cases c : k < G 1
  · rw [if_pos c, if_pos c, am_in_nI (by omega) (by omega), if_pos rfl, nI_clamp (by omega), mset_ne _ _ (by omega), b3 k (by omega)]
  · rw [if_neg c, if_neg c]
