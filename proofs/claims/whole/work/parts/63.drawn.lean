/-! PURE: longs; days by draws -/
def lI (n : Nat) : Int64 := Int64.ofNat n
theorem lI_toInt {n : Nat} (h : n < 2 ^ 63) : (lI n).toInt = n := by
  unfold lI
  rw [Int64.toInt_ofNat', show Int64.size = 18446744073709551616 from rfl]
  exact Int.bmod_eq_of_le (by omega) (by omega)
theorem lI_is {x : Int64} {n : Nat} (h : x.toInt = n) (hn : n < 2 ^ 63) : x = lI n := Int64.toInt_inj.mp (by rw [h, lI_toInt hn])
theorem nI_64 {n : Nat} (h : n < 2 ^ 31) : (nI n).toInt64 = lI n := lI_is (by rw [i64_32, nI_toInt h]) (by omega)
theorem lI_32 {n : Nat} (h : n < 2 ^ 31) : (lI n).toInt32 = nI n := Int32.toInt_inj.mp (by
  rw [Int64.toInt_toInt32, lI_toInt (by omega), nI_toInt h]
  exact Int.bmod_eq_of_le (by omega) (by omega))
theorem lI_mul (a b : Nat) : lI a * lI b = lI (a * b) := by
  unfold lI
  rw [Int64.ofNat_mul]
theorem lI_add (a b : Nat) : lI a + lI b = lI (a + b) := by
  unfold lI
  rw [Int64.ofNat_add]
theorem lI_div {a b : Nat} (ha : a < 2 ^ 62) (hb : b < 2 ^ 62) : lI a / lI b = lI (a / b) := by
  refine lI_is ?_ (by have := Nat.div_le_self a b; omega)
  rw [Int64.toInt_div, lI_toInt (by omega), lI_toInt (by omega)]
  have e : (a : Int).tdiv (b : Int) = ((a / b : Nat) : Int) := by
    rw [Int.tdiv_eq_ediv_of_nonneg (by omega)]
    rfl
  rw [e]
  have := Nat.div_le_self a b
  generalize a / b = q at this
  exact Int.bmod_eq_of_le (by omega) (by omega)
theorem lI_mod {a b : Nat} (ha : a < 2 ^ 62) (hb : b < 2 ^ 62) : lI a - lI a / lI b * lI b = lI (a % b) := by
  have h1 := Nat.div_mul_le_self a b
  have h2 := Nat.mod_add_div a b
  have h3 : a / b * b = b * (a / b) := Nat.mul_comm _ _
  rw [lI_div ha hb, lI_mul]
  refine lI_is ?_ (by omega)
  rw [Int64.toInt_sub, lI_toInt (by omega), lI_toInt (by omega)]
  have : (a : Int) - ((a / b * b : Nat) : Int) = ((a % b : Nat) : Int) := by omega
  rw [this]
  exact Int.bmod_eq_of_le (by omega) (by omega)
theorem lI_0 {a : Nat} (h : a < 2 ^ 63) : lI a = 0 ↔ a = 0 := by
  constructor
  · intro e
    have := congrArg Int64.toInt e
    rw [lI_toInt h, show (0 : Int64).toInt = 0 by decide] at this
    omega
  · intro e; rw [e]; rfl
theorem lg_0 {a : Nat} (h : a < 2 ^ 63) : lg_cmp (lI a) 0 = 0 ↔ a = 0 := by
  have h1 := lg_neg (lI a) 0
  have h2 := lg_pos (lI a) 0
  rw [lI_toInt h, show (0 : Int64).toInt = 0 by decide] at h1 h2
  constructor
  · intro e
    rw [e] at h2
    have : ¬ (0 : Int) < (a : Int) := fun q => absurd (h2.mpr q) (by decide)
    omega
  · intro e
    subst e
    decide
theorem rngB (x : Int32) (lo hi : Nat) (h : hi < 2 ^ 31) (hl : lo < 2000) : (((x < nI lo) ∨ (nI hi < x)) ∧ ∀ y z : Int64, y.toInt = lo → z.toInt = hi → X8_in x.toInt64 y z = some 0) ∨ ∃ n, lo ≤ n ∧ n ≤ hi ∧ x = nI n ∧ ∀ y z : Int64, y.toInt = lo → z.toInt = hi → X8_in x.toInt64 y z = some 1 := by
  by_cases c : (lo : Int) ≤ x.toInt ∧ x.toInt ≤ hi
  · refine Or.inr ⟨x.toInt.toNat, by omega, by omega, Int32.toInt_inj.mp (by rw [nI_toInt (by omega)]; omega), fun y z hy hz => ?_⟩
    rw [in_spec, i64_32, hy, hz, decide_eq_true c]; rfl
  · refine Or.inl ⟨?_, fun y z hy hz => ?_⟩
    · rw [Int32.lt_iff_toInt_lt, Int32.lt_iff_toInt_lt, nI_toInt (by omega), nI_toInt (by omega)]
      omega
    · rw [in_spec, i64_32, hy, hz, decide_eq_false c]; rfl
/-! how many -/
def cntN (p : Nat → Bool) : Nat → Nat
  | 0 => 0
  | k + 1 => cntN p k + if p k then 1 else 0
theorem cntN_cong {p q : Nat → Bool} : ∀ {n : Nat}, (∀ k, k < n → p k = q k) → cntN p n = cntN q n
  | 0, _ => rfl
  | n + 1, h => by rw [cntN, cntN, cntN_cong (fun k hk => h k (by omega)), h n (by omega)]
theorem pc_add : ∀ k, k < 6 → ∀ s, s < 2 ^ k → pcN (s + 2 ^ k) = pcN s + 1 := by decide +kernel
theorem cnt_pc (p : Nat → Bool) : ∀ k, k ≤ 6 → pcN (btN p k) = cntN p k
  | 0, _ => by show pcN 0 = 0; decide
  | k + 1, hk => by
    rw [btN, cntN, ← cnt_pc p k (by omega)]
    cases p k with
    | false => rfl
    | true => exact pc_add k (by omega) _ (btN_lt p k)
theorem look_cnt {a : Int32} {t : Nat} {S : tS} (hV : gV S.1) (ht : t < S.1 1) : (lookS a t S).2.1 = S.2.1 + nI (if S.1 (15 + t) = 0 ∧ (lookS a t S).1 (15 + t) ≠ 0 then 1 else 0) ∧ (lookS a t S).2.2 = S.2.2 + nI (if S.1 (15 + t) = 0 ∧ (lookS a t S).1 (15 + t) ≠ 0 ∧ (lookS a t S).1 (15 + t) ≠ t + 1 then 1 else 0) ∧ ∀ t', t' ≠ t → t' < 6 → (lookS a t S).1 (15 + t') = S.1 (15 + t') := by
  have h6 := hV.1.1.2
  have z : ∀ x : Int32, x + nI 0 = x := fun x => Int32.add_zero x
  by_cases hg : S.1 (15 + t) = 0
  · have hb := bagG_spec S.1 (S.1 (9 + t)) (S.1 1)
    by_cases h0 : bagG S.1 (S.1 (9 + t)) (S.1 1) = 0
    · have e : lookS a t S = S := by unfold lookS; rw [if_pos hg, if_pos h0]
      rw [e, if_neg (fun q => q.2 hg), if_neg (fun q => q.2.1 hg), z, z]
      exact ⟨rfl, rfl, fun _ _ _ => rfl⟩
    · by_cases hs : slp a t = true
      · have e : lookS a t S = S := by unfold lookS; rw [if_pos hg, if_neg h0, if_pos hs]
        rw [e, if_neg (fun q => q.2 hg), if_neg (fun q => q.2.1 hg), z, z]
        exact ⟨rfl, rfl, fun _ _ _ => rfl⟩
      · rcases hb with ⟨q, _⟩ | ⟨c, hc, q, hp, _⟩
        · exact absurd q h0
        generalize hδ : (S.1 (21 + t) + if c = t ∧ S.1 (21 + t) < 99 then 1 else 0) = δ
        by_cases htk : takeG (upN S.1 (21 + t) δ) t c = true
        · have e : lookS a t S = (upN (upN (upN S.1 (21 + t) δ) (15 + t) (c + 1)) (33 + c) (30 + t), S.2.1 + 1, S.2.2 + if c = t then 0 else 1) := by
            unfold lookS
            rw [if_pos hg, if_neg h0, if_neg hs]
            simp only []
            rw [q, Nat.add_sub_cancel, hδ, if_pos htk]
          have e1 : (lookS a t S).1 (15 + t) = c + 1 := by
            rw [e]
            show upN _ _ _ (15 + t) = _
            rw [upN_ne (by omega), upN_same]
          rw [e1, e]
          refine ⟨by rw [if_pos (show S.1 (15 + t) = 0 ∧ c + 1 ≠ 0 from ⟨hg, by omega⟩)]; rfl, ?_, fun t' h1 h2 => ?_⟩
          · by_cases ct : c = t
            · rw [if_pos ct, if_neg (by omega)]; rfl
            · rw [if_neg ct, if_pos (show S.1 (15 + t) = 0 ∧ c + 1 ≠ 0 ∧ c + 1 ≠ t + 1 from ⟨hg, by omega, by omega⟩)]; rfl
          · show upN _ _ _ (15 + t') = _
            rw [upN_ne (by omega), upN_ne (by omega), upN_ne (by omega)]
        · have e : lookS a t S = (upN S.1 (21 + t) δ, S.2.1, S.2.2) := by
            unfold lookS
            rw [if_pos hg, if_neg h0, if_neg hs]
            simp only []
            rw [q, Nat.add_sub_cancel, hδ, if_neg htk]
          have e1 : (lookS a t S).1 (15 + t) = 0 := by
            rw [e]
            show upN _ _ _ (15 + t) = _
            rw [upN_ne (by omega)]; exact hg
          rw [e1, e, if_neg (fun q => q.2 rfl), if_neg (fun q => q.2.1 rfl), z, z]
          exact ⟨rfl, rfl, fun t' h1 h2 => upN_ne (by omega)⟩
  · have e : lookS a t S = S := by unfold lookS; rw [if_neg hg]
    rw [e, if_neg (fun q => hg q.1), if_neg (fun q => hg q.1), z, z]
    exact ⟨rfl, rfl, fun _ _ _ => rfl⟩
theorem looks_cnt {a : Int32} {S : tS} (hV : gV S.1) : ∀ k, k ≤ S.1 1 → (looksS a k S).2.1 = S.2.1 + nI (cntN (fun j => inG 7 (looksS a k S).1 j && !inG 7 S.1 j) k) ∧ (looksS a k S).2.2 = S.2.2 + nI (cntN (fun j => inG 5 (looksS a k S).1 j && !inG 7 S.1 j) k) ∧ ∀ t, k ≤ t → t < 6 → (looksS a k S).1 (15 + t) = S.1 (15 + t)
  | 0, _ => ⟨(Int32.add_zero _).symm, (Int32.add_zero _).symm, fun _ _ _ => rfl⟩
  | k + 1, hk => by
    have h6 := hV.1.1.2
    obtain ⟨i1, i2, i3⟩ := looks_cnt (a := a) hV k (by omega)
    obtain ⟨-, l2⟩ := looks_W (a := a) hV.1 k (by omega)
    have lV := looks_V (a := a) hV k (by omega)
    obtain ⟨j1, j2, j3⟩ := look_cnt (a := a) (t := k) lV (by rw [l2 1 (by omega)]; omega)
    have e : looksS a (k + 1) S = lookS a k (looksS a k S) := rfl
    have ek := i3 k (Nat.le_refl _) (by omega)
    have c7 : cntN (fun j => inG 7 (lookS a k (looksS a k S)).1 j && !inG 7 S.1 j) k = cntN (fun j => inG 7 (looksS a k S).1 j && !inG 7 S.1 j) k := cntN_cong (fun j hj => by
      have : inG 7 (lookS a k (looksS a k S)).1 j = inG 7 (looksS a k S).1 j := by unfold inG; rw [j3 j (by omega) (by omega)]; rfl
      simp only [this])
    have c5 : cntN (fun j => inG 5 (lookS a k (looksS a k S)).1 j && !inG 7 S.1 j) k = cntN (fun j => inG 5 (looksS a k S).1 j && !inG 7 S.1 j) k := cntN_cong (fun j hj => by
      have : inG 5 (lookS a k (looksS a k S)).1 j = inG 5 (looksS a k S).1 j := by unfold inG; rw [j3 j (by omega) (by omega)]; rfl
      simp only [this])
    rw [e, j1, j2, i1, i2, cntN, cntN, c7, c5, ek, Int32.add_assoc, Int32.add_assoc, nI_add, nI_add]
    refine ⟨?_, ?_, fun t h1 h2 => by rw [j3 t (by omega) h2]; exact i3 t (by omega) h2⟩
    · congr 3
      unfold inG
      by_cases q1 : S.1 (15 + k) = 0 <;> by_cases q2 : (lookS a k (looksS a k S)).1 (15 + k) = 0 <;> simp [q1, q2]
    · congr 3
      unfold inG
      by_cases q1 : S.1 (15 + k) = 0 <;> by_cases q2 : (lookS a k (looksS a k S)).1 (15 + k) = 0 <;> by_cases q3 : (lookS a k (looksS a k S)).1 (15 + k) = k + 1 <;> simp [q1, q2, q3]
theorem tick_cnt {a : Int32} {S : tS} (hV : gV S.1) : (tickS a (fun j => j) S).2.1 = S.2.1 + nI (cntN (fun j => inG 7 (tickS a (fun j => j) S).1 j && !inG 7 S.1 j) (S.1 1)) ∧ (tickS a (fun j => j) S).2.2 = S.2.2 + nI (cntN (fun j => inG 5 (tickS a (fun j => j) S).1 j && !inG 7 S.1 j) (S.1 1)) := by
  have h6 := hV.1.1.2
  have p4 := hV.1.2.1.1
  have tV : gV (turnL (1 + S.1 0) (S.1 1) S.1) := turn_V hV (e := 1) (by omega) (by rw [Nat.add_mod_right, Nat.mod_eq_of_lt (by omega)])
  obtain ⟨tw, te⟩ := turn_W (d := 1 + S.1 0) hV.1
  obtain ⟨fw, fe⟩ := fall_W tw (rk := fun j => j) (fun j hj => hj)
  have fV := fall_V tV
  have e : ∀ k, k < 33 → fallG (fun j => j) (turnL (1 + S.1 0) (S.1 1) S.1) k = S.1 k := fun k hk => by rw [fe k hk, te k hk]
  obtain ⟨i1, i2, -⟩ := looks_cnt (a := a) (S := (fallG (fun j => j) (turnL (1 + S.1 0) (S.1 1) S.1), S.2.1, S.2.2)) fV (S.1 1) (by show _ ≤ fallG _ _ 1; rw [e 1 (by omega)]; exact Nat.le_refl _)
  have key : ∀ g, g = 5 ∨ g = 7 → ∀ j, j < 6 → inG g (tickS a (fun j => j) S).1 j = inG g (looksS a (S.1 1) (fallG (fun j => j) (turnL (1 + S.1 0) (S.1 1) S.1), S.2.1, S.2.2)).1 j := fun g hg j hj => by
    have : (tickS a (fun j => j) S).1 (15 + j) = (looksS a (S.1 1) (fallG (fun j => j) (turnL (1 + S.1 0) (S.1 1) S.1), S.2.1, S.2.2)).1 (15 + j) := by
      unfold tickS
      simp only []
      rw [upN_ne (by omega)]
    unfold inG
    rcases hg with rfl | rfl
    · simp only [this]
      rfl
    · simp only [this]
      rfl
  have k0 : ∀ j, j < 6 → inG 7 (fallG (fun j => j) (turnL (1 + S.1 0) (S.1 1) S.1)) j = inG 7 S.1 j := fun j hj => by
    unfold inG
    rw [e (15 + j) (by omega)]
    rfl
  refine ⟨?_, ?_⟩
  · refine (show (tickS a (fun j => j) S).2.1 = (looksS a (S.1 1) (fallG (fun j => j) (turnL (1 + S.1 0) (S.1 1) S.1), S.2.1, S.2.2)).2.1 from rfl).trans (i1.trans ?_)
    congr 2
    exact cntN_cong (fun j hj => by rw [key 7 (Or.inr rfl) j (by omega), ← k0 j (by omega)])
  · refine (show (tickS a (fun j => j) S).2.2 = (looksS a (S.1 1) (fallG (fun j => j) (turnL (1 + S.1 0) (S.1 1) S.1), S.2.1, S.2.2)).2.2 from rfl).trans (i2.trans ?_)
    congr 2
    exact cntN_cong (fun j hj => by rw [key 5 (Or.inl rfl) j (by omega), ← k0 j (by omega)])
