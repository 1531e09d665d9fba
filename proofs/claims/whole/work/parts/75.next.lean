/-! PURE: the reference's orders, one behind the other -/
def rkL (σ : List Nat) (j : Nat) : Nat := σ.getD j j
def fK (rk : Nat → Nat) : Nat → Option Nat
  | 0 => none
  | k + 1 => if rk (k + 1) < rk k then fK rk k else some k
def fQ (rk : Nat → Nat) (v : Nat) : Nat → Nat
  | 0 => 0
  | q + 1 => if rk (q + 1) < v then fQ rk v q else q + 1
def swp (rk : Nat → Nat) (a b : Nat) : Nat → Nat := upN (upN rk a (rk b)) b (rk a)
def rvs : Nat → Nat → Nat → (Nat → Nat) → Nat → Nat
  | 0, _, _, rk => rk
  | f + 1, a, b, rk => if a < b then rvs f (a + 1) (b - 1) (swp rk a b) else rk
def nextF (m : Nat) (rk : Nat → Nat) : Option (Nat → Nat) :=
  match fK rk (m - 1) with
  | none => none
  | some k => some (rvs 3 (k + 1) (m - 1) (swp rk k (fQ rk (rk k) (m - 1))))
def chn (m : Nat) : List (List Nat) → Bool
  | [] => false
  | [σ] => match nextF m (rkL σ) with | none => true | some _ => false
  | σ :: τ :: l => (match nextF m (rkL σ) with | none => false | some g => (List.range 6).all (fun j => g j == rkL τ j)) && chn m (τ :: l)
theorem chn_all : ∀ m, m < 7 → 1 ≤ m → chn m (prm m (List.range m)) = true := by decide +kernel
theorem swp_B {rk : Nat → Nat} (h : ∀ j, j < 6 → rk j < 6) {a b : Nat} (ha : a < 6) (hb : b < 6) : ∀ j, j < 6 → swp rk a b j < 6 := fun j hj => by
  have := h a ha
  have := h b hb
  have := h j hj
  unfold swp upN
  split
  · assumption
  · split <;> assumption
theorem ref_swap {M : Mem} {rk : Nat → Nat} (R : rkM M rk) {a b : Nat} (ha : a < 6) (hb : b < 6) : ∃ F, X8_swapRanks (nI a) (nI b) M = some (mset M 8 F) ∧ rkM (mset M 8 F) (swp rk a b) := by
  unfold X8_swapRanks
  simp (disch := omega) only [am_in_nI, nI_clamp, am_let_eq, mset_self, mset_mset, ↓reduceIte]
  refine ⟨_, rfl, fun j hj => ?_, swp_B R.2 ha hb⟩
  rw [mset_self]
  unfold swp upN upd
  by_cases c : j = b
  · rw [if_pos c, if_pos c]; exact R.1 a ha
  · rw [if_neg c, if_neg c]
    by_cases d : j = a
    · rw [if_pos d, if_pos d]; exact R.1 b hb
    · rw [if_neg d, if_neg d]; exact R.1 j hj
theorem i_m1 (x : Int32) : x + (-1) = x - 1 := (Int32.sub_eq_add_neg x 1).symm
theorem nr_78 : ∀ (g a b f : Nat) (M : Mem) (rk : Nat → Nat), rkM M rk → b ≤ a + 2 * g → b < 6 → a ≤ 6 → g < f → ∃ F, X8_nextRanks_78 f (nI a) (nI b) M = some (1, mset M 8 F) ∧ rkM (mset M 8 F) (rvs g a b rk)
  | 0, a, b, 0, M, rk, R, h, hb, ha, hf => absurd hf (Nat.not_lt_zero _)
  | 0, a, b, f + 1, M, rk, R, h, hb, ha, hf => by
    rw [X8_nextRanks_78, if_neg (nI_nlt (by omega) (by omega))]
    exact ⟨M 8, by rw [mset_id], by rw [mset_id]; exact R⟩
  | g + 1, a, b, 0, M, rk, R, h, hb, ha, hf => absurd hf (Nat.not_lt_zero _)
  | g + 1, a, b, f + 1, M, rk, R, h, hb, ha, hf => by
    by_cases c : a < b
    · rw [X8_nextRanks_78, if_pos (nI_lt c (by omega)), rvs, if_pos c]
      obtain ⟨F, e, R1⟩ := ref_swap R (a := a) (b := b) (by omega) hb
      rw [e, Option.bind_some, nI_1, i_m1, show nI b - 1 = nI (b - 1) from by rw [li_1, pk_sub (by omega)]]
      obtain ⟨F2, e2, R2⟩ := nr_78 g (a + 1) (b - 1) f _ _ R1 (by omega) (by omega) (by omega) (by omega)
      rw [mset_mset] at e2 R2
      exact ⟨F2, e2, R2⟩
    · rw [X8_nextRanks_78, if_neg (nI_nlt (by omega) (by omega)), rvs, if_neg c]
      exact ⟨M 8, by rw [mset_id], by rw [mset_id]; exact R⟩
theorem nr_41 {m : Nat} (hm : m < 7) {M : Mem} {rk : Nat → Nat} (R : rkM M rk) {k : Nat} (hk : k + 1 < m) (hlt : ¬ rk (k + 1) < rk k) : ∀ (q f : Nat), k + 1 ≤ q → q < m → q < f → ∃ F, X8_nextRanks_41 f (nI m) (nI k) (nI q) M = some (1, mset M 8 F) ∧ rkM (mset M 8 F) (rvs 3 (k + 1) (m - 1) (swp rk k (fQ rk (rk k) q)))
  | 0, f, h1, _, _ => by omega
  | q + 1, 0, _, _, hf => absurd hf (Nat.not_lt_zero _)
  | q + 1, f + 1, h1, h2, hf => by
    have r1 := R.2 (q + 1) (by omega)
    have r2 := R.2 k (by omega)
    rw [X8_nextRanks_41, am_in_nI (by omega) (by omega), if_pos rfl, am_in_nI (by omega) (by omega), if_pos rfl, nI_clamp (by omega), nI_clamp (by omega), R.1 _ (by omega), R.1 _ (by omega), fQ]
    simp only [nI_ltI (show rk (q + 1) < 2 ^ 31 by omega) (show rk k < 2 ^ 31 by omega)]
    by_cases c : rk (q + 1) < rk k
    · rw [if_pos c, if_pos c, i_m1, nI_pred]
      have : k ≠ q := fun e => hlt (by rw [e]; rw [e] at c; exact c)
      exact nr_41 hm R hk hlt q f (by omega) (by omega) (by omega)
    · rw [if_neg c, if_neg c]
      obtain ⟨F, e, R1⟩ := ref_swap R (a := k) (b := q + 1) (by omega) (by omega)
      rw [e, Option.bind_some, nI_1, show nI m - 1 = nI (m - 1) from by rw [li_1, pk_sub (by omega)]]
      obtain ⟨F2, e2, R2⟩ := nr_78 3 (k + 1) (m - 1) am_fuel _ _ R1 (by omega) (by omega) (by omega) (by show 3 < 2000; omega)
      rw [mset_mset] at e2 R2
      exact ⟨F2, e2, R2⟩
theorem nr_4 {m : Nat} (hm : m < 7) {M : Mem} {rk : Nat → Nat} (R : rkM M rk) : ∀ (j f : Nat), j < m → j < f → (fK rk j = none ∧ X8_nextRanks_4 f (nI m) (nI j - 1) M = some (0, M)) ∨ ∃ k F, fK rk j = some k ∧ X8_nextRanks_4 f (nI m) (nI j - 1) M = some (1, mset M 8 F) ∧ rkM (mset M 8 F) (rvs 3 (k + 1) (m - 1) (swp rk k (fQ rk (rk k) (m - 1))))
  | 0, 0, _, hf => absurd hf (Nat.not_lt_zero _)
  | 0, f + 1, h, _ => by
    left
    rw [X8_nextRanks_4, if_pos (show nI 0 - 1 < 0 by decide), if_pos (show nI 0 - 1 < 0 by decide)]
    exact ⟨rfl, rfl⟩
  | j + 1, 0, _, hf => absurd hf (Nat.not_lt_zero _)
  | j + 1, f + 1, h, hf => by
    have r1 := R.2 (j + 1) (by omega)
    have r2 := R.2 j (by omega)
    rw [nI_pred, X8_nextRanks_4, if_neg (nI_pos (by omega)), nI_1, am_in_nI (by omega) (by omega), if_pos rfl, am_in_nI (by omega) (by omega), if_pos rfl, nI_clamp (by omega), nI_clamp (by omega), R.1 _ (by omega), R.1 _ (by omega), fK]
    simp only [nI_ltI (show rk (j + 1) < 2 ^ 31 by omega) (show rk j < 2 ^ 31 by omega)]
    by_cases c : rk (j + 1) < rk j
    · rw [if_pos c, if_pos c, i_m1]
      exact nr_4 hm R j f (by omega) (by omega)
    · right
      rw [if_neg c, if_neg c, if_neg (nI_pos (by omega)), show nI m - 1 = nI (m - 1) from by rw [li_1, pk_sub (by omega)]]
      obtain ⟨F, e, R1⟩ := nr_41 hm R (k := j) (by omega) c (m - 1) am_fuel (by omega) (by omega) (by show _ < 2000; omega)
      exact ⟨j, F, rfl, e, R1⟩
theorem m_2 : ∀ m, m < 7 → 1 ≤ m → nI m - 2 = nI (m - 1) - 1 := by decide +kernel
theorem ref_next {m : Nat} (hm : m < 7) (h1 : 1 ≤ m) {M : Mem} {rk : Nat → Nat} (R : rkM M rk) : (nextF m rk = none ∧ X8_nextRanks (nI m) M = some (0, M)) ∨ ∃ F rk', nextF m rk = some rk' ∧ X8_nextRanks (nI m) M = some (1, mset M 8 F) ∧ rkM (mset M 8 F) rk' := by
  unfold X8_nextRanks nextF
  rw [m_2 m hm h1]
  rcases nr_4 hm R (m - 1) am_fuel (by omega) (by show _ < 2000; omega) with ⟨a, b⟩ | ⟨k, F, a, b, c⟩
  · left
    rw [a]; exact ⟨rfl, b⟩
  · right
    rw [a]; exact ⟨F, _, rfl, b, c⟩
/-! ticks by an order -/
theorem cartG_spec (rk G : Nat → Nat) : ∀ k, (cartG rk G k = 0 ∧ ∀ j, j < k → G (33 + rk j) ≠ 20) ∨ ∃ j, j < k ∧ cartG rk G k = j + 1 ∧ G (33 + rk j) = 20 ∧ ∀ i, i < j → G (33 + rk i) ≠ 20
  | 0 => Or.inl ⟨rfl, fun j h => absurd h (Nat.not_lt_zero _)⟩
  | k + 1 => by
    rcases cartG_spec rk G k with ⟨h0, hn⟩ | ⟨b, hb, e, hp, hn⟩
    · by_cases c : G (33 + rk k) = 20
      · exact Or.inr ⟨k, by omega, by rw [cartG, if_pos h0, if_pos c], c, hn⟩
      · refine Or.inl ⟨by rw [cartG, if_pos h0, if_neg c], fun b hb => ?_⟩
        by_cases q : b = k
        · rw [q]; exact c
        · exact hn b (by omega)
    · exact Or.inr ⟨b, by omega, by rw [cartG, e, if_neg (by omega)], hp, hn⟩
theorem rkL_lt {σ : List Nat} {j : Nat} (h : j < σ.length) : rkL σ j = σ[j] := by
  unfold rkL
  rw [List.getD_eq_getElem?_getD, List.getElem?_eq_getElem h]; rfl
theorem fall_L {σ : List Nat} {T : Nat → Nat} (h : σ.length = T 1) : fallG (rkL σ) T = fllL σ T := by
  unfold fallG fllL
  by_cases c : bagG T 0 (T 1) = 0
  · rw [if_pos c, if_pos c]
    rcases cartG_spec (rkL σ) T (T 1) with ⟨h0, hn⟩ | ⟨j, hj, e, hp, hn⟩
    · rw [if_pos h0]
      have : σ.find? (fun c => decide (T (33 + c) = 20)) = none := by
        rw [List.find?_eq_none]
        intro x hx
        rw [decide_eq_true_eq]
        obtain ⟨i, hi, ei⟩ := List.getElem_of_mem hx
        have := hn i (by omega)
        rw [rkL_lt hi, ei] at this
        exact this
      rw [this]
    · rw [e, if_neg (by omega), Nat.add_sub_cancel]
      have : σ.find? (fun c => decide (T (33 + c) = 20)) = some (rkL σ j) := by
        rw [List.find?_eq_some_iff_getElem]
        refine ⟨decide_eq_true hp, j, by omega, (rkL_lt (by omega)).symm, fun i hi => ?_⟩
        have := hn i hi
        rw [rkL_lt (by omega)] at this
        simp [this]
      rw [this]
  · rw [if_neg c, if_neg c]
theorem tick_L {σ : List Nat} {S : tS} (hV : gV S.1) (h : σ.length = S.1 1) (hσ : ∀ c, c ∈ σ → c < S.1 1) : (tickS 0 (rkL σ) S).1 = ltkG (fllL σ (trnG S.1)) := by
  obtain ⟨t1, t2, t3⟩ := trn_V hV
  obtain ⟨-, f2, -⟩ := fll_V t1 (σ := σ) (fun c hc => by rw [t2 1 (by omega)]; exact hσ c hc)
  have e1 : fllL σ (trnG S.1) 1 = S.1 1 := by rw [f2 1 (by omega), t2 1 (by omega)]
  unfold tickS
  simp only []
  rw [show turnL (1 + S.1 0) (S.1 1) S.1 = trnG S.1 from rfl, fall_L (by rw [t2 1 (by omega)]; exact h)]
  unfold ltkG
  rw [e1, looks_1 (S := (fllL σ (trnG S.1), S.2.1, S.2.2)) (S' := (fllL σ (trnG S.1), 0, 0)) rfl]
theorem ticks_L {σ : List Nat} : ∀ (n : Nat) (S : tS), gV S.1 → S.1 2 + n < 1900 → σ.length = S.1 1 → (∀ c, c ∈ σ → c < S.1 1) → (ticksS 0 (rkL σ) n S).1 = simL n σ S.1 ∧ gV (simL n σ S.1) ∧ simL n σ S.1 1 = S.1 1
  | 0, S, hV, _, _, _ => ⟨rfl, hV, rfl⟩
  | n + 1, S, hV, h2, h, hσ => by
    obtain ⟨s1, s2, s3, s4⟩ := stp_V hV (by omega) hσ
    have e := tick_L hV h hσ
    rw [ticksS, simL]
    have ih := ticks_L (σ := σ) n (tickS 0 (rkL σ) S) (by rw [e]; exact s1) (by rw [e, s3]; omega) (by rw [e, s2]; exact h) (fun c hc => by rw [e, s2]; exact hσ c hc)
    rw [e] at ih
    exact ⟨ih.1, ih.2.1, ih.2.2.trans s2⟩
