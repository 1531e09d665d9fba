/-! PURE: the reference's halls, copied; its sets and sums -/
def atM (M : Mem) (b : Nat) (G : Nat → Nat) : Prop := ∀ k, k < 39 → M 1 (b + k) = cI k (G k)
theorem atM_wr {M : Mem} {b : Nat} {G : Nat → Nat} (h : atM M b G) : wrM M b G = M := by
  unfold wrM
  rw [show (fun j => if b ≤ j ∧ j < b + 39 then cI (j - b) (G (j - b)) else M 1 j) = M 1 from funext (fun j => by
    by_cases c : b ≤ j ∧ j < b + 39
    · rw [if_pos c, ← h (j - b) (by omega), show b + (j - b) = j by omega]
    · rw [if_neg c]), mset_id]
theorem atM_of (M : Mem) (b : Nat) (G : Nat → Nat) : atM (wrM M b G) b G := fun _ hk => wrM_at M b G hk
theorem atM_out {M : Mem} {b c : Nat} {G G' : Nat → Nat} (h : atM M b G) (hd : b + 39 ≤ c ∨ c + 39 ≤ b) : atM (wrM M c G') b G := fun k hk => by rw [wrM_out M c G' (by omega)]; exact h k hk
theorem atM_cong {M M' : Mem} {b : Nat} {G : Nat → Nat} (h : atM M b G) (e : ∀ k, k < 39 → M' 1 (b + k) = M 1 (b + k)) : atM M' b G := fun k hk => by rw [e k hk]; exact h k hk
theorem ref_copy_loop {a b : Nat} (ha : a + 39 ≤ 1092) (hb : b + 39 ≤ 1092) (hd : a + 39 ≤ b ∨ b + 39 ≤ a) : ∀ (d k f : Nat) (M : Mem), 39 - k = d → k ≤ 39 → d < f → X8_copyHall_2 f (nI a) (nI b) (nI k) M = some (mset M 1 (fun j => if b + k ≤ j ∧ j < b + 39 then M 1 (a + (j - b)) else M 1 j))
  | 0, k, 0, _, _, _, hf => absurd hf (Nat.not_lt_zero _)
  | 0, k, f + 1, M, hdd, hk, _ => by
    have e : k = 39 := by omega
    subst e
    rw [X8_copyHall_2, li_39, if_neg (nI_nlt (Nat.le_refl _) (by omega)), show (fun j => if b + 39 ≤ j ∧ j < b + 39 then M 1 (a + (j - b)) else M 1 j) = M 1 from funext (fun j => if_neg (by omega)), mset_id]
  | d + 1, k, 0, _, _, _, hf => absurd hf (Nat.not_lt_zero _)
  | d + 1, k, f + 1, M, hdd, hk, hf => by
    rw [X8_copyHall_2]
    simp (disch := omega) only [li_39, li_1, nI_add, am_in_nI, nI_clamp, nI_ltI, if_pos (show k < 39 by omega), am_let_eq, ↓reduceIte]
    rw [ref_copy_loop ha hb hd d (k + 1) f _ (by omega) (by omega) (by omega), mset_mset, mset_self]
    congr 2
    funext j
    by_cases c : b + (k + 1) ≤ j ∧ j < b + 39
    · rw [if_pos c, if_pos (by omega), upd_ne (by omega)]
    · rw [if_neg c]
      by_cases c2 : j = b + k
      · rw [c2, upd_same, if_pos (by omega), show b + k - b = k by omega]
      · rw [upd_ne c2, if_neg (by omega)]
theorem ref_copyHall {M : Mem} {a b : Nat} {G : Nat → Nat} (h : atM M a G) (ha : a + 39 ≤ 1092) (hb : b + 39 ≤ 1092) (hd : a + 39 ≤ b ∨ b + 39 ≤ a) : X8_copyHall (nI a) (nI b) M = some (wrM M b G) := by
  unfold X8_copyHall
  rw [li_0, ref_copy_loop ha hb hd 39 0 am_fuel M (by omega) (by omega) (by decide)]
  unfold wrM
  congr 2
  funext j
  by_cases c : b ≤ j ∧ j < b + 39
  · rw [if_pos (by omega), if_pos c, h _ (by omega)]
  · rw [if_neg (by omega), if_neg c]
theorem ref_lay {M : Mem} {G : Nat → Nat} (h : atM M 0 G) : X8_layTried M = some (wrM M 1053 G) := by
  unfold X8_layTried
  rw [li_0, li_1053, ref_copyHall h (by omega) (by omega) (by omega)]; rfl
theorem ref_keep_loop : ∀ (d k f : Nat) (M : Mem), M 0 1 = nI 24 → 897 - k = d → k ≤ 897 → d < f → X8_keepPast_2 f (nI k) M = X8_keepPast_61 1 (nI 24) (mset M 1 (fun j => if 39 + k ≤ j ∧ j < 936 then M 1 (j + 39) else M 1 j))
  | 0, k, 0, _, _, _, _, hf => absurd hf (Nat.not_lt_zero _)
  | 0, k, f + 1, M, h1, hdd, hk, _ => by
    have e : k = 897 := by omega
    subst e
    rw [X8_keepPast_2, li_897, if_neg (nI_nlt (Nat.le_refl _) (by omega)), h1, if_pos (by rfl), show (fun j => if 39 + 897 ≤ j ∧ j < 936 then M 1 (j + 39) else M 1 j) = M 1 from funext (fun j => if_neg (by omega)), mset_id]
  | d + 1, k, 0, _, _, _, _, hf => absurd hf (Nat.not_lt_zero _)
  | d + 1, k, f + 1, M, h1, hdd, hk, hf => by
    have l78 : (78 : Int32) = nI 78 := Eq.symm (by decide)
    rw [X8_keepPast_2, h1]
    simp (disch := omega) only [li_897, li_24, li_1, li_39, l78, nI_add, am_in_nI, nI_clamp, nI_ltI, if_pos (show k < 897 by omega), am_let_eq, ↓reduceIte]
    rw [ref_keep_loop d (k + 1) f _ (by rw [mset_ne _ _ (by omega)]; exact h1) (by omega) (by omega) (by omega), mset_mset, mset_self]
    congr 2
    funext j
    by_cases c : 39 + (k + 1) ≤ j ∧ j < 936
    · rw [if_pos c, if_pos (by omega), upd_ne (by omega)]
    · rw [if_neg c]
      by_cases c2 : j = 39 + k
      · rw [c2, upd_same, if_pos (by omega)]; congr 1; omega
      · rw [upd_ne c2, if_neg (by omega)]
/-- what keepPast leaves -/
theorem ref_keepPast {M : Mem} {u : Nat} {G : Nat → Nat} (h0 : atM M 0 G) (hu : u ≤ 24) (e1 : M 0 1 = nI u) : ∃ M', X8_keepPast M = some M' ∧ (∀ q, q ≠ 0 → q ≠ 1 → M' q = M q) ∧ M' 0 = upd (M 0) 1 (nI (if u = 24 then 24 else u + 1)) ∧
    (∀ j, j < 39 ∨ 975 ≤ j → M' 1 j = M 1 j) ∧ atM M' (39 + 39 * (if u = 24 then 23 else u)) G ∧
    (∀ i k, i < (if u = 24 then 23 else u) → k < 39 → M' 1 (39 + 39 * i + k) = M 1 (39 + 39 * (if u = 24 then i + 1 else i) + k)) := by
  have key : ∀ (N : Mem) (v : Nat), v ≤ 23 → atM N 0 G → ∀ s0 s1 : Int32, s1 - s0 = nI v → X8_keepPast_61 s0 s1 N = some (mset (wrM N (39 + 39 * v) G) 0 (upd (N 0) 1 (nI (v + 1)))) := by
    intro N v hv hN s0 s1 hs
    unfold X8_keepPast_61
    rw [hs]
    have hm : ∀ x : Nat, x ≤ 23 → nI 39 * nI x = nI (39 * x) := fun x hx => by
      show Int32.ofNat 39 * Int32.ofNat x = Int32.ofNat (39 * x)
      rw [Int32.ofNat_mul]
    simp only [am_let_eq, mset_self, upd_same, li_39, li_0]
    rw [hm v hv, nI_add, ref_copyHall (G := G) (fun k hk => by rw [mset_ne _ _ (by omega)]; exact hN k hk) (by omega) (by omega) (by omega), Option.bind_some]
    rw [wrM_ne _ _ _ (by omega), mset_self, upd_same, nI_1]
    congr 1
    rw [← wrM_mset _ _ _ _ (by omega), mset_mset]
    congr 1
    funext j
    unfold upd
    split <;> rfl
  unfold X8_keepPast
  rw [li_0]
  by_cases c : u = 24
  · subst c
    rw [ref_keep_loop 897 0 am_fuel M e1 (by omega) (by omega) (by decide), key _ 23 (by omega) (fun k hk => by rw [mset_self, if_neg (by omega)]; exact h0 k hk) 1 (nI 24) (by decide)]
    refine ⟨_, rfl, fun q q0 q1 => ?_, ?_, fun j hj => ?_, ?_, fun i k hi hk => ?_⟩
    · rw [mset_ne _ _ q0, wrM_ne _ _ _ q1, mset_ne _ _ q1]
    · rw [mset_self, mset_ne _ _ (by omega)]; rfl
    · rw [mset_ne _ _ (by omega), wrM_out _ _ _ (by omega), mset_self, if_neg (by omega)]
    · intro k hk
      rw [mset_ne _ _ (by omega)]
      exact wrM_at _ _ _ hk
    · simp only [↓reduceIte] at hi ⊢
      rw [mset_ne _ _ (by omega), wrM_out _ _ _ (by omega), mset_self, if_pos (by omega)]
      congr 1; omega
  · have n24 : ¬ nI u = (24 : Int32) := by rw [li_24, nI_eq (by omega) (by omega)]; exact c
    show ∃ M', X8_keepPast_2 (1999 + 1) (nI 0) M = some M' ∧ _
    rw [X8_keepPast_2, if_pos (show nI 0 < (897 : Int32) by decide), e1, if_neg n24, if_neg n24, key M u (by omega) h0 0 (nI u) (by rw [li_0, pk_sub (by omega)]; rfl)]
    refine ⟨_, rfl, fun q q0 q1 => ?_, ?_, fun j hj => ?_, ?_, fun i k hi hk => ?_⟩
    · rw [mset_ne _ _ q0, wrM_ne _ _ _ q1]
    · rw [mset_self, if_neg c]
    · rw [mset_ne _ _ (by omega), wrM_out _ _ _ (by omega)]
    · rw [if_neg c]
      intro k hk
      rw [mset_ne _ _ (by omega)]
      exact wrM_at _ _ _ hk
    · rw [if_neg c] at hi
      rw [if_neg c, mset_ne _ _ (by omega), wrM_out _ _ _ (by omega)]
