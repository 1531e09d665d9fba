/-! PURE: the class weighs -/
def bsX (o : Option ((Nat × Nat) × List Nat)) (M : Mem) : Prop :=
  match o with
  | none => M 34 8 = -1
  | some q => M 34 8 = nI q.1.1 ∧ M 34 9 = nI q.1.2 ∧ M 34 6 = nI q.2.length ∧ q.2.length ≤ 6 ∧ (∀ i, i < q.2.length → M 39 i = nI (q.2.getD i 0)) ∧ q.1.1 < 2000 ∧ q.1.2 < 2000
theorem bsX.c {o : Option ((Nat × Nat) × List Nat)} {M M' : Mem} (h : bsX o M) (e34 : M' 34 = M 34) (e39 : M' 39 = M 39) : bsX o M' := by
  unfold bsX at h ⊢
  rw [e34, e39]; exact h
section WE
variable {M : Mem} {sh : Nat} {G : Nat → Nat}
theorem cx_letTake (H : HX M 23 0 sh G) (h2 : G 2 < 1900) : ∃ M', X3_letTake 23 M = some M' ∧ HX M' 23 0 sh (ltkG G) ∧ frm M M' 23 := by
  have hP := hx_P H
  obtain ⟨M3, c1, c2, c3⟩ := cx_letTake_loop (S := (G, 0, 0)) (h := 23) (a := 0) (sh := sh) H.2.1 (G 1) 0 am_fuel M H (by show G 1 - 0 = _; omega) (Nat.zero_le _) (by show G 1 < 2000; omega) h2
  obtain ⟨-, l2⟩ := looks_W (a := 0) (S := (G, 0, 0)) H.2.1.1 (G 1) (Nat.le_refl _)
  refine ⟨M3, c1, ?_, c3⟩
  unfold ltkG
  rw [show (looksS 0 (G 1) (G, 0, 0)).1 2 = G 2 from l2 2 (by omega)]
  exact c2
theorem cx_own_loop (H : HX M 23 0 sh G) : ∀ (d k f : Nat), G 1 - k = d → k ≤ G 1 → d < f → X4_ownCount_4 M f (nI (ownN G k)) (nI k) = some (nI (ownN G (G 1)))
  | 0, k, 0, _, _, hf => absurd hf (Nat.not_lt_zero _)
  | 0, k, f + 1, hd, hk, _ => by
    have hP := hx_P H
    have e : k = G 1 := by omega
    subst e
    rw [X4_ownCount_4, H.1.1.2.1, if_neg (nI_nlt (Nat.le_refl _) (by omega))]
  | d + 1, k, 0, _, _, hf => absurd hf (Nat.not_lt_zero _)
  | d + 1, k, f + 1, hd, hk, hf => by
    have hP := hx_P H
    have ih := cx_own_loop H d (k + 1) f (by omega) (by omega) (by omega)
    rw [X4_ownCount_4, H.1.1.2.1, if_pos (nI_lt (by omega) (by omega)), cx_hasOwn H (by omega), Option.bind_some, nI_1, nI_1]
    rw [ownN] at ih
    by_cases c : G (15 + k) = k + 1
    · rw [if_pos c] at ih
      rw [decide_eq_true c, if_neg (show ¬ bI true = 0 by decide)]
      exact ih
    · rw [if_neg c] at ih
      rw [decide_eq_false c, if_pos (show bI false = 0 from rfl), li_0, nI_add]
      exact ih
theorem cx_own (H : HX M 23 0 sh G) : X4_ownCount M = some (nI (ownN G (G 1))) := by
  have hP := hx_P H
  exact cx_own_loop H (G 1) 0 am_fuel (by omega) (by omega) (by show G 1 < 2000; omega)
theorem cx_hope_loop (H : HX M 23 0 sh G) : ∀ (d k f : Nat), G 1 - k = d → k ≤ G 1 → d < f → X4_mayBeBetter_4 M f (nI (hopeN G k)) (nI k) = X4_mayBeBetter_4 M 1 (nI (hopeN G (G 1))) (nI (G 1))
  | 0, k, 0, _, _, hf => absurd hf (Nat.not_lt_zero _)
  | 0, k, f + 1, hd, hk, _ => by
    have hP := hx_P H
    have e : k = G 1 := by omega
    subst e
    rw [X4_mayBeBetter_4, X4_mayBeBetter_4, H.1.1.2.1, if_neg (nI_nlt (Nat.le_refl _) (by omega)), if_neg (nI_nlt (Nat.le_refl _) (by omega))]
  | d + 1, k, 0, _, _, hf => absurd hf (Nat.not_lt_zero _)
  | d + 1, k, f + 1, hd, hk, hf => by
    have hP := hx_P H
    have ih := cx_hope_loop H d (k + 1) f (by omega) (by omega) (by omega)
    rw [X4_mayBeBetter_4, H.1.1.2.1, if_pos (nI_lt (by omega) (by omega)), cx_hasOwn H (by omega), Option.bind_some, nI_1, nI_1, li_0, nI_add, Nat.add_zero, ← li_0]
    rw [hopeN] at ih
    have e := hp_iff G k
    by_cases c : G (15 + k) = k + 1
    · rw [if_pos (e.mpr (Or.inl c))] at ih
      rw [decide_eq_true c, if_neg (show ¬ bI true = 0 by decide)]
      exact ih
    · rw [decide_eq_false c, if_pos (show bI false = 0 from rfl), cx_waits H (by omega), Option.bind_some]
      by_cases c1 : G (15 + k) = 0
      · rw [decide_eq_true c1, if_neg (show ¬ bI true = 0 by decide), cx_isTaken H (by omega), Option.bind_some]
        by_cases c2 : 30 ≤ G (33 + k)
        · rw [if_neg (by rw [e]; omega)] at ih
          rw [decide_eq_true c2, if_neg (show ¬ bI true = 0 by decide)]
          exact ih
        · rw [if_pos (e.mpr (Or.inr ⟨c1, by omega⟩))] at ih
          rw [decide_eq_false c2, if_pos (show bI false = 0 from rfl)]
          exact ih
      · rw [if_neg (by rw [e]; omega)] at ih
        rw [decide_eq_false c1, if_pos (show bI false = 0 from rfl)]
        exact ih
theorem m1_lt {a : Nat} (h : a < 2000) : (-1 : Int32) < nI a := by
  rw [Int32.lt_iff_toInt_lt, nI_toInt (by omega), show (-1 : Int32).toInt = -1 by decide]; omega
/-- pruned only where nothing is to hope for -/
theorem cx_may {o : Option ((Nat × Nat) × List Nat)} (H : HX M 23 0 sh G) (hb : bsX o M) : X4_mayBeBetter M = some 1 ∨ (X4_mayBeBetter M = some 0 ∧ ∃ q, o = some q ∧ ¬ q.1.1 < hopeN G (G 1) ∧ (hopeN G (G 1) = q.1.1 → ¬ sumG G (G 1) < q.1.2)) := by
  have hP := hx_P H
  have hh := hope_le G (G 1)
  have hs := sumG_le H.2.1.1 (G 1) hP.2.2
  have e : X4_mayBeBetter M = X4_mayBeBetter_4 M 1 (nI (hopeN G (G 1))) (nI (G 1)) := cx_hope_loop H (G 1) 0 am_fuel (by omega) (by omega) (by show G 1 < 2000; omega)
  rw [e, X4_mayBeBetter_4, H.1.1.2.1, if_neg (nI_nlt (Nat.le_refl _) (by omega)), cx_seen H, Option.bind_some]
  cases o with
  | none =>
    left
    have hb : M 34 8 = -1 := hb
    rw [hb, if_pos (m1_lt (by omega))]
  | some q =>
    obtain ⟨b1, b2, b3, b4, b5, b6, b7⟩ := hb
    rw [b1, b2]
    simp only [nI_ltI (show q.1.1 < 2 ^ 31 by omega) (show hopeN G (G 1) < 2 ^ 31 by omega), nI_eq (show hopeN G (G 1) < 2 ^ 31 by omega) (show q.1.1 < 2 ^ 31 by omega), nI_ltI (show sumG G (G 1) < 2 ^ 31 by omega) (show q.1.2 < 2 ^ 31 by omega)]
    by_cases c1 : q.1.1 < hopeN G (G 1)
    · left; rw [if_pos c1]
    · rw [if_neg c1]
      by_cases c2 : hopeN G (G 1) = q.1.1
      · rw [if_pos c2]
        by_cases c3 : sumG G (G 1) < q.1.2
        · left; rw [if_pos c3]
        · right
          rw [if_neg c3]
          exact ⟨rfl, q, rfl, c1, fun _ => c3⟩
      · right
        rw [if_neg c2]
        exact ⟨rfl, q, rfl, c1, fun z => absurd z c2⟩
theorem cx_weigh37 {d : Nat} {pf : List Nat} (hl : pf.length = d) (hd : d ≤ 6) (h38 : ∀ i, i < d → M 38 i = nI (pf.getD i 0)) {a b : Nat} (ha : a < 2000) (hb : b < 2000) : ∃ M', X4_weigh_37 (nI d) (nI a) (nI b) M = some M' ∧ bsX (some ((a, b), pf)) M' ∧ (∀ q, q ≠ 34 → q ≠ 39 → M' q = M q) ∧ ∀ j, j ≠ 6 → j ≠ 8 → j ≠ 9 → M' 34 j = M 34 j := by
  unfold X4_weigh_37
  simp only [am_let_eq, mset_self, mset_mset]
  rw [if_pos (show am_cp (0 : Int32) (0 : Int32) (6 : Int32) 6 6 = true by decide), show (0 : Int32).toNatClampNeg = 0 by decide, show (6 : Int32).toNatClampNeg = 6 by decide, if_neg (show ¬ (6 : Int32) < nI d by rw [li_6]; exact nI_nlt hd (by omega))]
  refine ⟨_, rfl, ⟨?_, ?_, ?_, ?_, fun i hi => ?_, ha, hb⟩, fun q h1 h2 => ?_, fun j h1 h2 h3 => ?_⟩
  · rw [mset_ne _ _ (by omega), mset_self, upd_ne (by omega), upd_ne (by omega), upd_same]
  · rw [mset_ne _ _ (by omega), mset_self, upd_ne (by omega), upd_same]
  · rw [mset_ne _ _ (by omega), mset_self, upd_same, hl]
  · show pf.length ≤ 6
    omega
  · have hi : i < pf.length := hi
    rw [mset_self, mset_ne _ _ (by omega)]
    unfold va_cpy
    rw [if_pos (by omega), show 0 + (i - 0) = i by omega]
    exact h38 i (by omega)
  · rw [mset_ne _ _ h2, mset_ne _ _ h1]
  · rw [mset_ne _ _ (by omega), mset_self, upd_ne h1, upd_ne h3, upd_ne h2]
theorem cx_weigh {o : Option ((Nat × Nat) × List Nat)} {d : Nat} {pf : List Nat} (H : HX M 23 0 sh G) (hb : bsX o M) (hl : pf.length = d) (hd : d ≤ 6) (h38 : ∀ i, i < d → M 38 i = nI (pf.getD i 0)) : ∃ M', X4_weigh (nI d) M = some M' ∧ bsX (bF o (wgh G, pf)) M' ∧ (∀ q, q ≠ 34 → q ≠ 39 → M' q = M q) ∧ ∀ j, j ≠ 6 → j ≠ 8 → j ≠ 9 → M' 34 j = M 34 j := by
  have hP := hx_P H
  have hh := own_le G (G 1)
  have hs := sumG_le H.2.1.1 (G 1) hP.2.2
  have w37 := cx_weigh37 (M := M) hl hd h38 (a := ownN G (G 1)) (b := sumG G (G 1)) (by omega) (by omega)
  unfold X4_weigh
  rw [cx_own H, Option.bind_some, cx_seen H, Option.bind_some]
  cases o with
  | none =>
    have hb : M 34 8 = -1 := hb
    rw [hb, if_pos (m1_lt (by omega))]
    exact w37
  | some q =>
    have e : bF (some q) (wgh G, pf) = if btr (wgh G) q.1 then some (wgh G, pf) else some q := rfl
    have no : ¬ bt (wgh G) q.1 → ∃ M', some M = some M' ∧ bsX (bF (some q) (wgh G, pf)) M' ∧ (∀ q, q ≠ 34 → q ≠ 39 → M' q = M q) ∧ ∀ j, j ≠ 6 → j ≠ 8 → j ≠ 9 → M' 34 j = M 34 j := fun z => by
      rw [e, if_neg (by rw [btr_iff]; exact z)]
      exact ⟨M, rfl, hb, fun _ _ _ => rfl, fun _ _ _ _ => rfl⟩
    have yes : bt (wgh G) q.1 → bF (some q) (wgh G, pf) = some ((ownN G (G 1), sumG G (G 1)), pf) := fun z => by
      rw [e, if_pos ((btr_iff _ _).mpr z)]; rfl
    obtain ⟨b1, b2, b3, b4, b5, b6, b7⟩ := id hb
    rw [b1, b2]
    simp only [nI_ltI (show q.1.1 < 2 ^ 31 by omega) (show ownN G (G 1) < 2 ^ 31 by omega), nI_eq (show ownN G (G 1) < 2 ^ 31 by omega) (show q.1.1 < 2 ^ 31 by omega), nI_ltI (show sumG G (G 1) < 2 ^ 31 by omega) (show q.1.2 < 2 ^ 31 by omega)]
    by_cases c1 : q.1.1 < ownN G (G 1)
    · rw [if_pos c1, yes (Or.inl c1)]; exact w37
    · rw [if_neg c1]
      by_cases c2 : ownN G (G 1) = q.1.1
      · rw [if_pos c2]
        by_cases c3 : sumG G (G 1) < q.1.2
        · rw [if_pos c3, yes (Or.inr ⟨c2, c3⟩)]; exact w37
        · rw [if_neg c3]
          exact no (by unfold bt wgh; simp only []; omega)
      · rw [if_neg c2]
        exact no (by unfold bt wgh; simp only []; omega)
end WE
