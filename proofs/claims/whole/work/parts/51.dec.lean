/-! PURE: an argument is in a range, or it isn't -/
theorem nI_is {x : Int32} {n : Nat} (h : x.toInt = n) (hn : n < 2000) : x = nI n := Int32.toInt_inj.mp (by rw [h, nI_toInt (by omega)])
theorem rng (x : Int32) (lo hi : Nat) (h : hi < 2000) (hl : lo < 2000) : (((x < nI lo) ∨ (nI hi < x)) ∧ ∀ y z : Int64, y.toInt = lo → z.toInt = hi → X8_in x.toInt64 y z = some 0) ∨ ∃ n, lo ≤ n ∧ n ≤ hi ∧ x = nI n ∧ ∀ y z : Int64, y.toInt = lo → z.toInt = hi → X8_in x.toInt64 y z = some 1 := by
  by_cases c : (lo : Int) ≤ x.toInt ∧ x.toInt ≤ hi
  · refine Or.inr ⟨x.toInt.toNat, by omega, by omega, nI_is (by omega) (by omega), fun y z hy hz => ?_⟩
    rw [in_spec, i64_32, hy, hz, decide_eq_true c]; rfl
  · refine Or.inl ⟨?_, fun y z hy hz => ?_⟩
    · rw [Int32.lt_iff_toInt_lt, Int32.lt_iff_toInt_lt, nI_toInt (by omega), nI_toInt (by omega)]
      omega
    · rw [in_spec, i64_32, hy, hz, decide_eq_false c]; rfl
theorem choice_dec (x : Int32) (c : Nat) (hc : 1 ≤ c ∧ c < 2000) : (X7_isChoice x (nI c) = some 0 ∧ ∀ y z : Int64, y.toInt = 0 → z.toInt = (c : Int) - 1 → X8_in x.toInt64 y z = some 0) ∨ ∃ n, n < c ∧ x = nI n ∧ X7_isChoice x (nI c) = some 1 ∧ ∀ y z : Int64, y.toInt = 0 → z.toInt = (c : Int) - 1 → X8_in x.toInt64 y z = some 1 := by
  rcases rng x 0 (c - 1) (by omega) (by omega) with ⟨q, r⟩ | ⟨n, h1, h2, rfl, r⟩
  · refine Or.inl ⟨?_, fun y z hy hz => r y z (by omega) (by omega)⟩
    unfold X7_isChoice
    rw [← nI_0]
    rcases q with q | q
    · rw [if_pos q]
    · by_cases q2 : x < nI 0
      · rw [if_pos q2]
      · rw [if_neg q2, if_neg ?_]
        rw [Int32.lt_iff_toInt_lt, nI_toInt (by omega)] at q ⊢
        omega
  · refine Or.inr ⟨n, by omega, rfl, ?_, fun y z hy hz => r y z (by omega) (by omega)⟩
    unfold X7_isChoice
    rw [if_neg (nI_pos (by omega)), if_pos (nI_lt (by omega) (by omega))]
section DE
variable {Mx Mm : Mem}
theorem one_dec (I : Inv Mx Mm) (x : Int32) : (X3_has 15 Mx x = some 0 ∧ X8_isOne Mm x = some 0) ∨ ∃ G sh t, HX Mx 15 0 sh G ∧ atM Mm 0 G ∧ hOK G ∧ t < G 1 ∧ x = nI t ∧ X3_has 15 Mx x = some 1 ∧ X8_isOne Mm x = some 1 := by
  rcases I.hall with ⟨-, h1, -, -, -, h5, -⟩ | ⟨G, sh, H, hA, hO⟩
  · left
    rw [cx_has (G := fun _ => 0) (h := 15) (by rw [h1]; rfl) (by omega), ref_isOne (G := fun _ => 0) (by rw [h5]; rfl) (by omega), decide_eq_false (by omega)]
    exact ⟨rfl, rfl⟩
  · have hP := hx_P H
    rw [cx_has (G := G) (h := 15) H.1.1.2.1 (by omega), ref_isOne (G := G) (hA 1 (by omega)) (by omega)]
    by_cases c : 0 ≤ x.toInt ∧ x.toInt < G 1
    · right
      rw [decide_eq_true c]
      exact ⟨G, sh, x.toInt.toNat, H, hA, hO, by omega, nI_is (by omega) (by omega), rfl, rfl⟩
    · left
      rw [decide_eq_false c]
      exact ⟨rfl, rfl⟩
theorem one_G {G : Nat → Nat} {sh : Nat} (H : HX Mx 15 0 sh G) (hA : atM Mm 0 G) (x : Int32) : (X3_has 15 Mx x = some 0 ∧ X8_isOne Mm x = some 0) ∨ ∃ t, t < G 1 ∧ x = nI t ∧ X3_has 15 Mx x = some 1 ∧ X8_isOne Mm x = some 1 := by
  have hP := hx_P H
  rw [cx_has (G := G) (h := 15) H.1.1.2.1 (by omega), ref_isOne (G := G) (hA 1 (by omega)) (by omega)]
  by_cases c : 0 ≤ x.toInt ∧ x.toInt < G 1
  · right
    rw [decide_eq_true c]
    exact ⟨x.toInt.toNat, by omega, nI_is (by omega) (by omega), rfl, rfl⟩
  · left
    rw [decide_eq_false c]
    exact ⟨rfl, rfl⟩
theorem place_dec (I : Inv Mx Mm) (x : Int32) : (X3_hasPlace 15 Mx x = some 0 ∧ X8_isPlace Mm x = some 0) ∨ ∃ G sh t, HX Mx 15 0 sh G ∧ atM Mm 0 G ∧ hOK G ∧ t < G 0 ∧ x = nI t ∧ X3_hasPlace 15 Mx x = some 1 ∧ X8_isPlace Mm x = some 1 := by
  rcases I.hall with ⟨h0, -, -, -, h4, -, -⟩ | ⟨G, sh, H, hA, hO⟩
  · left
    rw [cx_hasPlace (G := fun _ => 0) (h := 15) (by rw [h0]; rfl) (by omega), ref_isPlace (G := fun _ => 0) (by rw [h4]; rfl) (by omega), decide_eq_false (by omega)]
    exact ⟨rfl, rfl⟩
  · have hP := hx_P H
    rw [cx_hasPlace (G := G) (h := 15) H.1.1.1 (by omega), ref_isPlace (G := G) (hA 0 (by omega)) (by omega)]
    by_cases c : 0 ≤ x.toInt ∧ x.toInt < G 0
    · right
      rw [decide_eq_true c]
      exact ⟨G, sh, x.toInt.toNat, H, hA, hO, by omega, nI_is (by omega) (by omega), rfl, rfl⟩
    · left
      rw [decide_eq_false c]
      exact ⟨rfl, rfl⟩
theorem place_G {G : Nat → Nat} {sh : Nat} (H : HX Mx 15 0 sh G) (hA : atM Mm 0 G) (x : Int32) : (X3_hasPlace 15 Mx x = some 0 ∧ X8_isPlace Mm x = some 0) ∨ ∃ t, t < G 0 ∧ x = nI t ∧ X3_hasPlace 15 Mx x = some 1 ∧ X8_isPlace Mm x = some 1 := by
  have hP := hx_P H
  rw [cx_hasPlace (G := G) (h := 15) H.1.1.1 (by omega), ref_isPlace (G := G) (hA 0 (by omega)) (by omega)]
  by_cases c : 0 ≤ x.toInt ∧ x.toInt < G 0
  · right
    rw [decide_eq_true c]
    exact ⟨x.toInt.toNat, by omega, nI_is (by omega) (by omega), rfl, rfl⟩
  · left
    rw [decide_eq_false c]
    exact ⟨rfl, rfl⟩
theorem hall_dec (I : Inv Mx Mm) : (X7_noHall Mx = some 1 ∧ X8_isHall Mm = some 0) ∨ ∃ G sh, HX Mx 15 0 sh G ∧ atM Mm 0 G ∧ hOK G ∧ X7_noHall Mx = some 0 ∧ X8_isHall Mm = some 1 := by
  rcases I.hall with ⟨-, h1, -, -, h4, -, -⟩ | ⟨G, sh, H, hA, hO⟩
  · left
    unfold X7_noHall
    rw [if_pos h1, ref_isHall (G := fun _ => 0) (by rw [h4]; rfl) (by omega)]
    exact ⟨rfl, rfl⟩
  · right
    have hP := hx_P H
    refine ⟨G, sh, H, hA, hO, ?_, ?_⟩
    · unfold X7_noHall
      have := hO.1
      rw [H.1.1.2.1, if_neg (nI_ne0 (by omega) (by omega))]
    · rw [ref_isHall (G := G) (hA 0 (by omega)) (by omega), decide_eq_true (by omega)]; rfl
end DE
/-! sets out of sets -/
theorem btN_tb (p : Nat → Bool) : ∀ n k, (btN p n).testBit k = (decide (k < n) && p k)
  | 0, k => by simp [btN]
  | n + 1, k => by
    have ih := btN_tb p n k
    have hl := btN_lt p n
    rw [btN]
    by_cases c : k < n
    · rw [decide_eq_true (by omega)]
      rw [decide_eq_true c] at ih
      cases hp : p n with
      | false => simpa using ih
      | true =>
        rw [if_pos rfl, Nat.add_comm, Nat.testBit_two_pow_add_gt c]; exact ih
    · rw [decide_eq_false c] at ih
      by_cases e : k = n
      · subst e
        rw [decide_eq_true (by omega)]
        cases hp : p k with
        | false => simpa using ih
        | true =>
          rw [if_pos rfl, Nat.add_comm, Nat.testBit_two_pow_add_eq, ih]; rfl
      · rw [decide_eq_false (by omega)]
        have hlt : (btN p n + if p n = true then 2 ^ n else 0) < 2 ^ (n + 1) := btN_lt p (n + 1)
        have : (btN p n + if p n = true then 2 ^ n else 0) < 2 ^ k := Nat.lt_of_lt_of_le hlt (Nat.pow_le_pow_right (by omega) (by omega))
        rw [Nat.testBit_lt_two_pow this]; rfl
theorem btN_cong {p q : Nat → Bool} : ∀ {n : Nat}, (∀ k, k < n → p k = q k) → btN p n = btN q n
  | 0, _ => rfl
  | n + 1, h => by rw [btN, btN, btN_cong (fun k hk => h k (by omega)), h n (by omega)]
theorem all_not : ∀ n, n < 7 → ∀ a, a < 2 ^ n → (((1 : Int32) <<< (nI n &&& 31)) - 1) &&& (nI a ^^^ (-1)) = nI (btN (fun k => !a.testBit k) n) := by decide +kernel
theorem and_not : ∀ a, a < 64 → ∀ b, b < 64 → nI a &&& (nI b ^^^ (-1)) = nI (btN (fun k => a.testBit k && !b.testBit k) 6) := by decide +kernel
theorem btN_le6 (p : Nat → Bool) {n : Nat} (hn : n ≤ 6) : btN p n < 64 := Nat.lt_of_lt_of_le (btN_lt p n) (Nat.pow_le_pow_right (by omega) hn)
theorem btI_not (p : Nat → Bool) {n : Nat} (hn : n ≤ 6) : (((1 : Int32) <<< (nI n &&& 31)) - 1) &&& (btI p n ^^^ (-1)) = btI (fun k => !p k) n := by
  rw [btI_N p n hn, all_not n (by omega) _ (btN_lt p n), btI_N _ n hn]
  congr 1
  exact btN_cong (fun k hk => by rw [btN_tb, decide_eq_true hk, Bool.true_and])
theorem btN_6 (p : Nat → Bool) {n : Nat} (hn : n ≤ 6) : btN p n = btN (fun k => decide (k < n) && p k) 6 := by
  refine Nat.eq_of_testBit_eq (fun k => ?_)
  rw [btN_tb, btN_tb]
  by_cases c : k < n
  · rw [decide_eq_true c, decide_eq_true (by omega)]; rfl
  · simp [c]
theorem btI_andnot (p q : Nat → Bool) {n : Nat} (hn : n ≤ 6) : btI p n &&& (btI q n ^^^ (-1)) = btI (fun k => p k && !q k) n := by
  rw [btI_N p n hn, btI_N q n hn, and_not _ (btN_le6 p hn) _ (btN_le6 q hn), btI_N _ n hn, btN_6 (fun k => p k && !q k) hn]
  congr 1
  refine btN_cong (fun k hk => ?_)
  rw [btN_tb, btN_tb]
  by_cases c : k < n
  · rw [decide_eq_true c]; simp
  · rw [decide_eq_false c]; rfl
