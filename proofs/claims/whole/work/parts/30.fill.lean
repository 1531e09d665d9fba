/-! PURE: Arrays.fill -/
theorem fill_loop (p n : Nat) (x : Int32) (hn : n < 2 ^ 31) : ∀ (d k f : Nat) (M : Mem), n - k = d → k ≤ n → d < f → J7_fill_53178_5 p n f x (nI k) (nI n) M = some (mset M p (fun j => if k ≤ j ∧ j < n then x else M p j))
  | 0, k, 0, M, _, _, h => absurd h (Nat.not_lt_zero _)
  | 0, k, f + 1, M, hd, hk, _ => by
    have e : k = n := by omega
    subst e
    rw [J7_fill_53178_5, if_neg (nI_nlt (Nat.le_refl k) hn)]
    congr 1
    funext q
    unfold mset
    by_cases hq : q = p
    · subst hq
      rw [if_pos rfl]
      funext j
      rw [if_neg (by omega)]
    · rw [if_neg hq]
  | d + 1, k, 0, M, _, _, h => absurd h (Nat.not_lt_zero _)
  | d + 1, k, f + 1, M, hd, hk, hf => by
    have hlt : k < n := by omega
    rw [J7_fill_53178_5, if_pos (nI_lt hlt hn), if_pos (am_in_nI hlt hn), show (nI k + (1 : Int32)) = nI (k + 1) from nI_1 k, nI_clamp (by omega)]
    show J7_fill_53178_5 p n f x (nI (k + 1)) (nI n) (mset M p (upd (M p) k x)) = _
    rw [fill_loop p n x hn d (k + 1) f _ (by omega) (by omega) (by omega)]
    congr 1
    funext q
    unfold mset
    by_cases hq : q = p
    · subst hq
      rw [if_pos rfl, if_pos rfl, if_pos rfl]
      funext j
      unfold upd
      by_cases h1 : j = k
      · subst h1
        rw [if_neg (by omega), if_pos rfl, if_pos (by omega)]
      · rw [if_neg h1]
        by_cases h2 : k + 1 ≤ j ∧ j < n
        · rw [if_pos h2, if_pos (by omega)]
        · rw [if_neg h2, if_neg (by omega)]
    · rw [if_neg hq, if_neg hq, if_neg hq]
theorem fill_spec (p n : Nat) (x : Int32) (M : Mem) (hn : n < 2000) : J7_fill_53178 p n x M = some (mset M p (fun j => if j < n then x else M p j)) := by
  unfold J7_fill_53178
  have h := fill_loop p n x (by omega) n 0 am_fuel M (by omega) (by omega) (by show n < 2000; exact hn)
  rw [show (nI 0 : Int32) = 0 from nI_0] at h
  rw [show Int32.ofNat n = nI n from rfl, h]
  simp
