/-! PURE: the rows; the tape is fed -/
theorem nI_mul (a b : Nat) : nI a * nI b = nI (a * b) := by
  show Int32.ofNat a * Int32.ofNat b = Int32.ofNat (a * b)
  rw [Int32.ofNat_mul]
section RO
variable {Mx Mm Mx' Mm' : Mem}
theorem Inv.rw (I : Inv Mx Mm) (hx : ∀ p, p < 2 ∨ 12 < p → Mx' p = Mx p) (hm : ∀ p, p < 3 ∨ 5 < p → Mm' p = Mm p) (hr : rowsR Mx' Mm') : Inv Mx' Mm' :=
  ⟨hr, tape_cg I.tape (by rw [hx 13 (by omega)]) (hx 14 (by omega)) (by rw [hm 0 (by omega)]) (hm 6 (by omega)), trce_cg I.trce (by rw [hx 40 (by omega)]) (hx 41 (by omega)) (by rw [hm 0 (by omega)]) (hm 7 (by omega)), hall_cg I.hall (fun p h1 h2 => hx p (by omega)) (fun j hj => by rw [hm 1 (by omega)]), past_cg I.past (hx 31 (by omega)) (hx 32 (by omega)) (by rw [hm 0 (by omega)]) (fun j h1 h2 => by rw [hm 1 (by omega)]), img_cg I.img (by rw [hx 0 (by omega)]) (hx 42 (by omega)) (hm 2 (by omega)) (fun j h1 h2 => by rw [hm 1 (by omega)]), ord_cg I.ord (hx 34 (by omega)) (hx 37 (by omega)) (hx 39 (by omega)), misc_cg I.misc (by rw [hx 0 (by omega)]) (by rw [hx 0 (by omega)]) (by rw [hm 0 (by omega)]) (by rw [hm 0 (by omega)]) (hm 8 (by omega)) (by rw [hm 0 (by omega)])⟩
theorem c_found (I : Inv Mx Mm) (v : Int32) : ∃ r Mx' Mm', (Option.bind (X7_found v Mx) fun u => some (u.1, u.2)) = some (r, Mx') ∧ (Option.bind (X8_find v Mm) fun u => some (u.1, u.2)) = some (r, Mm') ∧ Inv Mx' Mm' := ⟨_, _, _, rfl, rfl, I.st v⟩
theorem c_fine (I : Inv Mx Mm) (v : Int32) : ∃ r Mx' Mm', (Option.bind (X7_fine v Mx) fun u => some (u.1, u.2)) = some (r, Mx') ∧ (Option.bind (X8_well v Mm) fun u => some (u.1, u.2)) = some (r, Mm') ∧ Inv Mx' Mm' := ⟨_, _, _, rfl, rfl, I.st 0⟩
theorem row_dec (x : Int32) : (X5_isNumber x = some 0 ∧ X8_isRow x = some 0) ∨ ∃ r, r < 8 ∧ x = nI r ∧ X5_isNumber x = some 1 ∧ X8_isRow x = some 1 := by
  unfold X5_isNumber X8_isRow
  rcases rng x 0 7 (by omega) (by omega) with ⟨q, r⟩ | ⟨n, n1, n2, rfl, r⟩
  · left
    rw [r 0 7 (by decide) (by decide)]
    refine ⟨?_, by decide⟩
    by_cases c : x < 0
    · rw [if_pos c]
    · rw [if_neg c, if_neg ?_]
      rcases q with q | q
      · exact absurd q c
      · rw [li_8, Int32.lt_iff_toInt_lt, nI_toInt (by omega)]
        rw [Int32.lt_iff_toInt_lt, nI_toInt (by omega)] at q
        omega
  · right
    rw [r 0 7 (by decide) (by decide)]
    exact ⟨n, by omega, rfl, by rw [if_neg (nI_pos (by omega)), if_pos (show nI n < (8 : Int32) from nI_lt (b := 8) (by omega) (by omega))], by decide⟩
theorem num_1 {r : Nat} (hr : r < 8) : X5_isNumber (nI r) = some 1 := by
  unfold X5_isNumber
  rw [if_neg (nI_pos (by omega)), if_pos (show nI r < (8 : Int32) from nI_lt (b := 8) (by omega) (by omega))]
theorem nI_m {n : Nat} (h : n < 2000) : nI n ≠ -1 := fun e => by
  have h1 := congrArg Int32.toInt e
  rw [nI_toInt (by omega), show (-1 : Int32).toInt = -1 by decide] at h1
  omega
theorem miss_dec (I : rowsR Mx Mm) {r : Nat} (hr : r < 8) : (Mx 2 r = -1 ∧ Mm 4 r = -1 ∧ X5_isMissing Mx (nI r) = some 1 ∧ Mm 4 r < 0) ∨ ∃ l n, l ≤ 2 ∧ n ≤ 40 ∧ Mx 2 r = nI l ∧ Mm 3 r = nI l ∧ Mx 3 r = nI n ∧ Mm 4 r = nI n ∧ X5_isMissing Mx (nI r) = some 0 ∧ ¬ Mm 4 r < 0 := by
  have k : ∀ b : Bool, (Mx 2 r = -1) = (b = true) → X5_isMissing Mx (nI r) = some (bI b) := fun b hb => by
    unfold X5_isMissing
    rw [num_1 hr, Option.bind_some]
    simp (disch := omega) only [i10, am_in_nI, nI_clamp, ↓reduceIte, hb]
    cases b <;> rfl
  rcases I.1 r hr with ⟨h1, h2⟩ | ⟨l, n, h1, h2, h3, h4, h5, h6⟩
  · left
    exact ⟨h1, h2, k true (by rw [h1]; simp), by rw [h2]; decide⟩
  · right
    exact ⟨l, n, h1, h2, h3, h4, h5, h6, k false (by rw [h3]; simp [nI_m (show l < 2000 by omega)]), by rw [h6]; exact nI_pos (by omega)⟩
theorem sub_ge {n : Nat} {x : Int32} (hn : n ≤ 40) (h0 : 0 ≤ x.toInt) (h1 : x.toInt ≤ n) : (nI n - x).toInt = n - x.toInt := by
  rw [fb_subI9 (by rw [nI_toInt (by omega)]; omega) (by rw [nI_toInt (by omega)]; omega), nI_toInt (by omega)]
theorem reach_x {r l n : Nat} (hr : r < 8) (hn : n ≤ 40) (h1 : Mx 3 r = nI n) (h2 : X5_isMissing Mx (nI r) = some 0) (x y : Int32) : X5_reaches Mx (nI r) x y = some (bI (decide (0 ≤ x.toInt ∧ 0 ≤ y.toInt ∧ x.toInt + y.toInt ≤ n))) := by
  unfold X5_reaches
  rw [h2, Option.bind_some]
  simp (disch := omega) only [i00, am_in_nI, nI_clamp, ↓reduceIte, h1]
  simp only [Int32.lt_iff_toInt_lt, show (0 : Int32).toInt = 0 by decide, nI_toInt (show n < 2 ^ 31 by omega)]
  by_cases c1 : x.toInt < 0
  · rw [if_pos c1, decide_eq_false (by omega)]; rfl
  rw [if_neg c1]
  by_cases c2 : y.toInt < 0
  · rw [if_pos c2, decide_eq_false (by omega)]; rfl
  rw [if_neg c2]
  by_cases c3 : (n : Int) < x.toInt
  · rw [if_pos c3, decide_eq_false (by omega)]; rfl
  rw [if_neg c3, sub_ge hn (by omega) (by omega)]
  by_cases c4 : (n : Int) - x.toInt < y.toInt
  · rw [if_pos c4, decide_eq_false (by omega)]; rfl
  rw [if_neg c4, decide_eq_true (by omega)]; rfl
theorem add64 (x y : Int32) : (x.toInt64 + y.toInt64).toInt = x.toInt + y.toInt := by
  have h1 := fb_rng9 x
  have h2 := fb_rng9 y
  rw [Int64.toInt_add, i64_32, i64_32]
  exact Int.bmod_eq_of_le (by omega) (by omega)
theorem reach_m {r n : Nat} (hr : r < 8) (hn : n ≤ 40) (h1 : Mm 4 r = nI n) (x y : Int32) : X8_isSpan Mm (nI r) x y = some (bI (decide (0 ≤ x.toInt ∧ 0 ≤ y.toInt ∧ x.toInt + y.toInt ≤ n))) := by
  unfold X8_isSpan
  simp (disch := omega) only [am_in_nI, nI_clamp, ↓reduceIte, h1, lg_pos, add64, i64_32]
  simp only [Int32.lt_iff_toInt_lt, show (0 : Int32).toInt = 0 by decide, nI_toInt (show n < 2 ^ 31 by omega)]
  by_cases c1 : x.toInt < 0
  · rw [if_pos c1, decide_eq_false (by omega)]; rfl
  rw [if_neg c1]
  by_cases c2 : y.toInt < 0
  · rw [if_pos c2, decide_eq_false (by omega)]; rfl
  rw [if_neg c2]
  by_cases c3 : (n : Int) < x.toInt + y.toInt
  · rw [if_pos c3, decide_eq_false (by omega)]; rfl
  rw [if_neg c3, decide_eq_true (by omega)]; rfl
end RO
theorem ok_drop_Inv : ok_drop Inv := fun Mx Mm x I => by
  unfold X7_drop X8_drop
  rcases row_dec x with ⟨c, d⟩ | ⟨r, hr, rfl, c, d⟩
  · rw [c, d]; exact ⟨_, _, _, rfl, rfl, I⟩
  · simp (disch := omega) only [c, d, Option.bind_some, i10, i00, ↓reduceIte, am_in_nI, nI_clamp]
    rcases miss_dec I.rows hr with ⟨h1, h2, h3, h4⟩ | ⟨l, n, h1, h2, h3, h4, h5, h6, h7, h8⟩
    · simp only [h3, Option.bind_some, i10, ↓reduceIte, h4]
      exact c_found I 1
    · simp only [h7, Option.bind_some, i00, ↓reduceIte, h8, X5_remove]
      simp (disch := omega) only [am_in_nI, nI_clamp, ↓reduceIte, am_let_eq, mset_ne, h5, h6, Option.bind_some]
      refine c_fine (I.rw (fun p hp => mset_ne _ _ (by omega)) (fun p hp => mset_ne _ _ (by omega)) ⟨fun q hq => ?_, fun q k hq hk => ?_⟩) _
      · simp (disch := omega) only [mset_ne, mset_self]
        by_cases e : q = r
        · rw [e, upd_same, upd_same]
          exact Or.inl ⟨rfl, rfl⟩
        · rw [upd_ne e, upd_ne e]
          exact I.rows.1 q hq
      · simp (disch := omega) only [mset_ne]
        exact I.rows.2 q k hq hk
theorem row_loop (r n : Nat) (hr : r < 8) : ∀ (d k f : Nat) (M : Mem), 40 - k = d → k ≤ 40 → d < f → X8_row_55 f (nI r) (nI n) (nI k) M = Option.bind (X8_well (nI n) (mset M 5 (fun j => if 40 * r + k ≤ j ∧ j < 40 * r + 40 then 0 else M 5 j))) fun u2 => some (u2.1, u2.2)
  | 0, k, 0, _, _, _, hf => absurd hf (Nat.not_lt_zero _)
  | 0, k, f + 1, M, hd, hk, _ => by
    have e : k = 40 := by omega
    subst e
    rw [X8_row_55, li_40, if_neg (nI_nlt (Nat.le_refl _) (by omega)), show (fun j => if 40 * r + 40 ≤ j ∧ j < 40 * r + 40 then 0 else M 5 j) = M 5 from funext (fun j => if_neg (by omega)), mset_id]
  | d + 1, k, 0, _, _, _, hf => absurd hf (Nat.not_lt_zero _)
  | d + 1, k, f + 1, M, hd, hk, hf => by
    rw [X8_row_55]
    simp (disch := omega) only [li_40, li_1, nI_mul, nI_add, am_in_nI, nI_clamp, nI_ltI, if_pos (show k < 40 by omega), am_let_eq, ↓reduceIte]
    rw [row_loop r n hr d (k + 1) f _ (by omega) (by omega) (by omega), mset_mset, mset_self]
    congr 3
    funext j
    by_cases c : 40 * r + (k + 1) ≤ j ∧ j < 40 * r + 40
    · rw [if_pos c, if_pos (by omega)]
    · rw [if_neg c]
      by_cases c2 : j = 40 * r + k
      · rw [c2, upd_same, if_pos (by omega)]
      · rw [upd_ne c2, if_neg (by omega)]
theorem ok_row_Inv : ok_row Inv := fun Mx Mm x y z I => by
  unfold X7_row X8_row
  rcases row_dec x with ⟨c, d⟩ | ⟨r, hr, rfl, c, d⟩
  · rw [c, d]; exact ⟨_, _, _, rfl, rfl, I⟩
  · simp (disch := omega) only [c, d, Option.bind_some, i10, i00, ↓reduceIte, am_in_nI, nI_clamp]
    rcases rng y 0 2 (by omega) (by omega) with ⟨q, e⟩ | ⟨l, l1, l2, rfl, e⟩
    · simp only [e 0 2 (by decide) (by decide), Option.bind_some, i00, ↓reduceIte]
      refine ⟨_, _, _, ?_, rfl, I⟩
      by_cases c : y < 0
      · rw [if_pos c]
      · rw [if_neg c, if_neg ?_]
        rcases q with q | q
        · exact absurd q c
        · rw [li_3, Int32.lt_iff_toInt_lt, nI_toInt (by omega)]
          rw [Int32.lt_iff_toInt_lt, nI_toInt (by omega)] at q
          omega
    · simp only [e 0 2 (by decide) (by decide), Option.bind_some, i10, ↓reduceIte, nI_pos (show l < 2 ^ 31 by omega), show nI l < (3 : Int32) from nI_lt (b := 3) (by omega) (by omega)]
      by_cases c1 : (40 : Int32) < z
      · rw [if_pos c1, if_pos c1]; exact ⟨_, _, _, rfl, rfl, I⟩
      rw [if_neg c1, if_neg c1]
      by_cases c2 : z < 0
      · rw [if_pos c2, if_pos c2]; exact c_found I 4
      rw [if_neg c2, if_neg c2]
      obtain ⟨n, hn, rfl⟩ : ∃ n, n ≤ 40 ∧ z = nI n := by
        rw [li_40, Int32.lt_iff_toInt_lt, nI_toInt (by omega)] at c1
        rw [Int32.lt_iff_toInt_lt, show (0 : Int32).toInt = 0 by decide] at c2
        exact ⟨z.toInt.toNat, by omega, nI_is (by omega) (by omega)⟩
      unfold X5_lay
      simp (disch := omega) only [num_1 hr, Option.bind_some, i10, ↓reduceIte, c1, c2, am_in_nI, nI_clamp, am_let_eq, fill_spec]
      rw [li_0, row_loop r n hr 40 0 am_fuel _ (by omega) (by omega) (by decide), ← li_0]
      refine c_fine (I.rw (fun p hp => ?_) (fun p hp => ?_) ⟨fun q hq => ?_, fun q k hq hk => ?_⟩) _
      · simp (disch := omega) only [mset_ne]
      · simp (disch := omega) only [mset_ne]
      · simp (disch := omega) only [mset_ne, mset_self]
        by_cases e : q = r
        · rw [e, upd_same, upd_same, upd_same, upd_same]
          exact Or.inr ⟨l, n, l2, hn, rfl, rfl, rfl, rfl⟩
        · rw [upd_ne e, upd_ne e, upd_ne e, upd_ne e]
          exact I.rows.1 q hq
      · by_cases e : q = r
        · subst e
          rw [mset_self, mset_self, if_pos hk, if_pos (by omega)]
        · simp (disch := omega) only [mset_ne, mset_self]
          rw [if_neg (by omega)]
          exact I.rows.2 q k hq hk
theorem ok_set_Inv : ok_set Inv := fun Mx Mm x y z I => by
  unfold X7_set X8_set
  rcases row_dec x with ⟨c, d⟩ | ⟨r, hr, rfl, c, d⟩
  · rw [c, d]; exact ⟨_, _, _, rfl, rfl, I⟩
  · simp (disch := omega) only [c, d, Option.bind_some, i10, i00, ↓reduceIte, am_in_nI, nI_clamp]
    rcases miss_dec I.rows hr with ⟨h1, h2, h3, h4⟩ | ⟨l, n, h1, h2, h3, h4, h5, h6, h7, h8⟩
    · simp only [h3, Option.bind_some, i10, ↓reduceIte, h4]
      exact c_found I 1
    · have hx := reach_x (l := l) hr h2 h5 h7 y 1
      rw [show (1 : Int32).toInt = 1 by decide] at hx
      simp only [h7, Option.bind_some, i00, ↓reduceIte, nI_pos (show n < 2 ^ 31 by omega), h6, in_spec, i64_32, nI_m1 (show n < 2000 by omega), show (0 : Int64).toInt = 0 by decide, hx, h4]
      by_cases q : 0 ≤ y.toInt ∧ y.toInt < n
      · rw [decide_eq_true (show 0 ≤ y.toInt ∧ (0 : Int) ≤ 1 ∧ y.toInt + 1 ≤ n by omega)] at hx ⊢
        rw [decide_eq_true (show 0 ≤ y.toInt ∧ y.toInt ≤ (n : Int) - 1 by omega)]
        simp only [bI_t, i10, ↓reduceIte]
        obtain ⟨t, ht, rfl⟩ : ∃ t, t < n ∧ y = nI t := ⟨y.toInt.toNat, by omega, nI_is (by omega) (by omega)⟩
        unfold X5_put
        rw [show X5_reaches Mx (nI r) (nI t) 1 = some 1 from by rw [hx]; rfl]
        have hcut : X5_cutTo (nI l) z = X8_narrow z (nI l) := rfl
        obtain ⟨v, hv⟩ : ∃ v, X8_narrow z (nI l) = some v := by
          unfold X8_narrow
          split
          · exact ⟨_, rfl⟩
          · split
            · exact ⟨_, rfl⟩
            · exact ⟨_, rfl⟩
        simp (disch := omega) only [Option.bind_some, i10, ↓reduceIte, am_in_nI, nI_clamp, am_let_eq, h3, hcut, hv, li_40, nI_mul, nI_add, mset_self, upd_same]
        refine c_fine (I.rw (fun p hp => ?_) (fun p hp => ?_) ⟨fun q hq => ?_, fun q k hq hk => ?_⟩) _
        · simp (disch := omega) only [mset_ne]
        · simp (disch := omega) only [mset_ne]
        · simp (disch := omega) only [mset_ne]
          exact I.rows.1 q hq
        · by_cases e : q = r
          · subst e
            rw [mset_self, mset_self]
            by_cases e2 : k = t
            · rw [e2, upd_same, upd_same]
            · rw [upd_ne e2, upd_ne (by omega)]
              exact I.rows.2 q k hq hk
          · simp (disch := omega) only [mset_ne, mset_self]
            rw [upd_ne (by omega)]
            exact I.rows.2 q k hq hk
      · rw [decide_eq_false (show ¬ (0 ≤ y.toInt ∧ (0 : Int) ≤ 1 ∧ y.toInt + 1 ≤ n) by omega), decide_eq_false (show ¬ (0 ≤ y.toInt ∧ y.toInt ≤ (n : Int) - 1) by omega)]
        simp only [bI_f, i00, ↓reduceIte]
        exact c_found I 2
theorem ok_feed_Inv : ok_feed Inv := fun Mx Mm x I => by
  unfold X7_feed X8_feed
  obtain ⟨n, h1, h2, h3, h4⟩ := I.tape
  rcases rng x 0 255 (by omega) (by omega) with ⟨q, e⟩ | ⟨l, l1, l2, rfl, e⟩
  · simp only [e 0 255 (by decide) (by decide), Option.bind_some, i00, ↓reduceIte]
    refine ⟨_, _, _, ?_, rfl, I⟩
    by_cases c : x < 0
    · rw [if_pos c]
    · rw [if_neg c, if_pos ?_]
      rcases q with q | q
      · exact absurd q c
      · rw [li_255]; exact q
  · simp only [e 0 255 (by decide) (by decide), Option.bind_some, i10, ↓reduceIte, nI_pos (show l < 2 ^ 31 by omega), show ¬ (255 : Int32) < nI l from nI_nlt (a := 255) (by omega) (by omega), X6_isFull, X6_add, h2, h3]
    by_cases c : n = 110
    · subst c
      exact ⟨_, _, _, rfl, rfl, I⟩
    · rw [if_pos (show nI n < (110 : Int32) from nI_lt (b := 110) (by omega) (by omega)), if_neg (show ¬ nI n = (110 : Int32) by rw [li_110, nI_eq (by omega) (by omega)]; exact c)]
      simp (disch := omega) only [Option.bind_some, i00, ↓reduceIte, am_in_nI, nI_clamp, am_let_eq, mset_ne, mset_self, upd_same, h2, h3, nI_1]
      refine ⟨_, _, _, rfl, rfl, rows_cg I.rows (fun p h1 h2 => ?_) (fun p h1 h2 => ?_), ⟨n + 1, by omega, ?_, ?_, fun i hi => ?_⟩, trce_cg I.trce ?_ ?_ ?_ ?_, hall_cg I.hall (fun p h1 h2 => ?_) (fun j hj => ?_), past_cg I.past ?_ ?_ ?_ (fun j h1 h2 => ?_), img_cg I.img ?_ ?_ ?_ (fun j h1 h2 => ?_), ord_cg I.ord ?_ ?_ ?_, misc_cg I.misc ?_ ?_ ?_ ?_ ?_ ?_⟩
      case refine_5 =>
        simp (disch := omega) only [mset_ne, mset_self]
        by_cases e : i = n
        · rw [e, upd_same, upd_same]
          exact ⟨l, by omega, rfl, rfl⟩
        · rw [upd_ne e, upd_ne e]
          exact h4 i (by omega)
      all_goals simp (disch := omega) only [mset_ne, mset_self, upd_same, upd_ne]
theorem copy_fw {a i b j n : Nat} (ha : a < 8) (hb : b < 8) (hi : i + n ≤ 40) (hj : j + n ≤ 40) (hc : 40 * b + j ≤ 40 * a + i ∨ 40 * a + i + n ≤ 40 * b + j) : ∀ (d k f : Nat) (M : Mem), n - k = d → k ≤ n → d < f → X8_copy_107 f (nI a) (nI i) (nI b) (nI j) (nI n) 0 (nI k) M = Option.bind (X8_well (nI n) (mset M 5 (fun q => if 40 * b + j + k ≤ q ∧ q < 40 * b + j + n then M 5 (40 * a + i + (q - (40 * b + j))) else M 5 q))) fun u2 => some (u2.1, u2.2)
  | 0, k, 0, _, _, _, hf => absurd hf (Nat.not_lt_zero _)
  | 0, k, f + 1, M, hd, hk, _ => by
    have e : k = n := by omega
    subst e
    rw [X8_copy_107, if_neg (nI_nlt (Nat.le_refl _) (by omega)), show (fun q => if 40 * b + j + k ≤ q ∧ q < 40 * b + j + k then M 5 (40 * a + i + (q - (40 * b + j))) else M 5 q) = M 5 from funext (fun j => if_neg (by omega)), mset_id]
  | d + 1, k, 0, _, _, _, hf => absurd hf (Nat.not_lt_zero _)
  | d + 1, k, f + 1, M, hd, hk, hf => by
    rw [X8_copy_107, if_pos (nI_lt (show k < n by omega) (by omega)), if_pos rfl]
    unfold X8_copy_131
    simp (disch := omega) only [li_40, li_1, nI_mul, nI_add, am_in_nI, nI_clamp, am_let_eq, ↓reduceIte]
    rw [copy_fw ha hb hi hj hc d (k + 1) f _ (by omega) (by omega) (by omega), mset_mset, mset_self]
    congr 3
    funext q
    by_cases c : 40 * b + j + (k + 1) ≤ q ∧ q < 40 * b + j + n
    · rw [if_pos c, if_pos (by omega), upd_ne (by omega)]
    · rw [if_neg c]
      by_cases c2 : q = 40 * b + j + k
      · rw [c2, upd_same, if_pos (by omega)]; congr 1; omega
      · rw [upd_ne c2, if_neg (by omega)]
theorem copy_bw {a i b j n : Nat} (ha : a < 8) (hb : b < 8) (hi : i + n ≤ 40) (hj : j + n ≤ 40) (hc : 40 * a + i ≤ 40 * b + j ∨ 40 * b + j + n ≤ 40 * a + i) : ∀ (d k f : Nat) (M : Mem), n - k = d → k ≤ n → d < f → X8_copy_107 f (nI a) (nI i) (nI b) (nI j) (nI n) 1 (nI k) M = Option.bind (X8_well (nI n) (mset M 5 (fun q => if 40 * b + j ≤ q ∧ q < 40 * b + j + (n - k) then M 5 (40 * a + i + (q - (40 * b + j))) else M 5 q))) fun u2 => some (u2.1, u2.2)
  | 0, k, 0, _, _, _, hf => absurd hf (Nat.not_lt_zero _)
  | 0, k, f + 1, M, hd, hk, _ => by
    have e : k = n := by omega
    subst e
    rw [X8_copy_107, if_neg (nI_nlt (Nat.le_refl _) (by omega)), show (fun q => if 40 * b + j ≤ q ∧ q < 40 * b + j + (k - k) then M 5 (40 * a + i + (q - (40 * b + j))) else M 5 q) = M 5 from funext (fun j => if_neg (by omega)), mset_id]
  | d + 1, k, 0, _, _, _, hf => absurd hf (Nat.not_lt_zero _)
  | d + 1, k, f + 1, M, hd, hk, hf => by
    rw [X8_copy_107, if_pos (nI_lt (show k < n by omega) (by omega)), if_neg (by decide), li_1, pk_sub (by omega), pk_sub (by omega)]
    unfold X8_copy_131
    simp (disch := omega) only [li_40, li_1, nI_mul, nI_add, am_in_nI, nI_clamp, am_let_eq, ↓reduceIte]
    rw [← li_1, copy_bw ha hb hi hj hc d (k + 1) f _ (by omega) (by omega) (by omega), mset_mset, mset_self]
    congr 3
    funext q
    by_cases c : 40 * b + j ≤ q ∧ q < 40 * b + j + (n - (k + 1))
    · rw [if_pos c, if_pos (by omega), upd_ne (by omega)]
    · rw [if_neg c]
      by_cases c2 : q = 40 * b + j + (n - 1 - k)
      · rw [c2, upd_same, if_pos (by omega)]; congr 1; omega
      · rw [upd_ne c2, if_neg (by omega)]
theorem copy_Inv {Mx Mm : Mem} (I : Inv Mx Mm) {a i b j n : Nat} (ha : a < 8) (hb : b < 8) (hi : i + n ≤ 40) (hj : j + n ≤ 40) : Inv (mset Mx (5 + b) (va_cpy (Mx (5 + a)) (Mx (5 + b)) i j n)) (mset Mm 5 (fun q => if 40 * b + j ≤ q ∧ q < 40 * b + j + n then Mm 5 (40 * a + i + (q - (40 * b + j))) else Mm 5 q)) := by
  refine I.rw (fun p hp => mset_ne _ _ (by omega)) (fun p hp => mset_ne _ _ (by omega)) ⟨fun q hq => ?_, fun q k hq hk => ?_⟩
  · rw [mset_ne _ _ (by omega), mset_ne _ _ (by omega), mset_ne _ _ (by omega), mset_ne _ _ (by omega)]
    exact I.rows.1 q hq
  · rw [mset_self]
    by_cases e : q = b
    · subst e
      rw [mset_self]
      unfold va_cpy
      by_cases c : j ≤ k ∧ k < j + n
      · rw [if_pos c, if_pos (by omega), I.rows.2 a (i + (k - j)) ha (by omega)]
        congr 1; omega
      · rw [if_neg c, if_neg (by omega)]
        exact I.rows.2 q k hq hk
    · rw [mset_ne _ _ (by omega), if_neg (by omega)]
      exact I.rows.2 q k hq hk
theorem ok_copy_Inv : ok_copy Inv := fun Mx Mm x1 x2 x3 x4 x5 I => by
  unfold X7_copy X8_copy
  rcases row_dec x1 with ⟨c, d⟩ | ⟨a, ha, rfl, c, d⟩
  · rw [c, d]; exact ⟨_, _, _, rfl, rfl, I⟩
  rcases row_dec x3 with ⟨c', d'⟩ | ⟨b, hb, rfl, c', d'⟩
  · simp only [c, d, c', d', Option.bind_some, i10, i00, ↓reduceIte]; exact ⟨_, _, _, rfl, rfl, I⟩
  simp (disch := omega) only [c, d, c', d', Option.bind_some, i10, i00, ↓reduceIte, am_in_nI, nI_clamp]
  rcases miss_dec I.rows ha with ⟨h1, h2, h3, h4⟩ | ⟨l, n, h1, h2, h3, h4, h5, h6, h7, h8⟩
  · simp only [h3, Option.bind_some, i10, ↓reduceIte, h4]
    exact c_found I 1
  rcases miss_dec I.rows hb with ⟨g1, g2, g3, g4⟩ | ⟨l', n', g1, g2, g3, g4, g5, g6, g7, g8⟩
  · simp only [h7, g3, Option.bind_some, i10, i00, ↓reduceIte, h8, g4]
    exact c_found I 1
  have lx : X5_laneOf Mx (nI a) = some (nI l) := by
    unfold X5_laneOf
    rw [c]
    simp (disch := omega) only [Option.bind_some, i10, ↓reduceIte, am_in_nI, nI_clamp, h3]
  have lx' : X5_laneOf Mx (nI b) = some (nI l') := by
    unfold X5_laneOf
    rw [c']
    simp (disch := omega) only [Option.bind_some, i10, ↓reduceIte, am_in_nI, nI_clamp, g3]
  simp only [h7, g7, Option.bind_some, i00, ↓reduceIte, h8, g8, lx, lx', h4, g4]
  by_cases e : nI l = nI l'
  case neg =>
    rw [if_neg e, if_neg e]
    exact c_found I 5
  rw [if_pos e, if_pos e]
  have r1 := reach_x (l := l) ha h2 h5 h7 x2 x5
  have r2 := reach_x (l := l) hb g2 g5 g7 x4 x5
  have r3 := reach_m ha h2 h6 x2 x5
  have r4 := reach_m hb g2 g6 x4 x5
  by_cases q1 : 0 ≤ x2.toInt ∧ 0 ≤ x5.toInt ∧ x2.toInt + x5.toInt ≤ n
  case neg =>
    rw [decide_eq_false q1] at r1 r3
    simp only [r1, r3, Option.bind_some, bI_f, i00, ↓reduceIte]
    exact c_found I 2
  rw [decide_eq_true q1] at r1 r3
  by_cases q2 : 0 ≤ x4.toInt ∧ 0 ≤ x5.toInt ∧ x4.toInt + x5.toInt ≤ n'
  case neg =>
    rw [decide_eq_false q2] at r2 r4
    simp only [r1, r3, r2, r4, Option.bind_some, bI_f, bI_t, i00, i10, ↓reduceIte]
    exact c_found I 2
  rw [decide_eq_true q2] at r2 r4
  obtain ⟨i, hi, rfl⟩ : ∃ i : Nat, (i : Int) = x2.toInt ∧ x2 = nI i := ⟨x2.toInt.toNat, by omega, nI_is (by omega) (by omega)⟩
  obtain ⟨j, hj, rfl⟩ : ∃ i : Nat, (i : Int) = x4.toInt ∧ x4 = nI i := ⟨x4.toInt.toNat, by omega, nI_is (by omega) (by omega)⟩
  obtain ⟨m, hm, rfl⟩ : ∃ i : Nat, (i : Int) = x5.toInt ∧ x5 = nI i := ⟨x5.toInt.toNat, by omega, nI_is (by omega) (by omega)⟩
  have b1 : i + m ≤ 40 := by omega
  have b2 : j + m ≤ 40 := by omega
  simp only [r1, r3, r2, r4, Option.bind_some, bI_t, i10, ↓reduceIte, X5_carry]
  simp (disch := omega) only [am_in_nI, nI_clamp, ↓reduceIte, am_cp_nI, am_let_eq, Option.bind_some]
  by_cases z : i < j
  · rw [if_pos (nI_lt z (by omega)), show (0 : Int32) = nI 0 from rfl, copy_bw ha hb b1 b2 (by omega) m 0 am_fuel Mm (by omega) (by omega) (by show m < 2000; omega)]
    exact c_fine (copy_Inv I ha hb b1 b2) _
  · rw [if_neg (nI_nlt (by omega) (by omega))]
    have := copy_fw ha hb b1 b2 (by omega) m 0 am_fuel Mm (by omega) (by omega) (by show m < 2000; omega)
    rw [show X8_copy_107 am_fuel (nI a) (nI i) (nI b) (nI j) (nI m) 0 0 Mm = _ from this]
    exact c_fine (copy_Inv I ha hb b1 b2) _
