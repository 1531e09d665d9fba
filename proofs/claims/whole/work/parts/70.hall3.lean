/-! PURE: hall -/
def rdOk (Mx Mm : Mem) (rx rm : Option (Int32 × Mem)) : Prop := ∃ Mx' Mm' G, rx = some (0, Mx') ∧ clF Mx' 23 G ∧ frG G ∧ 1 ≤ G 1 ∧ rm = some (1, Mm') ∧ atM Mm' 1053 G ∧ FX Mx Mx' ∧ FM Mm Mm'
theorem stopX {e : Nat} (h1 : 1 ≤ e) (h3 : e ≤ 3) (f : Nat) (x : Int32) (M : Mem) : X6_readInto_17 23 (f + 1) (nI e) x M = some (nI e, M) := by
  rw [X6_readInto_17]
  by_cases c : 6 < x
  · rw [if_pos c]
  · rw [if_neg c, if_neg (nz h1 h3)]
theorem stopM (f : Nat) (M : Mem) : X8_reads_101 (f + 1) 0 M = some (0, M) := by
  rw [X8_reads_101, if_pos rfl]
  unfold X8_reads_139
  rw [if_pos rfl]
theorem rdFail.st {Mx Mm Mx1 Mm1 : Mem} {rx rm : Option (Int32 × Mem)} (fx : FX Mx Mx1) (fm : FM Mm Mm1) (h : rdFail Mx1 Mm1 rx rm) : rdFail Mx Mm rx rm := by
  obtain ⟨e, q, Mx', Mm', h1, h2, h3, h4, h5, h6, h7, h8, h9⟩ := h
  exact ⟨e, q, Mx', Mm', h1, h2, h3, h4, h5, h6, h7, fx.tr h8, fm.tr h9⟩
theorem rdOk.st {Mx Mm Mx1 Mm1 : Mem} {rx rm : Option (Int32 × Mem)} (fx : FX Mx Mx1) (fm : FM Mm Mm1) (h : rdOk Mx1 Mm1 rx rm) : rdOk Mx Mm rx rm := by
  obtain ⟨Mx', Mm', G, h1, h2, h3, h4, h5, h6, h7, h8⟩ := h
  exact ⟨Mx', Mm', G, h1, h2, h3, h4, h5, h6, fx.tr h7, fm.tr h8⟩
theorem ref1_F (M : Mem) (x : Int32) : FM M (mset M 0 (upd (M 0) 13 x)) := ⟨fun q hq => mset_ne _ _ (by omega), fun j h1 h2 h3 => by rw [mset_self, upd_ne h2], fun j _ => by rw [mset_ne _ _ (by omega)]⟩
section HR
variable {n : Nat} {B : Nat → Nat}
theorem tv_0 {p : Nat} : tokV n B p = 0 ↔ n ≤ p := by
  unfold tokV
  by_cases h1 : n ≤ p
  · rw [if_pos h1]; exact ⟨fun _ => h1, fun _ => rfl⟩
  · rw [if_neg h1]
    refine ⟨fun h => ?_, fun h => absurd h h1⟩
    by_cases c : fig n B p = true
    · rw [if_pos c] at h
      by_cases c2 : (fig n B (p + 1) && fig n B (p + 2)) = true
      · rw [if_pos c2] at h; omega
      · rw [if_neg c2] at h; omega
    · rw [if_neg c] at h
      by_cases c2 : (97 ≤ B p ∧ B p ≤ 122) ∨ B p = 44 ∨ B p = 59
      · rw [if_pos c2] at h; omega
      · rw [if_neg c2] at h; omega
theorem no_sort {M : Mem} {p : Nat} (T : tkW n B M p) (hk : kdP n B p = 0) : X6_readTraveller 23 M = some (1, M) := by
  rw [cx_sort T, hk]
  unfold X6_readTraveller_22
  rw [if_pos (by decide)]
/-- a traveller, and on -/
theorem rd_step {d k f f' : Nat} {Mx Mm : Mem} {p : Nat} {G : Nat → Nat} (ih : ∀ (Mx Mm : Mem) (p : Nat) (G : Nat → Nat), k < 6 → tkS n B Mx p → rdS n B Mm p → p ≤ n → clF Mx 23 G → frG G → atM Mm 1053 G → G 1 = k + 1 → rdFail Mx Mm (X6_readInto_17 23 (f + 1) 0 (nI (k + 1)) Mx) (X8_reads_101 (f' + 1) 1 Mm) ∨ rdOk Mx Mm (X6_readInto_17 23 (f + 1) 0 (nI (k + 1)) Mx) (X8_reads_101 (f' + 1) 1 Mm)) (T : tkS n B Mx p) (R : rdS n B Mm p) (hp : p ≤ n) (C : clF Mx 23 G) (F : frG G) (A : atM Mm 1053 G) (hG : G 1 = k) (hk : kdP n B p ≠ 0) :
    rdFail Mx Mm (Option.bind (X6_readTraveller 23 Mx) fun u1 => X6_readInto_17 23 (f + 1) u1.1 (nI k + 1) u1.2) (Option.bind (X8_readsTraveller Mm) fun u3 => X8_reads_101 (f' + 1) u3.1 u3.2) ∨
    rdOk Mx Mm (Option.bind (X6_readTraveller 23 Mx) fun u1 => X6_readInto_17 23 (f + 1) u1.1 (nI k + 1) u1.2) (Option.bind (X8_readsTraveller Mm) fun u3 => X8_reads_101 (f' + 1) u3.1 u3.2) := by
  rcases trav_both T R hp C F A hk with ⟨e, q, Mx', Mm', h1, h2, h3, h4, h5, h6, h7, h8, h9⟩ | ⟨q, Mx', Mm', G', hq, h1, h2, h3, h4, h5, h6, h7, h8, h9, h10, h11⟩
  · left
    rw [h3, h5, Option.bind_some, Option.bind_some]
    exact ⟨e, q, Mx', Mm', h1, h2, stopX h1 h2 _ _ _, h4, stopM _ _, h6, h7, h8, h9⟩
  · rw [h1, h7, Option.bind_some, Option.bind_some, nI_1]
    rcases ih Mx' Mm' q G' (by omega) h2 h8 hq h3 h4 h9 (by omega) with z | z
    · exact Or.inl (z.st h10 h11)
    · exact Or.inr (z.st h10 h11)
theorem rd_loop : ∀ (d k f f' : Nat) (Mx Mm : Mem) (p : Nat) (G : Nat → Nat), 7 - k = d → 1 ≤ k → k ≤ 6 → d < f → d < f' → tkS n B Mx p → rdS n B Mm p → p ≤ n → clF Mx 23 G → frG G → atM Mm 1053 G → G 1 = k → rdFail Mx Mm (X6_readInto_17 23 f 0 (nI k) Mx) (X8_reads_101 f' 1 Mm) ∨ rdOk Mx Mm (X6_readInto_17 23 f 0 (nI k) Mx) (X8_reads_101 f' 1 Mm)
  | 0, k, f, f', Mx, Mm, p, G, hd, h1, h6, hf, hf', T, R, hp, C, F, A, hG => by omega
  | d + 1, k, 0, f', Mx, Mm, p, G, hd, h1, h6, hf, hf', T, R, hp, C, F, A, hG => absurd hf (Nat.not_lt_zero _)
  | d + 1, k, f + 1, 0, Mx, Mm, p, G, hd, h1, h6, hf, hf', T, R, hp, C, F, A, hG => absurd hf' (Nat.not_lt_zero _)
  | d + 1, k, f + 1, f' + 1, Mx, Mm, p, G, hd, h1, h6, hf, hf', T, R, hp, C, F, A, hG => by
    have hn := T.1.1
    have hv := tv_lt T.1.2.1 p
    obtain ⟨f, rfl⟩ : ∃ g, f = g + 1 := ⟨f - 1, by omega⟩
    obtain ⟨f', rfl⟩ : ∃ g, f' = g + 1 := ⟨f' - 1, by omega⟩
    rw [X6_readInto_17, X8_reads_101, T.2.2.1, R.2, R.1.2.2.1]
    have n6 : ¬ (6 : Int32) < nI k := by rw [li_6]; exact nI_nlt (by omega) (by omega)
    have p0 : (0 : Int32) < nI k := nI_lt (a := 0) (by omega) (by omega)
    rw [if_neg n6, if_pos rfl, if_pos p0, if_neg (show ¬ (1 : Int32) = 0 by decide)]
    by_cases hpn : p < n
    · have ht : ¬ nI (tokV n B p) = 0 := nI_ne0 (by have := (tv_0 (n := n) (B := B) (p := p)).mp; omega) (by omega)
      have hB := T.1.2.1 p hpn
      rw [if_neg ht, if_pos (nI_lt hpn (by omega)), am_in_nI (by omega) (by omega), if_pos rfl, nI_clamp (by omega), R.1.2.2.2 p hpn, kd_256 _ hB, Option.bind_some]
      have ek : kdP n B p = kdN (B p) := if_pos hpn
      by_cases hk : kdN (B p) = 0
      · left
        rw [no_sort T.w (by omega), Option.bind_some, hk, if_neg (show ¬ (0 : Int32) < nI 0 by decide)]
        refine ⟨1, p, Mx, mset Mm 0 (upd (Mm 0) 13 1), by omega, by omega, stopX (e := 1) (by omega) (by omega) _ _ _, T.2.1, ?_, by rw [mset_self, upd_same]; rfl, by rw [mset_self, upd_ne (by omega)]; exact R.2, FX.rf, ref1_F _ _⟩
        unfold X8_reads_139
        rw [if_neg (show ¬ (1 : Int32) = 0 by decide), R.2, R.1.2.2.1, if_neg (by rw [nI_eq (by omega) (by omega)]; omega)]
        rfl
      · have hk5 := kdN_le (B p)
        rw [if_pos (show (0 : Int32) < nI (kdN (B p)) from nI_lt (a := 0) (by omega) (by omega))]
        exact rd_step (d := d) (fun Mx Mm p G hk T R hp C F A hG => rd_loop d (k + 1) (f + 1) (f' + 1) Mx Mm p G (by omega) (by omega) (by omega) (by omega) (by omega) T R hp C F A hG) T R hp C F A hG (by omega)
    · right
      have e : p = n := by omega
      rw [tv_0.mpr (by omega), if_pos (show nI 0 = 0 from rfl), if_neg (nI_nlt (by omega) (by omega))]
      refine ⟨Mx, Mm, G, rfl, C, F, by omega, ?_, A, FX.rf, fun _ _ => rfl, fun _ _ _ _ => rfl, fun _ _ => rfl⟩
      unfold X8_reads_139
      rw [if_neg (show ¬ (1 : Int32) = 0 by decide), R.2, R.1.2.2.1, if_pos (by rw [e])]
theorem rd_lay : ∀ (d k f : Nat) (M : Mem), 39 - k = d → k ≤ 39 → d < f → X8_reads_2 f (nI k) M = X8_reads_2 1 (nI 39) (mset M 1 (fun j => if 1053 + k ≤ j ∧ j < 1092 then cI (j - 1053) (g0 (j - 1053)) else M 1 j))
  | 0, k, 0, M, _, _, h => absurd h (Nat.not_lt_zero _)
  | 0, k, f + 1, M, hd, hk, _ => by
    have e : k = 39 := by omega
    subst e
    have e2 : (fun j => if 1053 + 39 ≤ j ∧ j < 1092 then cI (j - 1053) (g0 (j - 1053)) else M 1 j) = M 1 := by
      funext j
      rw [if_neg (by omega)]
    rw [e2, mset_id, X8_reads_2, X8_reads_2, if_neg (show ¬ nI 39 < 39 by decide), if_neg (show ¬ nI 39 < 39 by decide)]
  | d + 1, k, 0, M, _, _, h => absurd h (Nat.not_lt_zero _)
  | d + 1, k, f + 1, M, hd, hk, hf => by
    have hlt : k < 39 := by omega
    have key : ∀ x : Int32, x = cI k (g0 k) → X8_reads_2 f (nI k + 1) (mset M 1 (upd (M 1) (1053 + k) x)) = X8_reads_2 1 (nI 39) (mset M 1 (fun j => if 1053 + k ≤ j ∧ j < 1092 then cI (j - 1053) (g0 (j - 1053)) else M 1 j)) := fun x hx => by
      rw [nI_1, rd_lay d (k + 1) f _ (by omega) (by omega) (by omega), mset_mset, mset_self]
      congr 1
      congr 1
      funext j
      unfold upd
      by_cases q : j = 1053 + k
      · rw [if_neg (by omega), if_pos q, if_pos (by omega), hx, q, Nat.add_sub_cancel_left]
      · by_cases q2 : 1053 + k ≤ j ∧ j < 1092
        · rw [if_pos (by omega), if_pos q2]
        · rw [if_neg (by omega), if_neg q, if_neg q2]
    rw [X8_reads_2, if_pos (show nI k < 39 from nI_lt (b := 39) hlt (by omega)), in_spec, i64_32, nI_toInt (by omega), show (15 : Int64).toInt = 15 by decide, show (20 : Int64).toInt = 20 by decide, Option.bind_some, li_1053, nI_add, am_in_nI (by omega) (by omega), if_pos rfl, nI_clamp (by omega), am_let_eq, am_let_eq, am_let_eq]
    by_cases c : 15 ≤ k ∧ k ≤ 20
    · rw [decide_eq_true (by omega), if_neg (show ¬ bI true = 0 by decide), if_pos rfl]
      exact key _ (by rw [cI_g (by omega)]; unfold g0; rw [if_neg (by omega)]; rfl)
    · rw [decide_eq_false (by omega), if_pos (show bI false = 0 from rfl)]
      by_cases c2 : k < 33
      · rw [if_pos (show nI k < 33 from nI_lt (b := 33) c2 (by omega))]
        exact key _ (by rw [cI_n (by omega)]; unfold g0; rw [if_neg (by omega)]; rfl)
      · rw [if_neg (show ¬ nI k < 33 from nI_nlt (b := 33) (by omega) (by omega)), if_pos rfl]
        exact key _ (by rw [cI_n (by omega)]; unfold g0; rw [if_pos (by omega)]; rfl)
theorem rd_all {Mx Mm : Mem} (Tx : tpX n B Mx) (Tm : tpM n B Mm) : rdFail Mx Mm (X6_readInto 23 Mx) (X8_reads Mm) ∨ rdOk Mx Mm (X6_readInto 23 Mx) (X8_reads Mm) := by
  have hn := Tx.1
  have eL : X8_reads Mm = X8_reads_2 1 (nI 39) (wrM Mm 1053 g0) := rd_lay 39 0 am_fuel Mm rfl (by omega) (by show 39 < 2000; omega)
  have A0 : atM (wrM Mm 1053 g0) 1053 g0 := atM_of _ _ _
  have F0 : FM Mm (wrM Mm 1053 g0) := ⟨fun q hq => wrM_ne _ _ _ (by omega), fun j _ _ _ => by rw [wrM_ne _ _ _ (by omega)], fun j hj => wrM_out _ _ _ (by omega)⟩
  rw [eL, X8_reads_2, if_neg (show ¬ nI 39 < 39 by decide)]
  unfold X6_readInto
  rw [am_let_eq, am_let_eq]
  generalize wrM Mm 1053 g0 = Mm1 at A0 F0 ⊢
  have F1 : FM Mm1 (mset Mm1 0 (upd (Mm1 0) 12 0)) := ⟨fun q hq => mset_ne _ _ (by omega), fun j h1 h2 h3 => by rw [mset_self, upd_ne h1], fun j _ => by rw [mset_ne _ _ (by omega)]⟩
  have A1 : atM (mset Mm1 0 (upd (Mm1 0) 12 0)) 1053 g0 := atM_cong A0 (fun k hk => by rw [mset_ne _ _ (by omega)])
  have R1 : rdS n B (mset Mm1 0 (upd (Mm1 0) 12 0)) 0 := (F0.tr F1).rdS Tm (by rw [mset_self, upd_same]; rfl)
  generalize mset Mm1 0 (upd (Mm1 0) 12 0) = Mm2 at F1 A1 R1 ⊢
  have FM2 := F0.tr F1
  have T0 : tpX n B (mset Mx 13 (upd (Mx 13) 4 0)) := tp_13 Tx (upd_ne (by omega))
  obtain ⟨Mx1, x1, x2, x3⟩ := cx_next T0 (q := 0) (by rw [mset_self, upd_same]; rfl) (by omega)
  have fx1 : FX Mx Mx1 := fun q h1 _ => by rw [x3 q h1, mset_ne _ _ h1]
  rw [x1, Option.bind_some]
  rcases law_both x2 R1 (by omega) A1 with ⟨e, q, Mx', Mm', h1, h2, h3, h4, h5, h6, h7, h8, h9⟩ | ⟨q, Mx', Mm', G, hq, h1, h2, h3, h4, h5, h6, h7, h8, h9, h10⟩
  · left
    rw [h3, h5, Option.bind_some, Option.bind_some]
    exact ⟨e, q, Mx', Mm', h1, h2, stopX h1 h2 1999 _ _, h4, stopM 1999 _, h6, h7, fx1.tr h8, FM2.tr h9⟩
  · rw [h1, h6, Option.bind_some, Option.bind_some]
    have fx := fx1.tr h9
    have fm := FM2.tr h10
    show rdFail Mx Mm (X6_readInto_17 23 (1998 + 1 + 1) 0 0 Mx') (if (1 : Int32) = 0 then X8_reads_101 (1998 + 1 + 1) 1 Mm' else _) ∨ rdOk Mx Mm (X6_readInto_17 23 (1998 + 1 + 1) 0 0 Mx') (if (1 : Int32) = 0 then X8_reads_101 (1998 + 1 + 1) 1 Mm' else _)
    rw [X6_readInto_17, if_neg (show ¬ (6 : Int32) < 0 by decide), if_pos rfl, if_neg (show ¬ (0 : Int32) < 0 by decide), if_neg (show ¬ (1 : Int32) = 0 by decide)]
    show rdFail Mx Mm _ (if Mm' 0 12 = Mm' 0 7 then _ else _) ∨ rdOk Mx Mm _ (if Mm' 0 12 = Mm' 0 7 then _ else _)
    rw [h7.2, h7.1.2.2.1]
    simp only [nI_eq (show q < 2 ^ 31 by omega) (show n < 2 ^ 31 by omega)]
    have bad : kdP n B q = 0 → rdFail Mx Mm (Option.bind (X6_readTraveller 23 Mx') fun u2 => X6_readInto_17 23 (1998 + 1) u2.1 (0 + 1) u2.2) (some (0, mset Mm' 0 (upd (Mm' 0) 13 1))) := fun hk => by
      rw [no_sort h2.w hk, Option.bind_some]
      exact ⟨1, q, Mx', mset Mm' 0 (upd (Mm' 0) 13 1), by omega, by omega, stopX (e := 1) (by omega) (by omega) _ _ _, h2.2.1, rfl, by rw [mset_self, upd_same]; rfl, by rw [mset_self, upd_ne (by omega)]; exact h7.2, fx, fm.tr (ref1_F _ _)⟩
    by_cases c : q = n
    · left
      rw [if_pos c]
      exact bad (if_neg (by omega))
    · have hqn : q < n := by omega
      have hB := x2.1.2.1 q hqn
      have ek : kdP n B q = kdN (B q) := if_pos hqn
      have hk5 := kdN_le (B q)
      rw [if_neg c, h7.2, am_in_nI (by omega) (by omega), if_pos rfl, nI_clamp (by omega), h7.1.2.2.2 q hqn, kd_256 _ hB, Option.bind_some]
      by_cases hk : kdN (B q) = 0
      · left
        rw [hk, if_pos (show nI 0 = 0 from rfl)]
        exact bad (by omega)
      · have p0 : (0 : Int32) < nI (kdN (B q)) := nI_lt (a := 0) (by omega) (by omega)
        rw [if_neg (nI_ne0 (by omega) (by omega))]
        show rdFail Mx Mm _ (X8_reads_101 (1998 + 1 + 1) 1 Mm') ∨ rdOk Mx Mm _ (X8_reads_101 (1998 + 1 + 1) 1 Mm')
        rw [X8_reads_101, if_neg (show ¬ (1 : Int32) = 0 by decide), h7.2, h7.1.2.2.1, if_pos (nI_lt hqn (by omega)), am_in_nI (by omega) (by omega), if_pos rfl, nI_clamp (by omega), h7.1.2.2.2 q hqn, kd_256 _ hB, Option.bind_some, if_pos p0]
        have st := rd_step (d := 6) (k := 0) (f := 1998) (f' := 1998) (fun Mx Mm p G hk T R hp C F A hG => rd_loop 6 1 (1998 + 1) (1998 + 1) Mx Mm p G (by omega) (by omega) (by omega) (by omega) (by omega) T R hp C F A hG) h2 h7 hq h3 h4 h8 h5 (by omega)
        rcases st with z | z
        · exact Or.inl (z.st fx fm)
        · exact Or.inr (z.st fx fm)
end HR
