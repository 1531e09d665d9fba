/-! PURE: signs and numbers, read by both -/
def kdN (c : Nat) : Nat := if c = 99 then 1 else if c = 115 then 2 else if c = 104 then 3 else if c = 108 then 4 else if c = 100 then 5 else 0
theorem kd_256 : ∀ c, c < 256 → X8_kindOfLetter (nI c) = some (nI (kdN c)) := by decide +kernel
theorem kdN_le (c : Nat) : kdN c ≤ 5 := by
  unfold kdN
  repeat (split; omega)
  omega
theorem ix_M (M M' : Mem) : ∀ (f : Nat) (a b c : Int32), J1_indexOfChar_4cfef_7 M f a b c = J1_indexOfChar_4cfef_7 M' f a b c
  | 0, _, _, _ => rfl
  | f + 1, a, b, c => by rw [J1_indexOfChar_4cfef_7, J1_indexOfChar_4cfef_7, ix_M M M' f]
theorem ix_N (M M' : Mem) (x : Int32) : J0_indexOf_0f7a4 M x = J0_indexOf_0f7a4 M' x := by
  unfold J0_indexOf_0f7a4 J0_indexOf_7cf53 J1_indexOf_4cfef J1_indexOfChar_4cfef
  simp only [ix_M M M', J0_isLatin1_aae02, J0_length_8abf5, J0_coder_7d493]
theorem ix_256 : ∀ c, c < 256 → J0_indexOf_0f7a4 (fun _ _ => 0) (((nI c).toUInt32 % 65536).toInt32) = some (nI (kdN c) - 1) := by decide +kernel
/-- the token, its value aside -/
def tkW (n : Nat) (B : Nat → Nat) (M : Mem) (p : Nat) : Prop := tpX n B M ∧ M 13 3 = nI p ∧ M 13 2 = nI (tokV n B p) ∧ M 13 4 = nI (tokE n B p)
theorem tkS.w {n : Nat} {B : Nat → Nat} {M : Mem} {p : Nat} (T : tkS n B M p) : tkW n B M p := ⟨T.1, T.2.1, T.2.2.1, T.2.2.2.1⟩
/-- where the reference reads -/
def rdS (n : Nat) (B : Nat → Nat) (M : Mem) (p : Nat) : Prop := tpM n B M ∧ M 0 12 = nI p
def fr0 (M M' : Mem) : Prop := (∀ q, q ≠ 0 → M' q = M q) ∧ ∀ j, j ≠ 12 → j ≠ 13 → j ≠ 14 → M' 0 j = M 0 j
def fr13 (M M' : Mem) : Prop := ∀ q, q ≠ 13 → M' q = M q
theorem fr0.tp {n : Nat} {B : Nat → Nat} {M M' : Mem} (f : fr0 M M') (T : tpM n B M) : tpM n B M' := ⟨T.1, T.2.1, by rw [f.2 7 (by omega) (by omega) (by omega)]; exact T.2.2.1, fun i hi => by rw [f.1 6 (by omega)]; exact T.2.2.2 i hi⟩
theorem ff : ¬ (false = true) := by simp
section SG
variable {n : Nat} {B : Nat → Nat}
theorem tv_sign {p c : Nat} (hc : c = 98 ∨ c = 59 ∨ c = 44) : (tokV n B p = c ↔ (p < n ∧ B p = c)) ∧ (tokV n B p = c → tokE n B p = p + 1) := by
  unfold tokV tokE
  by_cases h1 : n ≤ p
  · rw [if_pos h1, if_pos h1]
    exact ⟨⟨fun h => by omega, fun h => by omega⟩, fun h => by omega⟩
  · rw [if_neg h1, if_neg h1]
    cases hf : fig n B p with
    | true =>
      obtain ⟨a1, a2, a3⟩ := fig_lt hf
      rw [if_pos rfl]
      have : (if (fig n B (p + 1) && fig n B (p + 2)) = true then 2 else 1) ≤ 2 := by split <;> omega
      exact ⟨⟨fun h => by omega, fun h => by omega⟩, fun h => by omega⟩
    | false =>
      rw [if_neg ff, if_neg ff]
      by_cases q : (97 ≤ B p ∧ B p ≤ 122) ∨ B p = 44 ∨ B p = 59
      · rw [if_pos q]
        exact ⟨⟨fun h => by omega, fun h => by omega⟩, fun _ => rfl⟩
      · rw [if_neg q]
        exact ⟨⟨fun h => by omega, fun h => by omega⟩, fun _ => rfl⟩
theorem tv_big {p : Nat} (h : 2 < tokV n B p) : p < n ∧ tokV n B p = B p := by
  unfold tokV at h ⊢
  by_cases h1 : n ≤ p
  · rw [if_pos h1] at h; omega
  · rw [if_neg h1] at h ⊢
    cases hf : fig n B p with
    | true =>
      rw [hf, if_pos rfl] at h
      have : (if (fig n B (p + 1) && fig n B (p + 2)) = true then 2 else 1) ≤ 2 := by split <;> omega
      omega
    | false =>
      rw [hf, if_neg ff] at h
      rw [if_neg ff]
      by_cases q : (97 ≤ B p ∧ B p ≤ 122) ∨ B p = 44 ∨ B p = 59
      · rw [if_pos q]; exact ⟨by omega, rfl⟩
      · rw [if_neg q] at h; omega
def kdP (n : Nat) (B : Nat → Nat) (p : Nat) : Nat := if p < n then kdN (B p) else 0
theorem kdN_in {c : Nat} (h : kdN c ≠ 0) : c = 99 ∨ c = 115 ∨ c = 104 ∨ c = 108 ∨ c = 100 := by
  unfold kdN at h
  by_cases h1 : c = 99
  · omega
  by_cases h2 : c = 115
  · omega
  by_cases h3 : c = 104
  · omega
  by_cases h4 : c = 108
  · omega
  by_cases h5 : c = 100
  · omega
  rw [if_neg h1, if_neg h2, if_neg h3, if_neg h4, if_neg h5] at h
  exact absurd rfl h
theorem tv_kd {p : Nat} (h : kdP n B p ≠ 0) : p < n ∧ tokV n B p = B p ∧ tokE n B p = p + 1 ∧ 99 ≤ B p ∧ kdP n B p = kdN (B p) := by
  unfold kdP at h ⊢
  by_cases h1 : p < n
  · rw [if_pos h1] at h ⊢
    have hc := kdN_in h
    have hf : fig n B p = false := by unfold fig; rw [decide_eq_false (by omega)]
    unfold tokV tokE
    rw [if_neg (show ¬ n ≤ p by omega), if_neg (show ¬ n ≤ p by omega), hf, if_neg ff, if_neg ff, if_pos (by omega)]
    exact ⟨h1, rfl, rfl, by omega, rfl⟩
  · rw [if_neg h1] at h; exact absurd rfl h
theorem tv_num {p : Nat} : (tokV n B p = 1 ↔ (fig n B p = true ∧ ¬ (fig n B (p + 1) = true ∧ fig n B (p + 2) = true))) ∧ (tokV n B p = 1 → tokE n B p = if fig n B (p + 1) = true then p + 2 else p + 1) := by
  unfold tokV tokE
  by_cases h1 : n ≤ p
  · rw [if_pos h1, if_pos h1]
    refine ⟨⟨fun h => by omega, fun h => ?_⟩, fun h => by omega⟩
    have := (fig_lt h.1).1
    omega
  · rw [if_neg h1, if_neg h1]
    cases hf : fig n B p with
    | true =>
      rw [if_pos rfl, if_pos rfl]
      cases hf1 : fig n B (p + 1) with
      | true =>
        cases hf2 : fig n B (p + 2) with
        | true => simp
        | false => simp
      | false => simp
    | false =>
      rw [if_neg ff, if_neg ff]
      have h2 : (if (97 ≤ B p ∧ B p ≤ 122) ∨ B p = 44 ∨ B p = 59 then B p else 2) ≠ 1 := by split <;> omega
      exact ⟨⟨fun h => absurd h h2, fun h => absurd h.1 (by simp)⟩, fun h => absurd h h2⟩
theorem tv_lt (hB : ∀ i, i < n → B i < 256) (p : Nat) : tokV n B p < 256 := by
  unfold tokV
  by_cases h1 : n ≤ p
  · rw [if_pos h1]; omega
  · rw [if_neg h1]
    have := hB p (by omega)
    split
    · split <;> omega
    · split <;> omega
theorem cx_sort {M : Mem} {p h : Nat} (T : tkW n B M p) : X6_readTraveller h M = X6_readTraveller_22 h (nI (kdP n B p) - 1) M := by
  have hv := tv_lt T.1.2.1 p
  unfold X6_readTraveller
  rw [T.2.2.1]
  by_cases c : 2 < tokV n B p
  · rw [if_pos (by rw [li_2]; exact nI_lt c (by omega)), ix_N M (fun _ _ => 0), ix_256 _ hv, Option.bind_some]
    obtain ⟨h1, h2⟩ := tv_big c
    unfold kdP
    rw [if_pos h1, h2]
  · rw [if_neg (by rw [li_2]; exact nI_nlt (by omega) (by omega))]
    have e : kdP n B p = 0 := by
      by_cases q : kdP n B p = 0
      · exact q
      · obtain ⟨a1, a2, a3, a4, -⟩ := tv_kd q
        omega
    rw [e]; rfl
/-- a sign -/
theorem sign_both {Mx Mm : Mem} {p c : Nat} (hc : c = 98 ∨ c = 59 ∨ c = 44) (T : tkW n B Mx p) (R : rdS n B Mm p) (hp : p ≤ n) :
    (X6_readSign (nI c) Mx = some (1, Mx) ∧ ∃ Mm', X8_sign (nI c) Mm = some (0, Mm') ∧ Mm' 0 13 = nI 1 ∧ Mm' 0 12 = nI p ∧ fr0 Mm Mm') ∨
    (p < n ∧ ∃ Mx' Mm', X6_readSign (nI c) Mx = some (0, Mx') ∧ tkS n B Mx' (p + 1) ∧ fr13 Mx Mx' ∧ X8_sign (nI c) Mm = some (1, Mm') ∧ Mm' 0 12 = nI (p + 1) ∧ fr0 Mm Mm') := by
  have hn := T.1.1
  have hv := tv_lt T.1.2.1 p
  obtain ⟨s1, s2⟩ := tv_sign (n := n) (B := B) (p := p) hc
  obtain ⟨t1, t2, t3, t4⟩ := T
  obtain ⟨⟨r1, r2, r3, r4⟩, r5⟩ := R
  unfold X6_readSign X8_sign
  rw [t3]
  simp only [nI_eq (show tokV n B p < 2 ^ 31 by omega) (show c < 2 ^ 31 by omega)]
  have eL : X8_isLetter Mm (nI c) = some (bI (decide (p < n ∧ B p = c))) := by
    unfold X8_isLetter
    rw [r5, r3]
    by_cases q : p < n
    · have := r2 p q
      rw [if_pos (nI_lt q (by omega)), am_in_nI (by omega) (by omega), if_pos rfl, nI_clamp (by omega), r4 p q]
      simp only [nI_eq (show B p < 2 ^ 31 by omega) (show c < 2 ^ 31 by omega)]
      by_cases q2 : B p = c
      · rw [if_pos q2, decide_eq_true ⟨q, q2⟩]; rfl
      · rw [if_neg q2, decide_eq_false (fun z => q2 z.2)]; rfl
    · rw [if_neg (nI_nlt (by omega) (by omega)), decide_eq_false (fun z => q z.1)]; rfl
  rw [eL, Option.bind_some]
  by_cases q : tokV n B p = c
  · right
    have q1 := s1.mp q
    refine ⟨q1.1, ?_⟩
    rw [if_pos q, decide_eq_true q1, if_neg (show ¬ bI true = 0 by decide)]
    obtain ⟨M', a1, a2, a3⟩ := cx_next t1 t4 (by rw [s2 q]; omega)
    rw [a1, Option.bind_some, am_let_eq]
    refine ⟨M', _, rfl, by rw [← s2 q]; exact a2, a3, rfl, ?_, ?_, ?_⟩
    · rw [mset_self, upd_same, r5, nI_1]
    · exact fun q hq => mset_ne _ _ hq
    · intro j h1 h2 h3
      rw [mset_self, upd_ne h1]
  · left
    rw [if_neg q, decide_eq_false (fun z => q (s1.mpr z)), if_pos (show bI false = 0 from rfl)]
    refine ⟨rfl, mset Mm 0 (upd (Mm 0) 13 1), rfl, ?_, ?_, ?_, ?_⟩
    · rw [mset_self, upd_same]; rfl
    · rw [mset_self, upd_ne (by omega)]; exact r5
    · exact fun q hq => mset_ne _ _ hq
    · intro j h1 h2 h3
      rw [mset_self, upd_ne h2]
theorem rn_113 {M : Mem} {p v lo hi s : Nat} (r5 : M 0 12 = nI p) (hv : v < 2000) (hlo : lo < 2000) (hhi : hi < 2000) : ∃ M', X8_readsNumber_113 (nI lo) (nI hi) (nI s) (nI v) M = some (if lo ≤ v ∧ v ≤ hi then 1 else 0, M') ∧ fr0 M M' ∧ M' 0 14 = nI v ∧ M' 0 12 = nI (if lo ≤ v ∧ v ≤ hi then p + s else p) ∧ (¬ (lo ≤ v ∧ v ≤ hi) → M' 0 13 = nI 2) := by
  unfold X8_readsNumber_113
  rw [am_let_eq, mset_self, upd_same, in_spec, i64_32, i64_32, i64_32, nI_toInt (by omega), nI_toInt (by omega), nI_toInt (by omega), Option.bind_some]
  by_cases c : lo ≤ v ∧ v ≤ hi
  · rw [decide_eq_true (by omega), if_neg (show ¬ bI true = 0 by decide), if_pos c, if_pos c, am_let_eq, mset_mset, upd_ne (by omega), r5, nI_add]
    refine ⟨_, rfl, ⟨fun q hq => mset_ne _ _ hq, fun j h1 h2 h3 => ?_⟩, ?_, ?_, fun q => absurd c q⟩
    · rw [mset_self, upd_ne h1, upd_ne h3]
    · rw [mset_self, upd_ne (by omega), upd_same]
    · rw [mset_self, upd_same]
  · rw [decide_eq_false (by omega), if_pos (show bI false = 0 from rfl), if_neg c, if_neg c]
    refine ⟨mset M 0 (upd (upd (M 0) 14 (nI v)) 13 2), ?_, ⟨fun q hq => mset_ne _ _ hq, fun j h1 h2 h3 => ?_⟩, ?_, ?_, fun _ => ?_⟩
    · unfold X8_refuse
      rw [am_let_eq, mset_mset, mset_self]; rfl
    · rw [mset_self, upd_ne h2, upd_ne h3]
    · rw [mset_self, upd_ne (by omega), upd_same]
    · rw [mset_self, upd_ne (by omega), upd_ne (by omega)]; exact r5
    · rw [mset_self, upd_same]; rfl
theorem rn_43 {M : Mem} {p lo hi : Nat} (R : rdS n B M p) (hf : fig n B p = true) (hlo : lo < 2000) (hhi : hi < 2000) : ∃ M', X8_readsNumber_43 (nI lo) (nI hi) M = some (if lo ≤ numV n B p ∧ numV n B p ≤ hi then 1 else 0, M') ∧ fr0 M M' ∧ M' 0 14 = nI (numV n B p) ∧ M' 0 12 = nI (if lo ≤ numV n B p ∧ numV n B p ≤ hi then (if fig n B (p + 1) = true then p + 2 else p + 1) else p) ∧ (¬ (lo ≤ numV n B p ∧ numV n B p ≤ hi) → M' 0 13 = nI 2) := by
  obtain ⟨T, r5⟩ := R
  obtain ⟨a1, a2, a3⟩ := fig_lt hf
  have hn := T.1
  have hb := T.2.1 p a1
  unfold X8_readsNumber_43
  rw [r5, am_in_nI (by omega) (by omega), if_pos rfl, nI_clamp (by omega), T.2.2.2 p a1, li_48, pk_sub a2, am_let_eq, mset_self, upd_ne (by omega), r5, nI_1]
  have f1 : fr0 M (mset M 0 (upd (M 0) 14 (nI (B p - 48)))) := ⟨fun q hq => mset_ne _ _ hq, fun j h1 h2 h3 => by rw [mset_self, upd_ne h3]⟩
  have T1 := f1.tp T
  have r51 : mset M 0 (upd (M 0) 14 (nI (B p - 48))) 0 12 = nI p := by rw [mset_self, upd_ne (by omega)]; exact r5
  have e14 : mset M 0 (upd (M 0) 14 (nI (B p - 48))) 0 14 = nI (B p - 48) := by rw [mset_self, upd_same]
  generalize mset M 0 (upd (M 0) 14 (nI (B p - 48))) = M1 at f1 T1 r51 e14 ⊢
  rw [fig_m T1 (by omega), Option.bind_some]
  unfold X8_readsNumber_77 numV
  cases hf1 : fig n B (p + 1) with
  | false =>
    rw [if_pos (show bI false = 0 from rfl), if_neg (show ¬ (1 : Int32) = 2 by decide), if_neg ff, e14]
    obtain ⟨M', b1, b2, b3, b4, b5⟩ := rn_113 (lo := lo) (hi := hi) (s := 1) (v := B p - 48) r51 (by omega) hlo hhi
    exact ⟨M', b1, ⟨fun q hq => (b2.1 q hq).trans (f1.1 q hq), fun j h1 h2 h3 => (b2.2 j h1 h2 h3).trans (f1.2 j h1 h2 h3)⟩, b3, by rw [if_neg ff]; exact b4, b5⟩
  | true =>
    obtain ⟨c1, c2, c3⟩ := fig_lt hf1
    have e6 : M1 6 (p + 1) = nI (B (p + 1)) := T1.2.2.2 _ c1
    rw [if_neg (show ¬ bI true = 0 by decide), if_pos (show (2 : Int32) = 2 from rfl), if_pos (show true = true from rfl), e14, r51, nI_1, am_in_nI (by omega) (by omega), if_pos rfl, nI_clamp (by omega), e6, li_10, nI_mul, nI_add, li_48, pk_sub (by omega)]
    obtain ⟨M', b1, b2, b3, b4, b5⟩ := rn_113 (lo := lo) (hi := hi) (s := 2) (v := (B p - 48) * 10 + (B (p + 1) - 48)) r51 (by omega) hlo hhi
    rw [show 10 * (B p - 48) + B (p + 1) - 48 = (B p - 48) * 10 + (B (p + 1) - 48) by omega]
    exact ⟨M', b1, ⟨fun q hq => (b2.1 q hq).trans (f1.1 q hq), fun j h1 h2 h3 => (b2.2 j h1 h2 h3).trans (f1.2 j h1 h2 h3)⟩, b3, by rw [if_pos rfl]; exact b4, b5⟩
/-- a number -/
theorem num_both {Mx Mm : Mem} {p lo hi : Nat} (T : tkS n B Mx p) (R : rdS n B Mm p) (hp : p ≤ n) (hlo : lo < 2000) (hhi : hi < 2000) :
    (∃ e Mm', (e = 1 ∨ e = 2) ∧ X6_readNumber (nI lo) (nI hi) Mx = some (nI e, Mx) ∧ X8_readsNumber (nI lo) (nI hi) Mm = some (0, Mm') ∧ Mm' 0 13 = nI e ∧ Mm' 0 12 = nI p ∧ fr0 Mm Mm') ∨
    (∃ v q Mx' Mm', lo ≤ v ∧ v ≤ hi ∧ q ≤ n ∧ X6_readNumber (nI lo) (nI hi) Mx = some (0, Mx') ∧ tkW n B Mx' q ∧ Mx' 13 5 = nI v ∧ fr13 Mx Mx' ∧ X8_readsNumber (nI lo) (nI hi) Mm = some (1, Mm') ∧ Mm' 0 12 = nI q ∧ Mm' 0 14 = nI v ∧ fr0 Mm Mm') := by
  have hn := T.1.1
  have hv := tv_lt T.1.2.1 p
  obtain ⟨s1, s2⟩ := tv_num (n := n) (B := B) (p := p)
  obtain ⟨t1, t2, t3, t4, t5⟩ := T
  have ref1 : ∃ Mm', (Option.bind (X8_refuse (1 : Int32) Mm) fun u2 => if u2.1 = 0 ∨ u2.1 = 1 then some (u2.1, u2.2) else none) = some (0, Mm') ∧ Mm' 0 13 = nI 1 ∧ Mm' 0 12 = nI p ∧ fr0 Mm Mm' :=
    ⟨mset Mm 0 (upd (Mm 0) 13 1), rfl, by rw [mset_self, upd_same]; rfl, by rw [mset_self, upd_ne (by omega)]; exact R.2, fun q hq => mset_ne _ _ hq, fun j h1 h2 h3 => by rw [mset_self, upd_ne h2]⟩
  unfold X6_readNumber X8_readsNumber
  rw [t3, li_1, R.2, nI_add, li_2, nI_add, fig_m R.1 (by omega), fig_m R.1 (by omega), fig_m R.1 (by omega)]
  simp only [nI_eq (show tokV n B p < 2 ^ 31 by omega) (show 1 < 2 ^ 31 by omega), Option.bind_some]
  by_cases c : tokV n B p = 1
  · rw [if_pos c]
    obtain ⟨hf, hg⟩ := s1.mp c
    obtain ⟨a1, a2, a3⟩ := fig_lt hf
    have v5 := t5 c
    have hvn : numV n B p < 2000 := by
      have := t1.2.1 p a1
      unfold numV
      by_cases q : fig n B (p + 1) = true
      · have := t1.2.1 (p + 1) (fig_lt q).1
        rw [if_pos q]; omega
      · rw [if_neg q]; omega
    obtain ⟨Mm', b1, b2, b3, b4, b5⟩ := rn_43 (lo := lo) (hi := hi) R hf hlo hhi
    have e43 : (if bI (fig n B p) = 0 then (Option.bind (X8_refuse (nI 1) Mm) fun u2 => if u2.1 = 0 ∨ u2.1 = nI 1 then some (u2.1, u2.2) else none) else if bI (fig n B (p + 1)) = 0 then X8_readsNumber_43 (nI lo) (nI hi) Mm else if bI (fig n B (p + 2)) = 0 then X8_readsNumber_43 (nI lo) (nI hi) Mm else (Option.bind (X8_refuse (nI 1) Mm) fun u2 => if u2.1 = 0 ∨ u2.1 = nI 1 then some (u2.1, u2.2) else none)) = X8_readsNumber_43 (nI lo) (nI hi) Mm := by
      rw [hf, if_neg (show ¬ bI true = 0 by decide)]
      cases hf1 : fig n B (p + 1) with
      | false => rw [if_pos (show bI false = 0 from rfl)]
      | true =>
        rw [if_neg (show ¬ bI true = 0 by decide)]
        cases hf2 : fig n B (p + 2) with
        | false => rw [if_pos (show bI false = 0 from rfl)]
        | true => exact absurd ⟨hf1, hf2⟩ hg
    rw [e43, b1, v5]
    simp only [nI_ltI (show numV n B p < 2 ^ 31 by omega) (show lo < 2 ^ 31 by omega), nI_ltI (show hi < 2 ^ 31 by omega) (show numV n B p < 2 ^ 31 by omega)]
    by_cases c1 : lo ≤ numV n B p ∧ numV n B p ≤ hi
    · right
      rw [if_neg (by omega), if_neg (by omega), if_pos c1]
      rw [if_pos c1] at b4
      obtain ⟨M1, d1, d2, d3⟩ := cx_next t1 t4 (by rw [s2 c]; split <;> omega)
      rw [d1, Option.bind_some, am_let_eq]
      have eq : tokE n B p ≤ n := by
        rw [s2 c]
        split
        · next q => have := (fig_lt q).1; omega
        · omega
      refine ⟨numV n B p, tokE n B p, _, Mm', c1.1, c1.2, eq, rfl, ⟨tp_13 d2.1 (upd_ne (by omega)), ?_, ?_, ?_⟩, ?_, ?_, rfl, ?_, b3, b2⟩
      · rw [mset_self, upd_ne (by omega)]; exact d2.2.1
      · rw [mset_self, upd_ne (by omega)]; exact d2.2.2.1
      · rw [mset_self, upd_ne (by omega)]; exact d2.2.2.2.1
      · rw [mset_self, upd_same]
      · intro q hq
        rw [mset_ne _ _ hq]; exact d3 q hq
      · rw [s2 c]; exact b4
    · left
      rw [if_neg c1]
      rw [if_neg c1] at b4
      refine ⟨2, Mm', Or.inr rfl, ?_, rfl, b5 c1, b4, b2⟩
      by_cases c2 : numV n B p < lo
      · rw [if_pos c2]
      · rw [if_neg c2, if_pos (by omega)]
  · left
    rw [if_neg c]
    obtain ⟨Mm', b1, b2, b3, b4⟩ := ref1
    refine ⟨1, Mm', Or.inl rfl, rfl, ?_, b2, b3, b4⟩
    rw [li_1] at b1
    cases hf : fig n B p with
    | false => rw [if_pos (show bI false = 0 from rfl)]; exact b1
    | true =>
      rw [if_neg (show ¬ bI true = 0 by decide)]
      cases hf1 : fig n B (p + 1) with
      | false => exact absurd (s1.mpr ⟨hf, fun z => by rw [hf1] at z; exact ff z.1⟩) c
      | true =>
        rw [if_neg (show ¬ bI true = 0 by decide)]
        cases hf2 : fig n B (p + 2) with
        | false => exact absurd (s1.mpr ⟨hf, fun z => by rw [hf2] at z; exact ff z.2⟩) c
        | true => rw [if_neg (show ¬ bI true = 0 by decide)]; exact b1
end SG
