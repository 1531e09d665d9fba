/-! PURE: what is read -/
def fig (n : Nat) (B : Nat → Nat) (i : Nat) : Bool := decide (i < n ∧ 48 ≤ B i ∧ B i ≤ 57)
def tokV (n : Nat) (B : Nat → Nat) (p : Nat) : Nat :=
  if n ≤ p then 0 else if fig n B p then (if fig n B (p + 1) && fig n B (p + 2) then 2 else 1) else if (97 ≤ B p ∧ B p ≤ 122) ∨ B p = 44 ∨ B p = 59 then B p else 2
def tokE (n : Nat) (B : Nat → Nat) (p : Nat) : Nat :=
  if n ≤ p then p else if fig n B p then (if fig n B (p + 1) then (if fig n B (p + 2) then p + 3 else p + 2) else p + 1) else p + 1
def numV (n : Nat) (B : Nat → Nat) (p : Nat) : Nat := if fig n B (p + 1) then (B p - 48) * 10 + (B (p + 1) - 48) else B p - 48
/-- the tape, in the class, in the reference -/
def tpX (n : Nat) (B : Nat → Nat) (M : Mem) : Prop := n ≤ 110 ∧ (∀ i, i < n → B i < 256) ∧ M 13 1 = nI n ∧ ∀ i, i < n → M 14 i = nI (B i)
def tpM (n : Nat) (B : Nat → Nat) (M : Mem) : Prop := n ≤ 110 ∧ (∀ i, i < n → B i < 256) ∧ M 0 7 = nI n ∧ ∀ i, i < n → M 6 i = nI (B i)
def tkS (n : Nat) (B : Nat → Nat) (M : Mem) (p : Nat) : Prop := tpX n B M ∧ M 13 3 = nI p ∧ M 13 2 = nI (tokV n B p) ∧ M 13 4 = nI (tokE n B p) ∧ (tokV n B p = 1 → M 13 5 = nI (numV n B p))
section TK
variable {n : Nat} {B : Nat → Nat}
theorem byte_x {M : Mem} (T : tpX n B M) {i : Nat} (hi : i < 2000) : X6_byteAt M (nI i) = some (if i < n then nI (B i) else -1) := by
  obtain ⟨h1, h2, h3, h4⟩ := T
  unfold X6_byteAt
  rw [if_neg (nI_pos (by omega)), h3]
  by_cases c : i < n
  · rw [if_pos (nI_lt c (by omega)), if_pos c, am_in_nI (by omega) (by omega), if_pos rfl, nI_clamp (by omega), h4 i c]
  · rw [if_neg (nI_nlt (by omega) (by omega)), if_neg c]
theorem fig_v {v : Nat} (hv : v < 2000) : X6_isFigure (nI v) = some (bI (decide (48 ≤ v ∧ v ≤ 57))) := by
  unfold X6_isFigure
  rw [li_48, li_57]
  simp only [nI_ltI (show v < 2 ^ 31 by omega) (show 48 < 2 ^ 31 by omega), nI_ltI (show 57 < 2 ^ 31 by omega) (show v < 2 ^ 31 by omega)]
  by_cases c : v < 48
  · rw [if_pos c, decide_eq_false (by omega)]; rfl
  · rw [if_neg c]
    by_cases d : 57 < v
    · rw [if_pos d, decide_eq_false (by omega)]; rfl
    · rw [if_neg d, decide_eq_true (by omega)]; rfl
theorem fig_x (hB : ∀ i, i < n → B i < 256) (i : Nat) : X6_isFigure (if i < n then nI (B i) else -1) = some (bI (fig n B i)) := by
  unfold fig
  by_cases c : i < n
  · have := hB i c
    rw [if_pos c, fig_v (by omega)]
    by_cases d : 48 ≤ B i ∧ B i ≤ 57
    · rw [decide_eq_true d, decide_eq_true ⟨c, d⟩]
    · rw [decide_eq_false d, decide_eq_false (fun q => d q.2)]
  · rw [if_neg c, decide_eq_false (fun q => c q.1)]
    decide
theorem fig_m {M : Mem} (T : tpM n B M) {i : Nat} (hi : i < 2000) : X8_isFigure M (nI i) = some (bI (fig n B i)) := by
  obtain ⟨h1, h2, h3, h4⟩ := T
  unfold X8_isFigure fig
  rw [h3]
  by_cases c : i < n
  · have hb := h2 i c
    rw [if_pos (nI_lt c (by omega)), am_in_nI (by omega) (by omega), if_pos rfl, nI_clamp (by omega), h4 i c, in_spec, i64_32, nI_toInt (by omega), show (48 : Int64).toInt = 48 by decide, show (57 : Int64).toInt = 57 by decide, Option.bind_some]
    by_cases d : 48 ≤ B i ∧ B i ≤ 57
    · rw [decide_eq_true (by omega), decide_eq_true ⟨c, d⟩]; rfl
    · rw [decide_eq_false (by omega), decide_eq_false (fun q => d q.2)]; rfl
  · rw [if_neg (nI_nlt (by omega) (by omega)), decide_eq_false (fun q => c q.1)]; rfl
theorem fig_lt {i : Nat} (h : fig n B i = true) : i < n ∧ 48 ≤ B i ∧ B i ≤ 57 := of_decide_eq_true h
theorem tp_13 {M : Mem} (T : tpX n B M) {f : Nat → Int32} (h : f 1 = M 13 1) : tpX n B (mset M 13 f) := ⟨T.1, T.2.1, by rw [mset_self, h]; exact T.2.2.1, fun i hi => by rw [mset_ne _ _ (by omega)]; exact T.2.2.2 i hi⟩
/-- one figure more -/
theorem rf_step {M : Mem} (T : tpX n B M) {p i f : Nat} (h3 : M 13 3 = nI p) (hi : i < 1000) (hp : p < 1000) : X6_readFigures_10 (f + 1) (nI i) M = if i < p + 3 ∧ fig n B i = true then X6_readFigures_10 f (nI (i + 1)) (mset M 13 (upd (M 13) 5 (((M 13 5 * 10) + nI (B i)) - 48))) else X6_readFigures_57 (nI i) M := by
  rw [X6_readFigures_10, h3, li_3, nI_add, byte_x T (by omega), Option.bind_some, fig_x T.2.1, Option.bind_some, nI_1]
  simp only [nI_ltI (show i < 2 ^ 31 by omega) (show p + 3 < 2 ^ 31 by omega)]
  by_cases c : i < p + 3
  · rw [if_pos c]
    cases hf : fig n B i with
    | false => rw [if_pos (show bI false = 0 from rfl), if_neg (fun q => by simp at q)]
    | true =>
      obtain ⟨a1, -, -⟩ := fig_lt hf
      rw [if_neg (show ¬ bI true = 0 by decide), if_pos a1, Option.bind_some, am_let_eq, if_pos ⟨c, rfl⟩]
  · rw [if_neg c, if_neg (fun q => c q.1)]
theorem rf_end {M : Mem} {p i : Nat} (h3 : M 13 3 = nI p) (hpi : p ≤ i) (hi : i < 1000) : X6_readFigures_57 (nI i) M = some (mset M 13 (upd (upd (M 13) 2 (nI (if 2 < i - p then 2 else 1))) 4 (nI i))) := by
  unfold X6_readFigures_57
  rw [h3, pk_sub hpi, li_2]
  simp only [am_let_eq, mset_self, mset_mset, nI_ltI (show 2 < 2 ^ 31 by omega) (show i - p < 2 ^ 31 by omega)]
  by_cases c : 2 < i - p
  · rw [if_pos c, if_pos c]
  · rw [if_neg c, if_neg c]; rfl
theorem cx_figures {M : Mem} (T : tpX n B M) {p : Nat} (h3 : M 13 3 = nI p) (hf : fig n B p = true) : ∃ F, X6_readFigures M = some (mset M 13 F) ∧ F 1 = M 13 1 ∧ F 3 = nI p ∧ F 2 = nI (tokV n B p) ∧ F 4 = nI (tokE n B p) ∧ (tokV n B p = 1 → F 5 = nI (numV n B p)) := by
  obtain ⟨a1, a2, a3⟩ := fig_lt hf
  have hn := T.1
  have np : ¬ n ≤ p := by omega
  unfold X6_readFigures
  rw [am_let_eq, h3]
  have T1 : tpX n B (mset M 13 (upd (M 13) 5 0)) := tp_13 T (upd_ne (by omega))
  have e1 : mset M 13 (upd (M 13) 5 0) 13 3 = nI p := by rw [mset_self, upd_ne (by omega)]; exact h3
  show ∃ F, X6_readFigures_10 (1996 + 1 + 1 + 1 + 1) (nI p) (mset M 13 (upd (M 13) 5 0)) = _ ∧ _
  rw [rf_step T1 e1 (by omega) (by omega), if_pos ⟨by omega, hf⟩]
  have v1 : mset M 13 (upd (M 13) 5 0) 13 5 * 10 + nI (B p) - 48 = nI (B p - 48) := by
    rw [mset_self, upd_same, show (0 : Int32) * 10 = nI 0 by decide, nI_add, li_48, pk_sub (by omega), Nat.zero_add]
  rw [v1, mset_mset, mset_self]
  have u1 : ∀ v w : Int32, upd (upd (M 13) 5 v) 5 w = upd (M 13) 5 w := fun v w => by
    funext j
    unfold upd
    split <;> rfl
  rw [u1]
  have T2 : tpX n B (mset M 13 (upd (M 13) 5 (nI (B p - 48)))) := tp_13 T (upd_ne (by omega))
  have e2 : mset M 13 (upd (M 13) 5 (nI (B p - 48))) 13 3 = nI p := by rw [mset_self, upd_ne (by omega)]; exact h3
  rw [rf_step T2 e2 (by omega) (by omega)]
  unfold tokV tokE numV
  simp only [if_neg np, hf, ↓reduceIte]
  cases hf1 : fig n B (p + 1) with
  | false =>
    rw [if_neg (fun q => by simp at q), rf_end e2 (by omega) (by omega), mset_mset, mset_self, if_neg (by omega)]
    refine ⟨_, rfl, ?_, ?_, ?_, ?_, fun _ => ?_⟩
    · rw [upd_ne (by omega), upd_ne (by omega), upd_ne (by omega)]
    · rw [upd_ne (by omega), upd_ne (by omega), upd_ne (by omega)]; exact h3
    · rw [upd_ne (by omega), upd_same]; rfl
    · rw [upd_same]; rfl
    · rw [upd_ne (by omega), upd_ne (by omega), upd_same]; rfl
  | true =>
    obtain ⟨b1, b2, b3⟩ := fig_lt hf1
    rw [if_pos ⟨by omega, rfl⟩]
    have v2 : mset M 13 (upd (M 13) 5 (nI (B p - 48))) 13 5 * 10 + nI (B (p + 1)) - 48 = nI ((B p - 48) * 10 + (B (p + 1) - 48)) := by
      rw [mset_self, upd_same, li_10, nI_mul, nI_add, li_48, pk_sub (by omega)]
      congr 1
      omega
    rw [v2, mset_mset, mset_self, u1]
    have T3 : tpX n B (mset M 13 (upd (M 13) 5 (nI ((B p - 48) * 10 + (B (p + 1) - 48))))) := tp_13 T (upd_ne (by omega))
    have e3 : mset M 13 (upd (M 13) 5 (nI ((B p - 48) * 10 + (B (p + 1) - 48)))) 13 3 = nI p := by rw [mset_self, upd_ne (by omega)]; exact h3
    rw [rf_step T3 e3 (by omega) (by omega)]
    cases hf2 : fig n B (p + 2) with
    | false =>
      rw [show p + 1 + 1 = p + 2 by omega, if_neg (fun q => by simp at q), rf_end e3 (by omega) (by omega), mset_mset, mset_self, if_neg (by omega)]
      refine ⟨_, rfl, ?_, ?_, ?_, ?_, fun _ => ?_⟩
      · rw [upd_ne (by omega), upd_ne (by omega), upd_ne (by omega)]
      · rw [upd_ne (by omega), upd_ne (by omega), upd_ne (by omega)]; exact h3
      · rw [upd_ne (by omega), upd_same]; rfl
      · rw [upd_same]; rfl
      · rw [upd_ne (by omega), upd_ne (by omega), upd_same]; rfl
    | true =>
      rw [show p + 1 + 1 = p + 2 by omega, if_pos ⟨by omega, rfl⟩, mset_mset, mset_self, u1]
      generalize (upd (M 13) 5 (nI ((B p - 48) * 10 + (B (p + 1) - 48))) 5 * 10 + nI (B (p + 2)) - 48) = vv
      have T4 : tpX n B (mset M 13 (upd (M 13) 5 vv)) := tp_13 T (upd_ne (by omega))
      have e4 : mset M 13 (upd (M 13) 5 vv) 13 3 = nI p := by rw [mset_self, upd_ne (by omega)]; exact h3
      rw [rf_step T4 e4 (by omega) (by omega), if_neg (by omega), rf_end e4 (by omega) (by omega), mset_mset, mset_self, if_pos (by omega)]
      refine ⟨_, rfl, ?_, ?_, ?_, ?_, fun q => ?_⟩
      · rw [upd_ne (by omega), upd_ne (by omega), upd_ne (by omega)]
      · rw [upd_ne (by omega), upd_ne (by omega), upd_ne (by omega)]; exact h3
      · rw [upd_ne (by omega), upd_same]; rfl
      · rw [upd_same]; rfl
      · simp at q
theorem tk_79 {M : Mem} {p : Nat} (h3 : M 13 3 = nI p) (x s : Int32) : X6_nextToken_79 x s M = some (mset M 13 (upd (upd (M 13) 2 (if s = 0 then 2 else x)) 4 (nI (p + 1)))) := by
  unfold X6_nextToken_79
  simp only [am_let_eq, mset_self, mset_mset]
  have h : ∀ v : Int32, upd (M 13) 2 v 3 = nI p := fun v => by rw [upd_ne (by omega)]; exact h3
  rw [h, h, nI_1]
  by_cases c : s = 0
  · rw [if_pos c, if_pos c]
  · rw [if_neg c, if_neg c]
theorem cx_next {M : Mem} (T : tpX n B M) {q : Nat} (h4 : M 13 4 = nI q) (hq : q < 1000) : ∃ M', X6_nextToken M = some M' ∧ tkS n B M' q ∧ (∀ p, p ≠ 13 → M' p = M p) := by
  have hn := T.1
  unfold X6_nextToken
  rw [am_let_eq]
  have T1 : tpX n B (mset M 13 (upd (M 13) 3 (M 13 4))) := tp_13 T (upd_ne (by omega))
  have e3 : mset M 13 (upd (M 13) 3 (M 13 4)) 13 3 = nI q := by rw [mset_self, upd_same]; exact h4
  have e1 : mset M 13 (upd (M 13) 3 (M 13 4)) 13 1 = nI n := T1.2.2.1
  rw [e3, byte_x T1 (by omega), Option.bind_some, e1, fig_x T.2.1, Option.bind_some]
  have fin : ∀ F : Nat → Int32, F 1 = nI n → F 3 = nI q → F 2 = nI (tokV n B q) → F 4 = nI (tokE n B q) → (tokV n B q = 1 → F 5 = nI (numV n B q)) → tkS n B (mset M 13 F) q ∧ (∀ p, p ≠ 13 → mset M 13 F p = M p) := fun F f1 f3 f2 f4 f5 => ⟨⟨tp_13 T (by rw [f1]; exact T.2.2.1.symm), by rw [mset_self]; exact f3, by rw [mset_self]; exact f2, by rw [mset_self]; exact f4, fun z => by rw [mset_self]; exact f5 z⟩, fun p hp => mset_ne _ _ hp⟩
  by_cases c : q < n
  case neg =>
    rw [if_neg (nI_nlt (by omega) (by omega)), am_let_eq, mset_mset, mset_self]
    have ev : tokV n B q = 0 := if_pos (by omega)
    have ee : tokE n B q = q := if_pos (by omega)
    refine ⟨_, rfl, fin _ ?_ ?_ ?_ ?_ (fun z => by omega)⟩
    · rw [upd_ne (by omega), upd_ne (by omega)]; exact T.2.2.1
    · rw [upd_ne (by omega), upd_same]; exact h4
    · rw [upd_same, ev]; rfl
    · rw [upd_ne (by omega), upd_ne (by omega), ee]; exact h4
  rw [if_pos (nI_lt c (by omega)), if_pos c]
  have hb := T.2.1 q c
  cases hf : fig n B q with
  | true =>
    rw [if_neg (show ¬ bI true = 0 by decide)]
    obtain ⟨F, a1, a2, a3, a4, a5, a6⟩ := cx_figures T1 e3 hf
    rw [a1, Option.bind_some, mset_mset]
    exact ⟨_, rfl, fin F (by rw [a2]; exact e1) a3 a4 a5 a6⟩
  | false =>
    rw [if_pos (show bI false = 0 from rfl)]
    have ee : tokE n B q = q + 1 := by unfold tokE; rw [if_neg (by omega), hf]; rfl
    have ev : tokV n B q = if (97 ≤ B q ∧ B q ≤ 122) ∨ B q = 44 ∨ B q = 59 then B q else 2 := by unfold tokV; rw [if_neg (by omega), hf]; rfl
    simp only [tk_79 e3, mset_mset, mset_self, i10, ↓reduceIte]
    have l97 : (97 : Int32) = nI 97 := Eq.symm (by decide)
    have l122 : (122 : Int32) = nI 122 := Eq.symm (by decide)
    have l44 : (44 : Int32) = nI 44 := Eq.symm (by decide)
    have l59 : (59 : Int32) = nI 59 := Eq.symm (by decide)
    simp (disch := omega) only [l97, l122, l44, l59, nI_ltI, nI_eq]
    have one : ∀ x : Int32, x = nI (tokV n B q) → tokV n B q ≠ 1 → ∃ M', some (mset M 13 (upd (upd (upd (M 13) 3 (M 13 4)) 2 x) 4 (nI (q + 1)))) = some M' ∧ tkS n B M' q ∧ ∀ p, p ≠ 13 → M' p = M p := fun x hx h1 => by
      refine ⟨_, rfl, fin _ ?_ ?_ ?_ ?_ (fun z => absurd z h1)⟩
      · rw [upd_ne (by omega), upd_ne (by omega), upd_ne (by omega)]; exact T.2.2.1
      · rw [upd_ne (by omega), upd_ne (by omega), upd_same]; exact h4
      · rw [upd_ne (by omega), upd_same]; exact hx
      · rw [upd_same, ee]
    by_cases c1 : B q < 97
    · rw [if_pos c1]
      by_cases c2 : B q = 44
      · rw [if_pos c2]
        exact one _ (by rw [ev, if_pos (by omega)]) (by rw [ev, if_pos (by omega)]; omega)
      · rw [if_neg c2]
        by_cases c3 : B q = 59
        · rw [if_pos c3]
          exact one _ (by rw [ev, if_pos (by omega)]) (by rw [ev, if_pos (by omega)]; omega)
        · rw [if_neg c3]
          exact one _ (by rw [ev, if_neg (by omega)]; rfl) (by rw [ev, if_neg (by omega)]; omega)
    · rw [if_neg c1]
      by_cases c2 : 122 < B q
      · rw [if_pos c2, if_neg (by omega), if_neg (by omega)]
        exact one _ (by rw [ev, if_neg (by omega)]; rfl) (by rw [ev, if_neg (by omega)]; omega)
      · rw [if_neg c2]
        exact one _ (by rw [ev, if_pos (by omega)]) (by rw [ev, if_pos (by omega)]; omega)
end TK
