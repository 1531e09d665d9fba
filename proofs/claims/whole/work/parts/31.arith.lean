/-! PURE: numbers -/
def NONE32 : Int32 := -1000000
/-- a bag, or none: 0 is none -/
def gI (v : Nat) : Int32 := if v = 0 then -1000000 else nI (v - 1)
/-- a cell of a hall: the cells 15 to 20 hold a bag or none -/
def cI (k v : Nat) : Int32 := if 15 ≤ k ∧ k < 21 then gI v else nI v
def upN (G : Nat → Nat) (k v : Nat) : Nat → Nat := fun j => if j = k then v else G j
theorem upN_same (G : Nat → Nat) (k v : Nat) : upN G k v k = v := if_pos rfl
theorem upN_ne {G : Nat → Nat} {k v j : Nat} (h : j ≠ k) : upN G k v j = G j := if_neg h
theorem upd_same (f : Nat → Int32) (k : Nat) (x : Int32) : upd f k x k = x := if_pos rfl
theorem upd_ne {f : Nat → Int32} {k : Nat} {x : Int32} {j : Nat} (h : j ≠ k) : upd f k x j = f j := if_neg h
theorem mset_mset (M : Mem) (p : Nat) (f g : Nat → Int32) : mset (mset M p f) p g = mset M p g := by
  funext q
  unfold mset
  by_cases h : q = p
  · rw [if_pos h, if_pos h]
  · rw [if_neg h, if_neg h, if_neg h]
theorem mset_id (M : Mem) (p : Nat) : mset M p (M p) = M := by
  funext q
  unfold mset
  by_cases h : q = p
  · rw [if_pos h, h]
  · rw [if_neg h]
theorem mset_comm (M : Mem) {p q : Nat} (f g : Nat → Int32) (h : p ≠ q) : mset (mset M p f) q g = mset (mset M q g) p f := by
  funext r
  unfold mset
  by_cases h1 : r = q
  · have h2 : ¬ r = p := fun e => h (e.symm.trans h1)
    rw [if_pos h1, if_neg h2, if_pos h1]
  · by_cases h2 : r = p
    · rw [if_neg h1, if_pos h2, if_pos h2]
    · rw [if_neg h1, if_neg h2, if_neg h2, if_neg h1]
theorem am_let_eq {α β : Type} (a : α) (f : α → β) : am_let a f = f a := rfl
theorem nI_ne_none {a : Nat} (h : a < 2 ^ 31) : nI a ≠ (-1000000 : Int32) := by
  intro e
  have h1 := congrArg Int32.toInt e
  rw [nI_toInt h] at h1
  have h2 : (-1000000 : Int32).toInt = -1000000 := by decide
  omega
theorem gI_0 : gI 0 = -1000000 := rfl
theorem gI_s (b : Nat) : gI (b + 1) = nI b := by unfold gI; rw [if_neg (by omega)]; rfl
theorem gI_none {v : Nat} (h : v < 2 ^ 31) : gI v = (-1000000 : Int32) ↔ v = 0 := by
  constructor
  · intro e
    match v, h, e with
    | 0, _, _ => rfl
    | b + 1, h, e => rw [gI_s] at e; exact absurd e (nI_ne_none (by omega))
  · intro e
    rw [e]; rfl
theorem gI_nI {v b : Nat} (h : v < 2 ^ 31) (hb : b < 2 ^ 31) : gI v = nI b ↔ v = b + 1 := by
  constructor
  · intro e
    match v, h, e with
    | 0, _, e => rw [gI_0] at e; exact absurd e.symm (nI_ne_none hb)
    | c + 1, h, e => rw [gI_s, nI_eq (by omega) hb] at e; omega
  · intro e
    rw [e, gI_s]
theorem am_in_no {i : Int32} {n : Nat} (h : i.toInt < 0) : am_in i n = false := by
  unfold am_in
  have : i < 0 := by rw [Int32.lt_iff_toInt_lt]; exact h
  simp [this]
theorem am_in_out {j n : Nat} (h : n ≤ j) (hj : j < 2 ^ 31) : am_in (nI j) n = false := by
  unfold am_in
  rw [nI_clamp hj]
  simp [Nat.not_lt.mpr h]
/-- f 0, f 1, .. f (k - 1), one behind the other -/
def loopN {σ : Type} (f : Nat → σ → σ) : Nat → σ → σ
  | 0, s => s
  | k + 1, s => f k (loopN f k s)
theorem loopN_s {σ : Type} (f : Nat → σ → σ) (k : Nat) (s : σ) : loopN f (k + 1) s = f k (loopN f k s) := rfl
theorem loopN_cong {σ : Type} {f g : Nat → σ → σ} {s : σ} : ∀ {k : Nat}, (∀ j t, j < k → f j t = g j t) → loopN f k s = loopN g k s
  | 0, _ => rfl
  | k + 1, h => by rw [loopN_s, loopN_s, loopN_cong (fun j t hj => h j t (by omega)), h k _ (by omega)]
/-- bits of those below n that are p -/
def btI (p : Nat → Bool) : Nat → Int32
  | 0 => 0
  | k + 1 => btI p k ||| (if p k then (1 : Int32) <<< (nI k &&& 31) else 0)
theorem btI_cong {p q : Nat → Bool} : ∀ {n : Nat}, (∀ k, k < n → p k = q k) → btI p n = btI q n
  | 0, _ => rfl
  | n + 1, h => by rw [btI, btI, btI_cong (fun k hk => h k (by omega)), h n (by omega)]
theorem li_0 : (0 : Int32) = nI 0 := Eq.symm (by decide)
theorem li_1 : (1 : Int32) = nI 1 := Eq.symm (by decide)
theorem li_2 : (2 : Int32) = nI 2 := Eq.symm (by decide)
theorem li_3 : (3 : Int32) = nI 3 := Eq.symm (by decide)
theorem li_4 : (4 : Int32) = nI 4 := Eq.symm (by decide)
theorem li_5 : (5 : Int32) = nI 5 := Eq.symm (by decide)
theorem li_6 : (6 : Int32) = nI 6 := Eq.symm (by decide)
theorem li_7 : (7 : Int32) = nI 7 := Eq.symm (by decide)
theorem li_8 : (8 : Int32) = nI 8 := Eq.symm (by decide)
theorem li_9 : (9 : Int32) = nI 9 := Eq.symm (by decide)
theorem li_10 : (10 : Int32) = nI 10 := Eq.symm (by decide)
theorem li_11 : (11 : Int32) = nI 11 := Eq.symm (by decide)
theorem li_12 : (12 : Int32) = nI 12 := Eq.symm (by decide)
theorem li_13 : (13 : Int32) = nI 13 := Eq.symm (by decide)
theorem li_14 : (14 : Int32) = nI 14 := Eq.symm (by decide)
theorem li_15 : (15 : Int32) = nI 15 := Eq.symm (by decide)
theorem li_16 : (16 : Int32) = nI 16 := Eq.symm (by decide)
theorem li_18 : (18 : Int32) = nI 18 := Eq.symm (by decide)
theorem li_20 : (20 : Int32) = nI 20 := Eq.symm (by decide)
theorem li_21 : (21 : Int32) = nI 21 := Eq.symm (by decide)
theorem li_23 : (23 : Int32) = nI 23 := Eq.symm (by decide)
theorem li_24 : (24 : Int32) = nI 24 := Eq.symm (by decide)
theorem li_27 : (27 : Int32) = nI 27 := Eq.symm (by decide)
theorem li_30 : (30 : Int32) = nI 30 := Eq.symm (by decide)
theorem li_33 : (33 : Int32) = nI 33 := Eq.symm (by decide)
theorem li_38 : (38 : Int32) = nI 38 := Eq.symm (by decide)
theorem li_39 : (39 : Int32) = nI 39 := Eq.symm (by decide)
theorem li_40 : (40 : Int32) = nI 40 := Eq.symm (by decide)
theorem li_48 : (48 : Int32) = nI 48 := Eq.symm (by decide)
theorem li_57 : (57 : Int32) = nI 57 := Eq.symm (by decide)
theorem li_60 : (60 : Int32) = nI 60 := Eq.symm (by decide)
theorem li_61 : (61 : Int32) = nI 61 := Eq.symm (by decide)
theorem li_99 : (99 : Int32) = nI 99 := Eq.symm (by decide)
theorem li_110 : (110 : Int32) = nI 110 := Eq.symm (by decide)
theorem li_999 : (999 : Int32) = nI 999 := Eq.symm (by decide)
theorem li_975 : (975 : Int32) = nI 975 := Eq.symm (by decide)
theorem li_1053 : (1053 : Int32) = nI 1053 := Eq.symm (by decide)
theorem li_897 : (897 : Int32) = nI 897 := Eq.symm (by decide)
theorem li_255 : (255 : Int32) = nI 255 := Eq.symm (by decide)
theorem fb_rng9 (x : Int32) : -2147483648 ≤ x.toInt ∧ x.toInt < 2147483648 := ⟨Int32.le_toInt x, Int32.toInt_lt x⟩
theorem fb_addI9 {x y : Int32} (h1 : -2147483648 ≤ x.toInt + y.toInt) (h2 : x.toInt + y.toInt < 2147483648) : (x + y).toInt = x.toInt + y.toInt := by
  rw [Int32.toInt_add]
  exact Int.bmod_eq_of_le (by omega) (by omega)
theorem fb_subI9 {x y : Int32} (h1 : -2147483648 ≤ x.toInt - y.toInt) (h2 : x.toInt - y.toInt < 2147483648) : (x - y).toInt = x.toInt - y.toInt := by
  rw [Int32.toInt_sub]
  exact Int.bmod_eq_of_le (by omega) (by omega)
