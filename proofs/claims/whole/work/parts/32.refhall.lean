/-! PURE: the reference's halls, in one row -/
def wrM (M : Mem) (b : Nat) (G : Nat → Nat) : Mem := mset M 1 (fun j => if b ≤ j ∧ j < b + 39 then cI (j - b) (G (j - b)) else M 1 j)
theorem wrM_at (M : Mem) (b : Nat) (G : Nat → Nat) {k : Nat} (h : k < 39) : wrM M b G 1 (b + k) = cI k (G k) := by
  unfold wrM
  rw [mset_self, if_pos (by omega), Nat.add_sub_cancel_left]
theorem wrM_out (M : Mem) (b : Nat) (G : Nat → Nat) {j : Nat} (h : j < b ∨ b + 39 ≤ j) : wrM M b G 1 j = M 1 j := by
  unfold wrM
  rw [mset_self, if_neg (by omega)]
theorem wrM_ne (M : Mem) (b : Nat) (G : Nat → Nat) {p : Nat} (h : p ≠ 1) : wrM M b G p = M p := mset_ne _ _ h
theorem wrM_set (M : Mem) (b : Nat) (G : Nat → Nat) {k v : Nat} (h : k < 39) : mset (wrM M b G) 1 (upd (wrM M b G 1) (b + k) (cI k v)) = wrM M b (upN G k v) := by
  unfold wrM
  rw [mset_mset]
  congr 1
  funext j
  rw [mset_self]
  unfold upd upN
  by_cases e : j = b + k
  · subst e
    rw [if_pos rfl, if_pos (by omega), Nat.add_sub_cancel_left, if_pos rfl]
  · rw [if_neg e]
    by_cases h1 : b ≤ j ∧ j < b + 39
    · rw [if_pos h1]
      show (if _ then _ else _) = _
      rw [if_pos h1, if_neg (by omega)]
    · rw [if_neg h1]
      show (if _ then _ else _) = _
      rw [if_neg h1]
theorem cI_n {k v : Nat} (h : k < 15 ∨ 21 ≤ k) : cI k v = nI v := by unfold cI; rw [if_neg (by omega)]
theorem cI_g {k v : Nat} (h : 15 ≤ k ∧ k < 21) : cI k v = gI v := by unfold cI; rw [if_pos h]
section WR
variable (M : Mem) (b : Nat) (G : Nat → Nat)
theorem wrM_0 : wrM M b G 1 (b + 0) = nI (G 0) := by rw [wrM_at M b G (by omega), cI_n (by omega)]
theorem wrM_0' : wrM M b G 1 b = nI (G 0) := wrM_0 M b G
theorem wrM_1 : wrM M b G 1 (b + 1) = nI (G 1) := by rw [wrM_at M b G (by omega), cI_n (by omega)]
theorem wrM_2 : wrM M b G 1 (b + 2) = nI (G 2) := by rw [wrM_at M b G (by omega), cI_n (by omega)]
theorem wrM_kd {t : Nat} (h : t < 6) : wrM M b G 1 (b + 3 + t) = nI (G (3 + t)) := by rw [Nat.add_assoc, wrM_at M b G (by omega), cI_n (by omega)]
theorem wrM_sd {t : Nat} (h : t < 6) : wrM M b G 1 (b + 9 + t) = nI (G (9 + t)) := by rw [Nat.add_assoc, wrM_at M b G (by omega), cI_n (by omega)]
theorem wrM_gn {t : Nat} (h : t < 6) : wrM M b G 1 (b + 15 + t) = gI (G (15 + t)) := by rw [Nat.add_assoc, wrM_at M b G (by omega), cI_g (by omega)]
theorem wrM_sw {t : Nat} (h : t < 6) : wrM M b G 1 (b + 21 + t) = nI (G (21 + t)) := by rw [Nat.add_assoc, wrM_at M b G (by omega), cI_n (by omega)]
theorem wrM_cl {t : Nat} (h : t < 6) : wrM M b G 1 (b + 27 + t) = nI (G (27 + t)) := by rw [Nat.add_assoc, wrM_at M b G (by omega), cI_n (by omega)]
theorem wrM_wh {t : Nat} (h : t < 6) : wrM M b G 1 (b + 33 + t) = nI (G (33 + t)) := by rw [Nat.add_assoc, wrM_at M b G (by omega), cI_n (by omega)]
theorem wrM_s2 (v : Nat) : mset (wrM M b G) 1 (upd (wrM M b G 1) (b + 2) (nI v)) = wrM M b (upN G 2 v) := by rw [← wrM_set M b G (by omega), cI_n (by omega)]
theorem wrM_skd {t : Nat} (v : Nat) (h : t < 6) : mset (wrM M b G) 1 (upd (wrM M b G 1) (b + 3 + t) (nI v)) = wrM M b (upN G (3 + t) v) := by rw [← wrM_set M b G (by omega), cI_n (by omega), Nat.add_assoc]
theorem wrM_ssd {t : Nat} (v : Nat) (h : t < 6) : mset (wrM M b G) 1 (upd (wrM M b G 1) (b + 9 + t) (nI v)) = wrM M b (upN G (9 + t) v) := by rw [← wrM_set M b G (by omega), cI_n (by omega), Nat.add_assoc]
theorem wrM_sgn {t : Nat} (v : Nat) (h : t < 6) : mset (wrM M b G) 1 (upd (wrM M b G 1) (b + 15 + t) (gI v)) = wrM M b (upN G (15 + t) v) := by rw [← wrM_set M b G (by omega), cI_g (by omega), Nat.add_assoc]
theorem wrM_ssw {t : Nat} (v : Nat) (h : t < 6) : mset (wrM M b G) 1 (upd (wrM M b G 1) (b + 21 + t) (nI v)) = wrM M b (upN G (21 + t) v) := by rw [← wrM_set M b G (by omega), cI_n (by omega), Nat.add_assoc]
theorem wrM_scl {t : Nat} (v : Nat) (h : t < 6) : mset (wrM M b G) 1 (upd (wrM M b G 1) (b + 27 + t) (nI v)) = wrM M b (upN G (27 + t) v) := by rw [← wrM_set M b G (by omega), cI_n (by omega), Nat.add_assoc]
theorem wrM_swh {t : Nat} (v : Nat) (h : t < 6) : mset (wrM M b G) 1 (upd (wrM M b G 1) (b + 33 + t) (nI v)) = wrM M b (upN G (33 + t) v) := by rw [← wrM_set M b G (by omega), cI_n (by omega), Nat.add_assoc]
theorem wrM_mset {p : Nat} (f : Nat → Int32) (h : p ≠ 1) : mset (wrM M b G) p f = wrM (mset M p f) b G := by
  unfold wrM
  rw [mset_comm _ _ _ (Ne.symm h), mset_ne M f (Ne.symm h)]
end WR
/-- what a hall's cells may hold at all -/
def gB (G : Nat → Nat) : Prop := (∀ k, G k < 2000) ∧ G 1 ≤ 6
theorem gB.up {G : Nat → Nat} (h : gB G) {k v : Nat} (hv : v < 2000) (hk : k ≠ 1) : gB (upN G k v) := by
  refine ⟨fun j => ?_, ?_⟩
  · unfold upN
    split
    · exact hv
    · exact h.1 j
  · rw [upN_ne (Ne.symm hk)]; exact h.2
theorem ref_waits (M : Mem) (b : Nat) {G : Nat → Nat} (hG : gB G) {t : Nat} (ht : t < 6) (hb : b + 39 ≤ 1092) : X8_waits (wrM M b G) (nI b) (nI t) = some (if G (15 + t) = 0 then 1 else 0) := by
  have hv := hG.1 (15 + t)
  unfold X8_waits
  simp (disch := omega) only [li_15, nI_add, am_in_nI, nI_clamp, wrM_gn, gI_none, ↓reduceIte]
  split <;> rfl
/-- the first bag in a place, one more; 0: none -/
def bagG (G : Nat → Nat) (p : Nat) : Nat → Nat
  | 0 => 0
  | k + 1 => if bagG G p k = 0 then (if G (33 + k) = p then k + 1 else 0) else bagG G p k
theorem ref_bagIn_loop (M : Mem) (b : Nat) {G : Nat → Nat} (hG : gB G) {p : Nat} (hp : p < 2000) (hb : b + 39 ≤ 1092) : ∀ (d k f : Nat), G 1 - k = d → k ≤ G 1 → d < f → bagG G p k = 0 → X8_bagIn_2 (wrM M b G) f (nI b) (nI p) (nI k) = some (gI (bagG G p (G 1)))
  | 0, k, 0, _, _, h, _ => absurd h (Nat.not_lt_zero _)
  | 0, k, f + 1, hd, hk, _, h0 => by
    have h1 := hG.2
    have e : k = G 1 := by omega
    subst e
    rw [X8_bagIn_2]
    simp (disch := omega) only [li_1, nI_add, am_in_nI, nI_clamp, wrM_1, nI_ltI, ↓reduceIte, Nat.lt_irrefl]
    rw [h0]; rfl
  | d + 1, k, 0, _, _, h, _ => absurd h (Nat.not_lt_zero _)
  | d + 1, k, f + 1, hd, hk, hf, h0 => by
    have h1 := hG.2
    have hlt : k < G 1 := by omega
    have hw := hG.1 (33 + k)
    rw [X8_bagIn_2]
    simp (disch := omega) only [li_1, li_33, nI_add, am_in_nI, nI_clamp, wrM_1, wrM_wh, nI_ltI, nI_eq, hlt, ↓reduceIte]
    by_cases e : G (33 + k) = p
    · rw [if_pos e]
      have h2 : bagG G p (k + 1) = k + 1 := by rw [bagG, if_pos h0, if_pos e]
      have h3 : ∀ j, k + 1 ≤ j → bagG G p j = k + 1 := by
        intro j hj
        induction j with
        | zero => omega
        | succ j ih =>
          by_cases q : k + 1 = j + 1
          · rw [← q]; exact h2
          · rw [bagG, ih (by omega), if_neg (by omega)]
      rw [h3 (G 1) (by omega), gI_s]
    · rw [if_neg e]
      exact ref_bagIn_loop M b hG hp hb d (k + 1) f (by omega) (by omega) (by omega) (by rw [bagG, if_pos h0, if_neg e])
theorem ref_bagIn (M : Mem) (b : Nat) {G : Nat → Nat} (hG : gB G) {p : Nat} (hp : p < 2000) (hb : b + 39 ≤ 1092) : X8_bagIn (wrM M b G) (nI b) (nI p) = some (gI (bagG G p (G 1))) := by
  have h1 := hG.2
  unfold X8_bagIn
  rw [li_0]
  exact ref_bagIn_loop M b hG hp hb (G 1) 0 am_fuel (by omega) (by omega) (by show G 1 < 2000; omega) rfl
