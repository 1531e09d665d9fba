/-! PURE: asked by kinds; counts -/
def trX (M : Mem) (n : Nat) (F : Nat → Int32) : Mem := mset (mset M 41 F) 40 (upd (M 40) 2 (nI n))
def trM (M : Mem) (n : Nat) (F : Nat → Int32) : Mem := mset (mset M 7 F) 0 (upd (M 0) 11 (nI n))
theorem trX_ne (M : Mem) (n : Nat) (F : Nat → Int32) {p : Nat} (h : p ≠ 40) (h' : p ≠ 41) : trX M n F p = M p := by
  unfold trX
  rw [mset_ne _ _ h, mset_ne _ _ h']
theorem trM_ne (M : Mem) (n : Nat) (F : Nat → Int32) {p : Nat} (h : p ≠ 0) (h' : p ≠ 7) : trM M n F p = M p := by
  unfold trM
  rw [mset_ne _ _ h, mset_ne _ _ h']
theorem lv_x (M : Mem) {n : Nat} (F : Nat → Int32) (x : Int32) (hn : n < 16) : X1_leave x (trX M n F) = some (trX M (n + 1) (upd F n x)) := by
  unfold X1_leave trX
  have h2 : ∀ f : Nat → Int32, upd f 2 (nI n) 2 = nI n := fun f => upd_same _ _ _
  simp (disch := omega) only [mset_self, h2, li_16, nI_ltI, if_pos hn, am_in_nI, nI_clamp, am_let_eq, mset_ne, ↓reduceIte, nI_1]
  congr 1
  rw [mset_comm (mset M 41 F) _ _ (show 40 ≠ 41 by omega), mset_mset, mset_mset]
  congr 1
  funext j
  unfold upd
  split <;> rfl
theorem lv_m (M : Mem) {n : Nat} (F : Nat → Int32) (x : Int32) (hn : n < 16) : X8_begin x (trM M n F) = some (trM M (n + 1) (upd F n x)) := by
  unfold X8_begin trM
  have h2 : ∀ f : Nat → Int32, upd f 11 (nI n) 11 = nI n := fun f => upd_same _ _ _
  simp (disch := omega) only [mset_self, h2, li_16, nI_ltI, if_pos hn, am_in_nI, nI_clamp, am_let_eq, mset_ne, ↓reduceIte, nI_1]
  congr 1
  rw [mset_comm (mset M 7 F) _ _ (show 0 ≠ 7 by omega), mset_mset, mset_mset]
  congr 1
  funext j
  unfold upd
  split <;> rfl
theorem gb10 (g1 g2 : Int32 → Int32 → Int32 → Mem → Option (Int32 × Mem)) (x1 x3 : Int32) (M : Mem) : X1_given_b g1 g2 x1 10 x3 M = if (20 : Int32) < x3 then some ((-1000000 : Int32), M) else Option.bind (X1_leave 10 M) fun M1 => if am_in x1 6 = true then some (M1 17 x1.toNatClampNeg, M1) else none := rfl
theorem gb11 (g1 g2 : Int32 → Int32 → Int32 → Mem → Option (Int32 × Mem)) (x1 x3 : Int32) (M : Mem) : X1_given_b g1 g2 x1 11 x3 M = if (20 : Int32) < x3 then some ((-1000000 : Int32), M) else Option.bind (X1_leave 11 M) fun M1 => Option.bind (g2 x1 10 (x3 + 1) M1) fun u3 => Option.bind (g1 x1 1 (x3 + 1) u3.2) fun u4 => some (u3.1 + u4.1, u4.2) := rfl
theorem gb12 (g1 g2 : Int32 → Int32 → Int32 → Mem → Option (Int32 × Mem)) (x1 x3 : Int32) (M : Mem) : X1_given_b g1 g2 x1 12 x3 M = if (20 : Int32) < x3 then some ((-1000000 : Int32), M) else Option.bind (X1_leave 12 M) fun M1 => Option.bind (g2 x1 11 (x3 + 1) M1) fun u6 => some (-u6.1, u6.2) := rfl
theorem gb13 (g1 g2 : Int32 → Int32 → Int32 → Mem → Option (Int32 × Mem)) (x1 x3 : Int32) (M : Mem) : X1_given_b g1 g2 x1 13 x3 M = if (20 : Int32) < x3 then some ((-1000000 : Int32), M) else Option.bind (X1_leave 13 M) fun M1 => Option.bind (g2 x1 10 (x3 + 1) M1) fun u8 => some (u8.1 - 100, u8.2) := rfl
theorem gb14 (g1 g2 : Int32 → Int32 → Int32 → Mem → Option (Int32 × Mem)) (x1 x3 : Int32) (M : Mem) : X1_given_b g1 g2 x1 14 x3 M = if (20 : Int32) < x3 then some ((-1000000 : Int32), M) else Option.bind (X1_leave 14 M) fun M1 => Option.bind (g2 x1 13 (x3 + 1) M1) fun u8 => some (2 * u8.1, u8.2) := rfl
theorem gb20 (g1 g2 : Int32 → Int32 → Int32 → Mem → Option (Int32 × Mem)) (x1 x3 : Int32) (M : Mem) : X1_given_b g1 g2 x1 20 x3 M = if (20 : Int32) < x3 then some ((-1000000 : Int32), M) else Option.bind (X1_leave 20 M) fun M1 => some (x1, M1) := rfl
theorem gb21 (g1 g2 : Int32 → Int32 → Int32 → Mem → Option (Int32 × Mem)) (x1 x3 : Int32) (M : Mem) : X1_given_b g1 g2 x1 21 x3 M = if (20 : Int32) < x3 then some ((-1000000 : Int32), M) else Option.bind (X1_leave 21 M) fun M1 => Option.bind (g2 x1 20 (x3 + 1) M1) fun u18 => if am_in x1 6 = true then some (u18.1 + (u18.2 18 x1.toNatClampNeg), u18.2) else none := rfl
theorem gb22 (g1 g2 : Int32 → Int32 → Int32 → Mem → Option (Int32 × Mem)) (x1 x3 : Int32) (M : Mem) : X1_given_b g1 g2 x1 22 x3 M = if (20 : Int32) < x3 then some ((-1000000 : Int32), M) else Option.bind (X1_leave 22 M) fun M1 => Option.bind (g2 x1 21 (x3 + 1) M1) fun u8 => some (u8.1 - 1000, u8.2) := rfl
theorem gb23 (g1 g2 : Int32 → Int32 → Int32 → Mem → Option (Int32 × Mem)) (x1 x3 : Int32) (M : Mem) : X1_given_b g1 g2 x1 23 x3 M = if (20 : Int32) < x3 then some ((-1000000 : Int32), M) else Option.bind (X1_leave 23 M) fun M1 => Option.bind (g2 x1 20 (x3 + 1) M1) fun u3 => Option.bind (g1 x1 0 (x3 + 1) u3.2) fun u4 => some (u3.1 - u4.1, u4.2) := rfl
theorem gb24 (g1 g2 : Int32 → Int32 → Int32 → Mem → Option (Int32 × Mem)) (x1 x3 : Int32) (M : Mem) : X1_given_b g1 g2 x1 24 x3 M = if (20 : Int32) < x3 then some ((-1000000 : Int32), M) else Option.bind (X1_leave 24 M) fun M1 => Option.bind (g2 x1 21 (x3 + 1) M1) fun u8 => some (2 * u8.1, u8.2) := rfl
theorem ak01 (g1 g2 : Int32 → Int32 → Int32 → Mem → Option (Int32 × Mem)) (x3 : Int32) (M : Mem) (t : Nat) (ht : t < 6) (h : M 16 t = nI 1) : X1_asked_b g1 g2 (nI t) 0 x3 M = Option.bind (g2 (nI t) 11 (x3 + 1) M) fun u2 => some (u2.1, u2.2) := by
  unfold X1_asked_b
  simp (disch := omega) only [am_in_nI, nI_clamp, ↓reduceIte, h, i10]
  rfl
theorem ak02 (g1 g2 : Int32 → Int32 → Int32 → Mem → Option (Int32 × Mem)) (x3 : Int32) (M : Mem) (t : Nat) (ht : t < 6) (h : M 16 t = nI 2) : X1_asked_b g1 g2 (nI t) 0 x3 M = Option.bind (g2 (nI t) 12 (x3 + 1) M) fun u2 => some (u2.1, u2.2) := by
  unfold X1_asked_b
  simp (disch := omega) only [am_in_nI, nI_clamp, ↓reduceIte, h, i10]
  rfl
theorem ak03 (g1 g2 : Int32 → Int32 → Int32 → Mem → Option (Int32 × Mem)) (x3 : Int32) (M : Mem) (t : Nat) (ht : t < 6) (h : M 16 t = nI 3) : X1_asked_b g1 g2 (nI t) 0 x3 M = Option.bind (g2 (nI t) 11 (x3 + 1) M) fun u2 => some (u2.1, u2.2) := by
  unfold X1_asked_b
  simp (disch := omega) only [am_in_nI, nI_clamp, ↓reduceIte, h, i10]
  rfl
theorem ak04 (g1 g2 : Int32 → Int32 → Int32 → Mem → Option (Int32 × Mem)) (x3 : Int32) (M : Mem) (t : Nat) (ht : t < 6) (h : M 16 t = nI 4) : X1_asked_b g1 g2 (nI t) 0 x3 M = Option.bind (g2 (nI t) 13 (x3 + 1) M) fun u2 => some (u2.1, u2.2) := by
  unfold X1_asked_b
  simp (disch := omega) only [am_in_nI, nI_clamp, ↓reduceIte, h, i10]
  rfl
theorem ak05 (g1 g2 : Int32 → Int32 → Int32 → Mem → Option (Int32 × Mem)) (x3 : Int32) (M : Mem) (t : Nat) (ht : t < 6) (h : M 16 t = nI 5) : X1_asked_b g1 g2 (nI t) 0 x3 M = Option.bind (g2 (nI t) 14 (x3 + 1) M) fun u2 => some (u2.1, u2.2) := by
  unfold X1_asked_b
  simp (disch := omega) only [am_in_nI, nI_clamp, ↓reduceIte, h, i10]
  rfl
theorem ak11 (g1 g2 : Int32 → Int32 → Int32 → Mem → Option (Int32 × Mem)) (x3 : Int32) (M : Mem) (t : Nat) (ht : t < 6) (h : M 16 t = nI 1) : X1_asked_b g1 g2 (nI t) 1 x3 M = Option.bind (g2 (nI t) 21 (x3 + 1) M) fun u2 => some (u2.1, u2.2) := by
  unfold X1_asked_b
  simp (disch := omega) only [am_in_nI, nI_clamp, ↓reduceIte, h, i10]
  rfl
theorem ak12 (g1 g2 : Int32 → Int32 → Int32 → Mem → Option (Int32 × Mem)) (x3 : Int32) (M : Mem) (t : Nat) (ht : t < 6) (h : M 16 t = nI 2) : X1_asked_b g1 g2 (nI t) 1 x3 M = Option.bind (g2 (nI t) 24 (x3 + 1) M) fun u2 => some (u2.1, u2.2) := by
  unfold X1_asked_b
  simp (disch := omega) only [am_in_nI, nI_clamp, ↓reduceIte, h, i10]
  rfl
theorem ak13 (g1 g2 : Int32 → Int32 → Int32 → Mem → Option (Int32 × Mem)) (x3 : Int32) (M : Mem) (t : Nat) (ht : t < 6) (h : M 16 t = nI 3) : X1_asked_b g1 g2 (nI t) 1 x3 M = Option.bind (g2 (nI t) 22 (x3 + 1) M) fun u2 => some (u2.1, u2.2) := by
  unfold X1_asked_b
  simp (disch := omega) only [am_in_nI, nI_clamp, ↓reduceIte, h, i10]
  rfl
theorem ak14 (g1 g2 : Int32 → Int32 → Int32 → Mem → Option (Int32 × Mem)) (x3 : Int32) (M : Mem) (t : Nat) (ht : t < 6) (h : M 16 t = nI 4) : X1_asked_b g1 g2 (nI t) 1 x3 M = Option.bind (g2 (nI t) 23 (x3 + 1) M) fun u2 => some (u2.1, u2.2) := by
  unfold X1_asked_b
  simp (disch := omega) only [am_in_nI, nI_clamp, ↓reduceIte, h, i10]
  rfl
theorem ak15 (g1 g2 : Int32 → Int32 → Int32 → Mem → Option (Int32 × Mem)) (x3 : Int32) (M : Mem) (t : Nat) (ht : t < 6) (h : M 16 t = nI 5) : X1_asked_b g1 g2 (nI t) 1 x3 M = Option.bind (g2 (nI t) 23 (x3 + 1) M) fun u2 => some (u2.1, u2.2) := by
  unfold X1_asked_b
  simp (disch := omega) only [am_in_nI, nI_clamp, ↓reduceIte, h, i10]
  rfl

def ag (n : Nat) (F D : Nat → Int32) : Prop := ∀ i, i < n → F i = D i
theorem ag.s {n : Nat} {F D : Nat → Int32} (h : ag n F D) (x : Int32) : ag (n + 1) (upd F n x) (upd D n x) := fun i hi => by
  unfold upd
  split
  · rfl
  · exact h i (by omega)
/-- class and reference leave the same trace, and answer alike -/
def twin (a : Option (Int32 × Mem)) (b : Option (Int32 × Mem)) (Mx Mm : Mem) (m : Nat) : Prop := ∃ r n' F' D', n' ≤ m ∧ ag n' F' D' ∧ a = some (r, trX Mx n' F') ∧ b = some (r, trM Mm n' D')
section AK
variable {Mx Mm : Mem} {t : Nat}
theorem not20 {d : Nat} (hd : d ≤ 20) : ¬ (20 : Int32) < nI d := nI_nlt (a := 20) hd (by omega)
theorem P10 (ht : t < 6) (hs : Mx 17 t = Mm 1 (9 + t)) (f d n : Nat) {F D : Nat → Int32} (hF : ag n F D) (hd : d ≤ 20) (hn : n < 16) : twin (X1_given (f + 1) (nI t) 10 (nI d) (trX Mx n F)) (X8_lentSize (nI t) (trM Mm n D)) Mx Mm (n + 1) := by
  refine ⟨Mx 17 t, n + 1, upd F n 10, upd D n 10, Nat.le_refl _, hF.s _, ?_, ?_⟩
  · show X1_given_b _ _ (nI t) 10 (nI d) _ = _
    rw [gb10, if_neg (not20 hd), lv_x Mx F 10 hn, Option.bind_some]
    simp (disch := omega) only [am_in_nI, nI_clamp, ↓reduceIte, trX_ne]
  · unfold X8_lentSize
    rw [lv_m Mm D 10 hn, Option.bind_some]
    simp (disch := omega) only [li_9, nI_add, am_in_nI, nI_clamp, ↓reduceIte, trM_ne, hs]
theorem P20 (f d n : Nat) {F D : Nat → Int32} (hF : ag n F D) (hd : d ≤ 20) (hn : n < 16) : twin (X1_given (f + 1) (nI t) 20 (nI d) (trX Mx n F)) (X8_lentMark (nI t) (trM Mm n D)) Mx Mm (n + 1) := by
  refine ⟨nI t, n + 1, upd F n 20, upd D n 20, Nat.le_refl _, hF.s _, ?_, ?_⟩
  · show X1_given_b _ _ (nI t) 20 (nI d) _ = _
    rw [gb20, if_neg (not20 hd), lv_x Mx F 20 hn, Option.bind_some]
  · unfold X8_lentMark
    rw [lv_m Mm D 20 hn, Option.bind_some]
theorem P21 (ht : t < 6) (hs : Mx 18 t = Mm 1 (21 + t)) (f d n : Nat) {F D : Nat → Int32} (hF : ag n F D) (hd : d ≤ 19) (hn : n < 15) : twin (X1_given (f + 2) (nI t) 21 (nI d) (trX Mx n F)) (X8_calmMark (nI t) (trM Mm n D)) Mx Mm (n + 2) := by
  obtain ⟨r, n', F', D', b1, bg, b2, b3⟩ := P20 (Mx := Mx) (Mm := Mm) (t := t) f (d + 1) (n + 1) (hF.s 21) (by omega) (by omega)
  refine ⟨r + Mx 18 t, n', F', D', by omega, bg, ?_, ?_⟩
  · show X1_given_b _ _ (nI t) 21 (nI d) _ = _
    rw [gb21, if_neg (not20 (by omega)), lv_x Mx F 21 (by omega), Option.bind_some, nI_1]
    rw [show (X1_rec (f + 1)).2 (nI t) 20 (nI (d + 1)) (trX Mx (n + 1) (upd F n 21)) = _ from b2, Option.bind_some]
    simp (disch := omega) only [am_in_nI, nI_clamp, ↓reduceIte, trX_ne]
  · unfold X8_calmMark
    rw [lv_m Mm D 21 (by omega), Option.bind_some, b3, Option.bind_some]
    simp (disch := omega) only [li_21, nI_add, am_in_nI, nI_clamp, ↓reduceIte, trM_ne, hs]
theorem Pcalmer (ht : t < 6) (hs : Mx 18 t = Mm 1 (21 + t)) {k : Nat} (hk : k = 1 ∨ k = 2 ∨ k = 3) (e1 : Mx 16 t = nI k) (e2 : Mm 1 (3 + t) = nI k) (f d n : Nat) {F D : Nat → Int32} (hF : ag n F D) (hd : d ≤ 17) (hn : n < 14) : twin (X1_asked (f + 4) (nI t) 1 (nI d) (trX Mx n F)) (X8_calmerMark (nI t) (trM Mm n D)) Mx Mm (n + 3) := by
  have hx : trX Mx n F 16 t = nI k := by rw [trX_ne _ _ _ (by omega) (by omega)]; exact e1
  have hm : trM Mm n D 1 (3 + t) = nI k := by rw [trM_ne _ _ _ (by omega) (by omega)]; exact e2
  have ia : am_in (3 + nI t) 1092 = true := by rw [li_3, nI_add, am_in_nI (by omega) (by omega)]
  have ic : (3 + nI t).toNatClampNeg = 3 + t := by rw [li_3, nI_add, nI_clamp (by omega)]
  rcases hk with rfl | rfl | rfl
  · obtain ⟨r, n', F', D', b1, bg, b2, b3⟩ := P21 ht hs (f + 1) (d + 1) n hF (by omega) (by omega)
    refine ⟨r, n', F', D', by omega, bg, ?_, ?_⟩
    · show X1_asked_b _ _ (nI t) 1 (nI d) _ = _
      rw [ak11 _ _ _ _ t ht hx, nI_1, show (X1_rec (f + 3)).2 (nI t) 21 (nI (d + 1)) (trX Mx n F) = _ from b2, Option.bind_some]
    · unfold X8_calmerMark
      rw [if_pos ia, ic, hm, if_neg (by decide), if_neg (by decide), b3, Option.bind_some]
  · obtain ⟨r, n', F', D', b1, bg, b2, b3⟩ := P21 ht hs f (d + 2) (n + 1) (hF.s 24) (by omega) (by omega)
    refine ⟨2 * r, n', F', D', by omega, bg, ?_, ?_⟩
    · show X1_asked_b _ _ (nI t) 1 (nI d) _ = _
      rw [ak12 _ _ _ _ t ht hx, nI_1]
      show Option.bind (X1_given_b _ _ (nI t) 24 (nI (d + 1)) _) _ = _
      rw [gb24, if_neg (not20 (by omega)), lv_x Mx F 24 (by omega), Option.bind_some, nI_1, show (X1_rec (f + 2)).2 (nI t) 21 (nI (d + 1 + 1)) _ = _ from b2, Option.bind_some, Option.bind_some]
    · unfold X8_calmerMark
      rw [if_pos ia, ic, hm, if_pos (by decide), lv_m Mm D 24 (by omega), Option.bind_some, b3, Option.bind_some]
  · obtain ⟨r, n', F', D', b1, bg, b2, b3⟩ := P21 ht hs f (d + 2) (n + 1) (hF.s 22) (by omega) (by omega)
    refine ⟨r - 1000, n', F', D', by omega, bg, ?_, ?_⟩
    · show X1_asked_b _ _ (nI t) 1 (nI d) _ = _
      rw [ak13 _ _ _ _ t ht hx, nI_1]
      show Option.bind (X1_given_b _ _ (nI t) 22 (nI (d + 1)) _) _ = _
      rw [gb22, if_neg (not20 (by omega)), lv_x Mx F 22 (by omega), Option.bind_some, nI_1, show (X1_rec (f + 2)).2 (nI t) 21 (nI (d + 1 + 1)) _ = _ from b2, Option.bind_some, Option.bind_some]
    · unfold X8_calmerMark
      rw [if_pos ia, ic, hm, if_neg (by decide), if_pos (by decide), lv_m Mm D 22 (by omega), Option.bind_some, b3, Option.bind_some]
theorem P11 (ht : t < 6) (hs : Mx 18 t = Mm 1 (21 + t)) (hq : Mx 17 t = Mm 1 (9 + t)) {k : Nat} (hk : k = 1 ∨ k = 2 ∨ k = 3) (e1 : Mx 16 t = nI k) (e2 : Mm 1 (3 + t) = nI k) (f d n : Nat) {F D : Nat → Int32} (hF : ag n F D) (hd : d ≤ 16) (hn : n < 11) : twin (X1_given (f + 5) (nI t) 11 (nI d) (trX Mx n F)) (X8_calmSize (nI t) (trM Mm n D)) Mx Mm (n + 5) := by
  obtain ⟨r, n', F', D', b1, bg, b2, b3⟩ := P10 ht hq (f + 3) (d + 1) (n + 1) (hF.s 11) (by omega) (by omega)
  obtain ⟨r2, n2, F2, D2, c1, cg, c2, c3⟩ := Pcalmer ht hs hk e1 e2 f (d + 1) n' bg (by omega) (by omega)
  refine ⟨r + r2, n2, F2, D2, by omega, cg, ?_, ?_⟩
  · show X1_given_b _ _ (nI t) 11 (nI d) _ = _
    rw [gb11, if_neg (not20 (by omega)), lv_x Mx F 11 (by omega), Option.bind_some, nI_1, show (X1_rec (f + 4)).2 (nI t) 10 (nI (d + 1)) _ = _ from b2, Option.bind_some, show (X1_rec (f + 4)).1 (nI t) 1 (nI (d + 1)) (trX Mx n' F') = _ from c2, Option.bind_some]
  · unfold X8_calmSize
    rw [lv_m Mm D 11 (by omega), Option.bind_some, b3, Option.bind_some, c3, Option.bind_some]
theorem P13 (ht : t < 6) (hq : Mx 17 t = Mm 1 (9 + t)) (f d n : Nat) {F D : Nat → Int32} (hF : ag n F D) (hd : d ≤ 16) (hn : n < 11) : twin (X1_given (f + 2) (nI t) 13 (nI d) (trX Mx n F)) (X8_slowSize (nI t) (trM Mm n D)) Mx Mm (n + 5) := by
  obtain ⟨r, n', F', D', b1, bg, b2, b3⟩ := P10 ht hq f (d + 1) (n + 1) (hF.s 13) (by omega) (by omega)
  refine ⟨r - 100, n', F', D', by omega, bg, ?_, ?_⟩
  · show X1_given_b _ _ (nI t) 13 (nI d) _ = _
    rw [gb13, if_neg (not20 (by omega)), lv_x Mx F 13 (by omega), Option.bind_some, nI_1, show (X1_rec (f + 1)).2 (nI t) 10 (nI (d + 1)) _ = _ from b2, Option.bind_some]
  · unfold X8_slowSize
    rw [lv_m Mm D 13 (by omega), Option.bind_some, b3, Option.bind_some]
theorem Psize (ht : t < 6) (hs : Mx 18 t = Mm 1 (21 + t)) (hq : Mx 17 t = Mm 1 (9 + t)) {k : Nat} (hk : 1 ≤ k ∧ k ≤ 5) (e1 : Mx 16 t = nI k) (e2 : Mm 1 (3 + t) = nI k) (f d n : Nat) {F D : Nat → Int32} (hF : ag n F D) (hd : d ≤ 10) (hn : n < 9) : twin (X1_asked (f + 7) (nI t) 0 (nI d) (trX Mx n F)) (X8_sizeOf (nI t) (trM Mm n D)) Mx Mm (n + 6) := by
  have hx : trX Mx n F 16 t = nI k := by rw [trX_ne _ _ _ (by omega) (by omega)]; exact e1
  have hm : trM Mm n D 1 (3 + t) = nI k := by rw [trM_ne _ _ _ (by omega) (by omega)]; exact e2
  have ia : am_in (3 + nI t) 1092 = true := by rw [li_3, nI_add, am_in_nI (by omega) (by omega)]
  have ic : (3 + nI t).toNatClampNeg = 3 + t := by rw [li_3, nI_add, nI_clamp (by omega)]
  rcases (show k = 1 ∨ k = 2 ∨ k = 3 ∨ k = 4 ∨ k = 5 by omega) with rfl | rfl | rfl | rfl | rfl
  · obtain ⟨r, n', F', D', b1, bg, b2, b3⟩ := P11 ht hs hq (k := 1) (by omega) e1 e2 (f + 1) (d + 1) n hF (by omega) (by omega)
    refine ⟨r, n', F', D', by omega, bg, ?_, ?_⟩
    · show X1_asked_b _ _ (nI t) 0 (nI d) _ = _
      rw [ak01 _ _ _ _ t ht hx, nI_1, show (X1_rec (f + 6)).2 (nI t) 11 (nI (d + 1)) _ = _ from b2, Option.bind_some]
    · unfold X8_sizeOf
      rw [if_pos ia, ic, hm, if_neg (by decide), if_neg (by decide), if_neg (by decide), if_neg (by decide), b3, Option.bind_some]
  · obtain ⟨r, n', F', D', b1, bg, b2, b3⟩ := P11 ht hs hq (k := 2) (by omega) e1 e2 f (d + 2) (n + 1) (hF.s 12) (by omega) (by omega)
    refine ⟨-r, n', F', D', by omega, bg, ?_, ?_⟩
    · show X1_asked_b _ _ (nI t) 0 (nI d) _ = _
      rw [ak02 _ _ _ _ t ht hx, nI_1]
      show Option.bind (X1_given_b _ _ (nI t) 12 (nI (d + 1)) _) _ = _
      rw [gb12, if_neg (not20 (by omega)), lv_x Mx F 12 (by omega), Option.bind_some, nI_1, show (X1_rec (f + 5)).2 (nI t) 11 (nI (d + 1 + 1)) _ = _ from b2, Option.bind_some, Option.bind_some]
    · unfold X8_sizeOf
      rw [if_pos ia, ic, hm, if_pos (by decide), lv_m Mm D 12 (by omega), Option.bind_some, b3, Option.bind_some]
  · obtain ⟨r, n', F', D', b1, bg, b2, b3⟩ := P11 ht hs hq (k := 3) (by omega) e1 e2 (f + 1) (d + 1) n hF (by omega) (by omega)
    refine ⟨r, n', F', D', by omega, bg, ?_, ?_⟩
    · show X1_asked_b _ _ (nI t) 0 (nI d) _ = _
      rw [ak03 _ _ _ _ t ht hx, nI_1, show (X1_rec (f + 6)).2 (nI t) 11 (nI (d + 1)) _ = _ from b2, Option.bind_some]
    · unfold X8_sizeOf
      rw [if_pos ia, ic, hm, if_neg (by decide), if_pos (by decide), b3, Option.bind_some]
  · obtain ⟨r, n', F', D', b1, bg, b2, b3⟩ := P13 ht hq (f + 4) (d + 1) n hF (by omega) (by omega)
    refine ⟨r, n', F', D', by omega, bg, ?_, ?_⟩
    · show X1_asked_b _ _ (nI t) 0 (nI d) _ = _
      rw [ak04 _ _ _ _ t ht hx, nI_1, show (X1_rec (f + 6)).2 (nI t) 13 (nI (d + 1)) _ = _ from b2, Option.bind_some]
    · unfold X8_sizeOf
      rw [if_pos ia, ic, hm, if_neg (by decide), if_neg (by decide), if_pos (by decide), b3, Option.bind_some]
  · obtain ⟨r, n', F', D', b1, bg, b2, b3⟩ := P13 ht hq (f + 3) (d + 2) (n + 1) (hF.s 14) (by omega) (by omega)
    refine ⟨2 * r, n', F', D', by omega, bg, ?_, ?_⟩
    · show X1_asked_b _ _ (nI t) 0 (nI d) _ = _
      rw [ak05 _ _ _ _ t ht hx, nI_1]
      show Option.bind (X1_given_b _ _ (nI t) 14 (nI (d + 1)) _) _ = _
      rw [gb14, if_neg (not20 (by omega)), lv_x Mx F 14 (by omega), Option.bind_some, nI_1, show (X1_rec (f + 5)).2 (nI t) 13 (nI (d + 1 + 1)) _ = _ from b2, Option.bind_some, Option.bind_some]
    · unfold X8_sizeOf
      rw [if_pos ia, ic, hm, if_neg (by decide), if_neg (by decide), if_neg (by decide), if_pos (by decide), lv_m Mm D 14 (by omega), Option.bind_some, b3, Option.bind_some]
theorem P23 (ht : t < 6) (hs : Mx 18 t = Mm 1 (21 + t)) (hq : Mx 17 t = Mm 1 (9 + t)) {k : Nat} (hk : 1 ≤ k ∧ k ≤ 5) (e1 : Mx 16 t = nI k) (e2 : Mm 1 (3 + t) = nI k) (f d n : Nat) {F D : Nat → Int32} (hF : ag n F D) (hd : d ≤ 9) (hn : n < 7) : twin (X1_given (f + 8) (nI t) 23 (nI d) (trX Mx n F)) (X8_slowMark (nI t) (trM Mm n D)) Mx Mm (n + 8) := by
  obtain ⟨r, n', F', D', b1, bg, b2, b3⟩ := P20 (Mx := Mx) (Mm := Mm) (t := t) (f + 6) (d + 1) (n + 1) (hF.s 23) (by omega) (by omega)
  obtain ⟨r2, n2, F2, D2, c1, cg, c2, c3⟩ := Psize ht hs hq hk e1 e2 f (d + 1) n' bg (by omega) (by omega)
  refine ⟨r - r2, n2, F2, D2, by omega, cg, ?_, ?_⟩
  · show X1_given_b _ _ (nI t) 23 (nI d) _ = _
    rw [gb23, if_neg (not20 (by omega)), lv_x Mx F 23 (by omega), Option.bind_some, nI_1, show (X1_rec (f + 7)).2 (nI t) 20 (nI (d + 1)) _ = _ from b2, Option.bind_some, show (X1_rec (f + 7)).1 (nI t) 0 (nI (d + 1)) (trX Mx n' F') = _ from c2, Option.bind_some]
  · unfold X8_slowMark
    rw [lv_m Mm D 23 (by omega), Option.bind_some, b3, Option.bind_some, c3, Option.bind_some]
theorem trX_i (M : Mem) : mset M 40 (upd (M 40) 2 0) = trX M 0 (M 41) := by
  unfold trX
  rw [mset_id]; rfl
theorem trM_i (M : Mem) : mset M 0 (upd (M 0) 11 0) = trM M 0 (M 7) := by
  unfold trM
  rw [mset_id]; rfl
theorem Inv.tr (I : Inv Mx Mm) {n : Nat} {F D : Nat → Int32} (hn : n ≤ 16) (hF : ag n F D) : Inv (trX Mx n F) (trM Mm n D) := by
  have f0 : ∀ j, j ≠ 11 → trM Mm n D 0 j = Mm 0 j := fun j hj => by unfold trM; rw [mset_self, upd_ne hj]
  refine ⟨rows_cg I.rows (fun p h1 h2 => trX_ne _ _ _ (by omega) (by omega)) (fun p h1 h2 => trM_ne _ _ _ (by omega) (by omega)), tape_cg I.tape (by rw [trX_ne _ _ _ (by omega) (by omega)]) (trX_ne _ _ _ (by omega) (by omega)) (f0 7 (by omega)) (trM_ne _ _ _ (by omega) (by omega)), ⟨n, hn, ?_, ?_, fun i hi => ?_⟩, hall_cg I.hall (fun p h1 h2 => trX_ne _ _ _ (by omega) (by omega)) (fun j hj => by rw [trM_ne _ _ _ (by omega) (by omega)]), past_cg I.past (trX_ne _ _ _ (by omega) (by omega)) (trX_ne _ _ _ (by omega) (by omega)) (f0 1 (by omega)) (fun j h1 h2 => by rw [trM_ne _ _ _ (by omega) (by omega)]), img_cg I.img (by rw [trX_ne _ _ _ (by omega) (by omega)]) (trX_ne _ _ _ (by omega) (by omega)) (trM_ne _ _ _ (by omega) (by omega)) (fun j h1 h2 => by rw [trM_ne _ _ _ (by omega) (by omega)]), ord_cg I.ord (trX_ne _ _ _ (by omega) (by omega)) (trX_ne _ _ _ (by omega) (by omega)) (trX_ne _ _ _ (by omega) (by omega)), misc_cg I.misc (by rw [trX_ne _ _ _ (by omega) (by omega)]) (by rw [trX_ne _ _ _ (by omega) (by omega)]) (f0 8 (by omega)) (f0 9 (by omega)) (trM_ne _ _ _ (by omega) (by omega)) (f0 16 (by omega))⟩
  · unfold trX; rw [mset_self, upd_same]
  · unfold trM; rw [mset_self, upd_same]
  · unfold trX trM; rw [mset_ne _ _ (by omega), mset_self, mset_ne _ _ (by omega), mset_self]; exact hF i hi
end AK
theorem isOf_spec {M : Mem} {t k : Nat} (ht : t < 6) (hk : 1 ≤ k ∧ k ≤ 5) (h : M 1 (3 + t) = nI k) {w : Nat} (hw : w ≤ 5) : X8_isOf M (nI t) (nI w) = X1_isOfKind (nI k) (nI w) := by
  unfold X8_isOf
  simp (disch := omega) only [li_3, nI_add, am_in_nI, nI_clamp, ↓reduceIte, h]
  have key : ∀ k, k < 6 → 1 ≤ k → ∀ w, w < 6 → (if nI w = 0 then some (1 : Int32) else if nI w = nI k then some 1 else if nI w = 1 then if nI k < 4 then some 1 else if nI w = 4 then if nI k = 5 then some 1 else some 0 else some 0 else if nI w = 4 then if nI k = 5 then some 1 else some 0 else some 0) = X1_isOfKind (nI k) (nI w) := by decide +kernel
  exact key k (by omega) hk.1 w (by omega)
theorem kind_01 : ∀ k, k < 6 → 1 ≤ k → ∀ w, w < 6 → X1_isOfKind (nI k) (nI w) = some 0 ∨ X1_isOfKind (nI k) (nI w) = some 1 := by decide +kernel
theorem kind_4 : ∀ k, k < 6 → 1 ≤ k → X1_isOfKind (nI k) (nI 4) = if 4 ≤ k then some 1 else some 0 := by decide +kernel
theorem ok_as_Inv : ok_as Inv := fun Mx Mm x y I => by
  unfold X7_as X8_as
  rcases one_dec I x with ⟨c, d⟩ | ⟨G, sh, t, H, hA, hO, ht, rfl, c, d⟩
  · rw [c, d]; exact ⟨_, _, _, rfl, rfl, I⟩
  have hP := hx_P H
  have hk := H.2.1.2.1 t ht
  have e16 : Mx 16 t = nI (G (3 + t)) := H.1.2.1 t ht
  have m3 := at_kd hA (show t < 6 by omega)
  rcases rng y 0 5 (by omega) (by omega) with ⟨q, e⟩ | ⟨w, w1, w2, rfl, e⟩
  · simp only [c, d, e 0 5 (by decide) (by decide), Option.bind_some, i10, i00, ↓reduceIte]
    refine ⟨_, _, _, ?_, rfl, I⟩
    rcases q with q | q
    · rw [if_pos (show y < 0 from q)]
    · rw [if_pos (show (5 : Int32) < y from q), ite_self]
  · simp (disch := omega) only [c, d, e 0 5 (by decide) (by decide), Option.bind_some, i10, ↓reduceIte, nI_pos, show ¬ (5 : Int32) < nI w from nI_nlt (a := 5) (by omega) (by omega), am_in_nI, nI_clamp, e16]
    rw [isOf_spec (by omega) hk m3 w2]
    rcases kind_01 _ (by omega) hk.1 w (by omega) with z | z
    · simp only [z, Option.bind_some, i00, ↓reduceIte]
      exact c_found I 3
    · simp only [z, Option.bind_some, i10, ↓reduceIte]
      exact c_fine I _
theorem ok_ask_Inv : ok_ask Inv := fun Mx Mm x y I => by
  unfold X7_ask X8_ask
  rcases one_dec I x with ⟨c, d⟩ | ⟨G, sh, t, H, hA, hO, ht, rfl, c, d⟩
  · rw [c, d]; exact ⟨_, _, _, rfl, rfl, I⟩
  rcases choice_dec y 2 (by omega) with ⟨q, e⟩ | ⟨w, hw, rfl, q, e⟩
  · simp only [c, d, show X7_isChoice y 2 = some 0 from q, e 0 1 (by decide) (by decide), Option.bind_some, i10, i00, ↓reduceIte]; exact ⟨_, _, _, rfl, rfl, I⟩
  have hP := hx_P H
  have hk := H.2.1.2.1 t ht
  have e16 : Mx 16 t = nI (G (3 + t)) := H.1.2.1 t ht
  have m3 := at_kd hA (show t < 6 by omega)
  have hs : Mx 18 t = Mm 1 (21 + t) := by rw [at_sw hA (by omega)]; exact H.1.2.2.2.1 t ht
  have hq : Mx 17 t = Mm 1 (9 + t) := by rw [at_sd hA (by omega)]; exact H.1.2.2.1 t ht
  simp only [c, d, show X7_isChoice (nI w) 2 = some 1 from q, e 0 1 (by decide) (by decide), Option.bind_some, i10, ↓reduceIte, X1_begin, am_let_eq, trX_i, trM_i]
  have fin : ∀ {a b : Option (Int32 × Mem)} {m : Nat}, twin a b Mx Mm m → m ≤ 16 → ∃ r Mx' Mm', (Option.bind (Option.bind a fun u2 => some (u2.1, u2.2)) fun u3 => some (u3.1, u3.2)) = some (r, Mx') ∧ (Option.bind b fun u4 => some (u4.1, u4.2)) = some (r, Mm') ∧ Inv Mx' Mm' := fun hab hm => by
    obtain ⟨r, n', F', D', z1, z2, rfl, rfl⟩ := hab
    exact ⟨r, _, _, rfl, rfl, I.tr (by omega) z2⟩
  have h0 : ag 0 (Mx 41) (Mm 7) := fun i hi => absurd hi (Nat.not_lt_zero _)
  rcases (show w = 0 ∨ w = 1 by omega) with rfl | rfl
  · rw [if_pos (show nI 0 = 0 from rfl)]
    exact fin (Psize (by omega) hs hq hk e16 m3 53 0 0 h0 (by omega) (by omega)) (by omega)
  · rw [if_neg (show ¬ nI 1 = 0 by decide)]
    have hm : trM Mm 0 (Mm 7) 1 (3 + t) = nI (G (3 + t)) := by rw [trM_ne _ _ _ (by omega) (by omega)]; exact m3
    have hx : trX Mx 0 (Mx 41) 16 t = nI (G (3 + t)) := by rw [trX_ne _ _ _ (by omega) (by omega)]; exact e16
    rw [show X8_isOf (trM Mm 0 (Mm 7)) (nI t) 4 = _ from isOf_spec (by omega) hk hm (w := 4) (by omega), kind_4 _ (by omega) hk.1]
    by_cases c4 : 4 ≤ G (3 + t)
    · rw [if_pos c4, Option.bind_some, if_neg (by decide)]
      obtain ⟨r, n', F', D', z1, z2, z3, z4⟩ := P23 (by omega) hs hq hk e16 m3 51 1 0 h0 (by omega) (by omega)
      refine fin ⟨r, n', F', D', z1, z2, ?_, z4⟩ (by omega)
      show X1_asked_b (X1_rec 59).1 (X1_rec 59).2 (nI t) 1 0 _ = _
      rcases (show G (3 + t) = 4 ∨ G (3 + t) = 5 by omega) with g | g
      · rw [g] at hx
        rw [ak14 _ _ _ _ t (by omega) hx, show (X1_rec 59).2 (nI t) 23 (0 + 1) (trX Mx 0 (Mx 41)) = _ from z3]; rfl
      · rw [g] at hx
        rw [ak15 _ _ _ _ t (by omega) hx, show (X1_rec 59).2 (nI t) 23 (0 + 1) (trX Mx 0 (Mx 41)) = _ from z3]; rfl
    · rw [if_neg c4, Option.bind_some, if_pos rfl]
      exact fin (Pcalmer (by omega) hs (show G (3 + t) = 1 ∨ G (3 + t) = 2 ∨ G (3 + t) = 3 by omega) e16 m3 56 0 0 h0 (by omega) (by omega)) (by omega)
