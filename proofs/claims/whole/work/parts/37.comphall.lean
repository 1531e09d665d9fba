/-! PURE: the class's hall h, and the hall that it stands for -/
def spG (G : Nat → Nat) (sh b : Nat) : Nat := if G (33 + b) < 20 then subm (G 0) (G (33 + b)) sh else G (33 + b)
/-- how many of the first k bags are in THE CART -/
def cartN (G : Nat → Nat) : Nat → Nat
  | 0 => 0
  | k + 1 => cartN G k + if G (33 + k) = 20 then 1 else 0
theorem cartN_le (G : Nat → Nat) : ∀ k, cartN G k ≤ k
  | 0 => Nat.le_refl _
  | k + 1 => by
    have := cartN_le G k
    rw [cartN]
    split <;> omega
theorem cartN_cong {G G' : Nat → Nat} : ∀ {k : Nat}, (∀ b, b < k → (G (33 + b) = 20 ↔ G' (33 + b) = 20)) → cartN G k = cartN G' k
  | 0, _ => rfl
  | k + 1, h => by
    rw [cartN, cartN, cartN_cong (fun b hb => h b (by omega))]
    by_cases c : G (33 + k) = 20
    · rw [if_pos c, if_pos ((h k (by omega)).mp c)]
    · rw [if_neg c, if_neg (fun q => c ((h k (by omega)).mpr q))]
theorem cartN_0 {G : Nat → Nat} : ∀ {k : Nat}, cartN G k = 0 ↔ ∀ b, b < k → G (33 + b) ≠ 20
  | 0 => ⟨fun _ b h => absurd h (Nat.not_lt_zero _), fun _ => rfl⟩
  | k + 1 => by
    have ih := cartN_0 (G := G) (k := k)
    rw [cartN]
    constructor
    · intro h b hb
      by_cases c : G (33 + k) = 20
      · rw [if_pos c] at h; omega
      · rw [if_neg c] at h
        by_cases q : b = k
        · rw [q]; exact c
        · exact ih.mp (by omega) b (by omega)
    · intro h
      rw [if_neg (h k (by omega)), ih.mpr (fun b hb => h b (by omega))]
theorem cartN_up {G G' : Nat → Nat} {c : Nat} (hG : ∀ b, b ≠ c → G' (33 + b) = G (33 + b)) (h1 : G (33 + c) = 20) (h2 : G' (33 + c) ≠ 20) : ∀ {k : Nat}, c < k → cartN G' k + 1 = cartN G k
  | 0, h => absurd h (Nat.not_lt_zero _)
  | k + 1, h => by
    rw [cartN, cartN]
    by_cases q : c = k
    · subst q
      rw [if_neg h2, if_pos h1, cartN_cong (G := G') (G' := G) (fun b hb => by rw [hG b (by omega)])]
    · have ih := cartN_up hG h1 h2 (k := k) (by omega)
      rw [hG k (by omega)]
      omega
def rw0 (a : Int32) (sh : Nat) (G : Nat → Nat) (f : Nat → Int32) : Prop := f 0 = nI (G 0) ∧ f 1 = nI (G 1) ∧ f 2 = nI (G 2) ∧ f 3 = a ∧ f 4 = nI sh ∧ f 5 = nI (cartN G (G 1))
def rwN (k : Nat) (G : Nat → Nat) (f : Nat → Int32) : Prop := ∀ t, t < G 1 → f t = nI (G (k + t))
def rwG (G : Nat → Nat) (f : Nat → Int32) : Prop := ∀ t, t < G 1 → f t = gI (G (15 + t))
def rwS (sh : Nat) (G : Nat → Nat) (f : Nat → Int32) : Prop := ∀ t, t < G 1 → f t = nI (spG G sh t)
def rwL (sh : Nat) (G : Nat → Nat) (f : Nat → Int32) : Prop := ∀ s, s < G 0 → f s = gI (bagG G (addm (G 0) s sh) (G 1))
def RX (M : Mem) (h : Nat) (a : Int32) (sh : Nat) (G : Nat → Nat) : Prop :=
  rw0 a sh G (M h) ∧ rwN 3 G (M (h + 1)) ∧ rwN 9 G (M (h + 2)) ∧ rwN 21 G (M (h + 3)) ∧ rwG G (M (h + 4)) ∧ rwN 27 G (M (h + 5)) ∧ rwS sh G (M (h + 6)) ∧ rwL sh G (M (h + 7))
/-- the class's hall h stands for the hall G -/
def HX (M : Mem) (h : Nat) (a : Int32) (sh : Nat) (G : Nat → Nat) : Prop := RX M h a sh G ∧ gV G ∧ sh < G 0
def frm (M M' : Mem) (h : Nat) : Prop := ∀ q, (q < h ∨ h + 7 < q) → M' q = M q
theorem frm.rf {M : Mem} {h : Nat} : frm M M h := fun _ _ => rfl
theorem frm.tr {M M1 M2 : Mem} {h : Nat} (a : frm M M1 h) (b : frm M1 M2 h) : frm M M2 h := fun q hq => (b q hq).trans (a q hq)
theorem frm.st {M M1 : Mem} {h : Nat} (a : frm M M1 h) {p : Nat} (f : Nat → Int32) (hp : h ≤ p ∧ p ≤ h + 7) : frm M (mset M1 p f) h := fun q hq => by rw [mset_ne _ _ (by omega)]; exact a q hq
section CX
variable {M : Mem} {h : Nat} {a : Int32} {sh : Nat} {G : Nat → Nat}
theorem hx_P (H : HX M h a sh G) : 4 ≤ G 0 ∧ G 0 ≤ 12 ∧ G 1 ≤ 6 := ⟨H.2.1.1.2.1.1, H.2.1.1.2.1.2.1, H.2.1.1.1.2⟩
theorem hx_b (H : HX M h a sh G) (k : Nat) : G k < 2000 := H.2.1.1.1.1 k
theorem hx_sp (H : HX M h a sh G) {b : Nat} (hb : b < G 1) : spG G sh b < 2000 ∧ (spG G sh b < 12 ↔ G (33 + b) < 20) ∧ (spG G sh b = 20 ↔ G (33 + b) = 20) ∧ (spG G sh b < 30 ↔ G (33 + b) < 30) := by
  have hP := hx_P H
  have hv := hx_b H (33 + b)
  unfold spG
  by_cases c : G (33 + b) < 20
  · rw [if_pos c]
    have := subm_lt (gV_belt H.2.1 hb c) H.2.2
    omega
  · rw [if_neg c]
    rcases H.2.1.2.2.1 b hb with q | q | ⟨t, _, q, _⟩ <;> omega
theorem cx_waits (H : HX M h a sh G) {t : Nat} (ht : t < G 1) : X3_waits h M (nI t) = some (bI (decide (G (15 + t) = 0))) := by
  have hP := hx_P H
  have hv := hx_b H (15 + t)
  have e := H.1.2.2.2.2.1 t ht
  unfold X3_waits
  simp (disch := omega) only [am_in_nI, nI_clamp, e, gI_none, ↓reduceIte]
  by_cases c : G (15 + t) = 0 <;> simp [c, bI]
theorem cx_hasOwn (H : HX M h a sh G) {t : Nat} (ht : t < G 1) : X3_hasOwn h M (nI t) = some (bI (decide (G (15 + t) = t + 1))) := by
  have hP := hx_P H
  have hv := hx_b H (15 + t)
  have e := H.1.2.2.2.2.1 t ht
  unfold X3_hasOwn
  simp (disch := omega) only [am_in_nI, nI_clamp, e, gI_nI, ↓reduceIte]
  by_cases c : G (15 + t) = t + 1 <;> simp [c, bI]
theorem cx_isTaken (H : HX M h a sh G) {b : Nat} (hb : b < G 1) : X3_isTaken h M (nI b) = some (bI (decide (30 ≤ G (33 + b)))) := by
  have hP := hx_P H
  have hs := hx_sp H hb
  have e := H.1.2.2.2.2.2.2.1 b hb
  unfold X3_isTaken
  simp (disch := omega) only [li_30, am_in_nI, nI_clamp, e, nI_ltI, ↓reduceIte]
  by_cases c : spG G sh b < 30
  · have : ¬ 30 ≤ G (33 + b) := by omega
    simp [c, this, bI]
  · have : 30 ≤ G (33 + b) := by omega
    simp [c, this, bI]
theorem cx_isInCart (H : HX M h a sh G) {b : Nat} (hb : b < G 1) : X3_isInCart h M (nI b) = some (bI (decide (G (33 + b) = 20))) := by
  have hP := hx_P H
  have hs := hx_sp H hb
  have e := H.1.2.2.2.2.2.2.1 b hb
  unfold X3_isInCart
  simp (disch := omega) only [li_20, am_in_nI, nI_clamp, e, nI_eq, ↓reduceIte]
  by_cases c : spG G sh b = 20
  · have : G (33 + b) = 20 := by omega
    simp [c, this, bI]
  · have : ¬ G (33 + b) = 20 := by omega
    simp [c, this, bI]
theorem cx_isOnBelt (H : HX M h a sh G) {b : Nat} (hb : b < G 1) : X3_isOnBelt h M (nI b) = some (bI (decide (G (33 + b) < 20))) := by
  have hP := hx_P H
  have hs := hx_sp H hb
  have e := H.1.2.2.2.2.2.2.1 b hb
  have hn : ¬ nI (spG G sh b) < 0 := nI_pos (by omega)
  unfold X3_isOnBelt
  simp (disch := omega) only [li_12, am_in_nI, nI_clamp, e, hn, nI_ltI, ↓reduceIte]
  by_cases c : spG G sh b < 12
  · have : G (33 + b) < 20 := by omega
    simp [c, this, bI]
  · have : ¬ G (33 + b) < 20 := by omega
    simp [c, this, bI]
theorem cx_isWrong (H : HX M h a sh G) {t : Nat} (ht : t < G 1) : X3_isWrong h M (nI t) = some (bI (decide (G (15 + t) ≠ 0 ∧ G (15 + t) ≠ t + 1))) := by
  unfold X3_isWrong
  rw [cx_waits H ht, Option.bind_some]
  by_cases c : G (15 + t) = 0
  · simp [c, bI]
  · rw [cx_hasOwn H ht]
    by_cases c2 : G (15 + t) = t + 1 <;> simp [c, c2, bI]
theorem cx_isRobbed (H : HX M h a sh G) {t : Nat} (ht : t < G 1) : X3_isRobbed h M (nI t) = some (bI (decide (G (15 + t) = 0 ∧ 30 ≤ G (33 + t)))) := by
  unfold X3_isRobbed
  rw [cx_waits H ht, Option.bind_some]
  by_cases c : G (15 + t) = 0
  · rw [cx_isTaken H ht]
    by_cases c2 : 30 ≤ G (33 + t) <;> simp [c, c2, bI]
  · simp [c, bI]
theorem cx_whereIs (H : HX M h a sh G) {b : Nat} (hb : b < G 1) : X3_whereIs h M (nI b) = some (nI (G (33 + b))) := by
  have hP := hx_P H
  have hs := hx_sp H hb
  have hsh := H.2.2
  have e := H.1.2.2.2.2.2.2.1 b hb
  have e0 := H.1.1.1
  have e4 := H.1.1.2.2.2.2.1
  unfold X3_whereIs
  rw [cx_isOnBelt H hb, Option.bind_some]
  by_cases c : G (33 + b) < 20
  · have hbl := gV_belt H.2.1 hb c
    have hsu := subm_lt hbl hsh
    have hn : ¬ bI (decide (G (33 + b) < 20)) = 0 := by simp [c, bI]
    have hsp : spG G sh b = subm (G 0) (G (33 + b)) sh := by unfold spG; rw [if_pos c]
    rw [if_neg hn]
    simp (disch := omega) only [am_in_nI, nI_clamp, e, e0, e4, nI_add, nI_ltI, ↓reduceIte, hsp]
    have ha := add_subm hbl hsh
    unfold addm at ha
    split
    · next q => rw [if_pos q] at ha; rw [ha]
    · next q => rw [if_neg q] at ha; rw [pk_sub (by omega), ha]
  · have hn : bI (decide (G (33 + b) < 20)) = 0 := by simp [c, bI]
    have hsp : spG G sh b = G (33 + b) := by unfold spG; rw [if_neg c]
    rw [if_pos hn]
    simp (disch := omega) only [am_in_nI, nI_clamp, e, hsp, ↓reduceIte]
theorem cx_bagAt (H : HX M h a sh G) {p : Nat} (hp : p < G 0) : X3_bagAt h M (nI p) = some (gI (bagG G p (G 1))) := by
  have hP := hx_P H
  have hsh := H.2.2
  have e0 := H.1.1.1
  have e4 := H.1.1.2.2.2.2.1
  have hsu := subm_lt hp hsh
  have eL := H.1.2.2.2.2.2.2.2 _ hsu
  rw [add_subm hp hsh] at eL
  have key : X3_bagAt_28 h M (nI (subm (G 0) p sh)) = some (gI (bagG G p (G 1))) := by
    have hn : ¬ nI (subm (G 0) p sh) < 0 := nI_pos (by omega)
    unfold X3_bagAt_28
    simp (disch := omega) only [hn, li_12, nI_ltI, am_in_nI, nI_clamp, ↓reduceIte, eL, if_pos (show subm (G 0) p sh < 12 by omega)]
  unfold X3_bagAt
  rw [e4, e0]
  by_cases c : p < sh
  · rw [if_pos (nI_lt c (by omega))]
    have : nI p - nI sh + nI (G 0) = nI (subm (G 0) p sh) := by
      rw [am_sub (P := G 0) (by omega) hsh hP.2.1]
      unfold subm
      rw [if_neg (by omega)]
    rw [this]; exact key
  · rw [if_neg (nI_nlt (by omega) (by omega)), pk_sub (by omega)]
    have : subm (G 0) p sh = p - sh := by unfold subm; rw [if_pos (by omega)]
    rw [this] at key; exact key
theorem cx_isFallDue (H : HX M h a sh G) : X3_isFallDue h M = some (bI (decide (0 < cartN G (G 1)) && decide (bagG G 0 (G 1) = 0))) := by
  have hP := hx_P H
  have e5 := H.1.1.2.2.2.2.2
  have hc := cartN_le G (G 1)
  have hb := bagG_le G 0 (G 1)
  unfold X3_isFallDue
  rw [e5]
  by_cases c : 0 < cartN G (G 1)
  · have : (0 : Int32) < nI (cartN G (G 1)) := nI_lt (a := 0) c (by omega)
    rw [if_pos this, li_0, cx_bagAt H (by omega), Option.bind_some]
    simp only [gI_none (show bagG G 0 (G 1) < 2 ^ 31 by omega)]
    by_cases c2 : bagG G 0 (G 1) = 0 <;> simp [c, c2, bI, ← li_0]
  · have : ¬ (0 : Int32) < nI (cartN G (G 1)) := by rw [show cartN G (G 1) = 0 by omega]; decide
    rw [if_neg this]
    simp [c, bI]
end CX
