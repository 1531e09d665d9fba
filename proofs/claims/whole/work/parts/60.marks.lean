/-! PURE: which bags to mark -/
def mkL (s : Int32) : Nat → (Nat → Nat) → Nat → Nat
  | 0, G => G
  | k + 1, G => if slp s k then upN (mkL s k G) (27 + k) (10 + k) else mkL s k G
theorem mkL_out (s : Int32) (G : Nat → Nat) : ∀ (k j : Nat), j < 27 ∨ 27 + k ≤ j → mkL s k G j = G j
  | 0, _, _ => rfl
  | k + 1, j, hj => by
    rw [mkL]
    split
    · rw [upN_ne (by omega)]; exact mkL_out s G k j (by omega)
    · exact mkL_out s G k j (by omega)
theorem mkL_in (s : Int32) (G : Nat → Nat) : ∀ (k j : Nat), j < k → mkL s k G (27 + j) = if slp s j then 10 + j else G (27 + j)
  | 0, _, h => absurd h (Nat.not_lt_zero _)
  | k + 1, j, hj => by
    rw [mkL]
    by_cases e : j = k
    · subst e
      split
      · rw [upN_same]
      · exact mkL_out s G j (27 + j) (by omega)
    · split
      · rw [upN_ne (by omega)]; exact mkL_in s G k j (by omega)
      · exact mkL_in s G k j (by omega)
theorem slp_full : ∀ n, n < 7 → ∀ k, k < n → slp (nI (2 ^ n - 1)) k = true := by decide +kernel
/-- every bag has a colour of its own -/
def cD (G : Nat → Nat) : Prop := ∀ t c, t < G 1 → c < G 1 → G (27 + c) = G (27 + t) → c = t
theorem mk_cD {G : Nat → Nat} (h6 : G 1 ≤ 6) : cD (mkL (nI (2 ^ G 1 - 1)) (G 1) G) := fun t c ht hc e => by
  rw [mkL_out _ _ _ 1 (by omega)] at ht hc
  rw [mkL_in _ _ _ c hc, mkL_in _ _ _ t ht, slp_full _ (by omega) c hc, slp_full _ (by omega) t ht] at e
  simp at e
  exact e
/-- whoever goes then goes with its own -/
def nW (G0 G : Nat → Nat) : Prop := ∀ t, t < G0 1 → G (15 + t) = G0 (15 + t) ∨ G (15 + t) = t + 1
theorem look_nW {a : Int32} {t' : Nat} {S : tS} (hV : gV S.1) (hD : cD S.1) (ht' : t' < S.1 1) {t : Nat} (ht : t < S.1 1) : (lookS a t' S).1 (15 + t) = S.1 (15 + t) ∨ (lookS a t' S).1 (15 + t) = t + 1 := by
  have h6 := hV.1.1.2
  unfold lookS
  split
  · split
    · exact Or.inl rfl
    · split
      · exact Or.inl rfl
      · next hb0 _ =>
        simp only []
        rcases bagG_spec S.1 (S.1 (9 + t')) (S.1 1) with ⟨q, _⟩ | ⟨c, hc, q, hp, _⟩
        · exact absurd q hb0
        rw [q, Nat.add_sub_cancel]
        generalize hδ : (S.1 (21 + t') + if c = t' ∧ S.1 (21 + t') < 99 then 1 else 0) = δ
        split
        · next htk =>
          show upN _ _ _ (15 + t) = _ ∨ upN _ _ _ (15 + t) = _
          by_cases e : t = t'
          · subst e
            right
            rw [upN_ne (by omega), upN_same]
            have hct : c = t := by
              have hk := hV.2.1 t ht
              have ek : upN S.1 (21 + t) δ (3 + t) = S.1 (3 + t) := upN_ne (by omega)
              have e1 : upN S.1 (21 + t) δ (27 + c) = S.1 (27 + c) := upN_ne (by omega)
              have e2 : upN S.1 (21 + t) δ (27 + t) = S.1 (27 + t) := upN_ne (by omega)
              unfold takeG at htk
              rw [ek, e1, e2] at htk
              rcases (show S.1 (3 + t) = 1 ∨ S.1 (3 + t) = 2 ∨ S.1 (3 + t) = 3 ∨ S.1 (3 + t) = 4 ∨ S.1 (3 + t) = 5 by omega) with k | k | k | k | k
              · rw [k] at htk
                simp at htk
                exact htk
              · rw [k] at htk
                simp at htk
                exact htk.1
              · rw [k] at htk
                simp at htk
                exact hD t c ht hc htk
              · rw [k] at htk
                simp at htk
                exact htk.1
              · rw [k] at htk
                simp at htk
                exact htk.1
            rw [hct]
          · left
            rw [upN_ne (by omega), upN_ne (by omega), upN_ne (by omega)]
        · left
          show upN _ _ _ (15 + t) = _
          rw [upN_ne (by omega)]
  · exact Or.inl rfl
theorem looks_nW {a : Int32} {S : tS} (hV : gV S.1) (hD : cD S.1) : ∀ k, k ≤ S.1 1 → nW S.1 (looksS a k S).1
  | 0, _ => fun _ _ => Or.inl rfl
  | k + 1, hk => fun t ht => by
    have ih := looks_nW (a := a) hV hD k (by omega) t ht
    obtain ⟨-, l2⟩ := looks_W (a := a) hV.1 k (by omega)
    have lV := looks_V (a := a) hV k (by omega)
    have e1 := l2 1 (by omega)
    have hD' : cD (looksS a k S).1 := fun t c ht hc => by
      rw [e1] at ht hc
      have h6 := hV.1.1.2
      rw [l2 (27 + c) (by omega), l2 (27 + t) (by omega)]
      exact hD t c ht hc
    have := look_nW (a := a) (t' := k) lV hD' (by rw [e1]; omega) (t := t) (by rw [e1]; exact ht)
    show (lookS a k (looksS a k S)).1 (15 + t) = _ ∨ (lookS a k (looksS a k S)).1 (15 + t) = _
    rcases this with q | q
    · rw [q]; exact ih
    · exact Or.inr q
theorem fall_V {G : Nat → Nat} (h : gV G) : gV (fallG (fun j => j) G) := by
  unfold fallG
  split
  · next h0 =>
    split
    · exact h
    · next hc =>
      have key : ∀ k, cartG (fun j => j) G k ≠ 0 → cartG (fun j => j) G k ≤ k ∧ G (33 + (cartG (fun j => j) G k - 1)) = 20 := fun k => by
        induction k with
        | zero => intro q; exact absurd rfl q
        | succ k ih =>
          rw [cartG]
          split
          · split
            · next q => intro _; exact ⟨Nat.le_refl _, q⟩
            · intro q; exact absurd rfl q
          · next q => intro _; have := ih q; exact ⟨by omega, this.2⟩
      have := key _ hc
      exact drop_V (b := cartG (fun j => j) G (G 1) - 1) h (by omega) this.2 (bagG_none h0)
  · exact h
theorem tk1_nW {a : Int32} {G : Nat → Nat} (hV : gV G) (hD : cD G) (h2 : G 2 < 1900) : nW G (tk1 a G) := fun t ht => by
  have h6 := hV.1.1.2
  have p4 := hV.1.2.1.1
  obtain ⟨tw, te⟩ := turn_W (d := 1 + G 0) hV.1
  have tV : gV (turnL (1 + G 0) (G 1) G) := turn_V hV (e := 1) (by omega) (by rw [Nat.add_mod_right, Nat.mod_eq_of_lt (by omega)])
  obtain ⟨fw, fe⟩ := fall_W tw (rk := fun j => j) (fun j hj => hj)
  have fV := fall_V tV
  have e : ∀ k, k < 33 → fallG (fun j => j) (turnL (1 + G 0) (G 1) G) k = G k := fun k hk => by rw [fe k hk, te k hk]
  have e1 := e 1 (by omega)
  have hD' : cD (fallG (fun j => j) (turnL (1 + G 0) (G 1) G)) := fun t c ht hc => by
    rw [e1] at ht hc
    rw [e (27 + c) (by omega), e (27 + t) (by omega)]
    exact hD t c ht hc
  have := looks_nW (a := a) (S := (fallG (fun j => j) (turnL (1 + G 0) (G 1) G), 0, 0)) fV hD' (G 1) (by show _ ≤ fallG _ _ 1; rw [e1]; exact Nat.le_refl _) t (by show t < fallG _ _ 1; rw [e1]; exact ht)
  unfold tk1 tickS
  simp only []
  rw [upN_ne (by omega)]
  rw [show (fallG (fun j => j) (turnL (1 + G 0) (G 1) G), (0 : Int32), (0 : Int32)).1 (15 + t) = G (15 + t) from e (15 + t) (by omega)] at this
  exact this
theorem tk1_V {a : Int32} {G : Nat → Nat} (hV : gV G) (h2 : G 2 < 1900) : gV (tk1 a G) := by
  have h6 := hV.1.1.2
  have p4 := hV.1.2.1.1
  have tV : gV (turnL (1 + G 0) (G 1) G) := turn_V hV (e := 1) (by omega) (by rw [Nat.add_mod_right, Nat.mod_eq_of_lt (by omega)])
  obtain ⟨tw, te⟩ := turn_W (d := 1 + G 0) hV.1
  obtain ⟨fw, fe⟩ := fall_W tw (rk := fun j => j) (fun j hj => hj)
  have fV := fall_V tV
  have e1 : fallG (fun j => j) (turnL (1 + G 0) (G 1) G) 1 = G 1 := by rw [fe 1 (by omega), te 1 (by omega)]
  have lV := looks_V (a := a) (S := (fallG (fun j => j) (turnL (1 + G 0) (G 1) G), 0, 0)) fV (G 1) (by show _ ≤ fallG _ _ 1; rw [e1]; exact Nat.le_refl _)
  obtain ⟨-, l2⟩ := looks_W (a := a) (S := (fallG (fun j => j) (turnL (1 + G 0) (G 1) G), 0, 0)) fV.1 (G 1) (by show _ ≤ fallG _ _ 1; rw [e1]; exact Nat.le_refl _)
  unfold tk1 tickS
  refine tick2_V lV ?_
  rw [l2 2 (by omega)]
  show fallG _ _ 2 + 1 < 2000
  rw [fe 2 (by omega), te 2 (by omega)]
  omega
theorem tkN_nW {a : Int32} {G : Nat → Nat} (hV : gV G) (hD : cD G) : ∀ n, G 2 + n < 1900 → nW G (tkN a n G) ∧ gV (tkN a n G)
  | 0, _ => ⟨fun _ _ => Or.inl rfl, hV⟩
  | n + 1, h2 => by
    obtain ⟨ih, iV⟩ := tkN_nW (a := a) hV hD n (by omega)
    obtain ⟨w1, w2, w3⟩ := tkN_W (a := a) hV.1 n (by omega)
    have h6 := hV.1.1.2
    have e1 := w2 1 (by omega)
    have := tk1_nW (a := a) iV (fun t c ht hc => by
      rw [e1] at ht hc
      rw [w2 (27 + c) (by omega), w2 (27 + t) (by omega)]
      exact hD t c ht hc) (by omega)
    refine ⟨fun t ht => ?_, tk1_V iV (by omega)⟩
    rw [tkN]
    rcases this t (by rw [e1]; exact ht) with q | q
    · rw [q]; exact ih t ht
    · exact Or.inr q
/-- with these marked, nobody goes wrong newly within n ticks -/
def mkT (G : Nat → Nat) (n : Nat) (s : Int32) : Bool := decide (btI (inG 5 (tkN 0 n (mkL s (G 1) G))) (G 1) &&& (btI (inG 5 G) (G 1) ^^^ (-1)) = 0)
theorem mk_V {G : Nat → Nat} (hV : gV G) (s : Int32) : ∀ k, k ≤ G 1 → gV (mkL s k G)
  | 0, _ => hV
  | k + 1, hk => by
    have h6 := hV.1.1.2
    rw [mkL]
    split
    · exact cell_V (mk_V hV s k (by omega)) (by omega)
    · exact mk_V hV s k (by omega)
theorem mkT_full {G : Nat → Nat} (hV : gV G) {n : Nat} (h2 : G 2 + n < 1900) : mkT G n (nI (2 ^ G 1 - 1)) = true := by
  have h6 := hV.1.1.2
  have e : ∀ j, j < 27 ∨ 33 ≤ j → mkL (nI (2 ^ G 1 - 1)) (G 1) G j = G j := fun j hj => mkL_out _ _ _ j (by omega)
  obtain ⟨h, -⟩ := tkN_nW (a := 0) (mk_V hV (nI (2 ^ G 1 - 1)) (G 1) (Nat.le_refl _)) (mk_cD h6) n (by rw [e 2 (by omega)]; exact h2)
  unfold mkT
  rw [btI_andnot _ _ h6]
  refine decide_eq_true ?_
  have : ∀ m, m ≤ G 1 → btI (fun k => inG 5 (tkN 0 n (mkL (nI (2 ^ G 1 - 1)) (G 1) G)) k && !inG 5 G k) m = 0 := fun m => by
    induction m with
    | zero => intro _; rfl
    | succ m ih =>
      intro hm
      rw [btI, ih (by omega)]
      have hq := h m (by rw [e 1 (by omega)]; omega)
      rw [e (15 + m) (by omega)] at hq
      have : (inG 5 (tkN 0 n (mkL (nI (2 ^ G 1 - 1)) (G 1) G)) m && !inG 5 G m) = false := by
        unfold inG
        rcases hq with q | q
        · rw [q]; simp
        · rw [q]; simp
      rw [this]; simp
  exact this _ (Nat.le_refl _)
section MK
variable {Mx Mm : Mem} {G : Nat → Nat} {sh : Nat}
theorem mk_x (s : Int32) (h6 : G 1 ≤ 6) : ∀ (d k f : Nat) (M : Mem), G 1 - k = d → k ≤ G 1 → d < f → HX M 23 0 sh (mkL s k G) → ∃ M', X2_markEach_2 f s (nI k) M = some M' ∧ HX M' 23 0 sh (mkL s (G 1) G) ∧ frm M M' 23
  | 0, k, 0, _, _, _, hf, _ => absurd hf (Nat.not_lt_zero _)
  | 0, k, f + 1, M, hd, hk, _, H => by
    have e : k = G 1 := by omega
    subst e
    rw [X2_markEach_2, show M 23 1 = _ from H.1.1.2.1, mkL_out _ _ _ 1 (by omega), if_neg (nI_nlt (Nat.le_refl _) (by omega))]
    exact ⟨M, rfl, H, frm.rf⟩
  | d + 1, k, 0, _, _, _, hf, _ => absurd hf (Nat.not_lt_zero _)
  | d + 1, k, f + 1, M, hd, hk, hf, H => by
    rw [X2_markEach_2, show M 23 1 = _ from H.1.1.2.1, mkL_out _ _ _ 1 (by omega), if_pos (nI_lt (show k < G 1 by omega) (by omega)), nI_1]
    by_cases c : (s >>> (nI k &&& 31)) &&& 1 = 1
    · rw [if_pos c, am_in_nI (by omega) (by omega), if_pos rfl, nI_clamp (by omega), am_let_eq, li_10, nI_add]
      have H2 := hx_paint H (t := k) (v := 10 + k) (by rw [mkL_out _ _ _ 1 (by omega)]; omega) (by omega)
      have e : mkL s (k + 1) G = upN (mkL s k G) (27 + k) (10 + k) := by rw [mkL, if_pos (show slp s k = true from decide_eq_true c)]
      rw [← e] at H2
      obtain ⟨M', a1, a2, a3⟩ := mk_x s h6 d (k + 1) f _ (by omega) (by omega) (by omega) H2
      exact ⟨M', a1, a2, (frm.rf.st _ (by omega)).tr a3⟩
    · rw [if_neg c]
      have e : mkL s (k + 1) G = mkL s k G := by rw [mkL, if_neg (show ¬ slp s k = true by unfold slp; rw [decide_eq_false c]; decide)]
      rw [← e] at H
      exact mk_x s h6 d (k + 1) f M (by omega) (by omega) (by omega) H
theorem l1080 : (1080 : Int32) = nI 1080 := Eq.symm (by decide)
def mkE (K : Int32 → Int32 → Int32 → Int32 → Mem → Option (Int32 × Mem)) (x1 x2 x3 s : Int32) (M' : Mem) : Option (Int32 × Mem) := Option.bind (X8_ticksOf 1053 x1 M') fun M4 => Option.bind (X8_wrongOnes M4 1053) fun r5 => Option.bind (X8_wrongOnes M4 0) fun r6 => if (r5 &&& (r6 ^^^ (-1))) = 0 then K x1 x2 s (s + 1) M4 else K x1 x2 x3 (s + 1) M4
theorem mk_m (s : Int32) (h6 : G 1 ≤ 6) : ∀ (d k f : Nat) (M : Mem), G 1 - k = d → k ≤ G 1 → d < f → atM M 1053 (mkL s k G) → M 1 1 = nI (G 1) → ∃ M', (∀ K x1 x2 x3, X8_marks_76 K f x1 x2 x3 s (nI k) M = mkE K x1 x2 x3 s M') ∧ atM M' 1053 (mkL s (G 1) G) ∧ tfM M M' ∧ M' 0 16 = M 0 16
  | 0, k, 0, _, _, _, hf, _, _ => absurd hf (Nat.not_lt_zero _)
  | 0, k, f + 1, M, hd, hk, _, hA, h1 => by
    have e : k = G 1 := by omega
    subst e
    refine ⟨M, fun K x1 x2 x3 => ?_, hA, tfM.rf, rfl⟩
    rw [X8_marks_76, if_pos (show am_in (1 : Int32) 1092 = true by decide), show (1 : Int32).toNatClampNeg = 1 by decide, h1, if_neg (nI_nlt (Nat.le_refl _) (by omega))]
    rfl
  | d + 1, k, 0, _, _, _, hf, _, _ => absurd hf (Nat.not_lt_zero _)
  | d + 1, k, f + 1, M, hd, hk, hf, hA, h1 => by
    have ts : ∀ v : Int32, tfM M (mset M 1 (upd (M 1) (1080 + k) v)) := fun v => ⟨fun j hj => by rw [mset_ne _ _ (by omega)], fun j hj => by rw [mset_self, upd_ne (by omega)], fun p h1 h2 => mset_ne _ _ (by omega)⟩
    cases hs : slp s k with
    | false =>
      have e : mkL s (k + 1) G = mkL s k G := by rw [mkL, hs]; rfl
      have eM : mset M 1 (upd (M 1) (1080 + k) (M 1 (1080 + k))) = M := by
        rw [show upd (M 1) (1080 + k) (M 1 (1080 + k)) = M 1 from funext (fun j => by
          unfold upd
          split
          · next q => rw [q]
          · rfl), mset_id]
      rw [← e] at hA
      obtain ⟨M', a1, a2, a3, a4⟩ := mk_m s h6 d (k + 1) f M (by omega) (by omega) (by omega) hA h1
      refine ⟨M', fun K x1 x2 x3 => ?_, a2, a3, a4⟩
      rw [X8_marks_76, if_pos (show am_in (1 : Int32) 1092 = true by decide), show (1 : Int32).toNatClampNeg = 1 by decide, h1, if_pos (nI_lt (show k < G 1 by omega) (by omega)), has_slp, hs, Option.bind_some, nI_1, if_pos (show bI false = 0 from rfl), l1080, nI_add, am_in_nI (by omega) (by omega), if_pos rfl, if_pos rfl, nI_clamp (by omega), am_let_eq, eM]
      exact a1 K x1 x2 x3
    | true =>
      have e : mkL s (k + 1) G = upN (mkL s k G) (27 + k) (10 + k) := by rw [mkL, hs]; rfl
      have hA2 : atM (mset M 1 (upd (M 1) (1080 + k) (nI (10 + k)))) 1053 (mkL s (k + 1) G) := by
        have := wrM_scl M 1053 (mkL s k G) (10 + k) (show k < 6 by omega)
        rw [atM_wr hA] at this
        rw [show 1080 + k = 1053 + 27 + k by omega, this, e]
        exact atM_of _ _ _
      obtain ⟨M', a1, a2, a3, a4⟩ := mk_m s h6 d (k + 1) f _ (by omega) (by omega) (by omega) hA2 (by rw [mset_self, upd_ne (by omega)]; exact h1)
      refine ⟨M', fun K x1 x2 x3 => ?_, a2, (ts _).tr a3, by rw [a4, mset_ne _ _ (by omega)]⟩
      rw [X8_marks_76, if_pos (show am_in (1 : Int32) 1092 = true by decide), show (1 : Int32).toNatClampNeg = 1 by decide, h1, if_pos (nI_lt (show k < G 1 by omega) (by omega)), has_slp, hs, Option.bind_some, nI_1, if_neg (show ¬ bI true = 0 by decide), l1080, nI_add, am_in_nI (by omega) (by omega), if_pos rfl, nI_clamp (by omega), am_let_eq, li_10, nI_add]
      exact a1 K x1 x2 x3
/-- one set, tried -/
theorem mk_try (I : Inv Mx Mm) (H : HX Mx 15 0 sh G) (hA : atM Mm 0 G) (hO : hOK G) {n : Nat} (hn : n ≤ 40) {Mx1 Mm1 : Mem} (hx : frm Mx Mx1 23) (hm : tfM Mm Mm1) (h0 : Mm1 0 16 = 0) (s : Int32) : ∃ Mx2 Mx3 Mx4 Mm2 Mm4, X3_become 23 15 Mx1 = some Mx2 ∧ X2_markEach s Mx2 = some Mx3 ∧ X2_goOn (nI n) Mx3 = some (23, Mx4) ∧ X3_setOf 23 Mx4 5 = some (btI (inG 5 (tkN 0 n (mkL s (G 1) G))) (G 1)) ∧ X8_layTried Mm1 = some Mm2 ∧ (∀ K x2 x3, X8_marks_76 K am_fuel (nI n) x2 x3 s 0 Mm2 = if mkT G n s then K (nI n) x2 s (s + 1) Mm4 else K (nI n) x2 x3 (s + 1) Mm4) ∧ frm Mx Mx4 23 ∧ tfM Mm Mm4 ∧ Mm4 0 16 = 0 := by
  have hP := hx_P H
  have h2 := hO.2
  obtain ⟨Mx2, Mm2, a1, a2, T⟩ := tr_lay H hA hx hm h0
  obtain ⟨t1, t2, ⟨sh2, H2⟩, hA2, h02⟩ := T
  obtain ⟨Mx3, b1, b2, b3⟩ := mk_x s hP.2.2 (G 1) 0 am_fuel Mx2 (by omega) (by omega) (by show _ < 2000; omega) H2
  have e : ∀ j, j < 27 ∨ 33 ≤ j → mkL s (G 1) G j = G j := fun j hj => mkL_out _ _ _ j (by omega)
  obtain ⟨Mx4, sh4, c1, c2, c3⟩ := cx_goOn_loop (h := 0) (a := 0) n (by omega) n 0 am_fuel Mx3 sh2 (mkL s (G 1) G) (by omega) (by omega) (by show n < 2000; omega) b2 (by rw [e 2 (by omega)]; omega)
  have o1 := cx_setOf c2 (g := 5) (by omega)
  obtain ⟨w1, w2, w3⟩ := tkN_W (a := 0) b2.2.1.1 n (by rw [e 2 (by omega)]; omega)
  rw [w2 1 (by omega), e 1 (by omega)] at o1
  obtain ⟨Mm3, q1, q2, q3, q4⟩ := mk_m (G := G) s hP.2.2 (G 1) 0 am_fuel Mm2 (by omega) (by omega) (by show _ < 2000; omega) hA2 (by rw [t2.2.1 1 (by omega)]; exact at_1 hA)
  have t3 := t2.tr q3
  have y1 := ref_tk (n := n) q2 (by omega) (fun j hj => by rw [t3.2.2 8 (by omega) (by omega)]; exact I.misc.2.2.1 j hj) (by omega) b2.2.1.1 (by rw [e 2 (by omega)]; omega)
  rw [q4, h02] at y1
  have t4 := t3.tr (tfM.st Mm3 (ticksS 0 (fun j => j) n (mkL s (G 1) G, Mm3 0 17, Mm3 0 18)))
  have hA4 := st_A Mm3 1053 (ticksS 0 (fun j => j) n (mkL s (G 1) G, Mm3 0 17, Mm3 0 18))
  rw [tkN_S] at hA4
  have h04 : stM Mm3 1053 (ticksS 0 (fun j => j) n (mkL s (G 1) G, Mm3 0 17, Mm3 0 18)) 0 16 = 0 := by rw [st_0 _ _ _ (by omega), q4]; exact h02
  generalize stM Mm3 1053 (ticksS 0 (fun j => j) n (mkL s (G 1) G, Mm3 0 17, Mm3 0 18)) = Mm4 at y1 t4 hA4 h04
  have z1 := ref_wrongOnes Mm4 1053 w1.1 (by omega)
  rw [atM_wr hA4, w2 1 (by omega), e 1 (by omega)] at z1
  have z2 := a0_wrong (M := Mm4) (G := G) (fun k hk => by rw [t4.2.1 _ (by omega)]; exact hA k hk) H.2.1.1.1
  refine ⟨Mx2, Mx3, Mx4, Mm2, Mm4, a1, b1, c1, o1, a2, fun K x2 x3 => ?_, (t1.tr b3).tr c3, t4, h04⟩
  rw [show X8_marks_76 K am_fuel (nI n) x2 x3 s 0 Mm2 = _ from q1 K (nI n) x2 x3]
  unfold mkE mkT
  rw [show X8_ticksOf 1053 (nI n) Mm3 = _ from y1, Option.bind_some, show X8_wrongOnes Mm4 1053 = _ from z1, Option.bind_some, z2, Option.bind_some]
  by_cases c : btI (inG 5 (tkN 0 n (mkL s (G 1) G))) (G 1) &&& (btI (inG 5 G) (G 1) ^^^ (-1)) = 0
  · rw [if_pos c, decide_eq_true c]; rfl
  · rw [if_neg c, decide_eq_false c]; rfl
theorem pow_N : ∀ n, n < 7 → (1 : Int32) <<< (nI n &&& 31) = nI (2 ^ n) := by decide +kernel
theorem pc_lt : ∀ n, n < 7 → ∀ s, s < 2 ^ n - 1 → pcN s < pcN (2 ^ n - 1) := by decide +kernel
theorem pc_le : ∀ s, s < 64 → pcN s ≤ 6 := by decide +kernel
theorem marks_loop (I : Inv Mx Mm) (H : HX Mx 15 0 sh G) (hA : atM Mm 0 G) (hO : hOK G) {n w : Nat} (hn : n ≤ 40) (hw : w < 2) : ∀ (d s f b : Nat) (Mx1 Mm1 : Mem), 2 ^ G 1 - s = d → s ≤ 2 ^ G 1 → d < f → frm Mx Mx1 23 → tfM Mm Mm1 → Mm1 0 16 = 0 → b ≤ 2 ^ G 1 → (b = 0 → s < 2 ^ G 1) → ∃ fin Mx2 Mm2, fin < 64 ∧ X2_fewestMarks_24 f (nI n) (btI (inG 5 G) (G 1)) (nI (if b = 0 then 2 ^ G 1 - 1 else b - 1)) (nI s) Mx1 = some (nI fin, Mx2) ∧ X8_marks_40 f (nI n) (nI w) (if b = 0 then -1 else nI (b - 1)) (nI s) Mm1 = (if nI w = 0 then Option.bind (X8_bits (nI fin)) (fun r => some (r, Mm2)) else some (nI fin, Mm2)) ∧ Inv Mx2 Mm2
  | 0, s, 0, _, _, _, _, _, hf, _, _, _, _, _ => absurd hf (Nat.not_lt_zero _)
  | 0, s, f + 1, b, Mx1, Mm1, hd, hs, _, hx, hm, h0, hb, hb0 => by
    have hP := hx_P H
    have h64 : 2 ^ G 1 ≤ 2 ^ 6 := Nat.pow_le_pow_right (by omega) hP.2.2
    have hne : b ≠ 0 := fun e => by have := hb0 e; omega
    rw [X2_fewestMarks_24, X8_marks_40, if_pos (show am_in (1 : Int32) 1092 = true by decide), show (1 : Int32).toNatClampNeg = 1 by decide, hx 15 (by omega), hm.2.1 1 (by omega), at_1 hA, show Mx 15 1 = _ from H.1.1.2.1, pow_N _ (by omega), if_neg (nI_nlt (by omega) (by omega)), if_neg (nI_nlt (by omega) (by omega)), if_neg hne, if_neg hne]
    exact ⟨b - 1, Mx1, Mm1, by omega, rfl, rfl, I.ft hx hm h0⟩
  | d + 1, s, 0, _, _, _, _, _, hf, _, _, _, _, _ => absurd hf (Nat.not_lt_zero _)
  | d + 1, s, f + 1, b, Mx1, Mm1, hd, hs, hf, hx, hm, h0, hb, hb0 => by
    have hP := hx_P H
    have h64 : 2 ^ G 1 ≤ 2 ^ 6 := Nat.pow_le_pow_right (by omega) hP.2.2
    have hlt : s < 2 ^ G 1 := by omega
    have hF : (if b = 0 then 2 ^ G 1 - 1 else b - 1) < 64 := by split <;> omega
    have p1 := pc_le s (by omega)
    have p2 := pc_le _ hF
    obtain ⟨Mx2, Mx3, Mx4, Mm2, Mm4, a1, a2, a3, a4, a5, a6, a7, a8, a9⟩ := mk_try I H hA hO hn hx hm h0 (nI s)
    rw [X2_fewestMarks_24, X8_marks_40, if_pos (show am_in (1 : Int32) 1092 = true by decide), show (1 : Int32).toNatClampNeg = 1 by decide, hx 15 (by omega), hm.2.1 1 (by omega), at_1 hA, show Mx 15 1 = _ from H.1.1.2.1, pow_N _ (by omega), if_pos (nI_lt hlt (by omega)), if_pos (nI_lt hlt (by omega)), bitc_64 s (by omega), bitc_64 _ hF, Option.bind_some, Option.bind_some, a5, Option.bind_some, a6]
    simp only [nI_ltI (show pcN s < 2 ^ 31 by omega) (show pcN (if b = 0 then 2 ^ G 1 - 1 else b - 1) < 2 ^ 31 by omega), a1, a2, a3, a4, Option.bind_some, ↓reduceIte, nI_1]
    have ih := marks_loop I H hA hO (n := n) (w := w) hn hw d (s + 1) f
    have tst : ∀ (A B : Option (Int32 × Mem)), (if btI (inG 5 (tkN 0 n (mkL (nI s) (G 1) G))) (G 1) &&& (btI (inG 5 G) (G 1) ^^^ (-1)) = 0 then A else B) = if mkT G n (nI s) then A else B := fun A B => by
      unfold mkT
      by_cases c : btI (inG 5 (tkN 0 n (mkL (nI s) (G 1) G))) (G 1) &&& (btI (inG 5 G) (G 1) ^^^ (-1)) = 0
      · rw [if_pos c, decide_eq_true c]; rfl
      · rw [if_neg c, decide_eq_false c]; rfl
    rw [tst]
    by_cases c : b = 0
    · subst c
      simp only [↓reduceIte, show (-1 : Int32) < 0 by decide]
      by_cases c2 : s < 2 ^ G 1 - 1
      · rw [if_pos (pc_lt _ (by omega) s c2)]
        cases hT : mkT G n (nI s) with
        | true =>
          have := ih (s + 1) Mx4 Mm4 (by omega) (by omega) (by omega) a7 a8 a9 (by omega) (fun q => by omega)
          rw [if_neg (by omega), if_neg (by omega), Nat.add_sub_cancel] at this
          exact this
        | false =>
          have := ih 0 Mx4 Mm4 (by omega) (by omega) (by omega) a7 a8 a9 (by omega) (fun q => by omega)
          exact this
      · have es : s = 2 ^ G 1 - 1 := by omega
        rw [if_neg (by rw [es]; omega)]
        have hT : mkT G n (nI s) = true := by rw [es]; exact mkT_full H.2.1 (by have := hO.2; omega)
        rw [hT, if_pos rfl]
        have := ih (s + 1) Mx1 Mm4 (by omega) (by omega) (by omega) hx a8 a9 (by omega) (fun q => by omega)
        rw [if_neg (by omega), if_neg (by omega), Nat.add_sub_cancel, es] at this
        rw [es]
        exact this
    · simp only [if_neg c]
      rw [if_neg (nI_pos (by omega)), bits_64 s (by omega), bits_64 (b - 1) (by omega), Option.bind_some, Option.bind_some]
      have p3 := pc_le (b - 1) (by omega)
      simp only [nI_ltI (show pcN s < 2 ^ 31 by omega) (show pcN (b - 1) < 2 ^ 31 by omega)]
      by_cases c2 : pcN s < pcN (b - 1)
      · rw [if_pos c2, if_pos c2]
        cases hT : mkT G n (nI s) with
        | true =>
          have := ih (s + 1) Mx4 Mm4 (by omega) (by omega) (by omega) a7 a8 a9 (by omega) (fun q => by omega)
          rw [if_neg (by omega), if_neg (by omega), Nat.add_sub_cancel] at this
          exact this
        | false =>
          have := ih b Mx4 Mm4 (by omega) (by omega) (by omega) a7 a8 a9 hb (fun q => absurd q c)
          rw [if_neg c, if_neg c] at this
          exact this
      · rw [if_neg c2, if_neg c2]
        have := ih b Mx1 Mm1 (by omega) (by omega) (by omega) hx hm h0 hb (fun q => absurd q c)
        rw [if_neg c, if_neg c] at this
        exact this
end MK
theorem ok_marks_Inv : ok_marks Inv := fun Mx Mm y z I => by
  unfold X7_marks X8_marks
  rcases hall_dec I with ⟨c, d⟩ | ⟨G, sh, H, hA, hO, c, d⟩
  · rw [c, d]; exact ⟨_, _, _, rfl, rfl, I⟩
  have hP := hx_P H
  rcases rng y 1 40 (by omega) (by omega) with ⟨q, e⟩ | ⟨n, n1, n2, rfl, e⟩
  · simp only [c, d, e 1 40 (by decide) (by decide), Option.bind_some, i10, i00, ↓reduceIte]
    refine ⟨_, _, _, ?_, rfl, I⟩
    rcases q with q | q
    · rw [if_pos (show y < 1 from q)]
    · rw [if_pos (show (40 : Int32) < y from q), ite_self]
  simp (disch := omega) only [c, d, e 1 40 (by decide) (by decide), Option.bind_some, i10, i00, ↓reduceIte, show ¬ nI n < (1 : Int32) from nI_nlt (b := 1) n1 (by omega), show ¬ (40 : Int32) < nI n from nI_nlt (a := 40) (by omega) (by omega)]
  rcases choice_dec z 2 (by omega) with ⟨q, e⟩ | ⟨w, hw, rfl, q, e⟩
  · simp only [show X7_isChoice z 2 = some 0 from q, e 0 1 (by decide) (by decide), Option.bind_some, i00, ↓reduceIte]; exact ⟨_, _, _, rfl, rfl, I⟩
  have h64 : 2 ^ G 1 ≤ 2 ^ 6 := Nat.pow_le_pow_right (by omega) hP.2.2
  have h1 : 0 < 2 ^ G 1 := Nat.two_pow_pos _
  obtain ⟨fin, Mx2, Mm2, f1, f2, f3, f4⟩ := marks_loop I H hA hO n2 hw (2 ^ G 1) 0 am_fuel 0 Mx Mm (by omega) (by omega) (by show _ < 2000; omega) frm.rf tfM.rf I.misc.2.2.2 (by omega) (fun _ => h1)
  rw [if_pos rfl] at f2 f3
  simp only [show X7_isChoice (nI w) 2 = some 1 from q, e 0 1 (by decide) (by decide), Option.bind_some, i10, ↓reduceIte, X2_fewestMarks, show X3_setOf 15 Mx 5 = _ from cx_setOf H (g := 5) (by omega), show Mx 15 1 = _ from H.1.1.2.1, full_N _ (show G 1 < 7 by omega)]
  rw [show X2_fewestMarks_24 am_fuel (nI n) (btI (inG 5 G) (G 1)) (nI (2 ^ G 1 - 1)) 0 Mx = _ from f2, Option.bind_some, show X8_marks_40 am_fuel (nI n) (nI w) (-1) 0 Mm = _ from f3]
  simp only [bits_64 fin f1, bitc_64 fin f1, Option.bind_some]
  by_cases z : nI w = 0
  · rw [if_pos z, if_pos z]; exact ⟨_, _, _, rfl, rfl, f4⟩
  · rw [if_neg z, if_neg z]; exact ⟨_, _, _, rfl, rfl, f4⟩
