/-! PURE: two who turn THE BELT by turns -/
def tnE (e : Nat) (G : Nat → Nat) : Nat → Nat := fun j => if 33 ≤ j ∧ j < 33 + G 1 ∧ G j < 20 then addm (G 0) (G j) e else G j
theorem tnE_L {G : Nat → Nat} (h : gV G) {d e : Nat} (he : e < G 0) (hd : d % G 0 = e) : turnL d (G 1) G = tnE e G := funext (fun j => turnE_val h he hd j)
theorem tnE_k (e : Nat) (G : Nat → Nat) {k : Nat} (h : k < 33) : tnE e G k = G k := if_neg (by omega)
theorem tnE_V {G : Nat → Nat} (h : gV G) {e : Nat} (he : e < G 0) : gV (tnE e G) := by
  rw [← tnE_L h he (Nat.mod_eq_of_lt he)]
  exact turn_V h he (Nat.mod_eq_of_lt he)
theorem tnE_0 {G : Nat → Nat} (h : gV G) : tnE 0 G = G := by
  funext j
  unfold tnE
  split
  · next c =>
    have := gV_belt h (b := j - 33) (by omega) (by rw [show 33 + (j - 33) = j by omega]; exact c.2.2)
    rw [show 33 + (j - 33) = j by omega] at this
    unfold addm
    rw [if_pos (by omega)]; rfl
  · rfl
theorem tnE_tn {G : Nat → Nat} (h : gV G) {e1 e2 : Nat} (h1 : e1 < G 0) (h2 : e2 < G 0) : tnE e2 (tnE e1 G) = tnE (addm (G 0) e1 e2) G := by
  have hP := h.1.2.1.2.1
  funext j
  by_cases c : 33 ≤ j ∧ j < 33 + G 1 ∧ G j < 20
  · have hb := gV_belt h (b := j - 33) (by omega) (by rw [show 33 + (j - 33) = j by omega]; exact c.2.2)
    rw [show 33 + (j - 33) = j by omega] at hb
    have e : tnE e1 G j = addm (G 0) (G j) e1 := if_pos c
    have hl := addm_lt hb h1
    rw [tnE, tnE_k e1 G (show 1 < 33 by omega), tnE_k e1 G (show 0 < 33 by omega), e, if_pos (by omega), tnE, if_pos c, addm_comm3 hb h1 h2]
  · have e : tnE e1 G j = G j := if_neg c
    rw [tnE, tnE_k e1 G (show 1 < 33 by omega), e, if_neg c, tnE, if_neg c]
/-- how far turned, in all: 4 is not at all -/
def eZ (P z : Nat) : Nat := (z + 4 * P - 4) % P
theorem eZ_lt {P : Nat} (h : 4 ≤ P) (z : Nat) : eZ P z < P := Nat.mod_lt _ (by omega)
theorem eZ_4 : ∀ P, P < 13 → 4 ≤ P → eZ P 4 = 0 := by decide +kernel
theorem eZ_up : ∀ P, P < 13 → 4 ≤ P → ∀ z, z < 8 → addm P (eZ P z) 1 = eZ P (z + 1) := by decide +kernel
theorem eZ_dn : ∀ P, P < 13 → 4 ≤ P → ∀ z, z < 9 → 0 < z → addm P (eZ P z) (P - 1) = eZ P (z - 1) := by decide +kernel
theorem fm_Z : ∀ P, P < 13 → 4 ≤ P → ∀ s, s < 12 → s < P → ∀ z, z < 9 → am_fm (nI s + (nI z - 4)) (nI P) = nI (addm P s (eZ P z)) := by decide +kernel
theorem z_up : ∀ z, z < 9 → nI z - 4 + 1 = nI (z + 1) - 4 := by decide +kernel
theorem z_dn : ∀ z, z < 9 → 0 < z → nI z - 4 - 1 = nI (z - 1) - 4 := by decide +kernel
/-- who goes in the end -/
def vT (G : Nat → Nat) (m z : Nat) : Nat := pcN (btN (inG 7 (tkN 0 m (tnE (eZ (G 0) z) G))) (G 1))
theorem vT_le {G : Nat → Nat} (h6 : G 1 ≤ 6) (m z : Nat) : vT G m z ≤ 6 := pc_le _ (btN_le6 _ h6)
def stZ (k z : Nat) : Nat := if k % 2 = 0 then z + 1 else z - 1
def ocT (v : Nat → Nat) (n : Nat) : Nat → Nat → Nat
  | 0, z => v z
  | r + 1, z => if (n - (r + 1)) % 2 = 0 then (if ocT v n r z < ocT v n r (stZ (n - (r + 1)) z) then ocT v n r (stZ (n - (r + 1)) z) else ocT v n r z) else (if ocT v n r (stZ (n - (r + 1)) z) < ocT v n r z then ocT v n r (stZ (n - (r + 1)) z) else ocT v n r z)
theorem ocT_le {v : Nat → Nat} (h : ∀ z, v z ≤ 6) (n : Nat) : ∀ r z, ocT v n r z ≤ 6
  | 0, z => h z
  | r + 1, z => by
    have a := ocT_le h n r z
    have b := ocT_le h n r (stZ (n - (r + 1)) z)
    rw [ocT]
    split <;> split <;> omega
theorem odd4 : ∀ k, k < 4 → ((nI k &&& 1 = 0) ↔ k % 2 = 0) := by decide +kernel
theorem mod4 : ∀ k, k < 4 → ((nI k - nI k / 2 * 2 = 0) ↔ k % 2 = 0) := by decide +kernel
/-- what is tried, and the row of outcomes -/
def frO (M M' : Mem) : Prop := ∀ q, (q < 23 ∨ 30 < q) → q ≠ 43 → M' q = M q
theorem frO.rf {M : Mem} : frO M M := fun _ _ _ => rfl
theorem frO.tr {M M1 M2 : Mem} (a : frO M M1) (b : frO M1 M2) : frO M M2 := fun q h1 h2 => (b q h1 h2).trans (a q h1 h2)
theorem frO.fr {M M1 : Mem} (a : frm M M1 23) : frO M M1 := fun q h1 _ => a q (by omega)
theorem frO.o43 {M M1 : Mem} (a : ∀ q, q ≠ 43 → M1 q = M q) : frO M M1 := fun q _ h2 => a q h2
theorem Inv.o43 {Mx Mm Mx' : Mem} (I : Inv Mx Mm) (hx : ∀ p, p ≠ 43 → Mx' p = Mx p) : Inv Mx' Mm :=
  ⟨rows_cg I.rows (fun p h1 h2 => hx p (by omega)) (fun _ _ _ => rfl), tape_cg I.tape (by rw [hx 13 (by omega)]) (hx 14 (by omega)) rfl rfl, trce_cg I.trce (by rw [hx 40 (by omega)]) (hx 41 (by omega)) rfl rfl, hall_cg I.hall (fun p h1 h2 => hx p (by omega)) (fun _ _ => rfl), past_cg I.past (hx 31 (by omega)) (hx 32 (by omega)) rfl (fun _ _ _ => rfl), img_cg I.img (by rw [hx 0 (by omega)]) (hx 42 (by omega)) rfl (fun _ _ _ => rfl), ord_cg I.ord (hx 34 (by omega)) (hx 37 (by omega)) (hx 39 (by omega)), misc_cg I.misc (by rw [hx 0 (by omega)]) (by rw [hx 0 (by omega)]) rfl rfl rfl rfl⟩
theorem Inv.fo {Mx Mm Mx' Mm' : Mem} (I : Inv Mx Mm) (hx : frO Mx Mx') (hm : tfM Mm Mm') (h0 : Mm' 0 16 = 0) : Inv Mx' Mm' :=
  Inv.o43 (I.ft (Mx' := mset Mx' 43 (Mx 43)) (fun q hq => by
    by_cases c : q = 43
    · rw [c, mset_self]
    · rw [mset_ne _ _ c]; exact hx q (by omega) c) hm h0) (fun p hp => (mset_ne _ _ hp).symm)
theorem zT : ∀ n, n < 5 → ∀ i, i < 5 → i ≤ n → nI i - nI n / 2 = nI (i + 4 - n / 2) - 4 := by decide +kernel
section TN
variable {Mx Mm : Mem} {G : Nat → Nat} {sh : Nat}
/-- one way to be turned, tried -/
theorem oc_it (H : HX Mx 15 0 sh G) (hO : hOK G) {m z : Nat} (hm : m ≤ 20) (hz : z < 9) {Mx1 : Mem} (hx : frO Mx Mx1) : ∃ Mx2 Mx3 Mx4 r, X3_become 23 15 Mx1 = some Mx2 ∧ X3_turnBy 23 (nI z - 4) Mx2 = some Mx3 ∧ X2_goOn (nI m) Mx3 = some (23, Mx4) ∧ X3_setOf 23 Mx4 7 = some r ∧ J6_bitCount_0f7a4 r = some (nI (vT G m z)) ∧ frm Mx1 Mx4 23 := by
  have hP := hx_P H
  obtain ⟨Mx2, a1, a2, a3⟩ := cx_become (h := 23) (hx_frm (M' := Mx1) H (fun q h1 h2 => hx q (by omega) (by omega))) (by omega)
  have hlt := eZ_lt hP.1 z
  obtain ⟨Mx3, b1, b2, b3⟩ := cx_turnBy (x := nI z - 4) (d := eZ (G 0) z) (e := eZ (G 0) z) a2 hlt (Nat.mod_eq_of_lt hlt) (fm_Z _ (by omega) hP.1 _ (by have := H.2.2; omega) H.2.2 z (by omega))
  rw [tnE_L H.2.1 hlt (Nat.mod_eq_of_lt hlt)] at b2
  obtain ⟨Mx4, sh4, c1, c2, c3⟩ := cx_goOn_loop (h := 0) (a := 0) m (by omega) m 0 am_fuel Mx3 _ _ (by omega) (by omega) (by show m < 2000; omega) b2 (by rw [tnE_k _ _ (by omega)]; have := hO.2; omega)
  have o1 := cx_setOf c2 (g := 7) (by omega)
  obtain ⟨w1, w2, w3⟩ := tkN_W (a := 0) b2.2.1.1 m (by rw [tnE_k _ _ (by omega)]; have := hO.2; omega)
  rw [w2 1 (by omega), tnE_k _ _ (by omega)] at o1
  exact ⟨Mx2, Mx3, Mx4, _, a1, b1, c1, o1, (btI_bits _ hP.2.2).2, (a3.tr b3).tr c3⟩
/-- all the ways to be turned -/
theorem oc_l (H : HX Mx 15 0 sh G) (hO : hOK G) {n m : Nat} (hn : n ≤ 4) (hm : m ≤ 20) : ∀ (d i f : Nat) (Mx1 : Mem), n + 1 - i = d → i ≤ n + 1 → d < f → frO Mx Mx1 → (∀ y, y < i → Mx1 43 y = nI (vT G m (y + 4 - n / 2))) → ∃ Mx2, X2_outcomeOfTurns_14 f (nI n) (nI m) (nI i) Mx1 = X2_outcomeOfTurns_71 am_fuel (nI n - 1) Mx2 ∧ frO Mx Mx2 ∧ ∀ y, y ≤ n → Mx2 43 y = nI (vT G m (y + 4 - n / 2))
  | 0, i, 0, _, _, _, hf, _, _ => absurd hf (Nat.not_lt_zero _)
  | 0, i, f + 1, Mx1, hd, hi, _, hx, h => by
    refine ⟨Mx1, ?_, hx, fun y hy => h y (by omega)⟩
    rw [X2_outcomeOfTurns_14, if_pos (nI_lt (by omega) (by omega))]
  | d + 1, i, 0, _, _, _, hf, _, _ => absurd hf (Nat.not_lt_zero _)
  | d + 1, i, f + 1, Mx1, hd, hi, hf, hx, h => by
    obtain ⟨M2, M3, M4, r, a1, a2, a3, a4, a5, a6⟩ := oc_it H hO hm (z := i + 4 - n / 2) (by omega) hx
    rw [← zT n (by omega) i (by omega) (by omega)] at a2
    have hx4 : frO Mx (mset M4 43 (upd (M4 43) i (nI (vT G m (i + 4 - n / 2))))) := (hx.tr (frO.fr a6)).tr (frO.o43 (fun q hq => mset_ne _ _ hq))
    obtain ⟨M5, b1, b2, b3⟩ := oc_l H hO hn hm d (i + 1) f _ (by omega) (by omega) (by omega) hx4 (fun y hy => by
      rw [mset_self]
      by_cases q : y = i
      · rw [q, upd_same]
      · rw [upd_ne q, a6 43 (by omega)]; exact h y (by omega))
    refine ⟨M5, ?_, b2, b3⟩
    rw [X2_outcomeOfTurns_14, if_neg (nI_nlt (by omega) (by omega)), a1, Option.bind_some, if_neg (show ¬ (2 : Int32) = 0 by decide), a2, Option.bind_some, a3, Option.bind_some, if_pos rfl, show X3_setOf 23 M4 7 = _ from a4, Option.bind_some, a5, Option.bind_some, am_in_nI (by omega) (by omega), if_pos rfl, nI_clamp (by omega), nI_1]
    exact b1
/-- of two ways side by side one is chosen -/
theorem oc_step {v : Nat → Nat} {n k i : Nat} (hn : n ≤ 4) (hk : k < n) : ocT v n (n - k) (i + 4 - k / 2) = if k % 2 = 0 then (if ocT v n (n - (k + 1)) (i + 4 - (k + 1) / 2) < ocT v n (n - (k + 1)) (i + 1 + 4 - (k + 1) / 2) then ocT v n (n - (k + 1)) (i + 1 + 4 - (k + 1) / 2) else ocT v n (n - (k + 1)) (i + 4 - (k + 1) / 2)) else (if ocT v n (n - (k + 1)) (i + 1 + 4 - (k + 1) / 2) < ocT v n (n - (k + 1)) (i + 4 - (k + 1) / 2) then ocT v n (n - (k + 1)) (i + 1 + 4 - (k + 1) / 2) else ocT v n (n - (k + 1)) (i + 4 - (k + 1) / 2)) := by
  rw [show n - k = (n - (k + 1)) + 1 by omega, ocT, show n - (n - (k + 1) + 1) = k by omega]
  by_cases c : k % 2 = 0
  · rw [if_pos c, if_pos c, show stZ k (i + 4 - k / 2) = i + 1 + 4 - (k + 1) / 2 by unfold stZ; rw [if_pos c]; omega, show i + 4 - k / 2 = i + 4 - (k + 1) / 2 by omega]
  · rw [if_neg c, if_neg c, show stZ k (i + 4 - k / 2) = i + 4 - (k + 1) / 2 by unfold stZ; rw [if_neg c]; omega, show i + 4 - k / 2 = i + 1 + 4 - (k + 1) / 2 by omega]
    generalize ocT v n (n - (k + 1)) (i + 1 + 4 - (k + 1) / 2) = B
    generalize ocT v n (n - (k + 1)) (i + 4 - (k + 1) / 2) = A
    split <;> split <;> omega
theorem xf_in {v : Nat → Nat} (hv : ∀ z, v z ≤ 6) {n k : Nat} (hn : n ≤ 4) (hk : k < n) : ∀ (d i f : Nat) (M : Mem), k + 1 - i = d → i ≤ k + 1 → d < f → (∀ y, y < i → M 43 y = nI (ocT v n (n - k) (y + 4 - k / 2))) → (∀ y, i ≤ y → y ≤ k + 1 → M 43 y = nI (ocT v n (n - (k + 1)) (y + 4 - (k + 1) / 2))) → ∃ M', (∀ K, X2_outcomeOfTurns_91 K f (nI k) (if k % 2 = 0 then 1 else 0) (nI i) M = K (nI k + (-1)) M') ∧ (∀ y, y ≤ k → M' 43 y = nI (ocT v n (n - k) (y + 4 - k / 2))) ∧ ∀ q, q ≠ 43 → M' q = M q
  | 0, i, 0, _, _, _, hf, _, _ => absurd hf (Nat.not_lt_zero _)
  | 0, i, f + 1, M, hd, hi, _, h1, _ => by
    refine ⟨M, fun K => ?_, fun y hy => h1 y (by omega), fun _ _ => rfl⟩
    rw [X2_outcomeOfTurns_91, if_pos (nI_lt (by omega) (by omega))]
  | d + 1, i, 0, _, _, _, hf, _, _ => absurd hf (Nat.not_lt_zero _)
  | d + 1, i, f + 1, M, hd, hi, hf, h1, h2 => by
    have r0 := h2 i (by omega) (by omega)
    have r1 := h2 (i + 1) (by omega) (by omega)
    have b0 := ocT_le hv n (n - (k + 1)) (i + 4 - (k + 1) / 2)
    have b1 := ocT_le hv n (n - (k + 1)) (i + 1 + 4 - (k + 1) / 2)
    have oc := oc_step (v := v) (i := i) hn hk
    generalize hA : ocT v n (n - (k + 1)) (i + 4 - (k + 1) / 2) = A at r0 b0 oc
    generalize hB : ocT v n (n - (k + 1)) (i + 1 + 4 - (k + 1) / 2) = B at r1 b1 oc
    have step : ∃ C, ocT v n (n - k) (i + 4 - k / 2) = C ∧ ∀ K, X2_outcomeOfTurns_91 K (f + 1) (nI k) (if k % 2 = 0 then 1 else 0) (nI i) M = X2_outcomeOfTurns_91 K f (nI k) (if k % 2 = 0 then 1 else 0) (nI (i + 1)) (mset M 43 (upd (M 43) i (nI C))) := by
      refine ⟨_, oc, fun K => ?_⟩
      rw [X2_outcomeOfTurns_91, if_neg (nI_nlt (by omega) (by omega))]
      simp (disch := omega) only [nI_1, am_in_nI, nI_clamp, ↓reduceIte, am_let_eq, r0, r1, nI_ltI]
      by_cases c : k % 2 = 0
      · simp only [if_pos c, i10, ↓reduceIte]
        by_cases q : A < B
        · simp only [if_pos q]
        · simp only [if_neg q]
      · simp only [if_neg c, i00, ↓reduceIte]
        by_cases q : B < A
        · simp only [if_pos q]
        · simp only [if_neg q]
    obtain ⟨C, hC, hK⟩ := step
    obtain ⟨M', a1, a2, a3⟩ := xf_in hv hn hk d (i + 1) f (mset M 43 (upd (M 43) i (nI C))) (by omega) (by omega) (by omega) (fun y hy => by
      rw [mset_self]
      by_cases q : y = i
      · rw [q, upd_same, hC]
      · rw [upd_ne q]; exact h1 y (by omega)) (fun y hy1 hy2 => by
      rw [mset_self, upd_ne (by omega)]; exact h2 y (by omega) hy2)
    exact ⟨M', fun K => by rw [hK, a1], a2, fun q hq => by rw [a3 q hq, mset_ne _ _ hq]⟩
theorem xf_all {v : Nat → Nat} (hv : ∀ z, v z ≤ 6) {n : Nat} (hn : n ≤ 4) : ∀ (k f : Nat) (M : Mem), k ≤ n → k < f → (∀ y, y ≤ k → M 43 y = nI (ocT v n (n - k) (y + 4 - k / 2))) → ∃ M', X2_outcomeOfTurns_71 f (nI k - 1) M = some (nI (ocT v n n 4), M') ∧ ∀ q, q ≠ 43 → M' q = M q
  | 0, f + 1, M, _, _, h => by
    refine ⟨M, ?_, fun _ _ => rfl⟩
    have := h 0 (by decide)
    rw [X2_outcomeOfTurns_71, if_pos (by decide), if_pos (by decide), show (0 : Int32).toNatClampNeg = 0 by decide, this]
    rfl
  | k + 1, f + 1, M, hk, hf, h => by
    obtain ⟨M1, a1, a2, a3⟩ := xf_in hv hn (show k < n by omega) (k + 1) 0 am_fuel M (by omega) (by omega) (by show _ < 2000; omega) (fun y hy => absurd hy (Nat.not_lt_zero _)) (fun y _ hy => h y hy)
    obtain ⟨M2, b1, b2⟩ := xf_all hv hn k f M1 (by omega) (by omega) a2
    refine ⟨M2, ?_, fun q hq => by rw [b2 q hq, a3 q hq]⟩
    have a1' : X2_outcomeOfTurns_91 (X2_outcomeOfTurns_71 f) am_fuel (nI k) (if k % 2 = 0 then 1 else 0) 0 M = X2_outcomeOfTurns_71 f (nI k + (-1)) M1 := a1 _
    rw [X2_outcomeOfTurns_71, show nI (k + 1) - 1 = nI k by rw [li_1, pk_sub (by omega), Nat.add_sub_cancel], if_neg (nI_pos (by omega))]
    by_cases c : k % 2 = 0
    · rw [if_pos c] at a1'
      rw [if_pos ((odd4 k (by omega)).mpr c), a1', ← Int32.sub_eq_add_neg]
      exact b1
    · rw [if_neg c] at a1'
      rw [if_neg (fun q => c ((odd4 k (by omega)).mp q)), a1', ← Int32.sub_eq_add_neg]
      exact b1
/-- how far turned behind k of n choices x -/
def zW (n x : Nat) : Nat → Nat
  | 0 => 4
  | k + 1 => if slp (nI x) (n - 1 - k) then stZ k (zW n x k) else zW n x k
theorem zW_rng (n x : Nat) : ∀ k, 4 ≤ zW n x k + k ∧ zW n x k ≤ 4 + k
  | 0 => by rw [zW]; omega
  | k + 1 => by
    have := zW_rng n x k
    rw [zW]
    unfold stZ
    split
    · split <;> omega
    · omega
theorem zW_2 : ∀ k, k < 4 → ∀ x, x < 2 ^ k → zW (k + 1) (2 * x) (k + 1) = zW k x k ∧ zW (k + 1) (2 * x + 1) (k + 1) = stZ k (zW k x k) := by decide +kernel
theorem tn_m {n m x : Nat} (hn : n ≤ 4) (hV : gV G) : ∀ (d k f : Nat) (M : Mem), n - k = d → k ≤ n → d < f → atM M 1053 (tnE (eZ (G 0) (zW n x k)) G) → ∃ M', (∀ K, X8_byTurns_53 K f (nI n) (nI m) (nI x) (nI k) M = (Option.bind (X8_ticksOf 1053 (nI m) M') fun M4 => Option.bind (X8_goneOnes M4 1053) fun r5 => Option.bind (X8_bits r5) fun r6 => if am_in (nI x) 16 = true then K (nI n) (nI m) (nI x + 1) (mset M4 10 (upd (M4 10) (nI x).toNatClampNeg r6)) else none)) ∧ atM M' 1053 (tnE (eZ (G 0) (zW n x n)) G) ∧ tfM M M' ∧ M' 0 16 = M 0 16 ∧ M' 10 = M 10
  | 0, k, 0, _, _, _, hf, _ => absurd hf (Nat.not_lt_zero _)
  | 0, k, f + 1, M, hd, hk, _, hA => by
    have e : k = n := by omega
    subst e
    refine ⟨M, fun K => ?_, hA, tfM.rf, rfl, rfl⟩
    rw [X8_byTurns_53, if_neg (nI_nlt (Nat.le_refl _) (by omega))]
    rfl
  | d + 1, k, 0, _, _, _, hf, _ => absurd hf (Nat.not_lt_zero _)
  | d + 1, k, f + 1, M, hd, hk, hf, hA => by
    obtain ⟨p4, p12, -⟩ := hV.1.2.1
    have hlt := eZ_lt p4 (zW n x k)
    have hz := zW_rng n x k
    have e3 : nI n - 1 - nI k = nI (n - 1 - k) := by rw [li_1, pk_sub (by omega), pk_sub (by omega)]
    cases hs : slp (nI x) (n - 1 - k) with
    | false =>
      have e : zW n x (k + 1) = zW n x k := by rw [zW, hs]; rfl
      rw [← e] at hA
      obtain ⟨M', a1, a2, a3, a4, a5⟩ := tn_m (m := m) hn hV d (k + 1) f M (by omega) (by omega) (by omega) hA
      refine ⟨M', fun K => ?_, a2, a3, a4, a5⟩
      rw [X8_byTurns_53, if_pos (nI_lt (by omega) (by omega)), e3, has_slp, hs, Option.bind_some, if_pos (show bI false = 0 from rfl), nI_1]
      exact a1 K
    | true =>
      have e : zW n x (k + 1) = stZ k (zW n x k) := by rw [zW, hs]; rfl
      have key : ∀ (y : Int32) (q : Nat), q < G 0 → (∀ w, w < 20 → nI w + y + nI (G 0) = nI (w + (q + G 0 * (if q = 1 then 1 else 0)))) → addm (G 0) (eZ (G 0) (zW n x k)) q = eZ (G 0) (zW n x (k + 1)) → ∃ M1, X8_turns 1053 y M = some M1 ∧ atM M1 1053 (tnE (eZ (G 0) (zW n x (k + 1))) G) ∧ tfM M M1 ∧ M1 0 16 = M 0 16 ∧ M1 10 = M 10 := fun y q hq hy hz => by
        have hV1 := tnE_V hV hlt
        have h0 := tnE_k (eZ (G 0) (zW n x k)) G (show 0 < 33 by omega)
        have := ref_turns M 1053 hV1.1.1 (by rw [h0]; omega) (by rw [h0]; exact p12) y (q + G 0 * (if q = 1 then 1 else 0)) (by rw [h0]; exact hy) (by split <;> omega) (by omega)
        rw [atM_wr hA] at this
        have hmod : (q + G 0 * (if q = 1 then 1 else 0)) % tnE (eZ (G 0) (zW n x k)) G 0 = q := by
          rw [h0, Nat.add_mul_mod_self_left, Nat.mod_eq_of_lt hq]
        rw [tnE_L hV1 (by rw [h0]; exact hq) hmod, tnE_tn hV hlt hq, hz] at this
        exact ⟨_, this, atM_of _ _ _, tfM.wr _ _, by rw [wrM_ne _ _ _ (by omega)], wrM_ne _ _ _ (by omega)⟩
      by_cases c : k % 2 = 0
      · obtain ⟨M1, b1, b2, b3, b4, b5⟩ := key 1 1 (by omega) (fun w hw => by rw [if_pos rfl, li_1, nI_add, nI_add]; congr 1; omega) (by rw [e, stZ, if_pos c]; exact eZ_up _ (by omega) p4 _ (by omega))
        obtain ⟨M', a1, a2, a3, a4, a5⟩ := tn_m (m := m) hn hV d (k + 1) f M1 (by omega) (by omega) (by omega) b2
        refine ⟨M', fun K => ?_, a2, b3.tr a3, a4.trans b4, a5.trans b5⟩
        rw [X8_byTurns_53, if_pos (nI_lt (by omega) (by omega)), e3, has_slp, hs, Option.bind_some, if_neg (show ¬ bI true = 0 by decide), if_neg (show ¬ (2 : Int32) = 0 by decide), if_pos ((mod4 k (by omega)).mpr c), b1, Option.bind_some, nI_1]
        exact a1 K
      · obtain ⟨M1, b1, b2, b3, b4, b5⟩ := key (-1) (G 0 - 1) (by omega) (fun w hw => by
          rw [if_neg (by omega), Nat.mul_zero, Nat.add_zero]
          have h12 : ∀ P, P < 13 → 4 ≤ P → ∀ w, w < 20 → nI w + (-1) + nI P = nI (w + (P - 1)) := by decide +kernel
          exact h12 _ (by omega) p4 w hw) (by rw [e, stZ, if_neg c]; exact eZ_dn _ (by omega) p4 _ (by omega) (by omega))
        obtain ⟨M', a1, a2, a3, a4, a5⟩ := tn_m (m := m) hn hV d (k + 1) f M1 (by omega) (by omega) (by omega) b2
        refine ⟨M', fun K => ?_, a2, b3.tr a3, a4.trans b4, a5.trans b5⟩
        rw [X8_byTurns_53, if_pos (nI_lt (by omega) (by omega)), e3, has_slp, hs, Option.bind_some, if_neg (show ¬ bI true = 0 by decide), if_neg (show ¬ (2 : Int32) = 0 by decide), if_neg (fun q => c ((mod4 k (by omega)).mp q)), b1, Option.bind_some, nI_1]
        exact a1 K
/-- one level, folded -/
theorem fold_in {v : Nat → Nat} (hv : ∀ z, v z ≤ 6) {n k : Nat} (hn : n ≤ 4) (hk : k < n) : ∀ (d x f : Nat) (M : Mem), 2 ^ k - x = d → x ≤ 2 ^ k → d < f → (∀ y, y < x → M 10 y = nI (ocT v n (n - k) (zW k y k))) → (∀ y, x ≤ y → y < 2 ^ (k + 1) → M 10 y = nI (ocT v n (n - (k + 1)) (zW (k + 1) y (k + 1)))) → ∃ M', (∀ K, X8_byTurns_138 K f (nI k) (nI x) M = K (nI k + (-1)) M') ∧ (∀ y, y < 2 ^ k → M' 10 y = nI (ocT v n (n - k) (zW k y k))) ∧ ∀ q, q ≠ 10 → M' q = M q
  | 0, x, 0, _, _, _, hf, _, _ => absurd hf (Nat.not_lt_zero _)
  | 0, x, f + 1, M, hd, hx, _, h1, _ => by
    have h16 : 2 ^ k ≤ 2 ^ 3 := Nat.pow_le_pow_right (by omega) (by omega)
    have e : x = 2 ^ k := by omega
    refine ⟨M, fun K => ?_, fun y hy => h1 y (by omega), fun _ _ => rfl⟩
    rw [X8_byTurns_138, pow_N k (by omega), if_neg (nI_nlt (by omega) (by omega))]
  | d + 1, x, 0, _, _, _, hf, _, _ => absurd hf (Nat.not_lt_zero _)
  | d + 1, x, f + 1, M, hd, hx, hf, h1, h2 => by
    have h16 : 2 ^ k ≤ 2 ^ 3 := Nat.pow_le_pow_right (by omega) (by omega)
    have hp : 2 ^ (k + 1) = 2 * 2 ^ k := by rw [Nat.pow_succ, Nat.mul_comm]
    have hlt : x < 2 ^ k := by omega
    obtain ⟨z0, z1⟩ := zW_2 k (by omega) x hlt
    have r0 := h2 (2 * x) (by omega) (by omega)
    have r1 := h2 (2 * x + 1) (by omega) (by omega)
    rw [z0] at r0
    rw [z1] at r1
    have b0 := ocT_le hv n (n - (k + 1)) (zW k x k)
    have b1 := ocT_le hv n (n - (k + 1)) (stZ k (zW k x k))
    have oc : ocT v n (n - k) (zW k x k) = if k % 2 = 0 then (if ocT v n (n - (k + 1)) (zW k x k) < ocT v n (n - (k + 1)) (stZ k (zW k x k)) then ocT v n (n - (k + 1)) (stZ k (zW k x k)) else ocT v n (n - (k + 1)) (zW k x k)) else (if ocT v n (n - (k + 1)) (stZ k (zW k x k)) < ocT v n (n - (k + 1)) (zW k x k) then ocT v n (n - (k + 1)) (stZ k (zW k x k)) else ocT v n (n - (k + 1)) (zW k x k)) := by
      rw [show n - k = (n - (k + 1)) + 1 by omega, ocT, show n - (n - (k + 1) + 1) = k by omega]
    generalize hA : ocT v n (n - (k + 1)) (zW k x k) = A at r0 b0 oc
    generalize hB : ocT v n (n - (k + 1)) (stZ k (zW k x k)) = B at r1 b1 oc
    have step : ∃ C, ocT v n (n - k) (zW k x k) = C ∧ ∀ K, X8_byTurns_138 K (f + 1) (nI k) (nI x) M = X8_byTurns_138 K f (nI k) (nI (x + 1)) (mset M 10 (upd (M 10) x (nI C))) := by
      refine ⟨_, oc, fun K => ?_⟩
      rw [X8_byTurns_138, pow_N k (by omega), if_pos (nI_lt hlt (by omega))]
      unfold X8_byTurns_195
      simp (disch := omega) only [li_2, li_1, nI_mul, nI_add, am_in_nI, nI_clamp, ↓reduceIte, am_let_eq, r0, r1, nI_ltI]
      have h2n : ¬ nI 2 = 0 := by decide
      have m4 : (nI k - nI k / nI 2 * nI 2 = 0) ↔ k % 2 = 0 := mod4 k (by omega)
      simp only [h2n, ↓reduceIte, m4]
      by_cases c1 : A < B
      · rw [if_pos c1]
        by_cases c2 : k % 2 = 0
        · simp only [if_pos c2, if_pos c1, ↓reduceIte]
        · simp only [if_neg c2, if_neg (show ¬ B < A by omega)]
          rw [if_neg (by decide)]
      · rw [if_neg c1]
        by_cases c2 : k % 2 = 0
        · simp only [if_pos c2, if_neg c1]
          rw [if_neg (by decide)]
        · simp only [if_neg c2, ↓reduceIte]
          by_cases c3 : B < A
          · rw [if_pos c3]
          · rw [if_neg c3, show A = B by omega]
    obtain ⟨C, hC, hK⟩ := step
    obtain ⟨M', a1, a2, a3⟩ := fold_in hv hn hk d (x + 1) f (mset M 10 (upd (M 10) x (nI C))) (by omega) (by omega) (by omega) (fun y hy => by
      rw [mset_self]
      by_cases q : y = x
      · rw [q, upd_same, hC]
      · rw [upd_ne q]; exact h1 y (by omega)) (fun y hy1 hy2 => by
      rw [mset_self, upd_ne (by omega)]; exact h2 y (by omega) hy2)
    exact ⟨M', fun K => by rw [hK, a1], a2, fun q hq => by rw [a3 q hq, mset_ne _ _ hq]⟩
theorem fold_all {v : Nat → Nat} (hv : ∀ z, v z ≤ 6) {n : Nat} (hn : n ≤ 4) : ∀ (k f : Nat) (M : Mem), k ≤ n → k < f → (∀ y, y < 2 ^ k → M 10 y = nI (ocT v n (n - k) (zW k y k))) → ∃ M', X8_byTurns_131 f (nI k - 1) M = some (nI (ocT v n n 4), M') ∧ ∀ q, q ≠ 10 → M' q = M q
  | 0, f + 1, M, _, _, h => by
    refine ⟨M, ?_, fun _ _ => rfl⟩
    have := h 0 (by decide)
    rw [X8_byTurns_131, if_pos (by decide), if_pos (by decide), show (0 : Int32).toNatClampNeg = 0 by decide, this]
    rfl
  | k + 1, f + 1, M, hk, hf, h => by
    obtain ⟨M1, a1, a2, a3⟩ := fold_in hv hn (show k < n by omega) (2 ^ k) 0 am_fuel M (Nat.sub_zero _) (Nat.zero_le _) (by
      have h16 : 2 ^ k ≤ 2 ^ 3 := Nat.pow_le_pow_right (by omega) (by omega)
      show _ < 2000; omega) (fun y hy => absurd hy (Nat.not_lt_zero _)) (fun y _ hy => h y hy)
    obtain ⟨M2, b1, b2⟩ := fold_all hv hn k f M1 (by omega) (by omega) a2
    refine ⟨M2, ?_, fun q hq => by rw [b2 q hq, a3 q hq]⟩
    rw [X8_byTurns_131, li_1, pk_sub (by omega), Nat.add_sub_cancel, if_neg (nI_pos (by omega)), show X8_byTurns_138 (X8_byTurns_131 f) am_fuel (nI k) 0 M = _ from a1 _, ← Int32.sub_eq_add_neg]
    exact b1
theorem leaf_loop (I : Inv Mx Mm) (H : HX Mx 15 0 sh G) (hA : atM Mm 0 G) (hO : hOK G) {n m : Nat} (hn : n ≤ 4) (hm : m ≤ 20) : ∀ (d x f : Nat) (Mm1 : Mem), 2 ^ n - x = d → x ≤ 2 ^ n → d < f → tfM Mm Mm1 → Mm1 0 16 = 0 → (∀ y, y < x → Mm1 10 y = nI (vT G m (zW n y n))) → ∃ Mm2, X8_byTurns_39 f (nI n) (nI m) (nI x) Mm1 = some (nI (ocT (vT G m) n n 4), Mm2) ∧ tfM Mm Mm2 ∧ Mm2 0 16 = 0
  | 0, x, 0, _, _, _, hf, _, _, _ => absurd hf (Nat.not_lt_zero _)
  | 0, x, f + 1, Mm1, hd, hx, _, t, h0, h => by
    have hP := hx_P H
    have h16 : 2 ^ n ≤ 2 ^ 4 := Nat.pow_le_pow_right (by omega) hn
    have e : x = 2 ^ n := by omega
    rw [X8_byTurns_39, pow_N n (by omega), if_neg (nI_nlt (by omega) (by omega))]
    obtain ⟨M2, a1, a2⟩ := fold_all (v := vT G m) (fun z => vT_le hP.2.2 m z) hn n am_fuel Mm1 (Nat.le_refl _) (by show n < 2000; omega) (fun y hy => by rw [Nat.sub_self]; exact h y (by omega))
    exact ⟨M2, a1, t.tr ⟨fun j hj => by rw [a2 0 (by omega)], fun j hj => by rw [a2 1 (by omega)], fun q h1 h2 => a2 q (by omega)⟩, by rw [a2 0 (by omega)]; exact h0⟩
  | d + 1, x, 0, _, _, _, hf, _, _, _ => absurd hf (Nat.not_lt_zero _)
  | d + 1, x, f + 1, Mm1, hd, hx, hf, t, h0, h => by
    have hP := hx_P H
    have h2 := hO.2
    have h16 : 2 ^ n ≤ 2 ^ 4 := Nat.pow_le_pow_right (by omega) hn
    have hA1 : atM Mm1 0 G := fun k hk => by rw [t.2.1 _ (by omega)]; exact hA k hk
    have y1 := ref_lay hA1
    have hlt := eZ_lt hP.1 (zW n x n)
    obtain ⟨M2, a1, a2, a3, a4, a5⟩ := tn_m (G := G) (n := n) (m := m) (x := x) hn H.2.1 n 0 am_fuel (wrM Mm1 1053 G) (by omega) (by omega) (by show n < 2000; omega) (by rw [zW, eZ_4 _ (by omega) hP.1, tnE_0 H.2.1]; exact atM_of _ _ _)
    have t2 := (t.tr (tfM.wr Mm1 G)).tr a3
    have hV2 := tnE_V H.2.1 hlt
    have e2 : tnE (eZ (G 0) (zW n x n)) G 2 = G 2 := tnE_k _ _ (by omega)
    have y2 := ref_tk (n := m) a2 (by omega) (fun j hj => by rw [t2.2.2 8 (by omega) (by omega)]; exact I.misc.2.2.1 j hj) (by omega) hV2.1 (by rw [e2]; omega)
    rw [a4, wrM_ne _ _ _ (by omega), h0] at y2
    have hA4 := st_A M2 1053 (ticksS 0 (fun j => j) m (tnE (eZ (G 0) (zW n x n)) G, M2 0 17, M2 0 18))
    rw [tkN_S] at hA4
    have t4 := t2.tr (tfM.st M2 (ticksS 0 (fun j => j) m (tnE (eZ (G 0) (zW n x n)) G, M2 0 17, M2 0 18)))
    have f10 : stM M2 1053 (ticksS 0 (fun j => j) m (tnE (eZ (G 0) (zW n x n)) G, M2 0 17, M2 0 18)) 10 = Mm1 10 := by rw [st_ne _ _ _ (by omega) (by omega), a5, wrM_ne _ _ _ (by omega)]
    have f16 : stM M2 1053 (ticksS 0 (fun j => j) m (tnE (eZ (G 0) (zW n x n)) G, M2 0 17, M2 0 18)) 0 16 = 0 := by rw [st_0 _ _ _ (by omega), a4, wrM_ne _ _ _ (by omega)]; exact h0
    generalize stM M2 1053 (ticksS 0 (fun j => j) m (tnE (eZ (G 0) (zW n x n)) G, M2 0 17, M2 0 18)) = M4 at y2 hA4 t4 f10 f16
    obtain ⟨w1, w2, w3⟩ := tkN_W (a := 0) hV2.1 m (by rw [e2]; omega)
    have y3 := ref_goneOnes M4 1053 w1.1 (by omega)
    rw [atM_wr hA4, w2 1 (by omega), tnE_k _ _ (by omega)] at y3
    rw [X8_byTurns_39, pow_N n (by omega), if_pos (nI_lt (by omega) (by omega)), y1, Option.bind_some, show X8_byTurns_53 (X8_byTurns_39 f) am_fuel (nI n) (nI m) (nI x) 0 (wrM Mm1 1053 G) = _ from a1 _, show X8_ticksOf 1053 (nI m) M2 = _ from y2, Option.bind_some, show X8_goneOnes M4 1053 = _ from y3, Option.bind_some, (btI_bits _ hP.2.2).1, Option.bind_some, am_in_nI (by omega) (by omega), if_pos rfl, nI_clamp (by omega), nI_1]
    exact leaf_loop I H hA hO hn hm d (x + 1) f _ (by omega) (by omega) (by omega) (t4.tr ⟨fun j hj => by rw [mset_ne _ _ (by omega)], fun j hj => by rw [mset_ne _ _ (by omega)], fun q h1 h2 => mset_ne _ _ (by omega)⟩) (by rw [mset_ne _ _ (by omega)]; exact f16) (fun y hy => by
      rw [mset_self]
      by_cases q : y = x
      · rw [q, upd_same]; rfl
      · rw [upd_ne q, f10]; exact h y (by omega))
end TN
theorem ok_byTurns_Inv : ok_byTurns Inv := fun Mx Mm y z I => by
  unfold X7_byTurns X8_byTurns
  rcases hall_dec I with ⟨c, d⟩ | ⟨G, sh, H, hA, hO, c, d⟩
  · rw [c, d]; exact ⟨_, _, _, rfl, rfl, I⟩
  have hP := hx_P H
  rcases rng y 0 4 (by omega) (by omega) with ⟨q, e⟩ | ⟨n, n1, n2, rfl, e⟩
  · simp only [c, d, e 0 4 (by decide) (by decide), Option.bind_some, i10, i00, ↓reduceIte]
    refine ⟨_, _, _, ?_, rfl, I⟩
    rcases q with q | q
    · rw [if_pos (show y < 0 from q)]
    · rw [if_pos (show (4 : Int32) < y from q), ite_self]
  simp (disch := omega) only [c, d, e 0 4 (by decide) (by decide), Option.bind_some, i10, i00, ↓reduceIte, nI_pos, show ¬ (4 : Int32) < nI n from nI_nlt (a := 4) (by omega) (by omega)]
  rcases rng z 1 20 (by omega) (by omega) with ⟨q, e⟩ | ⟨m, m1, m2, rfl, e⟩
  · simp only [e 1 20 (by decide) (by decide), Option.bind_some, i00, ↓reduceIte]
    refine ⟨_, _, _, ?_, rfl, I⟩
    rcases q with q | q
    · rw [if_pos (show z < 1 from q)]
    · rw [if_pos (show (20 : Int32) < z from q), ite_self]
  simp only [e 1 20 (by decide) (by decide), Option.bind_some, i10, ↓reduceIte, show ¬ nI m < (1 : Int32) from nI_nlt (b := 1) m1 (by omega), show ¬ (20 : Int32) < nI m from nI_nlt (a := 20) (by omega) (by omega)]
  obtain ⟨Mx1, a1, a2, a3⟩ := oc_l H hO n2 m2 (n + 1) 0 am_fuel Mx (by omega) (by omega) (by show _ < 2000; omega) frO.rf (fun y hy => absurd hy (Nat.not_lt_zero _))
  obtain ⟨Mx2, c1, c2⟩ := xf_all (v := vT G m) (fun z => vT_le hP.2.2 m z) n2 n am_fuel Mx1 (Nat.le_refl _) (by show n < 2000; omega) (fun y hy => by rw [Nat.sub_self]; exact a3 y hy)
  have x1 : X2_outcomeOfTurns (nI n) (nI m) Mx = some (nI (ocT (vT G m) n n 4), Mx2) := by
    unfold X2_outcomeOfTurns
    rw [if_neg (nI_pos (by omega)), if_neg (show ¬ (4 : Int32) < nI n from nI_nlt (a := 4) (by omega) (by omega))]
    exact a1.trans c1
  obtain ⟨Mm2, b1, b2, b3⟩ := leaf_loop I H hA hO n2 m2 (2 ^ n) 0 am_fuel Mm (Nat.sub_zero _) (Nat.zero_le _) (by
    have h16 : 2 ^ n ≤ 2 ^ 4 := Nat.pow_le_pow_right (by omega) n2
    show _ < 2000; omega) tfM.rf I.misc.2.2.2 (fun y hy => absurd hy (Nat.not_lt_zero _))
  rw [x1]
  exact ⟨_, _, _, rfl, b1, I.fo (a2.tr (frO.o43 c2)) b2 b3⟩
