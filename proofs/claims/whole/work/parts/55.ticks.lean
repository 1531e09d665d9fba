/-! PURE: ticks; undone; images -/
theorem look_1 {a : Int32} {t : Nat} {S S' : tS} (h : S.1 = S'.1) : (lookS a t S).1 = (lookS a t S').1 := by
  unfold lookS
  rw [h]
  split
  · split
    · exact h
    · split
      · exact h
      · simp only []
        split <;> split <;> rfl
  · exact h
theorem looks_1 {a : Int32} {S S' : tS} (h : S.1 = S'.1) : ∀ k, (looksS a k S).1 = (looksS a k S').1
  | 0 => h
  | k + 1 => look_1 (looks_1 h k)
theorem tick_1 {a : Int32} {rk : Nat → Nat} {S S' : tS} (h : S.1 = S'.1) : (tickS a rk S).1 = (tickS a rk S').1 := by
  unfold tickS
  simp only []
  rw [h]
  have e := looks_1 (a := a) (S := (fallG rk (turnL (1 + S'.1 0) (S'.1 1) S'.1), S.2.1, S.2.2)) (S' := (fallG rk (turnL (1 + S'.1 0) (S'.1 1) S'.1), S'.2.1, S'.2.2)) rfl (S'.1 1)
  rw [e]
theorem ticks_1 {a : Int32} {rk : Nat → Nat} : ∀ (n : Nat) {S S' : tS}, S.1 = S'.1 → (ticksS a rk n S).1 = (ticksS a rk n S').1
  | 0, _, _, h => h
  | n + 1, _, _, h => ticks_1 n (tick_1 h)
theorem ticks_snoc {a : Int32} {rk : Nat → Nat} : ∀ (n : Nat) (S : tS), ticksS a rk (n + 1) S = tickS a rk (ticksS a rk n S)
  | 0, _ => rfl
  | n + 1, S => ticks_snoc n (tickS a rk S)
/-- a tick, n ticks, of a hall -/
def tk1 (a : Int32) (G : Nat → Nat) : Nat → Nat := (tickS a (fun j => j) (G, 0, 0)).1
def tkN (a : Int32) : Nat → (Nat → Nat) → Nat → Nat
  | 0, G => G
  | n + 1, G => tk1 a (tkN a n G)
theorem tkN_S (a : Int32) (w v : Int32) (G : Nat → Nat) : ∀ n, (ticksS a (fun j => j) n (G, w, v)).1 = tkN a n G
  | 0 => rfl
  | n + 1 => by rw [ticks_snoc, tkN, tick_1 (S' := (tkN a n G, 0, 0)) (tkN_S a w v G n)]; rfl
theorem tk1_W {a : Int32} {G : Nat → Nat} (h : gW G) (h2 : G 2 < 1900) : gW (tk1 a G) ∧ (∀ k, (k < 15 ∧ k ≠ 2 ∨ (27 ≤ k ∧ k < 33)) → tk1 a G k = G k) ∧ tk1 a G 2 = G 2 + 1 := tick_W (S := (G, 0, 0)) h (fun j hj => hj) h2
theorem tkN_W {a : Int32} {G : Nat → Nat} (h : gW G) : ∀ n, G 2 + n < 1900 → gW (tkN a n G) ∧ (∀ k, (k < 15 ∧ k ≠ 2 ∨ (27 ≤ k ∧ k < 33)) → tkN a n G k = G k) ∧ tkN a n G 2 = G 2 + n
  | 0, _ => ⟨h, fun _ _ => rfl, rfl⟩
  | n + 1, hn => by
    obtain ⟨a1, a2, a3⟩ := tkN_W (a := a) h n (by omega)
    obtain ⟨b1, b2, b3⟩ := tk1_W (a := a) a1 (by omega)
    exact ⟨b1, fun k hk => by rw [tkN, b2 k hk, a2 k hk], by rw [tkN, b3, a3]; omega⟩
theorem cnt_id (M : Mem) : cntM M (M 0 17) (M 0 18) = M := by
  unfold cntM
  rw [show upd (upd (M 0) 17 (M 0 17)) 18 (M 0 18) = M 0 from funext (fun j => by
    unfold upd
    split
    · next q => rw [q]
    · split
      · next q => rw [q]
      · rfl), mset_id]
theorem st_at {M : Mem} {b : Nat} {G : Nat → Nat} (h : atM M b G) : stM M b (G, M 0 17, M 0 18) = M := by
  unfold stM
  rw [cnt_id, atM_wr h]
def rkId (M : Mem) : Prop := ∀ j, j < 6 → M 8 j = nI j
theorem rkId.m {M : Mem} (h : rkId M) : rkM M (fun j => j) := ⟨h, fun _ hj => hj⟩
theorem ref_tk {M : Mem} {b : Nat} {G : Nat → Nat} (h : atM M b G) (hb : b + 39 ≤ 1092) (hr : rkId M) {n : Nat} (hn : n < 100) (hW : gW G) (h2 : G 2 < 1500) : X8_ticksOf (nI b) (nI n) M = some (stM M b (ticksS (M 0 16) (fun j => j) n (G, M 0 17, M 0 18))) := by
  have := ref_ticks M b hb hr.m n hn (S := (G, M 0 17, M 0 18)) hW h2
  rwa [st_at h] at this
theorem st_ne (M : Mem) (b : Nat) (S : tS) {p : Nat} (h0 : p ≠ 0) (h1 : p ≠ 1) : stM M b S p = M p := by
  unfold stM
  rw [wrM_ne _ _ _ h1, cntM_ne _ _ _ h0]
theorem st_0 (M : Mem) (b : Nat) (S : tS) {j : Nat} (h : j ≠ 17 ∧ j ≠ 18) : stM M b S 0 j = M 0 j := by
  unfold stM
  rw [wrM_ne _ _ _ (by omega), cntM_f _ _ _ h]
theorem st_1 (M : Mem) (b : Nat) (S : tS) {j : Nat} (h : j < b ∨ b + 39 ≤ j) : stM M b S 1 j = M 1 j := by
  unfold stM
  rw [wrM_out _ _ _ h, cntM_ne _ _ _ (by omega)]
theorem st_A (M : Mem) (b : Nat) (S : tS) : atM (stM M b S) b S.1 := atM_of _ _ _
theorem cx_tk {M : Mem} {h : Nat} {a : Int32} {sh : Nat} {G : Nat → Nat} (H : HX M h a sh G) (h2 : G 2 < 1900) : ∃ M' sh', X3_tickOnce h M = some M' ∧ HX M' h a sh' (tk1 a G) ∧ frm M M' h := by
  obtain ⟨M', m1, m2, m3⟩ := cx_tickOnce (S := (G, 0, 0)) H h2
  exact ⟨M', _, m1, m2, m3⟩
theorem ticks_loop (n : Nat) (hn : n ≤ 24) : ∀ (d k f : Nat) (Mx Mm : Mem) (sh : Nat) (G : Nat → Nat), n - k = d → k ≤ n → d < f → Inv Mx Mm → HX Mx 15 0 sh G → atM Mm 0 G → 1 ≤ G 1 → G 2 + d ≤ 999 → ∃ r Mx' Mm', X7_ticks_44 f (nI n) (nI k) Mx = some (r, Mx') ∧ X8_ticks_44 f (nI n) (nI k) Mm = some (r, Mm') ∧ Inv Mx' Mm'
  | 0, k, 0, _, _, _, _, _, _, hf, _, _, _, _, _ => absurd hf (Nat.not_lt_zero _)
  | 0, k, f + 1, Mx, Mm, sh, G, hd, hk, _, I, H, hA, _, _ => by
    rw [X7_ticks_44, X8_ticks_44, if_neg (nI_nlt (by omega) (by omega)), if_neg (nI_nlt (by omega) (by omega)), show X3_setOf 15 Mx 7 = _ from cx_setOf H (g := 7) (by omega), a0_gone hA H.2.1.1.1]
    exact ⟨_, _, _, rfl, rfl, I⟩
  | d + 1, k, 0, _, _, _, _, _, _, hf, _, _, _, _, _ => absurd hf (Nat.not_lt_zero _)
  | d + 1, k, f + 1, Mx, Mm, sh, G, hd, hk, hf, I, H, hA, h1, h2 => by
    obtain ⟨Mx1, Mm1, k1, k2, k3, k4, k5, k6, k7⟩ := keep_both I H hA ⟨h1, by omega⟩
    obtain ⟨Mx2, sh2, a1, a2, a3⟩ := cx_tk k4 (by omega)
    have m4 := k3.misc
    have b1 := ref_tk (n := 1) k5 (by omega) m4.2.2.1 (by omega) H.2.1.1 (by omega)
    rw [m4.2.2.2] at b1
    have e1 : (ticksS 0 (fun j => j) 1 (G, Mm1 0 17, Mm1 0 18)).1 = tk1 0 G := tick_1 rfl
    obtain ⟨w1, w2, w3⟩ := tk1_W (a := 0) H.2.1.1 (show G 2 < 1900 by omega)
    rw [X7_ticks_44, X8_ticks_44, if_pos (nI_lt (by omega) (by omega)), if_pos (nI_lt (by omega) (by omega)), k1, k2, Option.bind_some, Option.bind_some, a1, show X8_ticksOf 0 1 Mm1 = _ from b1, Option.bind_some, Option.bind_some, nI_1]
    have hA2 := st_A Mm1 0 (ticksS 0 (fun j => j) 1 (G, Mm1 0 17, Mm1 0 18))
    rw [e1] at hA2
    refine ticks_loop n hn d (k + 1) f Mx2 _ sh2 (tk1 0 G) (by omega) (by omega) (by omega) (k3.nw (sh := sh2) (G := tk1 0 G) (fun p hp => a3 p (by omega)) (fun j hj => st_0 _ _ _ (by omega)) (fun j q1 q2 => st_1 _ _ _ (by omega)) (fun p q1 q2 => st_ne _ _ _ (by omega) (by omega)) a2 hA2 ⟨by rw [w2 1 (by omega)]; exact h1, by rw [w3]; omega⟩) a2 hA2 (by rw [w2 1 (by omega)]; exact h1) (by rw [w3]; omega)
theorem ok_ticks_Inv : ok_ticks Inv := fun Mx Mm x I => by
  unfold X7_ticks X8_ticks
  rcases hall_dec I with ⟨c, d⟩ | ⟨G, sh, H, hA, hO, c, d⟩
  · rw [c, d]; exact ⟨_, _, _, rfl, rfl, I⟩
  have hP := hx_P H
  simp only [c, d, Option.bind_some, i10, i00, ↓reduceIte]
  rcases rng x 1 24 (by omega) (by omega) with ⟨q, e⟩ | ⟨n, n1, n2, rfl, e⟩
  · simp only [e 1 24 (by decide) (by decide), Option.bind_some, i00, ↓reduceIte]
    refine ⟨_, _, _, ?_, rfl, I⟩
    by_cases c : x < 1
    · rw [if_pos c]
    · rw [if_neg c, if_pos ?_]
      rcases q with q | q
      · exact absurd q c
      · exact q
  · have h2 := hO.2
    simp only [e 1 24 (by decide) (by decide), Option.bind_some, i10, ↓reduceIte, show ¬ nI n < (1 : Int32) from nI_nlt (b := 1) n1 (by omega), show ¬ (24 : Int32) < nI n from nI_nlt (a := 24) n2 (by omega), show am_in (2 : Int32) 1092 = true by decide, show (2 : Int32).toNatClampNeg = 2 by decide, at_2 hA, show Mx 15 2 = _ from H.1.1.2.2.1, nI_add]
    by_cases q : (999 : Int32) < nI (G 2 + n)
    · rw [if_pos q, if_pos q]; exact ⟨_, _, _, rfl, rfl, I⟩
    · rw [if_neg q, if_neg q]
      rw [li_999, nI_ltI (by omega) (by omega)] at q
      exact ticks_loop n n2 n 0 am_fuel Mx Mm sh G (by omega) (by omega) (by show n < 2000; omega) I H hA hO.1 (by omega)
theorem ok_undo_Inv : ok_undo Inv := fun Mx Mm I => by
  unfold X7_undo X8_undo X0_undoIn
  obtain ⟨u, nx, hu, hn, e1, e2, e3, hp⟩ := I.past
  have e15 : Mx 15 3 = 0 := by
    rcases I.hall with h | ⟨G, sh, H, -, -⟩
    · exact h.2.2.2.1
    · exact H.1.1.2.2.2.1
  rw [e2, e3]
  by_cases c : u = 0
  · subst c
    exact ⟨_, _, _, rfl, rfl, I⟩
  rw [if_neg (nI_ne0 (by omega) (by omega)), if_neg (nI_ne0 (by omega) (by omega)), li_1, pk_sub (by omega), ← li_1]
  simp only [am_let_eq, mset_self]
  have h1 : ∀ v : Int32, upd (Mx 31) 2 v 1 = nI nx := fun v => by rw [upd_ne (by omega)]; exact e1
  have h2 : ∀ v : Int32, upd (Mm 0) 1 v 1 = v := fun v => upd_same _ _ _
  simp only [h1, h2, mset_mset, upd_same]
  obtain ⟨G, sh, g1, g2, g3⟩ := hp (u - 1) (by omega)
  have hP := g1.2.2.1.1
  -- the class
  obtain ⟨Mx', x1, x2, x3⟩ := cx_loadFrom (M := mset Mx 31 (upd (upd (Mx 31) 2 (nI (u - 1))) 1 (nI ((nx + 23) % 24)))) (h := 15) (p := 32) (n := 960) (o := 40 * ((nx + 23) % 24)) (sh := sh) (G := G) (by omega) (by omega) (by omega) (by rw [mset_ne _ _ (by omega), show (nx + 23) % 24 = (nx + 24 - u + (u - 1)) % 24 by omega]; exact g1)
  rw [mset_ne _ _ (by omega), e15] at x2
  have f31 : Mx' 31 = upd (upd (Mx 31) 2 (nI (u - 1))) 1 (nI ((nx + 23) % 24)) := by rw [x3 31 (by omega), mset_self]
  have fx : ∀ p, p < 15 ∨ 22 < p → p ≠ 31 → Mx' p = Mx p := fun p h1 h2 => by rw [x3 p (by omega), mset_ne _ _ h2]
  have k1 : (if 0 < nI nx then Option.bind (X3_loadFrom 15 32 960 ((nI nx - 1) * 40) (mset Mx 31 (upd (upd (Mx 31) 2 (nI (u - 1))) 1 (nI nx - 1)))) fun M3 => some ((1 : Int32), M3) else Option.bind (X3_loadFrom 15 32 960 (23 * 40) (mset Mx 31 (upd (upd (Mx 31) 2 (nI (u - 1))) 1 23))) fun M5 => some ((1 : Int32), M5)) = some (1, Mx') := by
    by_cases c0 : nx = 0
    · subst c0
      rw [if_neg (by decide)]
      rw [show (23 : Int32) * 40 = nI (40 * ((0 + 23) % 24)) by decide, show (23 : Int32) = nI ((0 + 23) % 24) by decide, x1]
      rfl
    · rw [if_pos (show (0 : Int32) < nI nx from nI_lt (a := 0) (by omega) (by omega)), li_1, pk_sub (by omega), ← li_1, li_40, nI_mul, show nx - 1 = (nx + 23) % 24 by omega, Nat.mul_comm, x1]
      rfl
  -- the reference
  have y1 := ref_copyHall (M := mset Mm 0 (upd (Mm 0) 1 (nI (u - 1)))) (a := 39 + 39 * (u - 1)) (b := 0) (G := G) (fun k hk => by rw [mset_ne _ _ (by omega)]; exact g2 k hk) (by omega) (by omega) (by omega)
  have y2 : (39 : Int32) + 39 * nI (u - 1) = nI (39 + 39 * (u - 1)) := by rw [li_39, nI_mul, nI_add]
  refine ⟨nI (u - 1), Mx', wrM (mset Mm 0 (upd (Mm 0) 1 (nI (u - 1)))) 0 G, ?_, ?_, ?_⟩
  · have := congrArg (fun o => Option.bind o fun u1 => if u1.1 = 0 then some ((-1000002 : Int32), u1.2) else Option.bind (X0_kept u1.2) fun r2 => some (r2, u1.2)) k1
    refine this.trans ?_
    simp only [Option.bind_some, i10, ↓reduceIte, X0_kept, f31]
    rw [upd_ne (by omega), upd_same]
  · rw [y2, show (0 : Int32) = nI 0 from rfl, y1, Option.bind_some, wrM_ne _ _ _ (by omega), mset_self, upd_same]
  · have f0 : ∀ j, j ≠ 1 → wrM (mset Mm 0 (upd (Mm 0) 1 (nI (u - 1)))) 0 G 0 j = Mm 0 j := fun j hj => by rw [wrM_ne _ _ _ (by omega), mset_self, upd_ne hj]
    have f1 : ∀ j, 39 ≤ j → wrM (mset Mm 0 (upd (Mm 0) 1 (nI (u - 1)))) 0 G 1 j = Mm 1 j := fun j hj => by rw [wrM_out _ _ _ (by omega), mset_ne _ _ (by omega)]
    have f2 : ∀ p, p ≠ 0 → p ≠ 1 → wrM (mset Mm 0 (upd (Mm 0) 1 (nI (u - 1)))) 0 G p = Mm p := fun p h0 h1 => by rw [wrM_ne _ _ _ h1, mset_ne _ _ h0]
    refine ⟨rows_cg I.rows (fun p h1 h2 => fx p (by omega) (by omega)) (fun p h1 h2 => f2 p (by omega) (by omega)), tape_cg I.tape (by rw [fx 13 (by omega) (by omega)]) (fx 14 (by omega) (by omega)) (f0 7 (by omega)) (f2 6 (by omega) (by omega)), trce_cg I.trce (by rw [fx 40 (by omega) (by omega)]) (fx 41 (by omega) (by omega)) (f0 11 (by omega)) (f2 7 (by omega) (by omega)), Or.inr ⟨G, sh, x2, atM_of _ _ _, g3⟩, ⟨u - 1, (nx + 23) % 24, by omega, by omega, by rw [f31, upd_same], by rw [f31, upd_ne (by omega), upd_same], by rw [wrM_ne _ _ _ (by omega), mset_self, upd_same], fun j hj => ?_⟩, img_cg I.img (by rw [fx 0 (by omega) (by omega)]) (fx 42 (by omega) (by omega)) (f2 2 (by omega) (by omega)) (fun j h1 h2 => f1 j (by omega)), ord_cg I.ord (fx 34 (by omega) (by omega)) (fx 37 (by omega) (by omega)) (fx 39 (by omega) (by omega)), misc_cg I.misc (by rw [fx 0 (by omega) (by omega)]) (by rw [fx 0 (by omega) (by omega)]) (f0 8 (by omega)) (f0 9 (by omega)) (f2 8 (by omega) (by omega)) (f0 16 (by omega))⟩
    obtain ⟨G', sh', q1, q2, q3⟩ := hp j (by omega)
    refine ⟨G', sh', ?_, fun k hk => by rw [f1 _ (by omega)]; exact q2 k hk, q3⟩
    rw [fx 32 (by omega) (by omega), show ((nx + 23) % 24 + 24 - (u - 1) + j) % 24 = (nx + 24 - u + j) % 24 by omega]
    exact q1
theorem img_bit : ∀ a, a < 2 → ∀ b, b < 2 → ∀ k, k < 2 → (nI (a + 2 * b) >>> (nI k &&& 31)) &&& 1 = nI (if k = 0 then a else b) := by decide +kernel
theorem img_or : ∀ a, a < 2 → ∀ b, b < 2 → ∀ k, k < 2 → nI (a + 2 * b) ||| ((1 : Int32) <<< (nI k &&& 31)) = nI ((if k = 0 then 1 else a) + 2 * (if k = 1 then 1 else b)) := by decide +kernel
theorem ok_image_Inv : ok_image Inv := fun Mx Mm x I => by
  unfold X7_image X8_image
  rcases choice_dec x 2 (by omega) with ⟨q, e⟩ | ⟨k, hk, rfl, q, e⟩
  · rw [show X7_isChoice x 2 = some 0 from q, e 0 1 (by decide) (by decide)]; exact ⟨_, _, _, rfl, rfl, I⟩
  rcases hall_dec I with ⟨c, d⟩ | ⟨G, sh, H, hA, hO, c, d⟩
  · simp only [show X7_isChoice (nI k) 2 = some 1 from q, e 0 1 (by decide) (by decide), c, d, Option.bind_some, i10, i00, ↓reduceIte]; exact ⟨_, _, _, rfl, rfl, I⟩
  have hP := hx_P H
  obtain ⟨m, m1, m2, m3⟩ := I.img
  have y1 := ref_copyHall hA (b := 975 + 39 * k) (by omega) (by omega) (by omega)
  simp (disch := omega) only [show X7_isChoice (nI k) 2 = some 1 from q, e 0 1 (by decide) (by decide), c, d, Option.bind_some, i10, i00, ↓reduceIte, li_40, li_39, li_975, nI_mul, nI_add, show X8_copyHall 0 (nI (975 + 39 * k)) Mm = _ from y1, am_in_nI, nI_clamp, cx_saveTo, am_let_eq, mset_ne, m2]
  rw [img_or _ (by have := m1 0; omega) _ (by have := m1 1; omega) k hk]
  have f0 : ∀ p, p ≠ 1 → p ≠ 2 → mset (wrM Mm (975 + 39 * k) G) 2 (upd (Mm 2) k 1) p = Mm p := fun p h1 h2 => by rw [mset_ne _ _ h2, wrM_ne _ _ _ h1]
  have f1 : ∀ j, j < 975 + 39 * k ∨ 975 + 39 * k + 39 ≤ j → mset (wrM Mm (975 + 39 * k) G) 2 (upd (Mm 2) k 1) 1 j = Mm 1 j := fun j hj => by rw [mset_ne _ _ (by omega), wrM_out _ _ _ hj]
  rw [wrM_ne _ _ _ (show 2 ≠ 1 by omega)]
  refine ⟨_, _, _, rfl, rfl, rows_cg I.rows (fun p h1 h2 => by rw [mset_ne _ _ (by omega), mset_ne _ _ (by omega)]) (fun p h1 h2 => f0 p (by omega) (by omega)), tape_cg I.tape (by rw [mset_ne _ _ (by omega), mset_ne _ _ (by omega)]) (by rw [mset_ne _ _ (by omega), mset_ne _ _ (by omega)]) (by rw [f0 0 (by omega) (by omega)]) (f0 6 (by omega) (by omega)), trce_cg I.trce (by rw [mset_ne _ _ (by omega), mset_ne _ _ (by omega)]) (by rw [mset_ne _ _ (by omega), mset_ne _ _ (by omega)]) (by rw [f0 0 (by omega) (by omega)]) (f0 7 (by omega) (by omega)), hall_cg I.hall (fun p h1 h2 => by rw [mset_ne _ _ (by omega), mset_ne _ _ (by omega)]) (fun j hj => f1 j (by omega)), past_cg I.past (by rw [mset_ne _ _ (by omega), mset_ne _ _ (by omega)]) (by rw [mset_ne _ _ (by omega), mset_ne _ _ (by omega)]) (by rw [f0 0 (by omega) (by omega)]) (fun j h1 h2 => f1 j (by omega)), ⟨upN m k 1, fun j => ?_, ?_, fun j hj => ⟨?_, fun hm => ?_⟩⟩, ord_cg I.ord (by rw [mset_ne _ _ (by omega), mset_ne _ _ (by omega)]) (by rw [mset_ne _ _ (by omega), mset_ne _ _ (by omega)]) (by rw [mset_ne _ _ (by omega), mset_ne _ _ (by omega)]), misc_cg I.misc (by rw [mset_self, upd_ne (by omega)]) (by rw [mset_self, upd_ne (by omega)]) (by rw [f0 0 (by omega) (by omega)]) (by rw [f0 0 (by omega) (by omega)]) (f0 8 (by omega) (by omega)) (by rw [f0 0 (by omega) (by omega)])⟩
  · unfold upN
    split
    · exact Nat.le_refl _
    · exact m1 j
  · rw [mset_self, upd_same]
    rcases (show k = 0 ∨ k = 1 by omega) with rfl | rfl <;> rfl
  · rw [mset_self]
    by_cases z : j = k
    · rw [z, upd_same, upN_same]; rfl
    · rw [upd_ne z, upN_ne z]; exact (m3 j hj).1
  · by_cases z : j = k
    · subst z
      refine ⟨G, sh, ?_, ?_, hO⟩
      · rw [mset_ne _ _ (by omega), mset_self, Nat.mul_comm 40 j]
        exact svC_hx H _ _
      · intro i hi
        rw [mset_ne _ _ (by omega)]
        exact wrM_at _ _ _ hi
    · rw [upN_ne z] at hm
      obtain ⟨G', sh', q1, q2, q3⟩ := (m3 j hj).2 hm
      refine ⟨G', sh', svX_cg q1 (fun i h1 h2 => ?_), fun i hi => by rw [f1 _ (by omega)]; exact q2 i hi, q3⟩
      rw [mset_ne _ _ (by omega), mset_self, if_neg (by omega)]
theorem ok_restore_Inv : ok_restore Inv := fun Mx Mm x I => by
  unfold X7_restore X8_restore
  rcases choice_dec x 2 (by omega) with ⟨q, e⟩ | ⟨k, hk, rfl, q, e⟩
  · rw [show X7_isChoice x 2 = some 0 from q, e 0 1 (by decide) (by decide)]; exact ⟨_, _, _, rfl, rfl, I⟩
  obtain ⟨m, m1, m2, m3⟩ := I.img
  have e15 : Mx 15 3 = 0 := by
    rcases I.hall with h | ⟨G, sh, H, -, -⟩
    · exact h.2.2.2.1
    · exact H.1.1.2.2.2.1
  have eb : (nI (m 0 + 2 * m 1) >>> (nI k &&& 31)) &&& 1 = nI (m k) := by
    rw [img_bit _ (by have := m1 0; omega) _ (by have := m1 1; omega) k hk]
    rcases (show k = 0 ∨ k = 1 by omega) with rfl | rfl <;> rfl
  simp (disch := omega) only [show X7_isChoice (nI k) 2 = some 1 from q, e 0 1 (by decide) (by decide), Option.bind_some, i10, ↓reduceIte, m2, eb, am_in_nI, nI_clamp, (m3 k hk).1]
  have hmk := m1 k
  by_cases z : m k = 0
  · rw [z]; exact ⟨_, _, _, rfl, rfl, I⟩
  rw [if_neg (nI_ne0 (by omega) (by omega)), if_neg (nI_ne0 (by omega) (by omega))]
  obtain ⟨G, sh, g1, g2, g3⟩ := (m3 k hk).2 (by omega)
  obtain ⟨Mx', x1, x2, x3⟩ := cx_loadFrom (M := Mx) (h := 15) (p := 42) (n := 80) (o := 40 * k) (by omega) (by omega) (by omega) g1
  rw [e15] at x2
  have y1 := ref_copyHall g2 (b := 0) (by omega) (by omega) (by omega)
  rw [li_40, nI_mul, Nat.mul_comm, x1, li_39, li_975, nI_mul, nI_add, show X8_copyHall (nI (975 + 39 * k)) 0 Mm = _ from y1, Option.bind_some, Option.bind_some]
  simp only [X0_clear, am_let_eq, Option.bind_some]
  have fx : ∀ p, p < 15 ∨ 22 < p → p ≠ 31 → mset Mx' 31 (upd (Mx' 31) 2 0) p = Mx p := fun p h1 h2 => by rw [mset_ne _ _ h2, x3 p (by omega)]
  have f0 : ∀ j, j ≠ 1 → mset (wrM Mm 0 G) 0 (upd (wrM Mm 0 G 0) 1 0) 0 j = Mm 0 j := fun j hj => by rw [mset_self, upd_ne hj, wrM_ne _ _ _ (by omega)]
  have f1 : ∀ j, 39 ≤ j → mset (wrM Mm 0 G) 0 (upd (wrM Mm 0 G 0) 1 0) 1 j = Mm 1 j := fun j hj => by rw [mset_ne _ _ (by omega), wrM_out _ _ _ (by omega)]
  have f2 : ∀ p, p ≠ 0 → p ≠ 1 → mset (wrM Mm 0 G) 0 (upd (wrM Mm 0 G 0) 1 0) p = Mm p := fun p h0 h1 => by rw [mset_ne _ _ h0, wrM_ne _ _ _ h1]
  obtain ⟨u, nx, hu, hn, e1, e2, e3, hp⟩ := I.past
  refine ⟨_, _, _, rfl, rfl, rows_cg I.rows (fun p h1 h2 => fx p (by omega) (by omega)) (fun p h1 h2 => f2 p (by omega) (by omega)), tape_cg I.tape (by rw [fx 13 (by omega) (by omega)]) (fx 14 (by omega) (by omega)) (f0 7 (by omega)) (f2 6 (by omega) (by omega)), trce_cg I.trce (by rw [fx 40 (by omega) (by omega)]) (fx 41 (by omega) (by omega)) (f0 11 (by omega)) (f2 7 (by omega) (by omega)), Or.inr ⟨G, sh, hx_frm x2 (fun q h1 h2 => mset_ne _ _ (by omega)), fun i hi => by rw [mset_ne _ _ (by omega)]; exact wrM_at _ _ _ hi, g3⟩, ⟨0, nx, by omega, hn, by rw [mset_self, upd_ne (by omega), x3 31 (by omega)]; exact e1, by rw [mset_self, upd_same]; rfl, by rw [mset_self, upd_same]; rfl, fun j hj => absurd hj (Nat.not_lt_zero _)⟩, img_cg I.img (by rw [fx 0 (by omega) (by omega)]) (fx 42 (by omega) (by omega)) (f2 2 (by omega) (by omega)) (fun j h1 h2 => f1 j (by omega)), ord_cg I.ord (fx 34 (by omega) (by omega)) (fx 37 (by omega) (by omega)) (fx 39 (by omega) (by omega)), misc_cg I.misc (by rw [fx 0 (by omega) (by omega)]) (by rw [fx 0 (by omega) (by omega)]) (f0 8 (by omega)) (f0 9 (by omega)) (f2 8 (by omega) (by omega)) (f0 16 (by omega))⟩
