theorem k_X5_mcl : Cond.classLink RX5 16 "[[I" ∈ lw_t := lw_in (List.mem_of_getElem? (i := 117) (by decide +kernel)) rfl
def cw_X5_init (K : amK) (h0 : Nat) (u : Nat × Nat × Nat × (Nat → Nat) × (Nat → Int32)) : va_W := [(h0, .inr (5, [.ref u.1, .ref u.2.1, .ref u.2.2.1])), (u.1, .inl (K.1, 8, .inl u.2.2.2.2)), (u.2.1, .inl (K.1, 8, .inl (fun _ => 0))), (u.2.2.1, .inl (K.2.2, 8, .inr (.inr (.inr (.inr (fun i => if i < 8 then some (u.2.2.2.1 i) else none)))))), (u.2.2.2.1 0, .inl (K.1, 40, .inl (fun _ => 0))), (u.2.2.2.1 1, .inl (K.1, 40, .inl (fun _ => 0))), (u.2.2.2.1 2, .inl (K.1, 40, .inl (fun _ => 0))), (u.2.2.2.1 3, .inl (K.1, 40, .inl (fun _ => 0))), (u.2.2.2.1 4, .inl (K.1, 40, .inl (fun _ => 0))), (u.2.2.2.1 5, .inl (K.1, 40, .inl (fun _ => 0))), (u.2.2.2.1 6, .inl (K.1, 40, .inl (fun _ => 0))), (u.2.2.2.1 7, .inl (K.1, 40, .inl (fun _ => 0)))]
set_option maxHeartbeats 4000000 in
set_option maxRecDepth 100000 in
theorem c_X5_init (l : Launch) (D : va_G) (K : amK) (h0 : Nat) (sz : Nat) (ad0 : Nat → Nat) : Met l yX5_init (wT yX5_init cX5_init 1 none) ({ frames := 3, cells := 11, slots := 344, locals := 128 }) (va_Pc [.ref h0] (fun U => U.heap.size = sz ∧ va_P D vwCl [(h0, .inr (5, [.null, .null, .null]))] U.heap ∧ va_K D vwCl (am_tys K) U ∧ va_D (fun _ => True) [(h0, .inr (5, [.null, .null, .null]))] ∧ ao U ∧ am_St ad0 (va_A [(h0, .inr (5, [.null, .null, .null]))] sz) U U.heap)) (va_Qv (fun u : Nat × Nat × Nat × (Nat → Nat) × (Nat → Int32) => ∀ j, j < 8 → u.2.2.2.2 j = -1) (fun a t => va_P D vwCl (cw_X5_init K h0 a) t.heap ∧ va_K D vwCl (am_tys K) t ∧ va_D (va_A [(h0, .inr (5, [.null, .null, .null]))] sz) (cw_X5_init K h0 a)) (va_A [(h0, .inr (5, [.null, .null, .null]))] sz)) 11 344 (va_A [(h0, .inr (5, [.null, .null, .null]))] sz) := by
  refine Met.ofW (cc := cX5_init) (maxL := 1) (ret := none) pn_X5 rfl ?_
  intro p e s m args below meth c s₁ B hml hv
  obtain ⟨rfl, hsz, hP, hK, hD0, hao, hSt⟩ := hv
  have hx := B.exec
  have hb := B.bytes
  have hr := B.returns
  have hts0 := atoms_spec (ws := wT yX5_init cX5_init 1 none) B.pre
  have hts : ∀ w ∈ lw_t, w.before ([.ref h0] : List Value).toArray s = true := fun w hw => hts0 w (List.mem_cons_of_mem _ hw)
  have hown : s.vm.findClass RX5 = some m.cls := findClass_of_methodNamed B.named
  have hlocks := B.notSynchronized
  have hin : meth.name = "<init>" := (name_of_methodNamed B.named B.method).1
  subst hsz
  have hD := hD0.self (sz := s.heap.size)
  generalize hAe : va_A [(h0, .inr (5, [.null, .null, .null]))] s.heap.size = A at hD ⊢
  rw [hAe] at hSt
  have hA : ∀ q : Nat, s.heap.size ≤ q → A q := fun q h => by rw [← hAe]; exact Or.inr h
  have hS : va_S A s.heap s.heap [] := va_S.rf
  have hl := lv_entry ([.ref h0]) (n := 1) (Nat.le_of_ble_eq_true rfl)
  rw [lg_entry_eq]
  generalize (lg_sl ([.ref h0]) ++ List.replicate (1 - (lg_sl ([.ref h0])).length) Slot.unset).toArray = ls at hl ⊢
  have hl : lv_has ls 1 [(0, .ref h0)] := hl
  refine lv_aload_n hx hb dX5_init_0 rfl (lv_at hl 0 rfl) ?_
  refine W.objInit hx hb hown (hts _ km_X5_1) (hts _ k_oi_inst) (hts _ k_oi_code) rfl (by rw [hml]; exact hl.1) rfl dX5_init_1 (Nat.le_of_ble_eq_true rfl) (Nat.le_of_ble_eq_true rfl) ?_
  refine W.eq (g2 := F0 m 4 ls []) rfl ?_
  refine lv_aload_n hx hb dX5_init_4 rfl (lv_at hl 0 rfl) ?_
  refine lv_bipush (v := 8) hx hb dX5_init_5 (by decide) ?_
  refine cn_newI hx hb (hts _ k_acI) hK hP hD hS hA (N := 8) (by decide) (by decide) (Nat.le_of_ble_eq_true rfl) (Nat.le_of_ble_eq_true rfl) (Nat.le_of_ble_eq_true rfl) dX5_init_7 (fun q7 H hP hD hS => ?_)
  have hP : va_P D vwCl [(h0, .inr (5, [.null, .null, .null])), (q7, .inl (K.1, 8, .inl (fun _ => 0)))] H := hP
  have hD : va_D A [(h0, .inr (5, [.null, .null, .null])), (q7, .inl (K.1, 8, .inl (fun _ => 0)))] := hD
  refine W.widen (k := 1) (n := 8) (Nat.le_of_ble_eq_true rfl) (Nat.le_of_ble_eq_true rfl) ?_
  refine va_putF (D := D) (ci := 5) (v := .ref q7) (ty := .array .int) (C := RX5) (T := TX5) (N := 3) hx hb hts clX5_in tyX5 tyX5_ok nmX5 hown hK hP hD hS 0 rfl rfl 0 (by decide) (hts _ kf_X5_9) (fun _ h9 => h9) rfl hin rfl (by decide +kernel) rfl rfl (Nat.le_of_ble_eq_true rfl) dX5_init_9 (fun H locs hP hD hS => ?_)
  have hP : va_P D vwCl [(h0, .inr (5, [.ref q7, .null, .null])), (q7, .inl (K.1, 8, .inl (fun _ => 0)))] H := hP
  have hD : va_D A [(h0, .inr (5, [.ref q7, .null, .null])), (q7, .inl (K.1, 8, .inl (fun _ => 0)))] := hD
  refine lv_aload_n hx hb dX5_init_12 rfl (lv_at hl 0 rfl) ?_
  refine lv_bipush (v := 8) hx hb dX5_init_13 (by decide) ?_
  refine cn_newI hx hb (hts _ k_acI) hK hP hD hS hA (N := 8) (by decide) (by decide) (Nat.le_of_ble_eq_true rfl) (Nat.le_of_ble_eq_true rfl) (Nat.le_of_ble_eq_true rfl) dX5_init_15 (fun q15 H hP hD hS => ?_)
  have hP : va_P D vwCl [(h0, .inr (5, [.ref q7, .null, .null])), (q7, .inl (K.1, 8, .inl (fun _ => 0))), (q15, .inl (K.1, 8, .inl (fun _ => 0)))] H := hP
  have hD : va_D A [(h0, .inr (5, [.ref q7, .null, .null])), (q7, .inl (K.1, 8, .inl (fun _ => 0))), (q15, .inl (K.1, 8, .inl (fun _ => 0)))] := hD
  refine W.widen (k := 2) (n := 16) (Nat.le_of_ble_eq_true rfl) (Nat.le_of_ble_eq_true rfl) ?_
  refine va_putF (D := D) (ci := 5) (v := .ref q15) (ty := .array .int) (C := RX5) (T := TX5) (N := 3) hx hb hts clX5_in tyX5 tyX5_ok nmX5 hown hK hP hD hS 0 rfl rfl 1 (by decide) (hts _ kf_X5_13) (fun _ h9 => h9) rfl hin rfl (by decide +kernel) rfl rfl (Nat.le_of_ble_eq_true rfl) dX5_init_17 (fun H locs hP hD hS => ?_)
  have hP : va_P D vwCl [(h0, .inr (5, [.ref q7, .ref q15, .null])), (q7, .inl (K.1, 8, .inl (fun _ => 0))), (q15, .inl (K.1, 8, .inl (fun _ => 0)))] H := hP
  have hD : va_D A [(h0, .inr (5, [.ref q7, .ref q15, .null])), (q7, .inl (K.1, 8, .inl (fun _ => 0))), (q15, .inl (K.1, 8, .inl (fun _ => 0)))] := hD
  refine lv_aload_n hx hb dX5_init_20 rfl (lv_at hl 0 rfl) ?_
  refine lv_bipush (v := 8) hx hb dX5_init_21 (by decide) ?_
  refine lv_bipush (v := 40) hx hb dX5_init_23 (by decide) ?_
  refine cn_mna hx hb hown (hts _ k_X5_mcl) hao (hts _ k_acI) hK hP hD hS hA (Nat.le_of_ble_eq_true rfl) (Nat.le_of_ble_eq_true rfl) dX5_init_25 (fun q25 r25 H hP hD hS => ?_)
  have hP : va_P D vwCl [(h0, .inr (5, [.ref q7, .ref q15, .null])), (q7, .inl (K.1, 8, .inl (fun _ => 0))), (q15, .inl (K.1, 8, .inl (fun _ => 0))), (q25, .inl (K.2.2, 8, .inr (.inr (.inr (.inr (fun i => if i < 8 then some (r25 i) else none)))))), ((r25 0), .inl (K.1, 40, .inl (fun _ => 0))), ((r25 1), .inl (K.1, 40, .inl (fun _ => 0))), ((r25 2), .inl (K.1, 40, .inl (fun _ => 0))), ((r25 3), .inl (K.1, 40, .inl (fun _ => 0))), ((r25 4), .inl (K.1, 40, .inl (fun _ => 0))), ((r25 5), .inl (K.1, 40, .inl (fun _ => 0))), ((r25 6), .inl (K.1, 40, .inl (fun _ => 0))), ((r25 7), .inl (K.1, 40, .inl (fun _ => 0)))] H := hP
  have hD : va_D A [(h0, .inr (5, [.ref q7, .ref q15, .null])), (q7, .inl (K.1, 8, .inl (fun _ => 0))), (q15, .inl (K.1, 8, .inl (fun _ => 0))), (q25, .inl (K.2.2, 8, .inr (.inr (.inr (.inr (fun i => if i < 8 then some (r25 i) else none)))))), ((r25 0), .inl (K.1, 40, .inl (fun _ => 0))), ((r25 1), .inl (K.1, 40, .inl (fun _ => 0))), ((r25 2), .inl (K.1, 40, .inl (fun _ => 0))), ((r25 3), .inl (K.1, 40, .inl (fun _ => 0))), ((r25 4), .inl (K.1, 40, .inl (fun _ => 0))), ((r25 5), .inl (K.1, 40, .inl (fun _ => 0))), ((r25 6), .inl (K.1, 40, .inl (fun _ => 0))), ((r25 7), .inl (K.1, 40, .inl (fun _ => 0)))] := hD
  refine W.widen (k := 11) (n := 344) (Nat.le_of_ble_eq_true rfl) (Nat.le_of_ble_eq_true rfl) ?_
  refine va_putF (D := D) (ci := 5) (v := .ref q25) (ty := .array (.array .int)) (C := RX5) (T := TX5) (N := 3) hx hb hts clX5_in tyX5 tyX5_ok nmX5 hown hK hP hD hS 0 rfl rfl 2 (by decide) (hts _ kf_X5_18) (fun _ h9 => h9) rfl hin rfl (by decide +kernel) rfl rfl (Nat.le_of_ble_eq_true rfl) dX5_init_29 (fun H locs hP hD hS => ?_)
  have hP : va_P D vwCl [(h0, .inr (5, [.ref q7, .ref q15, .ref q25])), (q7, .inl (K.1, 8, .inl (fun _ => 0))), (q15, .inl (K.1, 8, .inl (fun _ => 0))), (q25, .inl (K.2.2, 8, .inr (.inr (.inr (.inr (fun i => if i < 8 then some (r25 i) else none)))))), ((r25 0), .inl (K.1, 40, .inl (fun _ => 0))), ((r25 1), .inl (K.1, 40, .inl (fun _ => 0))), ((r25 2), .inl (K.1, 40, .inl (fun _ => 0))), ((r25 3), .inl (K.1, 40, .inl (fun _ => 0))), ((r25 4), .inl (K.1, 40, .inl (fun _ => 0))), ((r25 5), .inl (K.1, 40, .inl (fun _ => 0))), ((r25 6), .inl (K.1, 40, .inl (fun _ => 0))), ((r25 7), .inl (K.1, 40, .inl (fun _ => 0)))] H := hP
  have hD : va_D A [(h0, .inr (5, [.ref q7, .ref q15, .ref q25])), (q7, .inl (K.1, 8, .inl (fun _ => 0))), (q15, .inl (K.1, 8, .inl (fun _ => 0))), (q25, .inl (K.2.2, 8, .inr (.inr (.inr (.inr (fun i => if i < 8 then some (r25 i) else none)))))), ((r25 0), .inl (K.1, 40, .inl (fun _ => 0))), ((r25 1), .inl (K.1, 40, .inl (fun _ => 0))), ((r25 2), .inl (K.1, 40, .inl (fun _ => 0))), ((r25 3), .inl (K.1, 40, .inl (fun _ => 0))), ((r25 4), .inl (K.1, 40, .inl (fun _ => 0))), ((r25 5), .inl (K.1, 40, .inl (fun _ => 0))), ((r25 6), .inl (K.1, 40, .inl (fun _ => 0))), ((r25 7), .inl (K.1, 40, .inl (fun _ => 0)))] := hD
  refine lv_aload_n hx hb dX5_init_32 rfl (lv_at hl 0 rfl) ?_
  refine va_get (D := D) (ci := 5) (v := .ref q7) (C := RX5) (T := TX5) (N := 3) hx hb hts clX5_in hown hK hP 0 rfl rfl 0 (by decide) (hts _ kf_X5_9) (fun _ h9 => h9) rfl dX5_init_33 ?_
  refine lv_iconst (v := -1) hx hb dX5_init_36 (by decide) ?_
  have hPc := hP.sub (ws' := [(q7, .inl (K.1, 8, .inl (fun _ => 0)))]) [1] rfl
  have hDc := hD.sub (ws' := [(q7, .inl (K.1, 8, .inl (fun _ => 0)))]) [1] (by decide) rfl
  have hFc := va_free (wc := [(q7, .inl (K.1, 8, .inl (fun _ => 0)))]) hD hS hA [1] rfl
  have hfl := fill_spec 0 8 (-1) (fun _ _ => 0) (by decide)
  refine va_callv (va_runS (As := [.ref q7, .int (-1)]) (rest := []) ⟨hx, hb, hml, hown, hts⟩ (m1_J7_fill_53178 0 8 rfl (-1) (fun _ _ => 0) l D K (fun k => if k < 1000 then q7 else ad0 k) H.size _ hfl) ⟨callB_of 2 hts (wT_good t_J7_fill_53178.1) rfl rfl rfl (hts _ t_J7_fill_53178.2.2.1) (hts _ km_X5_21) t_J7_fill_53178.2.2.2.1 ⟨Nat.le_of_ble_eq_true rfl, Nat.le_of_ble_eq_true rfl⟩, hts _ t_J7_fill_53178.2.1⟩ ⟨amPc_blind, fun U hU hW => ⟨rfl, by rw [hU], by rw [hU]; exact hPc, va_K.moved hW.alike hK, hDc.weaken (fun _ _ _ _ => trivial), by rw [hU]; exact hSt.go hW (fun a ha hn => hS.2.1 a ha hn) hFc⟩⟩ rfl rfl hl.1 rfl (lv_room (Nat.le_of_ble_eq_true rfl)) dX5_init_37 ⟨Nat.le_of_ble_eq_true rfl, Nat.le_of_ble_eq_true rfl⟩) hS (fun q _ h => hFc q h) hFc (fun u t H1 locs ht hvm hw hB hz1 hk1 hS => ?_)
  obtain ⟨hP1, -, hD1⟩ := hB
  rw [ht] at hP1
  obtain ⟨hP, hD⟩ := va_join (wr := [(h0, .inr (5, [.ref q7, .ref q15, .ref q25])), (q15, .inl (K.1, 8, .inl (fun _ => 0))), (q25, .inl (K.2.2, 8, .inr (.inr (.inr (.inr (fun i => if i < 8 then some (r25 i) else none)))))), ((r25 0), .inl (K.1, 40, .inl (fun _ => 0))), ((r25 1), .inl (K.1, 40, .inl (fun _ => 0))), ((r25 2), .inl (K.1, 40, .inl (fun _ => 0))), ((r25 3), .inl (K.1, 40, .inl (fun _ => 0))), ((r25 4), .inl (K.1, 40, .inl (fun _ => 0))), ((r25 5), .inl (K.1, 40, .inl (fun _ => 0))), ((r25 6), .inl (K.1, 40, .inl (fun _ => 0))), ((r25 7), .inl (K.1, 40, .inl (fun _ => 0)))]) (w1 := [(q7, .inl (K.1, 8, .inl (u 0)))]) hP hD [1] [0, 2, 3, 4, 5, 6, 7, 8, 9, 10, 11] rfl rfl (by decide) (by decide) hk1 hFc hP1 hD1
  generalize H1 = H at hP hS ⊢
  have hP : va_P D vwCl [(h0, .inr (5, [.ref q7, .ref q15, .ref q25])), (q15, .inl (K.1, 8, .inl (fun _ => 0))), (q25, .inl (K.2.2, 8, .inr (.inr (.inr (.inr (fun i => if i < 8 then some (r25 i) else none)))))), ((r25 0), .inl (K.1, 40, .inl (fun _ => 0))), ((r25 1), .inl (K.1, 40, .inl (fun _ => 0))), ((r25 2), .inl (K.1, 40, .inl (fun _ => 0))), ((r25 3), .inl (K.1, 40, .inl (fun _ => 0))), ((r25 4), .inl (K.1, 40, .inl (fun _ => 0))), ((r25 5), .inl (K.1, 40, .inl (fun _ => 0))), ((r25 6), .inl (K.1, 40, .inl (fun _ => 0))), ((r25 7), .inl (K.1, 40, .inl (fun _ => 0))), (q7, .inl (K.1, 8, .inl (u 0)))] H := hP
  have hD : va_D A [(h0, .inr (5, [.ref q7, .ref q15, .ref q25])), (q15, .inl (K.1, 8, .inl (fun _ => 0))), (q25, .inl (K.2.2, 8, .inr (.inr (.inr (.inr (fun i => if i < 8 then some (r25 i) else none)))))), ((r25 0), .inl (K.1, 40, .inl (fun _ => 0))), ((r25 1), .inl (K.1, 40, .inl (fun _ => 0))), ((r25 2), .inl (K.1, 40, .inl (fun _ => 0))), ((r25 3), .inl (K.1, 40, .inl (fun _ => 0))), ((r25 4), .inl (K.1, 40, .inl (fun _ => 0))), ((r25 5), .inl (K.1, 40, .inl (fun _ => 0))), ((r25 6), .inl (K.1, 40, .inl (fun _ => 0))), ((r25 7), .inl (K.1, 40, .inl (fun _ => 0))), (q7, .inl (K.1, 8, .inl (u 0)))] := hD
  have hP := hP.sub (ws' := [(h0, .inr (5, [.ref q7, .ref q15, .ref q25])), (q7, .inl (K.1, 8, .inl (u 0))), (q15, .inl (K.1, 8, .inl (fun _ => 0))), (q25, .inl (K.2.2, 8, .inr (.inr (.inr (.inr (fun i => if i < 8 then some (r25 i) else none)))))), ((r25 0), .inl (K.1, 40, .inl (fun _ => 0))), ((r25 1), .inl (K.1, 40, .inl (fun _ => 0))), ((r25 2), .inl (K.1, 40, .inl (fun _ => 0))), ((r25 3), .inl (K.1, 40, .inl (fun _ => 0))), ((r25 4), .inl (K.1, 40, .inl (fun _ => 0))), ((r25 5), .inl (K.1, 40, .inl (fun _ => 0))), ((r25 6), .inl (K.1, 40, .inl (fun _ => 0))), ((r25 7), .inl (K.1, 40, .inl (fun _ => 0)))]) [0, 11, 1, 2, 3, 4, 5, 6, 7, 8, 9, 10] rfl
  have hD := hD.sub (ws' := [(h0, .inr (5, [.ref q7, .ref q15, .ref q25])), (q7, .inl (K.1, 8, .inl (u 0))), (q15, .inl (K.1, 8, .inl (fun _ => 0))), (q25, .inl (K.2.2, 8, .inr (.inr (.inr (.inr (fun i => if i < 8 then some (r25 i) else none)))))), ((r25 0), .inl (K.1, 40, .inl (fun _ => 0))), ((r25 1), .inl (K.1, 40, .inl (fun _ => 0))), ((r25 2), .inl (K.1, 40, .inl (fun _ => 0))), ((r25 3), .inl (K.1, 40, .inl (fun _ => 0))), ((r25 4), .inl (K.1, 40, .inl (fun _ => 0))), ((r25 5), .inl (K.1, 40, .inl (fun _ => 0))), ((r25 6), .inl (K.1, 40, .inl (fun _ => 0))), ((r25 7), .inl (K.1, 40, .inl (fun _ => 0)))]) [0, 11, 1, 2, 3, 4, 5, 6, 7, 8, 9, 10] (by decide) rfl
  refine W.widen (k := 11) (n := 344) (Nat.le_of_ble_eq_true rfl) (Nat.le_of_ble_eq_true rfl) ?_
  exact W.vret hx hb hr (fun t ht hW => ⟨⟨(q7, q15, q25, r25, u 0), rfl, (fun j hj => by show u 0 j = -1; rw [hw]; simp [mset, hj]), by rw [ht]; exact hP, va_K.moved hW.alike hK, hD⟩, hS.F ht⟩) hS.2.2 dX5_init_40

