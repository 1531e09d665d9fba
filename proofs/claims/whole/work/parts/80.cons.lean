section CN
variable {p : Program} {l : Launch} {e : Env} {R : Room} {s : State} {m : MethodId} {args : Array Value} {below : List Frame} {meth : Method} {c : Code} {H : Heap} {locs : List Loc} {cells slots : Nat} {Q : State → Prop}
variable {cc : ByteArray} {pc : Nat} {ls : Array Slot} {rest : List Value} {D : va_G} {cl : List vw_C} {A : Nat → Prop} {ws : va_W} {H0 : Heap} {K : amK}
theorem cn_newI (hexec : p.tables.exec = Jvm.exec) (hb : c.code = cc) (harr : (Cond.arrayClass .int).before args s = true) (hK : va_K D cl (am_tys K) s) (hP : va_P D cl ws H) (hD : va_D A ws) (hS : va_S A H0 H locs) (hA : ∀ q, H0.size ≤ q → A q)
    {n : Int32} {N : Nat} (hn : ¬ n < 0) (hN : n.toNatClampNeg = N) (hbytes : N * 8 ≤ 536870912) (hcells : cells + 1 ≤ R.cells) (hslots : slots + N ≤ R.slots) (hdg : decode cc pc = .ok (.newarray .int, 2))
    (kk : ∀ (q : Nat) (H1 : Heap), va_P D cl (ws ++ [(q, .inl (K.1, N, .inl (fun _ => 0)))]) H1 → va_D A (ws ++ [(q, .inl (K.1, N, .inl (fun _ => 0)))]) → va_S A H0 H1 locs →
      W p l e R s m args below meth c H1 locs (cells + 1) (slots + N) Q (F0 m (pc + 2) ls (.ref q :: rest))) : W p l e R s m args below meth c H locs cells slots Q (F0 m pc ls (.int n :: rest)) := by
  refine va_newa (atype := .int) (ty := .int) (a0 := (N, .inl (fun _ => 0))) hexec hb harr rfl hK hP hD hS hA (fun cA => rfl) hn hN (Nat.le_trans (Nat.mul_le_mul_left N (by decide)) hbytes) hcells hslots hdg (fun q cA H1 hK' hP' hD' hS' => ?_)
  have e1 : cA = K.1 := Option.some.inj (((hK'.2 3 (cA, .int) rfl).2 : s.vm.findClass _ = some cA).symm.trans (hK.2 0 _ rfl).2)
  subst e1
  exact kk q H1 hP' hD' hS' 
theorem cn_newZ (hexec : p.tables.exec = Jvm.exec) (hb : c.code = cc) (harr : (Cond.arrayClass .boolean).before args s = true) (hK : va_K D cl (am_tys K) s) (hP : va_P D cl ws H) (hD : va_D A ws) (hS : va_S A H0 H locs) (hA : ∀ q, H0.size ≤ q → A q)
    {n : Int32} {N : Nat} (hn : ¬ n < 0) (hN : n.toNatClampNeg = N) (hbytes : N * 8 ≤ 536870912) (hcells : cells + 1 ≤ R.cells) (hslots : slots + N ≤ R.slots) (hdg : decode cc pc = .ok (.newarray .boolean, 2))
    (kk : ∀ (q : Nat) (H1 : Heap), va_P D cl (ws ++ [(q, .inl (K.2.1, N, .inl (fun _ => 0)))]) H1 → va_D A (ws ++ [(q, .inl (K.2.1, N, .inl (fun _ => 0)))]) → va_S A H0 H1 locs →
      W p l e R s m args below meth c H1 locs (cells + 1) (slots + N) Q (F0 m (pc + 2) ls (.ref q :: rest))) : W p l e R s m args below meth c H locs cells slots Q (F0 m pc ls (.int n :: rest)) := by
  refine va_newa (atype := .boolean) (ty := .boolean) (a0 := (N, .inl (fun _ => 0))) hexec hb harr rfl hK hP hD hS hA (fun cA => rfl) hn hN (Nat.le_trans (Nat.mul_le_mul_left N (by decide)) hbytes) hcells hslots hdg (fun q cA H1 hK' hP' hD' hS' => ?_)
  have e1 : cA = K.2.1 := Option.some.inj (((hK'.2 3 (cA, .boolean) rfl).2 : s.vm.findClass _ = some cA).symm.trans (hK.2 1 _ rfl).2)
  subst e1
  exact kk q H1 hP' hD' hS' 
end CN
theorem k_oi_inst : Cond.instanceMethod objectInit ∈ lw_t := lw_in (List.mem_of_getElem? (i := 109) (by decide +kernel)) rfl
theorem k_oi_code : Cond.code objectInit ⟨#[0xb1]⟩ 1 none ∈ lw_t := lw_in (List.mem_of_getElem? (i := 110) (by decide +kernel)) rfl
theorem k_acI : Cond.arrayClass .int ∈ lw_t := lw_in (List.mem_of_getElem? (i := 132) (by decide +kernel)) rfl
theorem k_acZ : Cond.arrayClass .boolean ∈ lw_t := lw_in (List.mem_of_getElem? (i := 1150) (by decide +kernel)) rfl
def cw_X0_init (K : amK) (h0 : Nat) (a : Nat → Nat) : va_W := [(h0, .inr (0, [.ref (a 0), .int 0, .int 0])), ((a 0), .inl (K.1, 960, .inl (fun _ => 0)))]
set_option maxHeartbeats 4000000 in
set_option maxRecDepth 100000 in
theorem c_X0_init (l : Launch) (D : va_G) (K : amK) (h0 : Nat) (sz : Nat) : Met l yX0_init (wT yX0_init cX0_init 1 none) ({ frames := 2, cells := 1, slots := 960, locals := 64 }) (va_Pc [.ref h0] (fun U => U.heap.size = sz ∧ va_P D vwCl [(h0, .inr (0, [.null, .int 0, .int 0]))] U.heap ∧ va_K D vwCl (am_tys K) U ∧ va_D (fun _ => True) [(h0, .inr (0, [.null, .int 0, .int 0]))])) (va_Qv (fun _ : Nat → Nat => True) (fun a t => va_P D vwCl (cw_X0_init K h0  a) t.heap ∧ va_K D vwCl (am_tys K) t ∧ va_D (va_A [(h0, .inr (0, [.null, .int 0, .int 0]))] sz) (cw_X0_init K h0  a)) (va_A [(h0, .inr (0, [.null, .int 0, .int 0]))] sz)) 1 960 (va_A [(h0, .inr (0, [.null, .int 0, .int 0]))] sz) := by
  refine Met.ofW (cc := cX0_init) (maxL := 1) (ret := none) pn_X0 rfl ?_
  intro p e s m args below meth c s₁ B hml hv
  obtain ⟨rfl, hsz, hP, hK, hD0⟩ := hv
  have hx := B.exec
  have hb := B.bytes
  have hr := B.returns
  have hts0 := atoms_spec (ws := wT yX0_init cX0_init 1 none) B.pre
  have hts : ∀ w ∈ lw_t, w.before ([.ref h0] : List Value).toArray s = true := fun w hw => hts0 w (List.mem_cons_of_mem _ hw)
  have hown : s.vm.findClass RX0 = some m.cls := findClass_of_methodNamed B.named
  have hlocks := B.notSynchronized
  have hin : meth.name = "<init>" := (name_of_methodNamed B.named B.method).1
  subst hsz
  have hD := hD0.self (sz := s.heap.size)
  generalize hAe : va_A [(h0, .inr (0, [.null, .int 0, .int 0]))] s.heap.size = A at hD ⊢
  have hA : ∀ q : Nat, s.heap.size ≤ q → A q := fun q h => by rw [← hAe]; exact Or.inr h
  have hS : va_S A s.heap s.heap [] := va_S.rf
  have hl := lv_entry ([.ref h0]) (n := 1) (Nat.le_of_ble_eq_true rfl)
  rw [lg_entry_eq]
  generalize (lg_sl ([.ref h0]) ++ List.replicate (1 - (lg_sl ([.ref h0])).length) Slot.unset).toArray = ls at hl ⊢
  have hl : lv_has ls 1 [(0, .ref h0)] := hl
  refine lv_aload_n hx hb dX0_init_0 rfl (lv_at hl 0 rfl) ?_
  refine W.objInit hx hb hown (hts _ km_X0_1) (hts _ k_oi_inst) (hts _ k_oi_code) rfl (by rw [hml]; exact hl.1) rfl dX0_init_1 (Nat.le_of_ble_eq_true rfl) (Nat.le_of_ble_eq_true rfl) ?_
  refine W.eq (g2 := F0 m 4 ls []) rfl ?_
  refine lv_aload_n hx hb dX0_init_4 rfl (lv_at hl 0 rfl) ?_
  refine lv_sipush (v := 960) hx hb dX0_init_5 (by decide) ?_
  refine cn_newI hx hb (hts _ k_acI) hK hP hD hS hA (N := 960) (by decide) (by decide) (Nat.le_of_ble_eq_true rfl) (Nat.le_of_ble_eq_true rfl) (Nat.le_of_ble_eq_true rfl) dX0_init_8 (fun q8 H hP hD hS => ?_)
  have hP : va_P D vwCl [(h0, .inr (0, [.null, .int 0, .int 0])), (q8, .inl (K.1, 960, .inl (fun _ => 0)))] H := hP
  have hD : va_D A [(h0, .inr (0, [.null, .int 0, .int 0])), (q8, .inl (K.1, 960, .inl (fun _ => 0)))] := hD
  refine W.widen (k := 1) (n := 960) (Nat.le_of_ble_eq_true rfl) (Nat.le_of_ble_eq_true rfl) ?_
  refine va_putF (D := D) (ci := 0) (v := .ref q8) (ty := .array .int) (C := RX0) (T := TX0) (N := 3) hx hb hts clX0_in tyX0 tyX0_ok nmX0 hown hK hP hD hS 0 rfl rfl 0 (by decide) (hts _ kf_X0_11) (fun _ h9 => h9) rfl hin rfl (by decide +kernel) rfl rfl (Nat.le_of_ble_eq_true rfl) dX0_init_10 (fun H locs hP hD hS => ?_)
  have hP : va_P D vwCl [(h0, .inr (0, [.ref q8, .int 0, .int 0])), (q8, .inl (K.1, 960, .inl (fun _ => 0)))] H := hP
  have hD : va_D A [(h0, .inr (0, [.ref q8, .int 0, .int 0])), (q8, .inl (K.1, 960, .inl (fun _ => 0)))] := hD
  refine W.widen (k := 1) (n := 960) (Nat.le_of_ble_eq_true rfl) (Nat.le_of_ble_eq_true rfl) ?_
  exact W.vret hx hb hr (fun t ht hW => ⟨⟨(fun k => ([q8] : List Nat).getD k 0), rfl, trivial, by rw [ht]; exact hP, va_K.moved hW.alike hK, hD⟩, hS.F ht⟩) hS.2.2 dX0_init_13

def cw_X6_init (K : amK) (h0 : Nat) (a : Nat → Nat) : va_W := [(h0, .inr (6, [.ref (a 0), .int 0, .int 0, .int 0, .int 0, .int 0])), ((a 0), .inl (K.1, 110, .inl (fun _ => 0)))]
set_option maxHeartbeats 4000000 in
set_option maxRecDepth 100000 in
theorem c_X6_init (l : Launch) (D : va_G) (K : amK) (h0 : Nat) (sz : Nat) : Met l yX6_init (wT yX6_init cX6_init 1 none) ({ frames := 2, cells := 1, slots := 110, locals := 64 }) (va_Pc [.ref h0] (fun U => U.heap.size = sz ∧ va_P D vwCl [(h0, .inr (6, [.null, .int 0, .int 0, .int 0, .int 0, .int 0]))] U.heap ∧ va_K D vwCl (am_tys K) U ∧ va_D (fun _ => True) [(h0, .inr (6, [.null, .int 0, .int 0, .int 0, .int 0, .int 0]))])) (va_Qv (fun _ : Nat → Nat => True) (fun a t => va_P D vwCl (cw_X6_init K h0  a) t.heap ∧ va_K D vwCl (am_tys K) t ∧ va_D (va_A [(h0, .inr (6, [.null, .int 0, .int 0, .int 0, .int 0, .int 0]))] sz) (cw_X6_init K h0  a)) (va_A [(h0, .inr (6, [.null, .int 0, .int 0, .int 0, .int 0, .int 0]))] sz)) 1 110 (va_A [(h0, .inr (6, [.null, .int 0, .int 0, .int 0, .int 0, .int 0]))] sz) := by
  refine Met.ofW (cc := cX6_init) (maxL := 1) (ret := none) pn_X6 rfl ?_
  intro p e s m args below meth c s₁ B hml hv
  obtain ⟨rfl, hsz, hP, hK, hD0⟩ := hv
  have hx := B.exec
  have hb := B.bytes
  have hr := B.returns
  have hts0 := atoms_spec (ws := wT yX6_init cX6_init 1 none) B.pre
  have hts : ∀ w ∈ lw_t, w.before ([.ref h0] : List Value).toArray s = true := fun w hw => hts0 w (List.mem_cons_of_mem _ hw)
  have hown : s.vm.findClass RX6 = some m.cls := findClass_of_methodNamed B.named
  have hlocks := B.notSynchronized
  have hin : meth.name = "<init>" := (name_of_methodNamed B.named B.method).1
  subst hsz
  have hD := hD0.self (sz := s.heap.size)
  generalize hAe : va_A [(h0, .inr (6, [.null, .int 0, .int 0, .int 0, .int 0, .int 0]))] s.heap.size = A at hD ⊢
  have hA : ∀ q : Nat, s.heap.size ≤ q → A q := fun q h => by rw [← hAe]; exact Or.inr h
  have hS : va_S A s.heap s.heap [] := va_S.rf
  have hl := lv_entry ([.ref h0]) (n := 1) (Nat.le_of_ble_eq_true rfl)
  rw [lg_entry_eq]
  generalize (lg_sl ([.ref h0]) ++ List.replicate (1 - (lg_sl ([.ref h0])).length) Slot.unset).toArray = ls at hl ⊢
  have hl : lv_has ls 1 [(0, .ref h0)] := hl
  refine lv_aload_n hx hb dX6_init_0 rfl (lv_at hl 0 rfl) ?_
  refine W.objInit hx hb hown (hts _ km_X6_3) (hts _ k_oi_inst) (hts _ k_oi_code) rfl (by rw [hml]; exact hl.1) rfl dX6_init_1 (Nat.le_of_ble_eq_true rfl) (Nat.le_of_ble_eq_true rfl) ?_
  refine W.eq (g2 := F0 m 4 ls []) rfl ?_
  refine lv_aload_n hx hb dX6_init_4 rfl (lv_at hl 0 rfl) ?_
  refine lv_bipush (v := 110) hx hb dX6_init_5 (by decide) ?_
  refine cn_newI hx hb (hts _ k_acI) hK hP hD hS hA (N := 110) (by decide) (by decide) (Nat.le_of_ble_eq_true rfl) (Nat.le_of_ble_eq_true rfl) (Nat.le_of_ble_eq_true rfl) dX6_init_7 (fun q7 H hP hD hS => ?_)
  have hP : va_P D vwCl [(h0, .inr (6, [.null, .int 0, .int 0, .int 0, .int 0, .int 0])), (q7, .inl (K.1, 110, .inl (fun _ => 0)))] H := hP
  have hD : va_D A [(h0, .inr (6, [.null, .int 0, .int 0, .int 0, .int 0, .int 0])), (q7, .inl (K.1, 110, .inl (fun _ => 0)))] := hD
  refine W.widen (k := 1) (n := 110) (Nat.le_of_ble_eq_true rfl) (Nat.le_of_ble_eq_true rfl) ?_
  refine va_putF (D := D) (ci := 6) (v := .ref q7) (ty := .array .int) (C := RX6) (T := TX6) (N := 6) hx hb hts clX6_in tyX6 tyX6_ok nmX6 hown hK hP hD hS 0 rfl rfl 0 (by decide) (hts _ kf_X6_11) (fun _ h9 => h9) rfl hin rfl (by decide +kernel) rfl rfl (Nat.le_of_ble_eq_true rfl) dX6_init_9 (fun H locs hP hD hS => ?_)
  have hP : va_P D vwCl [(h0, .inr (6, [.ref q7, .int 0, .int 0, .int 0, .int 0, .int 0])), (q7, .inl (K.1, 110, .inl (fun _ => 0)))] H := hP
  have hD : va_D A [(h0, .inr (6, [.ref q7, .int 0, .int 0, .int 0, .int 0, .int 0])), (q7, .inl (K.1, 110, .inl (fun _ => 0)))] := hD
  refine W.widen (k := 1) (n := 110) (Nat.le_of_ble_eq_true rfl) (Nat.le_of_ble_eq_true rfl) ?_
  exact W.vret hx hb hr (fun t ht hW => ⟨⟨(fun k => ([q7] : List Nat).getD k 0), rfl, trivial, by rw [ht]; exact hP, va_K.moved hW.alike hK, hD⟩, hS.F ht⟩) hS.2.2 dX6_init_12

def cw_X3_init (K : amK) (h0 : Nat) (a : Nat → Nat) : va_W := [(h0, .inr (3, [.int 0, .int 0, .int 0, .int 0, .int 0, .int 0, .ref (a 0), .ref (a 1), .ref (a 2), .ref (a 3), .ref (a 4), .ref (a 5), .ref (a 6)])), ((a 0), .inl (K.1, 6, .inl (fun _ => 0))), ((a 1), .inl (K.1, 6, .inl (fun _ => 0))), ((a 2), .inl (K.1, 6, .inl (fun _ => 0))), ((a 3), .inl (K.1, 6, .inl (fun _ => 0))), ((a 4), .inl (K.1, 6, .inl (fun _ => 0))), ((a 5), .inl (K.1, 6, .inl (fun _ => 0))), ((a 6), .inl (K.1, 12, .inl (fun _ => 0)))]
set_option maxHeartbeats 4000000 in
set_option maxRecDepth 100000 in
theorem c_X3_init (l : Launch) (D : va_G) (K : amK) (h0 : Nat) (sz : Nat) : Met l yX3_init (wT yX3_init cX3_init 1 none) ({ frames := 2, cells := 7, slots := 48, locals := 64 }) (va_Pc [.ref h0] (fun U => U.heap.size = sz ∧ va_P D vwCl [(h0, .inr (3, [.int 0, .int 0, .int 0, .int 0, .int 0, .int 0, .null, .null, .null, .null, .null, .null, .null]))] U.heap ∧ va_K D vwCl (am_tys K) U ∧ va_D (fun _ => True) [(h0, .inr (3, [.int 0, .int 0, .int 0, .int 0, .int 0, .int 0, .null, .null, .null, .null, .null, .null, .null]))])) (va_Qv (fun _ : Nat → Nat => True) (fun a t => va_P D vwCl (cw_X3_init K h0  a) t.heap ∧ va_K D vwCl (am_tys K) t ∧ va_D (va_A [(h0, .inr (3, [.int 0, .int 0, .int 0, .int 0, .int 0, .int 0, .null, .null, .null, .null, .null, .null, .null]))] sz) (cw_X3_init K h0  a)) (va_A [(h0, .inr (3, [.int 0, .int 0, .int 0, .int 0, .int 0, .int 0, .null, .null, .null, .null, .null, .null, .null]))] sz)) 7 48 (va_A [(h0, .inr (3, [.int 0, .int 0, .int 0, .int 0, .int 0, .int 0, .null, .null, .null, .null, .null, .null, .null]))] sz) := by
  refine Met.ofW (cc := cX3_init) (maxL := 1) (ret := none) pn_X3 rfl ?_
  intro p e s m args below meth c s₁ B hml hv
  obtain ⟨rfl, hsz, hP, hK, hD0⟩ := hv
  have hx := B.exec
  have hb := B.bytes
  have hr := B.returns
  have hts0 := atoms_spec (ws := wT yX3_init cX3_init 1 none) B.pre
  have hts : ∀ w ∈ lw_t, w.before ([.ref h0] : List Value).toArray s = true := fun w hw => hts0 w (List.mem_cons_of_mem _ hw)
  have hown : s.vm.findClass RX3 = some m.cls := findClass_of_methodNamed B.named
  have hlocks := B.notSynchronized
  have hin : meth.name = "<init>" := (name_of_methodNamed B.named B.method).1
  subst hsz
  have hD := hD0.self (sz := s.heap.size)
  generalize hAe : va_A [(h0, .inr (3, [.int 0, .int 0, .int 0, .int 0, .int 0, .int 0, .null, .null, .null, .null, .null, .null, .null]))] s.heap.size = A at hD ⊢
  have hA : ∀ q : Nat, s.heap.size ≤ q → A q := fun q h => by rw [← hAe]; exact Or.inr h
  have hS : va_S A s.heap s.heap [] := va_S.rf
  have hl := lv_entry ([.ref h0]) (n := 1) (Nat.le_of_ble_eq_true rfl)
  rw [lg_entry_eq]
  generalize (lg_sl ([.ref h0]) ++ List.replicate (1 - (lg_sl ([.ref h0])).length) Slot.unset).toArray = ls at hl ⊢
  have hl : lv_has ls 1 [(0, .ref h0)] := hl
  refine lv_aload_n hx hb dX3_init_0 rfl (lv_at hl 0 rfl) ?_
  refine W.objInit hx hb hown (hts _ km_X3_3) (hts _ k_oi_inst) (hts _ k_oi_code) rfl (by rw [hml]; exact hl.1) rfl dX3_init_1 (Nat.le_of_ble_eq_true rfl) (Nat.le_of_ble_eq_true rfl) ?_
  refine W.eq (g2 := F0 m 4 ls []) rfl ?_
  refine lv_aload_n hx hb dX3_init_4 rfl (lv_at hl 0 rfl) ?_
  refine lv_bipush (v := 6) hx hb dX3_init_5 (by decide) ?_
  refine cn_newI hx hb (hts _ k_acI) hK hP hD hS hA (N := 6) (by decide) (by decide) (Nat.le_of_ble_eq_true rfl) (Nat.le_of_ble_eq_true rfl) (Nat.le_of_ble_eq_true rfl) dX3_init_7 (fun q7 H hP hD hS => ?_)
  have hP : va_P D vwCl [(h0, .inr (3, [.int 0, .int 0, .int 0, .int 0, .int 0, .int 0, .null, .null, .null, .null, .null, .null, .null])), (q7, .inl (K.1, 6, .inl (fun _ => 0)))] H := hP
  have hD : va_D A [(h0, .inr (3, [.int 0, .int 0, .int 0, .int 0, .int 0, .int 0, .null, .null, .null, .null, .null, .null, .null])), (q7, .inl (K.1, 6, .inl (fun _ => 0)))] := hD
  refine W.widen (k := 1) (n := 6) (Nat.le_of_ble_eq_true rfl) (Nat.le_of_ble_eq_true rfl) ?_
  refine va_putF (D := D) (ci := 3) (v := .ref q7) (ty := .array .int) (C := RX3) (T := TX3) (N := 13) hx hb hts clX3_in tyX3 tyX3_ok nmX3 hown hK hP hD hS 0 rfl rfl 6 (by decide) (hts _ kf_X3_9) (fun _ h9 => h9) rfl hin rfl (by decide +kernel) rfl rfl (Nat.le_of_ble_eq_true rfl) dX3_init_9 (fun H locs hP hD hS => ?_)
  have hP : va_P D vwCl [(h0, .inr (3, [.int 0, .int 0, .int 0, .int 0, .int 0, .int 0, .ref q7, .null, .null, .null, .null, .null, .null])), (q7, .inl (K.1, 6, .inl (fun _ => 0)))] H := hP
  have hD : va_D A [(h0, .inr (3, [.int 0, .int 0, .int 0, .int 0, .int 0, .int 0, .ref q7, .null, .null, .null, .null, .null, .null])), (q7, .inl (K.1, 6, .inl (fun _ => 0)))] := hD
  refine lv_aload_n hx hb dX3_init_12 rfl (lv_at hl 0 rfl) ?_
  refine lv_bipush (v := 6) hx hb dX3_init_13 (by decide) ?_
  refine cn_newI hx hb (hts _ k_acI) hK hP hD hS hA (N := 6) (by decide) (by decide) (Nat.le_of_ble_eq_true rfl) (Nat.le_of_ble_eq_true rfl) (Nat.le_of_ble_eq_true rfl) dX3_init_15 (fun q15 H hP hD hS => ?_)
  have hP : va_P D vwCl [(h0, .inr (3, [.int 0, .int 0, .int 0, .int 0, .int 0, .int 0, .ref q7, .null, .null, .null, .null, .null, .null])), (q7, .inl (K.1, 6, .inl (fun _ => 0))), (q15, .inl (K.1, 6, .inl (fun _ => 0)))] H := hP
  have hD : va_D A [(h0, .inr (3, [.int 0, .int 0, .int 0, .int 0, .int 0, .int 0, .ref q7, .null, .null, .null, .null, .null, .null])), (q7, .inl (K.1, 6, .inl (fun _ => 0))), (q15, .inl (K.1, 6, .inl (fun _ => 0)))] := hD
  refine W.widen (k := 2) (n := 12) (Nat.le_of_ble_eq_true rfl) (Nat.le_of_ble_eq_true rfl) ?_
  refine va_putF (D := D) (ci := 3) (v := .ref q15) (ty := .array .int) (C := RX3) (T := TX3) (N := 13) hx hb hts clX3_in tyX3 tyX3_ok nmX3 hown hK hP hD hS 0 rfl rfl 7 (by decide) (hts _ kf_X3_15) (fun _ h9 => h9) rfl hin rfl (by decide +kernel) rfl rfl (Nat.le_of_ble_eq_true rfl) dX3_init_17 (fun H locs hP hD hS => ?_)
  have hP : va_P D vwCl [(h0, .inr (3, [.int 0, .int 0, .int 0, .int 0, .int 0, .int 0, .ref q7, .ref q15, .null, .null, .null, .null, .null])), (q7, .inl (K.1, 6, .inl (fun _ => 0))), (q15, .inl (K.1, 6, .inl (fun _ => 0)))] H := hP
  have hD : va_D A [(h0, .inr (3, [.int 0, .int 0, .int 0, .int 0, .int 0, .int 0, .ref q7, .ref q15, .null, .null, .null, .null, .null])), (q7, .inl (K.1, 6, .inl (fun _ => 0))), (q15, .inl (K.1, 6, .inl (fun _ => 0)))] := hD
  refine lv_aload_n hx hb dX3_init_20 rfl (lv_at hl 0 rfl) ?_
  refine lv_bipush (v := 6) hx hb dX3_init_21 (by decide) ?_
  refine cn_newI hx hb (hts _ k_acI) hK hP hD hS hA (N := 6) (by decide) (by decide) (Nat.le_of_ble_eq_true rfl) (Nat.le_of_ble_eq_true rfl) (Nat.le_of_ble_eq_true rfl) dX3_init_23 (fun q23 H hP hD hS => ?_)
  have hP : va_P D vwCl [(h0, .inr (3, [.int 0, .int 0, .int 0, .int 0, .int 0, .int 0, .ref q7, .ref q15, .null, .null, .null, .null, .null])), (q7, .inl (K.1, 6, .inl (fun _ => 0))), (q15, .inl (K.1, 6, .inl (fun _ => 0))), (q23, .inl (K.1, 6, .inl (fun _ => 0)))] H := hP
  have hD : va_D A [(h0, .inr (3, [.int 0, .int 0, .int 0, .int 0, .int 0, .int 0, .ref q7, .ref q15, .null, .null, .null, .null, .null])), (q7, .inl (K.1, 6, .inl (fun _ => 0))), (q15, .inl (K.1, 6, .inl (fun _ => 0))), (q23, .inl (K.1, 6, .inl (fun _ => 0)))] := hD
  refine W.widen (k := 3) (n := 18) (Nat.le_of_ble_eq_true rfl) (Nat.le_of_ble_eq_true rfl) ?_
  refine va_putF (D := D) (ci := 3) (v := .ref q23) (ty := .array .int) (C := RX3) (T := TX3) (N := 13) hx hb hts clX3_in tyX3 tyX3_ok nmX3 hown hK hP hD hS 0 rfl rfl 8 (by decide) (hts _ kf_X3_18) (fun _ h9 => h9) rfl hin rfl (by decide +kernel) rfl rfl (Nat.le_of_ble_eq_true rfl) dX3_init_25 (fun H locs hP hD hS => ?_)
  have hP : va_P D vwCl [(h0, .inr (3, [.int 0, .int 0, .int 0, .int 0, .int 0, .int 0, .ref q7, .ref q15, .ref q23, .null, .null, .null, .null])), (q7, .inl (K.1, 6, .inl (fun _ => 0))), (q15, .inl (K.1, 6, .inl (fun _ => 0))), (q23, .inl (K.1, 6, .inl (fun _ => 0)))] H := hP
  have hD : va_D A [(h0, .inr (3, [.int 0, .int 0, .int 0, .int 0, .int 0, .int 0, .ref q7, .ref q15, .ref q23, .null, .null, .null, .null])), (q7, .inl (K.1, 6, .inl (fun _ => 0))), (q15, .inl (K.1, 6, .inl (fun _ => 0))), (q23, .inl (K.1, 6, .inl (fun _ => 0)))] := hD
  refine lv_aload_n hx hb dX3_init_28 rfl (lv_at hl 0 rfl) ?_
  refine lv_bipush (v := 6) hx hb dX3_init_29 (by decide) ?_
  refine cn_newI hx hb (hts _ k_acI) hK hP hD hS hA (N := 6) (by decide) (by decide) (Nat.le_of_ble_eq_true rfl) (Nat.le_of_ble_eq_true rfl) (Nat.le_of_ble_eq_true rfl) dX3_init_31 (fun q31 H hP hD hS => ?_)
  have hP : va_P D vwCl [(h0, .inr (3, [.int 0, .int 0, .int 0, .int 0, .int 0, .int 0, .ref q7, .ref q15, .ref q23, .null, .null, .null, .null])), (q7, .inl (K.1, 6, .inl (fun _ => 0))), (q15, .inl (K.1, 6, .inl (fun _ => 0))), (q23, .inl (K.1, 6, .inl (fun _ => 0))), (q31, .inl (K.1, 6, .inl (fun _ => 0)))] H := hP
  have hD : va_D A [(h0, .inr (3, [.int 0, .int 0, .int 0, .int 0, .int 0, .int 0, .ref q7, .ref q15, .ref q23, .null, .null, .null, .null])), (q7, .inl (K.1, 6, .inl (fun _ => 0))), (q15, .inl (K.1, 6, .inl (fun _ => 0))), (q23, .inl (K.1, 6, .inl (fun _ => 0))), (q31, .inl (K.1, 6, .inl (fun _ => 0)))] := hD
  refine W.widen (k := 4) (n := 24) (Nat.le_of_ble_eq_true rfl) (Nat.le_of_ble_eq_true rfl) ?_
  refine va_putF (D := D) (ci := 3) (v := .ref q31) (ty := .array .int) (C := RX3) (T := TX3) (N := 13) hx hb hts clX3_in tyX3 tyX3_ok nmX3 hown hK hP hD hS 0 rfl rfl 9 (by decide) (hts _ kf_X3_21) (fun _ h9 => h9) rfl hin rfl (by decide +kernel) rfl rfl (Nat.le_of_ble_eq_true rfl) dX3_init_33 (fun H locs hP hD hS => ?_)
  have hP : va_P D vwCl [(h0, .inr (3, [.int 0, .int 0, .int 0, .int 0, .int 0, .int 0, .ref q7, .ref q15, .ref q23, .ref q31, .null, .null, .null])), (q7, .inl (K.1, 6, .inl (fun _ => 0))), (q15, .inl (K.1, 6, .inl (fun _ => 0))), (q23, .inl (K.1, 6, .inl (fun _ => 0))), (q31, .inl (K.1, 6, .inl (fun _ => 0)))] H := hP
  have hD : va_D A [(h0, .inr (3, [.int 0, .int 0, .int 0, .int 0, .int 0, .int 0, .ref q7, .ref q15, .ref q23, .ref q31, .null, .null, .null])), (q7, .inl (K.1, 6, .inl (fun _ => 0))), (q15, .inl (K.1, 6, .inl (fun _ => 0))), (q23, .inl (K.1, 6, .inl (fun _ => 0))), (q31, .inl (K.1, 6, .inl (fun _ => 0)))] := hD
  refine lv_aload_n hx hb dX3_init_36 rfl (lv_at hl 0 rfl) ?_
  refine lv_bipush (v := 6) hx hb dX3_init_37 (by decide) ?_
  refine cn_newI hx hb (hts _ k_acI) hK hP hD hS hA (N := 6) (by decide) (by decide) (Nat.le_of_ble_eq_true rfl) (Nat.le_of_ble_eq_true rfl) (Nat.le_of_ble_eq_true rfl) dX3_init_39 (fun q39 H hP hD hS => ?_)
  have hP : va_P D vwCl [(h0, .inr (3, [.int 0, .int 0, .int 0, .int 0, .int 0, .int 0, .ref q7, .ref q15, .ref q23, .ref q31, .null, .null, .null])), (q7, .inl (K.1, 6, .inl (fun _ => 0))), (q15, .inl (K.1, 6, .inl (fun _ => 0))), (q23, .inl (K.1, 6, .inl (fun _ => 0))), (q31, .inl (K.1, 6, .inl (fun _ => 0))), (q39, .inl (K.1, 6, .inl (fun _ => 0)))] H := hP
  have hD : va_D A [(h0, .inr (3, [.int 0, .int 0, .int 0, .int 0, .int 0, .int 0, .ref q7, .ref q15, .ref q23, .ref q31, .null, .null, .null])), (q7, .inl (K.1, 6, .inl (fun _ => 0))), (q15, .inl (K.1, 6, .inl (fun _ => 0))), (q23, .inl (K.1, 6, .inl (fun _ => 0))), (q31, .inl (K.1, 6, .inl (fun _ => 0))), (q39, .inl (K.1, 6, .inl (fun _ => 0)))] := hD
  refine W.widen (k := 5) (n := 30) (Nat.le_of_ble_eq_true rfl) (Nat.le_of_ble_eq_true rfl) ?_
  refine va_putF (D := D) (ci := 3) (v := .ref q39) (ty := .array .int) (C := RX3) (T := TX3) (N := 13) hx hb hts clX3_in tyX3 tyX3_ok nmX3 hown hK hP hD hS 0 rfl rfl 10 (by decide) (hts _ kf_X3_24) (fun _ h9 => h9) rfl hin rfl (by decide +kernel) rfl rfl (Nat.le_of_ble_eq_true rfl) dX3_init_41 (fun H locs hP hD hS => ?_)
  have hP : va_P D vwCl [(h0, .inr (3, [.int 0, .int 0, .int 0, .int 0, .int 0, .int 0, .ref q7, .ref q15, .ref q23, .ref q31, .ref q39, .null, .null])), (q7, .inl (K.1, 6, .inl (fun _ => 0))), (q15, .inl (K.1, 6, .inl (fun _ => 0))), (q23, .inl (K.1, 6, .inl (fun _ => 0))), (q31, .inl (K.1, 6, .inl (fun _ => 0))), (q39, .inl (K.1, 6, .inl (fun _ => 0)))] H := hP
  have hD : va_D A [(h0, .inr (3, [.int 0, .int 0, .int 0, .int 0, .int 0, .int 0, .ref q7, .ref q15, .ref q23, .ref q31, .ref q39, .null, .null])), (q7, .inl (K.1, 6, .inl (fun _ => 0))), (q15, .inl (K.1, 6, .inl (fun _ => 0))), (q23, .inl (K.1, 6, .inl (fun _ => 0))), (q31, .inl (K.1, 6, .inl (fun _ => 0))), (q39, .inl (K.1, 6, .inl (fun _ => 0)))] := hD
  refine lv_aload_n hx hb dX3_init_44 rfl (lv_at hl 0 rfl) ?_
  refine lv_bipush (v := 6) hx hb dX3_init_45 (by decide) ?_
  refine cn_newI hx hb (hts _ k_acI) hK hP hD hS hA (N := 6) (by decide) (by decide) (Nat.le_of_ble_eq_true rfl) (Nat.le_of_ble_eq_true rfl) (Nat.le_of_ble_eq_true rfl) dX3_init_47 (fun q47 H hP hD hS => ?_)
  have hP : va_P D vwCl [(h0, .inr (3, [.int 0, .int 0, .int 0, .int 0, .int 0, .int 0, .ref q7, .ref q15, .ref q23, .ref q31, .ref q39, .null, .null])), (q7, .inl (K.1, 6, .inl (fun _ => 0))), (q15, .inl (K.1, 6, .inl (fun _ => 0))), (q23, .inl (K.1, 6, .inl (fun _ => 0))), (q31, .inl (K.1, 6, .inl (fun _ => 0))), (q39, .inl (K.1, 6, .inl (fun _ => 0))), (q47, .inl (K.1, 6, .inl (fun _ => 0)))] H := hP
  have hD : va_D A [(h0, .inr (3, [.int 0, .int 0, .int 0, .int 0, .int 0, .int 0, .ref q7, .ref q15, .ref q23, .ref q31, .ref q39, .null, .null])), (q7, .inl (K.1, 6, .inl (fun _ => 0))), (q15, .inl (K.1, 6, .inl (fun _ => 0))), (q23, .inl (K.1, 6, .inl (fun _ => 0))), (q31, .inl (K.1, 6, .inl (fun _ => 0))), (q39, .inl (K.1, 6, .inl (fun _ => 0))), (q47, .inl (K.1, 6, .inl (fun _ => 0)))] := hD
  refine W.widen (k := 6) (n := 36) (Nat.le_of_ble_eq_true rfl) (Nat.le_of_ble_eq_true rfl) ?_
  refine va_putF (D := D) (ci := 3) (v := .ref q47) (ty := .array .int) (C := RX3) (T := TX3) (N := 13) hx hb hts clX3_in tyX3 tyX3_ok nmX3 hown hK hP hD hS 0 rfl rfl 11 (by decide) (hts _ kf_X3_27) (fun _ h9 => h9) rfl hin rfl (by decide +kernel) rfl rfl (Nat.le_of_ble_eq_true rfl) dX3_init_49 (fun H locs hP hD hS => ?_)
  have hP : va_P D vwCl [(h0, .inr (3, [.int 0, .int 0, .int 0, .int 0, .int 0, .int 0, .ref q7, .ref q15, .ref q23, .ref q31, .ref q39, .ref q47, .null])), (q7, .inl (K.1, 6, .inl (fun _ => 0))), (q15, .inl (K.1, 6, .inl (fun _ => 0))), (q23, .inl (K.1, 6, .inl (fun _ => 0))), (q31, .inl (K.1, 6, .inl (fun _ => 0))), (q39, .inl (K.1, 6, .inl (fun _ => 0))), (q47, .inl (K.1, 6, .inl (fun _ => 0)))] H := hP
  have hD : va_D A [(h0, .inr (3, [.int 0, .int 0, .int 0, .int 0, .int 0, .int 0, .ref q7, .ref q15, .ref q23, .ref q31, .ref q39, .ref q47, .null])), (q7, .inl (K.1, 6, .inl (fun _ => 0))), (q15, .inl (K.1, 6, .inl (fun _ => 0))), (q23, .inl (K.1, 6, .inl (fun _ => 0))), (q31, .inl (K.1, 6, .inl (fun _ => 0))), (q39, .inl (K.1, 6, .inl (fun _ => 0))), (q47, .inl (K.1, 6, .inl (fun _ => 0)))] := hD
  refine lv_aload_n hx hb dX3_init_52 rfl (lv_at hl 0 rfl) ?_
  refine lv_bipush (v := 12) hx hb dX3_init_53 (by decide) ?_
  refine cn_newI hx hb (hts _ k_acI) hK hP hD hS hA (N := 12) (by decide) (by decide) (Nat.le_of_ble_eq_true rfl) (Nat.le_of_ble_eq_true rfl) (Nat.le_of_ble_eq_true rfl) dX3_init_55 (fun q55 H hP hD hS => ?_)
  have hP : va_P D vwCl [(h0, .inr (3, [.int 0, .int 0, .int 0, .int 0, .int 0, .int 0, .ref q7, .ref q15, .ref q23, .ref q31, .ref q39, .ref q47, .null])), (q7, .inl (K.1, 6, .inl (fun _ => 0))), (q15, .inl (K.1, 6, .inl (fun _ => 0))), (q23, .inl (K.1, 6, .inl (fun _ => 0))), (q31, .inl (K.1, 6, .inl (fun _ => 0))), (q39, .inl (K.1, 6, .inl (fun _ => 0))), (q47, .inl (K.1, 6, .inl (fun _ => 0))), (q55, .inl (K.1, 12, .inl (fun _ => 0)))] H := hP
  have hD : va_D A [(h0, .inr (3, [.int 0, .int 0, .int 0, .int 0, .int 0, .int 0, .ref q7, .ref q15, .ref q23, .ref q31, .ref q39, .ref q47, .null])), (q7, .inl (K.1, 6, .inl (fun _ => 0))), (q15, .inl (K.1, 6, .inl (fun _ => 0))), (q23, .inl (K.1, 6, .inl (fun _ => 0))), (q31, .inl (K.1, 6, .inl (fun _ => 0))), (q39, .inl (K.1, 6, .inl (fun _ => 0))), (q47, .inl (K.1, 6, .inl (fun _ => 0))), (q55, .inl (K.1, 12, .inl (fun _ => 0)))] := hD
  refine W.widen (k := 7) (n := 48) (Nat.le_of_ble_eq_true rfl) (Nat.le_of_ble_eq_true rfl) ?_
  refine va_putF (D := D) (ci := 3) (v := .ref q55) (ty := .array .int) (C := RX3) (T := TX3) (N := 13) hx hb hts clX3_in tyX3 tyX3_ok nmX3 hown hK hP hD hS 0 rfl rfl 12 (by decide) (hts _ kf_X3_30) (fun _ h9 => h9) rfl hin rfl (by decide +kernel) rfl rfl (Nat.le_of_ble_eq_true rfl) dX3_init_57 (fun H locs hP hD hS => ?_)
  have hP : va_P D vwCl [(h0, .inr (3, [.int 0, .int 0, .int 0, .int 0, .int 0, .int 0, .ref q7, .ref q15, .ref q23, .ref q31, .ref q39, .ref q47, .ref q55])), (q7, .inl (K.1, 6, .inl (fun _ => 0))), (q15, .inl (K.1, 6, .inl (fun _ => 0))), (q23, .inl (K.1, 6, .inl (fun _ => 0))), (q31, .inl (K.1, 6, .inl (fun _ => 0))), (q39, .inl (K.1, 6, .inl (fun _ => 0))), (q47, .inl (K.1, 6, .inl (fun _ => 0))), (q55, .inl (K.1, 12, .inl (fun _ => 0)))] H := hP
  have hD : va_D A [(h0, .inr (3, [.int 0, .int 0, .int 0, .int 0, .int 0, .int 0, .ref q7, .ref q15, .ref q23, .ref q31, .ref q39, .ref q47, .ref q55])), (q7, .inl (K.1, 6, .inl (fun _ => 0))), (q15, .inl (K.1, 6, .inl (fun _ => 0))), (q23, .inl (K.1, 6, .inl (fun _ => 0))), (q31, .inl (K.1, 6, .inl (fun _ => 0))), (q39, .inl (K.1, 6, .inl (fun _ => 0))), (q47, .inl (K.1, 6, .inl (fun _ => 0))), (q55, .inl (K.1, 12, .inl (fun _ => 0)))] := hD
  refine W.widen (k := 7) (n := 48) (Nat.le_of_ble_eq_true rfl) (Nat.le_of_ble_eq_true rfl) ?_
  exact W.vret hx hb hr (fun t ht hW => ⟨⟨(fun k => ([q7, q15, q23, q31, q39, q47, q55] : List Nat).getD k 0), rfl, trivial, by rw [ht]; exact hP, va_K.moved hW.alike hK, hD⟩, hS.F ht⟩) hS.2.2 dX3_init_60

def cw_X1_init (K : amK) (h0 : Nat) (r1 : Nat) (a : Nat → Nat) : va_W := [(h0, .inr (1, [.ref r1, .ref (a 0), .int 0])), ((a 0), .inl (K.1, 16, .inl (fun _ => 0)))]
set_option maxHeartbeats 4000000 in
set_option maxRecDepth 100000 in
theorem c_X1_init (l : Launch) (D : va_G) (K : amK) (h0 : Nat) (r1 : Nat) (sz : Nat) : Met l yX1_init (wT yX1_init cX1_init 2 none) ({ frames := 2, cells := 1, slots := 16, locals := 64 }) (va_Pc [.ref h0, .ref r1] (fun U => U.heap.size = sz ∧ va_P D vwCl [(h0, .inr (1, [.null, .null, .int 0]))] U.heap ∧ va_K D vwCl (am_tys K) U ∧ va_D (fun _ => True) [(h0, .inr (1, [.null, .null, .int 0]))])) (va_Qv (fun _ : Nat → Nat => True) (fun a t => va_P D vwCl (cw_X1_init K h0 r1 a) t.heap ∧ va_K D vwCl (am_tys K) t ∧ va_D (va_A [(h0, .inr (1, [.null, .null, .int 0]))] sz) (cw_X1_init K h0 r1 a)) (va_A [(h0, .inr (1, [.null, .null, .int 0]))] sz)) 1 16 (va_A [(h0, .inr (1, [.null, .null, .int 0]))] sz) := by
  refine Met.ofW (cc := cX1_init) (maxL := 2) (ret := none) pn_X1 rfl ?_
  intro p e s m args below meth c s₁ B hml hv
  obtain ⟨rfl, hsz, hP, hK, hD0⟩ := hv
  have hx := B.exec
  have hb := B.bytes
  have hr := B.returns
  have hts0 := atoms_spec (ws := wT yX1_init cX1_init 2 none) B.pre
  have hts : ∀ w ∈ lw_t, w.before ([.ref h0, .ref r1] : List Value).toArray s = true := fun w hw => hts0 w (List.mem_cons_of_mem _ hw)
  have hown : s.vm.findClass RX1 = some m.cls := findClass_of_methodNamed B.named
  have hlocks := B.notSynchronized
  have hin : meth.name = "<init>" := (name_of_methodNamed B.named B.method).1
  subst hsz
  have hD := hD0.self (sz := s.heap.size)
  generalize hAe : va_A [(h0, .inr (1, [.null, .null, .int 0]))] s.heap.size = A at hD ⊢
  have hA : ∀ q : Nat, s.heap.size ≤ q → A q := fun q h => by rw [← hAe]; exact Or.inr h
  have hS : va_S A s.heap s.heap [] := va_S.rf
  have hl := lv_entry ([.ref h0, .ref r1]) (n := 2) (Nat.le_of_ble_eq_true rfl)
  rw [lg_entry_eq]
  generalize (lg_sl ([.ref h0, .ref r1]) ++ List.replicate (2 - (lg_sl ([.ref h0, .ref r1])).length) Slot.unset).toArray = ls at hl ⊢
  have hl : lv_has ls 2 [(0, .ref h0), (1, .ref r1)] := hl
  refine lv_aload_n hx hb dX1_init_0 rfl (lv_at hl 0 rfl) ?_
  refine W.objInit hx hb hown (hts _ km_X1_3) (hts _ k_oi_inst) (hts _ k_oi_code) rfl (by rw [hml]; exact hl.1) rfl dX1_init_1 (Nat.le_of_ble_eq_true rfl) (Nat.le_of_ble_eq_true rfl) ?_
  refine W.eq (g2 := F0 m 4 ls []) rfl ?_
  refine lv_aload_n hx hb dX1_init_4 rfl (lv_at hl 0 rfl) ?_
  refine lv_bipush (v := 16) hx hb dX1_init_5 (by decide) ?_
  refine cn_newI hx hb (hts _ k_acI) hK hP hD hS hA (N := 16) (by decide) (by decide) (Nat.le_of_ble_eq_true rfl) (Nat.le_of_ble_eq_true rfl) (Nat.le_of_ble_eq_true rfl) dX1_init_7 (fun q7 H hP hD hS => ?_)
  have hP : va_P D vwCl [(h0, .inr (1, [.null, .null, .int 0])), (q7, .inl (K.1, 16, .inl (fun _ => 0)))] H := hP
  have hD : va_D A [(h0, .inr (1, [.null, .null, .int 0])), (q7, .inl (K.1, 16, .inl (fun _ => 0)))] := hD
  refine W.widen (k := 1) (n := 16) (Nat.le_of_ble_eq_true rfl) (Nat.le_of_ble_eq_true rfl) ?_
  refine va_putF (D := D) (ci := 1) (v := .ref q7) (ty := .array .int) (C := RX1) (T := TX1) (N := 3) hx hb hts clX1_in tyX1 tyX1_ok nmX1 hown hK hP hD hS 0 rfl rfl 1 (by decide) (hts _ kf_X1_11) (fun _ h9 => h9) rfl hin rfl (by decide +kernel) rfl rfl (Nat.le_of_ble_eq_true rfl) dX1_init_9 (fun H locs hP hD hS => ?_)
  have hP : va_P D vwCl [(h0, .inr (1, [.null, .ref q7, .int 0])), (q7, .inl (K.1, 16, .inl (fun _ => 0)))] H := hP
  have hD : va_D A [(h0, .inr (1, [.null, .ref q7, .int 0])), (q7, .inl (K.1, 16, .inl (fun _ => 0)))] := hD
  refine lv_aload_n hx hb dX1_init_12 rfl (lv_at hl 0 rfl) ?_
  refine lv_aload_n hx hb dX1_init_13 rfl (lv_at hl 1 rfl) ?_
  refine va_putF (D := D) (ci := 1) (v := .ref r1) (ty := .object "LuggageBelt$Hall") (C := RX1) (T := TX1) (N := 3) hx hb hts clX1_in tyX1 tyX1_ok nmX1 hown hK hP hD hS 0 rfl rfl 0 (by decide) (hts _ kf_X1_15) (fun _ h9 => h9) rfl hin rfl (by decide +kernel) rfl rfl (Nat.le_of_ble_eq_true rfl) dX1_init_14 (fun H locs hP hD hS => ?_)
  have hP : va_P D vwCl [(h0, .inr (1, [.ref r1, .ref q7, .int 0])), (q7, .inl (K.1, 16, .inl (fun _ => 0)))] H := hP
  have hD : va_D A [(h0, .inr (1, [.ref r1, .ref q7, .int 0])), (q7, .inl (K.1, 16, .inl (fun _ => 0)))] := hD
  refine W.widen (k := 1) (n := 16) (Nat.le_of_ble_eq_true rfl) (Nat.le_of_ble_eq_true rfl) ?_
  exact W.vret hx hb hr (fun t ht hW => ⟨⟨(fun k => ([q7] : List Nat).getD k 0), rfl, trivial, by rw [ht]; exact hP, va_K.moved hW.alike hK, hD⟩, hS.F ht⟩) hS.2.2 dX1_init_17

def cw_X2_init (K : amK) (h0 : Nat) (r1 : Nat) (r2 : Nat) (a : Nat → Nat) : va_W := [(h0, .inr (2, [.ref r1, .ref r2, .ref (a 0)])), ((a 0), .inl (K.1, 5, .inl (fun _ => 0)))]
set_option maxHeartbeats 4000000 in
set_option maxRecDepth 100000 in
theorem c_X2_init (l : Launch) (D : va_G) (K : amK) (h0 : Nat) (r1 : Nat) (r2 : Nat) (sz : Nat) : Met l yX2_init (wT yX2_init cX2_init 3 none) ({ frames := 2, cells := 1, slots := 5, locals := 64 }) (va_Pc [.ref h0, .ref r1, .ref r2] (fun U => U.heap.size = sz ∧ va_P D vwCl [(h0, .inr (2, [.null, .null, .null]))] U.heap ∧ va_K D vwCl (am_tys K) U ∧ va_D (fun _ => True) [(h0, .inr (2, [.null, .null, .null]))])) (va_Qv (fun _ : Nat → Nat => True) (fun a t => va_P D vwCl (cw_X2_init K h0 r1 r2 a) t.heap ∧ va_K D vwCl (am_tys K) t ∧ va_D (va_A [(h0, .inr (2, [.null, .null, .null]))] sz) (cw_X2_init K h0 r1 r2 a)) (va_A [(h0, .inr (2, [.null, .null, .null]))] sz)) 1 5 (va_A [(h0, .inr (2, [.null, .null, .null]))] sz) := by
  refine Met.ofW (cc := cX2_init) (maxL := 3) (ret := none) pn_X2 rfl ?_
  intro p e s m args below meth c s₁ B hml hv
  obtain ⟨rfl, hsz, hP, hK, hD0⟩ := hv
  have hx := B.exec
  have hb := B.bytes
  have hr := B.returns
  have hts0 := atoms_spec (ws := wT yX2_init cX2_init 3 none) B.pre
  have hts : ∀ w ∈ lw_t, w.before ([.ref h0, .ref r1, .ref r2] : List Value).toArray s = true := fun w hw => hts0 w (List.mem_cons_of_mem _ hw)
  have hown : s.vm.findClass RX2 = some m.cls := findClass_of_methodNamed B.named
  have hlocks := B.notSynchronized
  have hin : meth.name = "<init>" := (name_of_methodNamed B.named B.method).1
  subst hsz
  have hD := hD0.self (sz := s.heap.size)
  generalize hAe : va_A [(h0, .inr (2, [.null, .null, .null]))] s.heap.size = A at hD ⊢
  have hA : ∀ q : Nat, s.heap.size ≤ q → A q := fun q h => by rw [← hAe]; exact Or.inr h
  have hS : va_S A s.heap s.heap [] := va_S.rf
  have hl := lv_entry ([.ref h0, .ref r1, .ref r2]) (n := 3) (Nat.le_of_ble_eq_true rfl)
  rw [lg_entry_eq]
  generalize (lg_sl ([.ref h0, .ref r1, .ref r2]) ++ List.replicate (3 - (lg_sl ([.ref h0, .ref r1, .ref r2])).length) Slot.unset).toArray = ls at hl ⊢
  have hl : lv_has ls 3 [(0, .ref h0), (1, .ref r1), (2, .ref r2)] := hl
  refine lv_aload_n hx hb dX2_init_0 rfl (lv_at hl 0 rfl) ?_
  refine W.objInit hx hb hown (hts _ km_X2_3) (hts _ k_oi_inst) (hts _ k_oi_code) rfl (by rw [hml]; exact hl.1) rfl dX2_init_1 (Nat.le_of_ble_eq_true rfl) (Nat.le_of_ble_eq_true rfl) ?_
  refine W.eq (g2 := F0 m 4 ls []) rfl ?_
  refine lv_aload_n hx hb dX2_init_4 rfl (lv_at hl 0 rfl) ?_
  refine lv_iconst (v := 5) hx hb dX2_init_5 (by decide) ?_
  refine cn_newI hx hb (hts _ k_acI) hK hP hD hS hA (N := 5) (by decide) (by decide) (Nat.le_of_ble_eq_true rfl) (Nat.le_of_ble_eq_true rfl) (Nat.le_of_ble_eq_true rfl) dX2_init_6 (fun q6 H hP hD hS => ?_)
  have hP : va_P D vwCl [(h0, .inr (2, [.null, .null, .null])), (q6, .inl (K.1, 5, .inl (fun _ => 0)))] H := hP
  have hD : va_D A [(h0, .inr (2, [.null, .null, .null])), (q6, .inl (K.1, 5, .inl (fun _ => 0)))] := hD
  refine W.widen (k := 1) (n := 5) (Nat.le_of_ble_eq_true rfl) (Nat.le_of_ble_eq_true rfl) ?_
  refine va_putF (D := D) (ci := 2) (v := .ref q6) (ty := .array .int) (C := RX2) (T := TX2) (N := 3) hx hb hts clX2_in tyX2 tyX2_ok nmX2 hown hK hP hD hS 0 rfl rfl 2 (by decide) (hts _ kf_X2_11) (fun _ h9 => h9) rfl hin rfl (by decide +kernel) rfl rfl (Nat.le_of_ble_eq_true rfl) dX2_init_8 (fun H locs hP hD hS => ?_)
  have hP : va_P D vwCl [(h0, .inr (2, [.null, .null, .ref q6])), (q6, .inl (K.1, 5, .inl (fun _ => 0)))] H := hP
  have hD : va_D A [(h0, .inr (2, [.null, .null, .ref q6])), (q6, .inl (K.1, 5, .inl (fun _ => 0)))] := hD
  refine lv_aload_n hx hb dX2_init_11 rfl (lv_at hl 0 rfl) ?_
  refine lv_aload_n hx hb dX2_init_12 rfl (lv_at hl 1 rfl) ?_
  refine va_putF (D := D) (ci := 2) (v := .ref r1) (ty := .object "LuggageBelt$Hall") (C := RX2) (T := TX2) (N := 3) hx hb hts clX2_in tyX2 tyX2_ok nmX2 hown hK hP hD hS 0 rfl rfl 0 (by decide) (hts _ kf_X2_15) (fun _ h9 => h9) rfl hin rfl (by decide +kernel) rfl rfl (Nat.le_of_ble_eq_true rfl) dX2_init_13 (fun H locs hP hD hS => ?_)
  have hP : va_P D vwCl [(h0, .inr (2, [.ref r1, .null, .ref q6])), (q6, .inl (K.1, 5, .inl (fun _ => 0)))] H := hP
  have hD : va_D A [(h0, .inr (2, [.ref r1, .null, .ref q6])), (q6, .inl (K.1, 5, .inl (fun _ => 0)))] := hD
  refine lv_aload_n hx hb dX2_init_16 rfl (lv_at hl 0 rfl) ?_
  refine lv_aload_n hx hb dX2_init_17 rfl (lv_at hl 2 rfl) ?_
  refine va_putF (D := D) (ci := 2) (v := .ref r2) (ty := .object "LuggageBelt$Hall") (C := RX2) (T := TX2) (N := 3) hx hb hts clX2_in tyX2 tyX2_ok nmX2 hown hK hP hD hS 0 rfl rfl 1 (by decide) (hts _ kf_X2_19) (fun _ h9 => h9) rfl hin rfl (by decide +kernel) rfl rfl (Nat.le_of_ble_eq_true rfl) dX2_init_18 (fun H locs hP hD hS => ?_)
  have hP : va_P D vwCl [(h0, .inr (2, [.ref r1, .ref r2, .ref q6])), (q6, .inl (K.1, 5, .inl (fun _ => 0)))] H := hP
  have hD : va_D A [(h0, .inr (2, [.ref r1, .ref r2, .ref q6])), (q6, .inl (K.1, 5, .inl (fun _ => 0)))] := hD
  refine W.widen (k := 1) (n := 5) (Nat.le_of_ble_eq_true rfl) (Nat.le_of_ble_eq_true rfl) ?_
  exact W.vret hx hb hr (fun t ht hW => ⟨⟨(fun k => ([q6] : List Nat).getD k 0), rfl, trivial, by rw [ht]; exact hP, va_K.moved hW.alike hK, hD⟩, hS.F ht⟩) hS.2.2 dX2_init_21

def cw_X4_init (K : amK) (h0 : Nat) (r1 : Nat) (a : Nat → Nat) : va_W := [(h0, .inr (4, [.ref r1, .ref (a 0), .ref (a 1), .ref (a 2), .ref (a 3), .ref (a 4), .int 0, .int 0, .int 0, .int 0])), ((a 0), .inl (K.1, 240, .inl (fun _ => 0))), ((a 1), .inl (K.1, 40, .inl (fun _ => 0))), ((a 2), .inl (K.1, 40, .inl (fun _ => 0))), ((a 3), .inl (K.1, 6, .inl (fun _ => 0))), ((a 4), .inl (K.1, 6, .inl (fun _ => 0)))]
set_option maxHeartbeats 4000000 in
set_option maxRecDepth 100000 in
theorem c_X4_init (l : Launch) (D : va_G) (K : amK) (h0 : Nat) (r1 : Nat) (sz : Nat) : Met l yX4_init (wT yX4_init cX4_init 2 none) ({ frames := 2, cells := 5, slots := 332, locals := 64 }) (va_Pc [.ref h0, .ref r1] (fun U => U.heap.size = sz ∧ va_P D vwCl [(h0, .inr (4, [.null, .null, .null, .null, .null, .null, .int 0, .int 0, .int 0, .int 0]))] U.heap ∧ va_K D vwCl (am_tys K) U ∧ va_D (fun _ => True) [(h0, .inr (4, [.null, .null, .null, .null, .null, .null, .int 0, .int 0, .int 0, .int 0]))])) (va_Qv (fun _ : Nat → Nat => True) (fun a t => va_P D vwCl (cw_X4_init K h0 r1 a) t.heap ∧ va_K D vwCl (am_tys K) t ∧ va_D (va_A [(h0, .inr (4, [.null, .null, .null, .null, .null, .null, .int 0, .int 0, .int 0, .int 0]))] sz) (cw_X4_init K h0 r1 a)) (va_A [(h0, .inr (4, [.null, .null, .null, .null, .null, .null, .int 0, .int 0, .int 0, .int 0]))] sz)) 5 332 (va_A [(h0, .inr (4, [.null, .null, .null, .null, .null, .null, .int 0, .int 0, .int 0, .int 0]))] sz) := by
  refine Met.ofW (cc := cX4_init) (maxL := 2) (ret := none) pn_X4 rfl ?_
  intro p e s m args below meth c s₁ B hml hv
  obtain ⟨rfl, hsz, hP, hK, hD0⟩ := hv
  have hx := B.exec
  have hb := B.bytes
  have hr := B.returns
  have hts0 := atoms_spec (ws := wT yX4_init cX4_init 2 none) B.pre
  have hts : ∀ w ∈ lw_t, w.before ([.ref h0, .ref r1] : List Value).toArray s = true := fun w hw => hts0 w (List.mem_cons_of_mem _ hw)
  have hown : s.vm.findClass RX4 = some m.cls := findClass_of_methodNamed B.named
  have hlocks := B.notSynchronized
  have hin : meth.name = "<init>" := (name_of_methodNamed B.named B.method).1
  subst hsz
  have hD := hD0.self (sz := s.heap.size)
  generalize hAe : va_A [(h0, .inr (4, [.null, .null, .null, .null, .null, .null, .int 0, .int 0, .int 0, .int 0]))] s.heap.size = A at hD ⊢
  have hA : ∀ q : Nat, s.heap.size ≤ q → A q := fun q h => by rw [← hAe]; exact Or.inr h
  have hS : va_S A s.heap s.heap [] := va_S.rf
  have hl := lv_entry ([.ref h0, .ref r1]) (n := 2) (Nat.le_of_ble_eq_true rfl)
  rw [lg_entry_eq]
  generalize (lg_sl ([.ref h0, .ref r1]) ++ List.replicate (2 - (lg_sl ([.ref h0, .ref r1])).length) Slot.unset).toArray = ls at hl ⊢
  have hl : lv_has ls 2 [(0, .ref h0), (1, .ref r1)] := hl
  refine lv_aload_n hx hb dX4_init_0 rfl (lv_at hl 0 rfl) ?_
  refine W.objInit hx hb hown (hts _ km_X4_3) (hts _ k_oi_inst) (hts _ k_oi_code) rfl (by rw [hml]; exact hl.1) rfl dX4_init_1 (Nat.le_of_ble_eq_true rfl) (Nat.le_of_ble_eq_true rfl) ?_
  refine W.eq (g2 := F0 m 4 ls []) rfl ?_
  refine lv_aload_n hx hb dX4_init_4 rfl (lv_at hl 0 rfl) ?_
  refine lv_sipush (v := 240) hx hb dX4_init_5 (by decide) ?_
  refine cn_newI hx hb (hts _ k_acI) hK hP hD hS hA (N := 240) (by decide) (by decide) (Nat.le_of_ble_eq_true rfl) (Nat.le_of_ble_eq_true rfl) (Nat.le_of_ble_eq_true rfl) dX4_init_8 (fun q8 H hP hD hS => ?_)
  have hP : va_P D vwCl [(h0, .inr (4, [.null, .null, .null, .null, .null, .null, .int 0, .int 0, .int 0, .int 0])), (q8, .inl (K.1, 240, .inl (fun _ => 0)))] H := hP
  have hD : va_D A [(h0, .inr (4, [.null, .null, .null, .null, .null, .null, .int 0, .int 0, .int 0, .int 0])), (q8, .inl (K.1, 240, .inl (fun _ => 0)))] := hD
  refine W.widen (k := 1) (n := 240) (Nat.le_of_ble_eq_true rfl) (Nat.le_of_ble_eq_true rfl) ?_
  refine va_putF (D := D) (ci := 4) (v := .ref q8) (ty := .array .int) (C := RX4) (T := TX4) (N := 10) hx hb hts clX4_in tyX4 tyX4_ok nmX4 hown hK hP hD hS 0 rfl rfl 1 (by decide) (hts _ kf_X4_11) (fun _ h9 => h9) rfl hin rfl (by decide +kernel) rfl rfl (Nat.le_of_ble_eq_true rfl) dX4_init_10 (fun H locs hP hD hS => ?_)
  have hP : va_P D vwCl [(h0, .inr (4, [.null, .ref q8, .null, .null, .null, .null, .int 0, .int 0, .int 0, .int 0])), (q8, .inl (K.1, 240, .inl (fun _ => 0)))] H := hP
  have hD : va_D A [(h0, .inr (4, [.null, .ref q8, .null, .null, .null, .null, .int 0, .int 0, .int 0, .int 0])), (q8, .inl (K.1, 240, .inl (fun _ => 0)))] := hD
  refine lv_aload_n hx hb dX4_init_13 rfl (lv_at hl 0 rfl) ?_
  refine lv_bipush (v := 40) hx hb dX4_init_14 (by decide) ?_
  refine cn_newI hx hb (hts _ k_acI) hK hP hD hS hA (N := 40) (by decide) (by decide) (Nat.le_of_ble_eq_true rfl) (Nat.le_of_ble_eq_true rfl) (Nat.le_of_ble_eq_true rfl) dX4_init_16 (fun q16 H hP hD hS => ?_)
  have hP : va_P D vwCl [(h0, .inr (4, [.null, .ref q8, .null, .null, .null, .null, .int 0, .int 0, .int 0, .int 0])), (q8, .inl (K.1, 240, .inl (fun _ => 0))), (q16, .inl (K.1, 40, .inl (fun _ => 0)))] H := hP
  have hD : va_D A [(h0, .inr (4, [.null, .ref q8, .null, .null, .null, .null, .int 0, .int 0, .int 0, .int 0])), (q8, .inl (K.1, 240, .inl (fun _ => 0))), (q16, .inl (K.1, 40, .inl (fun _ => 0)))] := hD
  refine W.widen (k := 2) (n := 280) (Nat.le_of_ble_eq_true rfl) (Nat.le_of_ble_eq_true rfl) ?_
  refine va_putF (D := D) (ci := 4) (v := .ref q16) (ty := .array .int) (C := RX4) (T := TX4) (N := 10) hx hb hts clX4_in tyX4 tyX4_ok nmX4 hown hK hP hD hS 0 rfl rfl 2 (by decide) (hts _ kf_X4_17) (fun _ h9 => h9) rfl hin rfl (by decide +kernel) rfl rfl (Nat.le_of_ble_eq_true rfl) dX4_init_18 (fun H locs hP hD hS => ?_)
  have hP : va_P D vwCl [(h0, .inr (4, [.null, .ref q8, .ref q16, .null, .null, .null, .int 0, .int 0, .int 0, .int 0])), (q8, .inl (K.1, 240, .inl (fun _ => 0))), (q16, .inl (K.1, 40, .inl (fun _ => 0)))] H := hP
  have hD : va_D A [(h0, .inr (4, [.null, .ref q8, .ref q16, .null, .null, .null, .int 0, .int 0, .int 0, .int 0])), (q8, .inl (K.1, 240, .inl (fun _ => 0))), (q16, .inl (K.1, 40, .inl (fun _ => 0)))] := hD
  refine lv_aload_n hx hb dX4_init_21 rfl (lv_at hl 0 rfl) ?_
  refine lv_bipush (v := 40) hx hb dX4_init_22 (by decide) ?_
  refine cn_newI hx hb (hts _ k_acI) hK hP hD hS hA (N := 40) (by decide) (by decide) (Nat.le_of_ble_eq_true rfl) (Nat.le_of_ble_eq_true rfl) (Nat.le_of_ble_eq_true rfl) dX4_init_24 (fun q24 H hP hD hS => ?_)
  have hP : va_P D vwCl [(h0, .inr (4, [.null, .ref q8, .ref q16, .null, .null, .null, .int 0, .int 0, .int 0, .int 0])), (q8, .inl (K.1, 240, .inl (fun _ => 0))), (q16, .inl (K.1, 40, .inl (fun _ => 0))), (q24, .inl (K.1, 40, .inl (fun _ => 0)))] H := hP
  have hD : va_D A [(h0, .inr (4, [.null, .ref q8, .ref q16, .null, .null, .null, .int 0, .int 0, .int 0, .int 0])), (q8, .inl (K.1, 240, .inl (fun _ => 0))), (q16, .inl (K.1, 40, .inl (fun _ => 0))), (q24, .inl (K.1, 40, .inl (fun _ => 0)))] := hD
  refine W.widen (k := 3) (n := 320) (Nat.le_of_ble_eq_true rfl) (Nat.le_of_ble_eq_true rfl) ?_
  refine va_putF (D := D) (ci := 4) (v := .ref q24) (ty := .array .int) (C := RX4) (T := TX4) (N := 10) hx hb hts clX4_in tyX4 tyX4_ok nmX4 hown hK hP hD hS 0 rfl rfl 3 (by decide) (hts _ kf_X4_20) (fun _ h9 => h9) rfl hin rfl (by decide +kernel) rfl rfl (Nat.le_of_ble_eq_true rfl) dX4_init_26 (fun H locs hP hD hS => ?_)
  have hP : va_P D vwCl [(h0, .inr (4, [.null, .ref q8, .ref q16, .ref q24, .null, .null, .int 0, .int 0, .int 0, .int 0])), (q8, .inl (K.1, 240, .inl (fun _ => 0))), (q16, .inl (K.1, 40, .inl (fun _ => 0))), (q24, .inl (K.1, 40, .inl (fun _ => 0)))] H := hP
  have hD : va_D A [(h0, .inr (4, [.null, .ref q8, .ref q16, .ref q24, .null, .null, .int 0, .int 0, .int 0, .int 0])), (q8, .inl (K.1, 240, .inl (fun _ => 0))), (q16, .inl (K.1, 40, .inl (fun _ => 0))), (q24, .inl (K.1, 40, .inl (fun _ => 0)))] := hD
  refine lv_aload_n hx hb dX4_init_29 rfl (lv_at hl 0 rfl) ?_
  refine lv_bipush (v := 6) hx hb dX4_init_30 (by decide) ?_
  refine cn_newI hx hb (hts _ k_acI) hK hP hD hS hA (N := 6) (by decide) (by decide) (Nat.le_of_ble_eq_true rfl) (Nat.le_of_ble_eq_true rfl) (Nat.le_of_ble_eq_true rfl) dX4_init_32 (fun q32 H hP hD hS => ?_)
  have hP : va_P D vwCl [(h0, .inr (4, [.null, .ref q8, .ref q16, .ref q24, .null, .null, .int 0, .int 0, .int 0, .int 0])), (q8, .inl (K.1, 240, .inl (fun _ => 0))), (q16, .inl (K.1, 40, .inl (fun _ => 0))), (q24, .inl (K.1, 40, .inl (fun _ => 0))), (q32, .inl (K.1, 6, .inl (fun _ => 0)))] H := hP
  have hD : va_D A [(h0, .inr (4, [.null, .ref q8, .ref q16, .ref q24, .null, .null, .int 0, .int 0, .int 0, .int 0])), (q8, .inl (K.1, 240, .inl (fun _ => 0))), (q16, .inl (K.1, 40, .inl (fun _ => 0))), (q24, .inl (K.1, 40, .inl (fun _ => 0))), (q32, .inl (K.1, 6, .inl (fun _ => 0)))] := hD
  refine W.widen (k := 4) (n := 326) (Nat.le_of_ble_eq_true rfl) (Nat.le_of_ble_eq_true rfl) ?_
  refine va_putF (D := D) (ci := 4) (v := .ref q32) (ty := .array .int) (C := RX4) (T := TX4) (N := 10) hx hb hts clX4_in tyX4 tyX4_ok nmX4 hown hK hP hD hS 0 rfl rfl 4 (by decide) (hts _ kf_X4_23) (fun _ h9 => h9) rfl hin rfl (by decide +kernel) rfl rfl (Nat.le_of_ble_eq_true rfl) dX4_init_34 (fun H locs hP hD hS => ?_)
  have hP : va_P D vwCl [(h0, .inr (4, [.null, .ref q8, .ref q16, .ref q24, .ref q32, .null, .int 0, .int 0, .int 0, .int 0])), (q8, .inl (K.1, 240, .inl (fun _ => 0))), (q16, .inl (K.1, 40, .inl (fun _ => 0))), (q24, .inl (K.1, 40, .inl (fun _ => 0))), (q32, .inl (K.1, 6, .inl (fun _ => 0)))] H := hP
  have hD : va_D A [(h0, .inr (4, [.null, .ref q8, .ref q16, .ref q24, .ref q32, .null, .int 0, .int 0, .int 0, .int 0])), (q8, .inl (K.1, 240, .inl (fun _ => 0))), (q16, .inl (K.1, 40, .inl (fun _ => 0))), (q24, .inl (K.1, 40, .inl (fun _ => 0))), (q32, .inl (K.1, 6, .inl (fun _ => 0)))] := hD
  refine lv_aload_n hx hb dX4_init_37 rfl (lv_at hl 0 rfl) ?_
  refine lv_bipush (v := 6) hx hb dX4_init_38 (by decide) ?_
  refine cn_newI hx hb (hts _ k_acI) hK hP hD hS hA (N := 6) (by decide) (by decide) (Nat.le_of_ble_eq_true rfl) (Nat.le_of_ble_eq_true rfl) (Nat.le_of_ble_eq_true rfl) dX4_init_40 (fun q40 H hP hD hS => ?_)
  have hP : va_P D vwCl [(h0, .inr (4, [.null, .ref q8, .ref q16, .ref q24, .ref q32, .null, .int 0, .int 0, .int 0, .int 0])), (q8, .inl (K.1, 240, .inl (fun _ => 0))), (q16, .inl (K.1, 40, .inl (fun _ => 0))), (q24, .inl (K.1, 40, .inl (fun _ => 0))), (q32, .inl (K.1, 6, .inl (fun _ => 0))), (q40, .inl (K.1, 6, .inl (fun _ => 0)))] H := hP
  have hD : va_D A [(h0, .inr (4, [.null, .ref q8, .ref q16, .ref q24, .ref q32, .null, .int 0, .int 0, .int 0, .int 0])), (q8, .inl (K.1, 240, .inl (fun _ => 0))), (q16, .inl (K.1, 40, .inl (fun _ => 0))), (q24, .inl (K.1, 40, .inl (fun _ => 0))), (q32, .inl (K.1, 6, .inl (fun _ => 0))), (q40, .inl (K.1, 6, .inl (fun _ => 0)))] := hD
  refine W.widen (k := 5) (n := 332) (Nat.le_of_ble_eq_true rfl) (Nat.le_of_ble_eq_true rfl) ?_
  refine va_putF (D := D) (ci := 4) (v := .ref q40) (ty := .array .int) (C := RX4) (T := TX4) (N := 10) hx hb hts clX4_in tyX4 tyX4_ok nmX4 hown hK hP hD hS 0 rfl rfl 5 (by decide) (hts _ kf_X4_26) (fun _ h9 => h9) rfl hin rfl (by decide +kernel) rfl rfl (Nat.le_of_ble_eq_true rfl) dX4_init_42 (fun H locs hP hD hS => ?_)
  have hP : va_P D vwCl [(h0, .inr (4, [.null, .ref q8, .ref q16, .ref q24, .ref q32, .ref q40, .int 0, .int 0, .int 0, .int 0])), (q8, .inl (K.1, 240, .inl (fun _ => 0))), (q16, .inl (K.1, 40, .inl (fun _ => 0))), (q24, .inl (K.1, 40, .inl (fun _ => 0))), (q32, .inl (K.1, 6, .inl (fun _ => 0))), (q40, .inl (K.1, 6, .inl (fun _ => 0)))] H := hP
  have hD : va_D A [(h0, .inr (4, [.null, .ref q8, .ref q16, .ref q24, .ref q32, .ref q40, .int 0, .int 0, .int 0, .int 0])), (q8, .inl (K.1, 240, .inl (fun _ => 0))), (q16, .inl (K.1, 40, .inl (fun _ => 0))), (q24, .inl (K.1, 40, .inl (fun _ => 0))), (q32, .inl (K.1, 6, .inl (fun _ => 0))), (q40, .inl (K.1, 6, .inl (fun _ => 0)))] := hD
  refine lv_aload_n hx hb dX4_init_45 rfl (lv_at hl 0 rfl) ?_
  refine lv_aload_n hx hb dX4_init_46 rfl (lv_at hl 1 rfl) ?_
  refine va_putF (D := D) (ci := 4) (v := .ref r1) (ty := .object "LuggageBelt$Hall") (C := RX4) (T := TX4) (N := 10) hx hb hts clX4_in tyX4 tyX4_ok nmX4 hown hK hP hD hS 0 rfl rfl 0 (by decide) (hts _ kf_X4_29) (fun _ h9 => h9) rfl hin rfl (by decide +kernel) rfl rfl (Nat.le_of_ble_eq_true rfl) dX4_init_47 (fun H locs hP hD hS => ?_)
  have hP : va_P D vwCl [(h0, .inr (4, [.ref r1, .ref q8, .ref q16, .ref q24, .ref q32, .ref q40, .int 0, .int 0, .int 0, .int 0])), (q8, .inl (K.1, 240, .inl (fun _ => 0))), (q16, .inl (K.1, 40, .inl (fun _ => 0))), (q24, .inl (K.1, 40, .inl (fun _ => 0))), (q32, .inl (K.1, 6, .inl (fun _ => 0))), (q40, .inl (K.1, 6, .inl (fun _ => 0)))] H := hP
  have hD : va_D A [(h0, .inr (4, [.ref r1, .ref q8, .ref q16, .ref q24, .ref q32, .ref q40, .int 0, .int 0, .int 0, .int 0])), (q8, .inl (K.1, 240, .inl (fun _ => 0))), (q16, .inl (K.1, 40, .inl (fun _ => 0))), (q24, .inl (K.1, 40, .inl (fun _ => 0))), (q32, .inl (K.1, 6, .inl (fun _ => 0))), (q40, .inl (K.1, 6, .inl (fun _ => 0)))] := hD
  refine W.widen (k := 5) (n := 332) (Nat.le_of_ble_eq_true rfl) (Nat.le_of_ble_eq_true rfl) ?_
  exact W.vret hx hb hr (fun t ht hW => ⟨⟨(fun k => ([q8, q16, q24, q32, q40] : List Nat).getD k 0), rfl, trivial, by rw [ht]; exact hP, va_K.moved hW.alike hK, hD⟩, hS.F ht⟩) hS.2.2 dX4_init_50

def cw_X8_init (K : amK) (h0 : Nat) (a : Nat → Nat) : va_W := [(h0, .inr (8, [.ref (a 0), .int 0, .ref (a 1), .ref (a 2), .ref (a 3), .ref (a 4), .ref (a 5), .int 0, .int 0, .int 0, .ref (a 6), .int 0, .int 0, .int 0, .int 0, .ref (a 7), .int 0, .int 0, .int 0, .ref (a 8), .ref (a 9)])), ((a 0), .inl (K.1, 1092, .inl (fun _ => 0))), ((a 1), .inl (K.2.1, 2, .inl (fun _ => 0))), ((a 2), .inl (K.1, 8, .inl (fun _ => 0))), ((a 3), .inl (K.1, 8, .inl (upd (upd (upd (upd (upd (upd (upd (upd (fun _ => 0) 0 (-1)) 1 (-1)) 2 (-1)) 3 (-1)) 4 (-1)) 5 (-1)) 6 (-1)) 7 (-1)))), ((a 4), .inl (K.1, 320, .inl (fun _ => 0))), ((a 5), .inl (K.1, 110, .inl (fun _ => 0))), ((a 6), .inl (K.1, 16, .inl (fun _ => 0))), ((a 7), .inl (K.1, 6, .inl (upd (upd (upd (upd (upd (upd (fun _ => 0) 0 0) 1 1) 2 2) 3 3) 4 4) 5 5))), ((a 8), .inl (K.1, 6, .inl (fun _ => 0))), ((a 9), .inl (K.1, 16, .inl (fun _ => 0)))]
set_option maxHeartbeats 4000000 in
set_option maxRecDepth 100000 in
theorem c_X8_init (l : Launch) (D : va_G) (K : amK) (h0 : Nat) (sz : Nat) : Met l yX8_init (wT yX8_init cX8_init 1 none) ({ frames := 2, cells := 10, slots := 1584, locals := 64 }) (va_Pc [.ref h0] (fun U => U.heap.size = sz ∧ va_P D vwCl [(h0, .inr (8, [.null, .int 0, .null, .null, .null, .null, .null, .int 0, .int 0, .int 0, .null, .int 0, .int 0, .int 0, .int 0, .null, .int 0, .int 0, .int 0, .null, .null]))] U.heap ∧ va_K D vwCl (am_tys K) U ∧ va_D (fun _ => True) [(h0, .inr (8, [.null, .int 0, .null, .null, .null, .null, .null, .int 0, .int 0, .int 0, .null, .int 0, .int 0, .int 0, .int 0, .null, .int 0, .int 0, .int 0, .null, .null]))])) (va_Qv (fun _ : Nat → Nat => True) (fun a t => va_P D vwCl (cw_X8_init K h0  a) t.heap ∧ va_K D vwCl (am_tys K) t ∧ va_D (va_A [(h0, .inr (8, [.null, .int 0, .null, .null, .null, .null, .null, .int 0, .int 0, .int 0, .null, .int 0, .int 0, .int 0, .int 0, .null, .int 0, .int 0, .int 0, .null, .null]))] sz) (cw_X8_init K h0  a)) (va_A [(h0, .inr (8, [.null, .int 0, .null, .null, .null, .null, .null, .int 0, .int 0, .int 0, .null, .int 0, .int 0, .int 0, .int 0, .null, .int 0, .int 0, .int 0, .null, .null]))] sz)) 10 1584 (va_A [(h0, .inr (8, [.null, .int 0, .null, .null, .null, .null, .null, .int 0, .int 0, .int 0, .null, .int 0, .int 0, .int 0, .int 0, .null, .int 0, .int 0, .int 0, .null, .null]))] sz) := by
  refine Met.ofW (cc := cX8_init) (maxL := 1) (ret := none) pn_X8 rfl ?_
  intro p e s m args below meth c s₁ B hml hv
  obtain ⟨rfl, hsz, hP, hK, hD0⟩ := hv
  have hx := B.exec
  have hb := B.bytes
  have hr := B.returns
  have hts0 := atoms_spec (ws := wT yX8_init cX8_init 1 none) B.pre
  have hts : ∀ w ∈ lw_t, w.before ([.ref h0] : List Value).toArray s = true := fun w hw => hts0 w (List.mem_cons_of_mem _ hw)
  have hown : s.vm.findClass RX8 = some m.cls := findClass_of_methodNamed B.named
  have hlocks := B.notSynchronized
  have hin : meth.name = "<init>" := (name_of_methodNamed B.named B.method).1
  subst hsz
  have hD := hD0.self (sz := s.heap.size)
  generalize hAe : va_A [(h0, .inr (8, [.null, .int 0, .null, .null, .null, .null, .null, .int 0, .int 0, .int 0, .null, .int 0, .int 0, .int 0, .int 0, .null, .int 0, .int 0, .int 0, .null, .null]))] s.heap.size = A at hD ⊢
  have hA : ∀ q : Nat, s.heap.size ≤ q → A q := fun q h => by rw [← hAe]; exact Or.inr h
  have hS : va_S A s.heap s.heap [] := va_S.rf
  have hl := lv_entry ([.ref h0]) (n := 1) (Nat.le_of_ble_eq_true rfl)
  rw [lg_entry_eq]
  generalize (lg_sl ([.ref h0]) ++ List.replicate (1 - (lg_sl ([.ref h0])).length) Slot.unset).toArray = ls at hl ⊢
  have hl : lv_has ls 1 [(0, .ref h0)] := hl
  refine lv_aload_n hx hb dX8_init_0 rfl (lv_at hl 0 rfl) ?_
  refine W.objInit hx hb hown (hts _ km_X8_1) (hts _ k_oi_inst) (hts _ k_oi_code) rfl (by rw [hml]; exact hl.1) rfl dX8_init_1 (Nat.le_of_ble_eq_true rfl) (Nat.le_of_ble_eq_true rfl) ?_
  refine W.eq (g2 := F0 m 4 ls []) rfl ?_
  refine lv_aload_n hx hb dX8_init_4 rfl (lv_at hl 0 rfl) ?_
  refine lv_sipush (v := 1092) hx hb dX8_init_5 (by decide) ?_
  refine cn_newI hx hb (hts _ k_acI) hK hP hD hS hA (N := 1092) (by decide) (by decide) (Nat.le_of_ble_eq_true rfl) (Nat.le_of_ble_eq_true rfl) (Nat.le_of_ble_eq_true rfl) dX8_init_8 (fun q8 H hP hD hS => ?_)
  have hP : va_P D vwCl [(h0, .inr (8, [.null, .int 0, .null, .null, .null, .null, .null, .int 0, .int 0, .int 0, .null, .int 0, .int 0, .int 0, .int 0, .null, .int 0, .int 0, .int 0, .null, .null])), (q8, .inl (K.1, 1092, .inl (fun _ => 0)))] H := hP
  have hD : va_D A [(h0, .inr (8, [.null, .int 0, .null, .null, .null, .null, .null, .int 0, .int 0, .int 0, .null, .int 0, .int 0, .int 0, .int 0, .null, .int 0, .int 0, .int 0, .null, .null])), (q8, .inl (K.1, 1092, .inl (fun _ => 0)))] := hD
  refine W.widen (k := 1) (n := 1092) (Nat.le_of_ble_eq_true rfl) (Nat.le_of_ble_eq_true rfl) ?_
  refine va_putF (D := D) (ci := 8) (v := .ref q8) (ty := .array .int) (C := RX8) (T := TX8) (N := 21) hx hb hts clX8_in tyX8 tyX8_ok nmX8 hown hK hP hD hS 0 rfl rfl 0 (by decide) (hts _ kf_X8_7) (fun _ h9 => h9) rfl hin rfl (by decide +kernel) rfl rfl (Nat.le_of_ble_eq_true rfl) dX8_init_10 (fun H locs hP hD hS => ?_)
  have hP : va_P D vwCl [(h0, .inr (8, [.ref q8, .int 0, .null, .null, .null, .null, .null, .int 0, .int 0, .int 0, .null, .int 0, .int 0, .int 0, .int 0, .null, .int 0, .int 0, .int 0, .null, .null])), (q8, .inl (K.1, 1092, .inl (fun _ => 0)))] H := hP
  have hD : va_D A [(h0, .inr (8, [.ref q8, .int 0, .null, .null, .null, .null, .null, .int 0, .int 0, .int 0, .null, .int 0, .int 0, .int 0, .int 0, .null, .int 0, .int 0, .int 0, .null, .null])), (q8, .inl (K.1, 1092, .inl (fun _ => 0)))] := hD
  refine lv_aload_n hx hb dX8_init_13 rfl (lv_at hl 0 rfl) ?_
  refine lv_iconst (v := 2) hx hb dX8_init_14 (by decide) ?_
  refine cn_newZ hx hb (hts _ k_acZ) hK hP hD hS hA (N := 2) (by decide) (by decide) (Nat.le_of_ble_eq_true rfl) (Nat.le_of_ble_eq_true rfl) (Nat.le_of_ble_eq_true rfl) dX8_init_15 (fun q15 H hP hD hS => ?_)
  have hP : va_P D vwCl [(h0, .inr (8, [.ref q8, .int 0, .null, .null, .null, .null, .null, .int 0, .int 0, .int 0, .null, .int 0, .int 0, .int 0, .int 0, .null, .int 0, .int 0, .int 0, .null, .null])), (q8, .inl (K.1, 1092, .inl (fun _ => 0))), (q15, .inl (K.2.1, 2, .inl (fun _ => 0)))] H := hP
  have hD : va_D A [(h0, .inr (8, [.ref q8, .int 0, .null, .null, .null, .null, .null, .int 0, .int 0, .int 0, .null, .int 0, .int 0, .int 0, .int 0, .null, .int 0, .int 0, .int 0, .null, .null])), (q8, .inl (K.1, 1092, .inl (fun _ => 0))), (q15, .inl (K.2.1, 2, .inl (fun _ => 0)))] := hD
  refine W.widen (k := 2) (n := 1094) (Nat.le_of_ble_eq_true rfl) (Nat.le_of_ble_eq_true rfl) ?_
  refine va_putF (D := D) (ci := 8) (v := .ref q15) (ty := .array .boolean) (C := RX8) (T := TX8) (N := 21) hx hb hts clX8_in tyX8 tyX8_ok nmX8 hown hK hP hD hS 0 rfl rfl 2 (by decide) (hts _ kf_X8_13) (fun _ h9 => h9) rfl hin rfl (by decide +kernel) rfl rfl (Nat.le_of_ble_eq_true rfl) dX8_init_17 (fun H locs hP hD hS => ?_)
  have hP : va_P D vwCl [(h0, .inr (8, [.ref q8, .int 0, .ref q15, .null, .null, .null, .null, .int 0, .int 0, .int 0, .null, .int 0, .int 0, .int 0, .int 0, .null, .int 0, .int 0, .int 0, .null, .null])), (q8, .inl (K.1, 1092, .inl (fun _ => 0))), (q15, .inl (K.2.1, 2, .inl (fun _ => 0)))] H := hP
  have hD : va_D A [(h0, .inr (8, [.ref q8, .int 0, .ref q15, .null, .null, .null, .null, .int 0, .int 0, .int 0, .null, .int 0, .int 0, .int 0, .int 0, .null, .int 0, .int 0, .int 0, .null, .null])), (q8, .inl (K.1, 1092, .inl (fun _ => 0))), (q15, .inl (K.2.1, 2, .inl (fun _ => 0)))] := hD
  refine lv_aload_n hx hb dX8_init_20 rfl (lv_at hl 0 rfl) ?_
  refine lv_bipush (v := 8) hx hb dX8_init_21 (by decide) ?_
  refine cn_newI hx hb (hts _ k_acI) hK hP hD hS hA (N := 8) (by decide) (by decide) (Nat.le_of_ble_eq_true rfl) (Nat.le_of_ble_eq_true rfl) (Nat.le_of_ble_eq_true rfl) dX8_init_23 (fun q23 H hP hD hS => ?_)
  have hP : va_P D vwCl [(h0, .inr (8, [.ref q8, .int 0, .ref q15, .null, .null, .null, .null, .int 0, .int 0, .int 0, .null, .int 0, .int 0, .int 0, .int 0, .null, .int 0, .int 0, .int 0, .null, .null])), (q8, .inl (K.1, 1092, .inl (fun _ => 0))), (q15, .inl (K.2.1, 2, .inl (fun _ => 0))), (q23, .inl (K.1, 8, .inl (fun _ => 0)))] H := hP
  have hD : va_D A [(h0, .inr (8, [.ref q8, .int 0, .ref q15, .null, .null, .null, .null, .int 0, .int 0, .int 0, .null, .int 0, .int 0, .int 0, .int 0, .null, .int 0, .int 0, .int 0, .null, .null])), (q8, .inl (K.1, 1092, .inl (fun _ => 0))), (q15, .inl (K.2.1, 2, .inl (fun _ => 0))), (q23, .inl (K.1, 8, .inl (fun _ => 0)))] := hD
  refine W.widen (k := 3) (n := 1102) (Nat.le_of_ble_eq_true rfl) (Nat.le_of_ble_eq_true rfl) ?_
  refine va_putF (D := D) (ci := 8) (v := .ref q23) (ty := .array .int) (C := RX8) (T := TX8) (N := 21) hx hb hts clX8_in tyX8 tyX8_ok nmX8 hown hK hP hD hS 0 rfl rfl 3 (by decide) (hts _ kf_X8_17) (fun _ h9 => h9) rfl hin rfl (by decide +kernel) rfl rfl (Nat.le_of_ble_eq_true rfl) dX8_init_25 (fun H locs hP hD hS => ?_)
  have hP : va_P D vwCl [(h0, .inr (8, [.ref q8, .int 0, .ref q15, .ref q23, .null, .null, .null, .int 0, .int 0, .int 0, .null, .int 0, .int 0, .int 0, .int 0, .null, .int 0, .int 0, .int 0, .null, .null])), (q8, .inl (K.1, 1092, .inl (fun _ => 0))), (q15, .inl (K.2.1, 2, .inl (fun _ => 0))), (q23, .inl (K.1, 8, .inl (fun _ => 0)))] H := hP
  have hD : va_D A [(h0, .inr (8, [.ref q8, .int 0, .ref q15, .ref q23, .null, .null, .null, .int 0, .int 0, .int 0, .null, .int 0, .int 0, .int 0, .int 0, .null, .int 0, .int 0, .int 0, .null, .null])), (q8, .inl (K.1, 1092, .inl (fun _ => 0))), (q15, .inl (K.2.1, 2, .inl (fun _ => 0))), (q23, .inl (K.1, 8, .inl (fun _ => 0)))] := hD
  refine lv_aload_n hx hb dX8_init_28 rfl (lv_at hl 0 rfl) ?_
  refine lv_bipush (v := 8) hx hb dX8_init_29 (by decide) ?_
  refine cn_newI hx hb (hts _ k_acI) hK hP hD hS hA (N := 8) (by decide) (by decide) (Nat.le_of_ble_eq_true rfl) (Nat.le_of_ble_eq_true rfl) (Nat.le_of_ble_eq_true rfl) dX8_init_31 (fun q31 H hP hD hS => ?_)
  have hP : va_P D vwCl [(h0, .inr (8, [.ref q8, .int 0, .ref q15, .ref q23, .null, .null, .null, .int 0, .int 0, .int 0, .null, .int 0, .int 0, .int 0, .int 0, .null, .int 0, .int 0, .int 0, .null, .null])), (q8, .inl (K.1, 1092, .inl (fun _ => 0))), (q15, .inl (K.2.1, 2, .inl (fun _ => 0))), (q23, .inl (K.1, 8, .inl (fun _ => 0))), (q31, .inl (K.1, 8, .inl (fun _ => 0)))] H := hP
  have hD : va_D A [(h0, .inr (8, [.ref q8, .int 0, .ref q15, .ref q23, .null, .null, .null, .int 0, .int 0, .int 0, .null, .int 0, .int 0, .int 0, .int 0, .null, .int 0, .int 0, .int 0, .null, .null])), (q8, .inl (K.1, 1092, .inl (fun _ => 0))), (q15, .inl (K.2.1, 2, .inl (fun _ => 0))), (q23, .inl (K.1, 8, .inl (fun _ => 0))), (q31, .inl (K.1, 8, .inl (fun _ => 0)))] := hD
  refine W.widen (k := 4) (n := 1110) (Nat.le_of_ble_eq_true rfl) (Nat.le_of_ble_eq_true rfl) ?_
  refine lv_dup hx hb dX8_init_33 rfl ?_
  refine lv_iconst (v := 0) hx hb dX8_init_34 (by decide) ?_
  refine lv_iconst (v := -1) hx hb dX8_init_35 (by decide) ?_
  refine va_iast hx hb hK hP hD hS 4 0 rfl rfl (show vp_in 0 8 by unfold vp_in; decide) dX8_init_36 (fun H locs hP hD hS => ?_)
  have hP : va_P D vwCl [(h0, .inr (8, [.ref q8, .int 0, .ref q15, .ref q23, .null, .null, .null, .int 0, .int 0, .int 0, .null, .int 0, .int 0, .int 0, .int 0, .null, .int 0, .int 0, .int 0, .null, .null])), (q8, .inl (K.1, 1092, .inl (fun _ => 0))), (q15, .inl (K.2.1, 2, .inl (fun _ => 0))), (q23, .inl (K.1, 8, .inl (fun _ => 0))), (q31, .inl (K.1, 8, .inl (upd (fun _ => 0) 0 (-1))))] H := hP
  have hD : va_D A [(h0, .inr (8, [.ref q8, .int 0, .ref q15, .ref q23, .null, .null, .null, .int 0, .int 0, .int 0, .null, .int 0, .int 0, .int 0, .int 0, .null, .int 0, .int 0, .int 0, .null, .null])), (q8, .inl (K.1, 1092, .inl (fun _ => 0))), (q15, .inl (K.2.1, 2, .inl (fun _ => 0))), (q23, .inl (K.1, 8, .inl (fun _ => 0))), (q31, .inl (K.1, 8, .inl (upd (fun _ => 0) 0 (-1))))] := hD
  refine lv_dup hx hb dX8_init_37 rfl ?_
  refine lv_iconst (v := 1) hx hb dX8_init_38 (by decide) ?_
  refine lv_iconst (v := -1) hx hb dX8_init_39 (by decide) ?_
  refine va_iast hx hb hK hP hD hS 4 0 rfl rfl (show vp_in 1 8 by unfold vp_in; decide) dX8_init_40 (fun H locs hP hD hS => ?_)
  have hP : va_P D vwCl [(h0, .inr (8, [.ref q8, .int 0, .ref q15, .ref q23, .null, .null, .null, .int 0, .int 0, .int 0, .null, .int 0, .int 0, .int 0, .int 0, .null, .int 0, .int 0, .int 0, .null, .null])), (q8, .inl (K.1, 1092, .inl (fun _ => 0))), (q15, .inl (K.2.1, 2, .inl (fun _ => 0))), (q23, .inl (K.1, 8, .inl (fun _ => 0))), (q31, .inl (K.1, 8, .inl (upd (upd (fun _ => 0) 0 (-1)) 1 (-1))))] H := hP
  have hD : va_D A [(h0, .inr (8, [.ref q8, .int 0, .ref q15, .ref q23, .null, .null, .null, .int 0, .int 0, .int 0, .null, .int 0, .int 0, .int 0, .int 0, .null, .int 0, .int 0, .int 0, .null, .null])), (q8, .inl (K.1, 1092, .inl (fun _ => 0))), (q15, .inl (K.2.1, 2, .inl (fun _ => 0))), (q23, .inl (K.1, 8, .inl (fun _ => 0))), (q31, .inl (K.1, 8, .inl (upd (upd (fun _ => 0) 0 (-1)) 1 (-1))))] := hD
  refine lv_dup hx hb dX8_init_41 rfl ?_
  refine lv_iconst (v := 2) hx hb dX8_init_42 (by decide) ?_
  refine lv_iconst (v := -1) hx hb dX8_init_43 (by decide) ?_
  refine va_iast hx hb hK hP hD hS 4 0 rfl rfl (show vp_in 2 8 by unfold vp_in; decide) dX8_init_44 (fun H locs hP hD hS => ?_)
  have hP : va_P D vwCl [(h0, .inr (8, [.ref q8, .int 0, .ref q15, .ref q23, .null, .null, .null, .int 0, .int 0, .int 0, .null, .int 0, .int 0, .int 0, .int 0, .null, .int 0, .int 0, .int 0, .null, .null])), (q8, .inl (K.1, 1092, .inl (fun _ => 0))), (q15, .inl (K.2.1, 2, .inl (fun _ => 0))), (q23, .inl (K.1, 8, .inl (fun _ => 0))), (q31, .inl (K.1, 8, .inl (upd (upd (upd (fun _ => 0) 0 (-1)) 1 (-1)) 2 (-1))))] H := hP
  have hD : va_D A [(h0, .inr (8, [.ref q8, .int 0, .ref q15, .ref q23, .null, .null, .null, .int 0, .int 0, .int 0, .null, .int 0, .int 0, .int 0, .int 0, .null, .int 0, .int 0, .int 0, .null, .null])), (q8, .inl (K.1, 1092, .inl (fun _ => 0))), (q15, .inl (K.2.1, 2, .inl (fun _ => 0))), (q23, .inl (K.1, 8, .inl (fun _ => 0))), (q31, .inl (K.1, 8, .inl (upd (upd (upd (fun _ => 0) 0 (-1)) 1 (-1)) 2 (-1))))] := hD
  refine lv_dup hx hb dX8_init_45 rfl ?_
  refine lv_iconst (v := 3) hx hb dX8_init_46 (by decide) ?_
  refine lv_iconst (v := -1) hx hb dX8_init_47 (by decide) ?_
  refine va_iast hx hb hK hP hD hS 4 0 rfl rfl (show vp_in 3 8 by unfold vp_in; decide) dX8_init_48 (fun H locs hP hD hS => ?_)
  have hP : va_P D vwCl [(h0, .inr (8, [.ref q8, .int 0, .ref q15, .ref q23, .null, .null, .null, .int 0, .int 0, .int 0, .null, .int 0, .int 0, .int 0, .int 0, .null, .int 0, .int 0, .int 0, .null, .null])), (q8, .inl (K.1, 1092, .inl (fun _ => 0))), (q15, .inl (K.2.1, 2, .inl (fun _ => 0))), (q23, .inl (K.1, 8, .inl (fun _ => 0))), (q31, .inl (K.1, 8, .inl (upd (upd (upd (upd (fun _ => 0) 0 (-1)) 1 (-1)) 2 (-1)) 3 (-1))))] H := hP
  have hD : va_D A [(h0, .inr (8, [.ref q8, .int 0, .ref q15, .ref q23, .null, .null, .null, .int 0, .int 0, .int 0, .null, .int 0, .int 0, .int 0, .int 0, .null, .int 0, .int 0, .int 0, .null, .null])), (q8, .inl (K.1, 1092, .inl (fun _ => 0))), (q15, .inl (K.2.1, 2, .inl (fun _ => 0))), (q23, .inl (K.1, 8, .inl (fun _ => 0))), (q31, .inl (K.1, 8, .inl (upd (upd (upd (upd (fun _ => 0) 0 (-1)) 1 (-1)) 2 (-1)) 3 (-1))))] := hD
  refine lv_dup hx hb dX8_init_49 rfl ?_
  refine lv_iconst (v := 4) hx hb dX8_init_50 (by decide) ?_
  refine lv_iconst (v := -1) hx hb dX8_init_51 (by decide) ?_
  refine va_iast hx hb hK hP hD hS 4 0 rfl rfl (show vp_in 4 8 by unfold vp_in; decide) dX8_init_52 (fun H locs hP hD hS => ?_)
  have hP : va_P D vwCl [(h0, .inr (8, [.ref q8, .int 0, .ref q15, .ref q23, .null, .null, .null, .int 0, .int 0, .int 0, .null, .int 0, .int 0, .int 0, .int 0, .null, .int 0, .int 0, .int 0, .null, .null])), (q8, .inl (K.1, 1092, .inl (fun _ => 0))), (q15, .inl (K.2.1, 2, .inl (fun _ => 0))), (q23, .inl (K.1, 8, .inl (fun _ => 0))), (q31, .inl (K.1, 8, .inl (upd (upd (upd (upd (upd (fun _ => 0) 0 (-1)) 1 (-1)) 2 (-1)) 3 (-1)) 4 (-1))))] H := hP
  have hD : va_D A [(h0, .inr (8, [.ref q8, .int 0, .ref q15, .ref q23, .null, .null, .null, .int 0, .int 0, .int 0, .null, .int 0, .int 0, .int 0, .int 0, .null, .int 0, .int 0, .int 0, .null, .null])), (q8, .inl (K.1, 1092, .inl (fun _ => 0))), (q15, .inl (K.2.1, 2, .inl (fun _ => 0))), (q23, .inl (K.1, 8, .inl (fun _ => 0))), (q31, .inl (K.1, 8, .inl (upd (upd (upd (upd (upd (fun _ => 0) 0 (-1)) 1 (-1)) 2 (-1)) 3 (-1)) 4 (-1))))] := hD
  refine lv_dup hx hb dX8_init_53 rfl ?_
  refine lv_iconst (v := 5) hx hb dX8_init_54 (by decide) ?_
  refine lv_iconst (v := -1) hx hb dX8_init_55 (by decide) ?_
  refine va_iast hx hb hK hP hD hS 4 0 rfl rfl (show vp_in 5 8 by unfold vp_in; decide) dX8_init_56 (fun H locs hP hD hS => ?_)
  have hP : va_P D vwCl [(h0, .inr (8, [.ref q8, .int 0, .ref q15, .ref q23, .null, .null, .null, .int 0, .int 0, .int 0, .null, .int 0, .int 0, .int 0, .int 0, .null, .int 0, .int 0, .int 0, .null, .null])), (q8, .inl (K.1, 1092, .inl (fun _ => 0))), (q15, .inl (K.2.1, 2, .inl (fun _ => 0))), (q23, .inl (K.1, 8, .inl (fun _ => 0))), (q31, .inl (K.1, 8, .inl (upd (upd (upd (upd (upd (upd (fun _ => 0) 0 (-1)) 1 (-1)) 2 (-1)) 3 (-1)) 4 (-1)) 5 (-1))))] H := hP
  have hD : va_D A [(h0, .inr (8, [.ref q8, .int 0, .ref q15, .ref q23, .null, .null, .null, .int 0, .int 0, .int 0, .null, .int 0, .int 0, .int 0, .int 0, .null, .int 0, .int 0, .int 0, .null, .null])), (q8, .inl (K.1, 1092, .inl (fun _ => 0))), (q15, .inl (K.2.1, 2, .inl (fun _ => 0))), (q23, .inl (K.1, 8, .inl (fun _ => 0))), (q31, .inl (K.1, 8, .inl (upd (upd (upd (upd (upd (upd (fun _ => 0) 0 (-1)) 1 (-1)) 2 (-1)) 3 (-1)) 4 (-1)) 5 (-1))))] := hD
  refine lv_dup hx hb dX8_init_57 rfl ?_
  refine lv_bipush (v := 6) hx hb dX8_init_58 (by decide) ?_
  refine lv_iconst (v := -1) hx hb dX8_init_60 (by decide) ?_
  refine va_iast hx hb hK hP hD hS 4 0 rfl rfl (show vp_in 6 8 by unfold vp_in; decide) dX8_init_61 (fun H locs hP hD hS => ?_)
  have hP : va_P D vwCl [(h0, .inr (8, [.ref q8, .int 0, .ref q15, .ref q23, .null, .null, .null, .int 0, .int 0, .int 0, .null, .int 0, .int 0, .int 0, .int 0, .null, .int 0, .int 0, .int 0, .null, .null])), (q8, .inl (K.1, 1092, .inl (fun _ => 0))), (q15, .inl (K.2.1, 2, .inl (fun _ => 0))), (q23, .inl (K.1, 8, .inl (fun _ => 0))), (q31, .inl (K.1, 8, .inl (upd (upd (upd (upd (upd (upd (upd (fun _ => 0) 0 (-1)) 1 (-1)) 2 (-1)) 3 (-1)) 4 (-1)) 5 (-1)) 6 (-1))))] H := hP
  have hD : va_D A [(h0, .inr (8, [.ref q8, .int 0, .ref q15, .ref q23, .null, .null, .null, .int 0, .int 0, .int 0, .null, .int 0, .int 0, .int 0, .int 0, .null, .int 0, .int 0, .int 0, .null, .null])), (q8, .inl (K.1, 1092, .inl (fun _ => 0))), (q15, .inl (K.2.1, 2, .inl (fun _ => 0))), (q23, .inl (K.1, 8, .inl (fun _ => 0))), (q31, .inl (K.1, 8, .inl (upd (upd (upd (upd (upd (upd (upd (fun _ => 0) 0 (-1)) 1 (-1)) 2 (-1)) 3 (-1)) 4 (-1)) 5 (-1)) 6 (-1))))] := hD
  refine lv_dup hx hb dX8_init_62 rfl ?_
  refine lv_bipush (v := 7) hx hb dX8_init_63 (by decide) ?_
  refine lv_iconst (v := -1) hx hb dX8_init_65 (by decide) ?_
  refine va_iast hx hb hK hP hD hS 4 0 rfl rfl (show vp_in 7 8 by unfold vp_in; decide) dX8_init_66 (fun H locs hP hD hS => ?_)
  have hP : va_P D vwCl [(h0, .inr (8, [.ref q8, .int 0, .ref q15, .ref q23, .null, .null, .null, .int 0, .int 0, .int 0, .null, .int 0, .int 0, .int 0, .int 0, .null, .int 0, .int 0, .int 0, .null, .null])), (q8, .inl (K.1, 1092, .inl (fun _ => 0))), (q15, .inl (K.2.1, 2, .inl (fun _ => 0))), (q23, .inl (K.1, 8, .inl (fun _ => 0))), (q31, .inl (K.1, 8, .inl (upd (upd (upd (upd (upd (upd (upd (upd (fun _ => 0) 0 (-1)) 1 (-1)) 2 (-1)) 3 (-1)) 4 (-1)) 5 (-1)) 6 (-1)) 7 (-1))))] H := hP
  have hD : va_D A [(h0, .inr (8, [.ref q8, .int 0, .ref q15, .ref q23, .null, .null, .null, .int 0, .int 0, .int 0, .null, .int 0, .int 0, .int 0, .int 0, .null, .int 0, .int 0, .int 0, .null, .null])), (q8, .inl (K.1, 1092, .inl (fun _ => 0))), (q15, .inl (K.2.1, 2, .inl (fun _ => 0))), (q23, .inl (K.1, 8, .inl (fun _ => 0))), (q31, .inl (K.1, 8, .inl (upd (upd (upd (upd (upd (upd (upd (upd (fun _ => 0) 0 (-1)) 1 (-1)) 2 (-1)) 3 (-1)) 4 (-1)) 5 (-1)) 6 (-1)) 7 (-1))))] := hD
  refine va_putF (D := D) (ci := 8) (v := .ref q31) (ty := .array .int) (C := RX8) (T := TX8) (N := 21) hx hb hts clX8_in tyX8 tyX8_ok nmX8 hown hK hP hD hS 0 rfl rfl 4 (by decide) (hts _ kf_X8_20) (fun _ h9 => h9) rfl hin rfl (by decide +kernel) rfl rfl (Nat.le_of_ble_eq_true rfl) dX8_init_67 (fun H locs hP hD hS => ?_)
  have hP : va_P D vwCl [(h0, .inr (8, [.ref q8, .int 0, .ref q15, .ref q23, .ref q31, .null, .null, .int 0, .int 0, .int 0, .null, .int 0, .int 0, .int 0, .int 0, .null, .int 0, .int 0, .int 0, .null, .null])), (q8, .inl (K.1, 1092, .inl (fun _ => 0))), (q15, .inl (K.2.1, 2, .inl (fun _ => 0))), (q23, .inl (K.1, 8, .inl (fun _ => 0))), (q31, .inl (K.1, 8, .inl (upd (upd (upd (upd (upd (upd (upd (upd (fun _ => 0) 0 (-1)) 1 (-1)) 2 (-1)) 3 (-1)) 4 (-1)) 5 (-1)) 6 (-1)) 7 (-1))))] H := hP
  have hD : va_D A [(h0, .inr (8, [.ref q8, .int 0, .ref q15, .ref q23, .ref q31, .null, .null, .int 0, .int 0, .int 0, .null, .int 0, .int 0, .int 0, .int 0, .null, .int 0, .int 0, .int 0, .null, .null])), (q8, .inl (K.1, 1092, .inl (fun _ => 0))), (q15, .inl (K.2.1, 2, .inl (fun _ => 0))), (q23, .inl (K.1, 8, .inl (fun _ => 0))), (q31, .inl (K.1, 8, .inl (upd (upd (upd (upd (upd (upd (upd (upd (fun _ => 0) 0 (-1)) 1 (-1)) 2 (-1)) 3 (-1)) 4 (-1)) 5 (-1)) 6 (-1)) 7 (-1))))] := hD
  refine lv_aload_n hx hb dX8_init_70 rfl (lv_at hl 0 rfl) ?_
  refine lv_sipush (v := 320) hx hb dX8_init_71 (by decide) ?_
  refine cn_newI hx hb (hts _ k_acI) hK hP hD hS hA (N := 320) (by decide) (by decide) (Nat.le_of_ble_eq_true rfl) (Nat.le_of_ble_eq_true rfl) (Nat.le_of_ble_eq_true rfl) dX8_init_74 (fun q74 H hP hD hS => ?_)
  have hP : va_P D vwCl [(h0, .inr (8, [.ref q8, .int 0, .ref q15, .ref q23, .ref q31, .null, .null, .int 0, .int 0, .int 0, .null, .int 0, .int 0, .int 0, .int 0, .null, .int 0, .int 0, .int 0, .null, .null])), (q8, .inl (K.1, 1092, .inl (fun _ => 0))), (q15, .inl (K.2.1, 2, .inl (fun _ => 0))), (q23, .inl (K.1, 8, .inl (fun _ => 0))), (q31, .inl (K.1, 8, .inl (upd (upd (upd (upd (upd (upd (upd (upd (fun _ => 0) 0 (-1)) 1 (-1)) 2 (-1)) 3 (-1)) 4 (-1)) 5 (-1)) 6 (-1)) 7 (-1)))), (q74, .inl (K.1, 320, .inl (fun _ => 0)))] H := hP
  have hD : va_D A [(h0, .inr (8, [.ref q8, .int 0, .ref q15, .ref q23, .ref q31, .null, .null, .int 0, .int 0, .int 0, .null, .int 0, .int 0, .int 0, .int 0, .null, .int 0, .int 0, .int 0, .null, .null])), (q8, .inl (K.1, 1092, .inl (fun _ => 0))), (q15, .inl (K.2.1, 2, .inl (fun _ => 0))), (q23, .inl (K.1, 8, .inl (fun _ => 0))), (q31, .inl (K.1, 8, .inl (upd (upd (upd (upd (upd (upd (upd (upd (fun _ => 0) 0 (-1)) 1 (-1)) 2 (-1)) 3 (-1)) 4 (-1)) 5 (-1)) 6 (-1)) 7 (-1)))), (q74, .inl (K.1, 320, .inl (fun _ => 0)))] := hD
  refine W.widen (k := 5) (n := 1430) (Nat.le_of_ble_eq_true rfl) (Nat.le_of_ble_eq_true rfl) ?_
  refine va_putF (D := D) (ci := 8) (v := .ref q74) (ty := .array .int) (C := RX8) (T := TX8) (N := 21) hx hb hts clX8_in tyX8 tyX8_ok nmX8 hown hK hP hD hS 0 rfl rfl 5 (by decide) (hts _ kf_X8_23) (fun _ h9 => h9) rfl hin rfl (by decide +kernel) rfl rfl (Nat.le_of_ble_eq_true rfl) dX8_init_76 (fun H locs hP hD hS => ?_)
  have hP : va_P D vwCl [(h0, .inr (8, [.ref q8, .int 0, .ref q15, .ref q23, .ref q31, .ref q74, .null, .int 0, .int 0, .int 0, .null, .int 0, .int 0, .int 0, .int 0, .null, .int 0, .int 0, .int 0, .null, .null])), (q8, .inl (K.1, 1092, .inl (fun _ => 0))), (q15, .inl (K.2.1, 2, .inl (fun _ => 0))), (q23, .inl (K.1, 8, .inl (fun _ => 0))), (q31, .inl (K.1, 8, .inl (upd (upd (upd (upd (upd (upd (upd (upd (fun _ => 0) 0 (-1)) 1 (-1)) 2 (-1)) 3 (-1)) 4 (-1)) 5 (-1)) 6 (-1)) 7 (-1)))), (q74, .inl (K.1, 320, .inl (fun _ => 0)))] H := hP
  have hD : va_D A [(h0, .inr (8, [.ref q8, .int 0, .ref q15, .ref q23, .ref q31, .ref q74, .null, .int 0, .int 0, .int 0, .null, .int 0, .int 0, .int 0, .int 0, .null, .int 0, .int 0, .int 0, .null, .null])), (q8, .inl (K.1, 1092, .inl (fun _ => 0))), (q15, .inl (K.2.1, 2, .inl (fun _ => 0))), (q23, .inl (K.1, 8, .inl (fun _ => 0))), (q31, .inl (K.1, 8, .inl (upd (upd (upd (upd (upd (upd (upd (upd (fun _ => 0) 0 (-1)) 1 (-1)) 2 (-1)) 3 (-1)) 4 (-1)) 5 (-1)) 6 (-1)) 7 (-1)))), (q74, .inl (K.1, 320, .inl (fun _ => 0)))] := hD
  refine lv_aload_n hx hb dX8_init_79 rfl (lv_at hl 0 rfl) ?_
  refine lv_bipush (v := 110) hx hb dX8_init_80 (by decide) ?_
  refine cn_newI hx hb (hts _ k_acI) hK hP hD hS hA (N := 110) (by decide) (by decide) (Nat.le_of_ble_eq_true rfl) (Nat.le_of_ble_eq_true rfl) (Nat.le_of_ble_eq_true rfl) dX8_init_82 (fun q82 H hP hD hS => ?_)
  have hP : va_P D vwCl [(h0, .inr (8, [.ref q8, .int 0, .ref q15, .ref q23, .ref q31, .ref q74, .null, .int 0, .int 0, .int 0, .null, .int 0, .int 0, .int 0, .int 0, .null, .int 0, .int 0, .int 0, .null, .null])), (q8, .inl (K.1, 1092, .inl (fun _ => 0))), (q15, .inl (K.2.1, 2, .inl (fun _ => 0))), (q23, .inl (K.1, 8, .inl (fun _ => 0))), (q31, .inl (K.1, 8, .inl (upd (upd (upd (upd (upd (upd (upd (upd (fun _ => 0) 0 (-1)) 1 (-1)) 2 (-1)) 3 (-1)) 4 (-1)) 5 (-1)) 6 (-1)) 7 (-1)))), (q74, .inl (K.1, 320, .inl (fun _ => 0))), (q82, .inl (K.1, 110, .inl (fun _ => 0)))] H := hP
  have hD : va_D A [(h0, .inr (8, [.ref q8, .int 0, .ref q15, .ref q23, .ref q31, .ref q74, .null, .int 0, .int 0, .int 0, .null, .int 0, .int 0, .int 0, .int 0, .null, .int 0, .int 0, .int 0, .null, .null])), (q8, .inl (K.1, 1092, .inl (fun _ => 0))), (q15, .inl (K.2.1, 2, .inl (fun _ => 0))), (q23, .inl (K.1, 8, .inl (fun _ => 0))), (q31, .inl (K.1, 8, .inl (upd (upd (upd (upd (upd (upd (upd (upd (fun _ => 0) 0 (-1)) 1 (-1)) 2 (-1)) 3 (-1)) 4 (-1)) 5 (-1)) 6 (-1)) 7 (-1)))), (q74, .inl (K.1, 320, .inl (fun _ => 0))), (q82, .inl (K.1, 110, .inl (fun _ => 0)))] := hD
  refine W.widen (k := 6) (n := 1540) (Nat.le_of_ble_eq_true rfl) (Nat.le_of_ble_eq_true rfl) ?_
  refine va_putF (D := D) (ci := 8) (v := .ref q82) (ty := .array .int) (C := RX8) (T := TX8) (N := 21) hx hb hts clX8_in tyX8 tyX8_ok nmX8 hown hK hP hD hS 0 rfl rfl 6 (by decide) (hts _ kf_X8_26) (fun _ h9 => h9) rfl hin rfl (by decide +kernel) rfl rfl (Nat.le_of_ble_eq_true rfl) dX8_init_84 (fun H locs hP hD hS => ?_)
  have hP : va_P D vwCl [(h0, .inr (8, [.ref q8, .int 0, .ref q15, .ref q23, .ref q31, .ref q74, .ref q82, .int 0, .int 0, .int 0, .null, .int 0, .int 0, .int 0, .int 0, .null, .int 0, .int 0, .int 0, .null, .null])), (q8, .inl (K.1, 1092, .inl (fun _ => 0))), (q15, .inl (K.2.1, 2, .inl (fun _ => 0))), (q23, .inl (K.1, 8, .inl (fun _ => 0))), (q31, .inl (K.1, 8, .inl (upd (upd (upd (upd (upd (upd (upd (upd (fun _ => 0) 0 (-1)) 1 (-1)) 2 (-1)) 3 (-1)) 4 (-1)) 5 (-1)) 6 (-1)) 7 (-1)))), (q74, .inl (K.1, 320, .inl (fun _ => 0))), (q82, .inl (K.1, 110, .inl (fun _ => 0)))] H := hP
  have hD : va_D A [(h0, .inr (8, [.ref q8, .int 0, .ref q15, .ref q23, .ref q31, .ref q74, .ref q82, .int 0, .int 0, .int 0, .null, .int 0, .int 0, .int 0, .int 0, .null, .int 0, .int 0, .int 0, .null, .null])), (q8, .inl (K.1, 1092, .inl (fun _ => 0))), (q15, .inl (K.2.1, 2, .inl (fun _ => 0))), (q23, .inl (K.1, 8, .inl (fun _ => 0))), (q31, .inl (K.1, 8, .inl (upd (upd (upd (upd (upd (upd (upd (upd (fun _ => 0) 0 (-1)) 1 (-1)) 2 (-1)) 3 (-1)) 4 (-1)) 5 (-1)) 6 (-1)) 7 (-1)))), (q74, .inl (K.1, 320, .inl (fun _ => 0))), (q82, .inl (K.1, 110, .inl (fun _ => 0)))] := hD
  refine lv_aload_n hx hb dX8_init_87 rfl (lv_at hl 0 rfl) ?_
  refine lv_bipush (v := 16) hx hb dX8_init_88 (by decide) ?_
  refine cn_newI hx hb (hts _ k_acI) hK hP hD hS hA (N := 16) (by decide) (by decide) (Nat.le_of_ble_eq_true rfl) (Nat.le_of_ble_eq_true rfl) (Nat.le_of_ble_eq_true rfl) dX8_init_90 (fun q90 H hP hD hS => ?_)
  have hP : va_P D vwCl [(h0, .inr (8, [.ref q8, .int 0, .ref q15, .ref q23, .ref q31, .ref q74, .ref q82, .int 0, .int 0, .int 0, .null, .int 0, .int 0, .int 0, .int 0, .null, .int 0, .int 0, .int 0, .null, .null])), (q8, .inl (K.1, 1092, .inl (fun _ => 0))), (q15, .inl (K.2.1, 2, .inl (fun _ => 0))), (q23, .inl (K.1, 8, .inl (fun _ => 0))), (q31, .inl (K.1, 8, .inl (upd (upd (upd (upd (upd (upd (upd (upd (fun _ => 0) 0 (-1)) 1 (-1)) 2 (-1)) 3 (-1)) 4 (-1)) 5 (-1)) 6 (-1)) 7 (-1)))), (q74, .inl (K.1, 320, .inl (fun _ => 0))), (q82, .inl (K.1, 110, .inl (fun _ => 0))), (q90, .inl (K.1, 16, .inl (fun _ => 0)))] H := hP
  have hD : va_D A [(h0, .inr (8, [.ref q8, .int 0, .ref q15, .ref q23, .ref q31, .ref q74, .ref q82, .int 0, .int 0, .int 0, .null, .int 0, .int 0, .int 0, .int 0, .null, .int 0, .int 0, .int 0, .null, .null])), (q8, .inl (K.1, 1092, .inl (fun _ => 0))), (q15, .inl (K.2.1, 2, .inl (fun _ => 0))), (q23, .inl (K.1, 8, .inl (fun _ => 0))), (q31, .inl (K.1, 8, .inl (upd (upd (upd (upd (upd (upd (upd (upd (fun _ => 0) 0 (-1)) 1 (-1)) 2 (-1)) 3 (-1)) 4 (-1)) 5 (-1)) 6 (-1)) 7 (-1)))), (q74, .inl (K.1, 320, .inl (fun _ => 0))), (q82, .inl (K.1, 110, .inl (fun _ => 0))), (q90, .inl (K.1, 16, .inl (fun _ => 0)))] := hD
  refine W.widen (k := 7) (n := 1556) (Nat.le_of_ble_eq_true rfl) (Nat.le_of_ble_eq_true rfl) ?_
  refine va_putF (D := D) (ci := 8) (v := .ref q90) (ty := .array .int) (C := RX8) (T := TX8) (N := 21) hx hb hts clX8_in tyX8 tyX8_ok nmX8 hown hK hP hD hS 0 rfl rfl 10 (by decide) (hts _ kf_X8_29) (fun _ h9 => h9) rfl hin rfl (by decide +kernel) rfl rfl (Nat.le_of_ble_eq_true rfl) dX8_init_92 (fun H locs hP hD hS => ?_)
  have hP : va_P D vwCl [(h0, .inr (8, [.ref q8, .int 0, .ref q15, .ref q23, .ref q31, .ref q74, .ref q82, .int 0, .int 0, .int 0, .ref q90, .int 0, .int 0, .int 0, .int 0, .null, .int 0, .int 0, .int 0, .null, .null])), (q8, .inl (K.1, 1092, .inl (fun _ => 0))), (q15, .inl (K.2.1, 2, .inl (fun _ => 0))), (q23, .inl (K.1, 8, .inl (fun _ => 0))), (q31, .inl (K.1, 8, .inl (upd (upd (upd (upd (upd (upd (upd (upd (fun _ => 0) 0 (-1)) 1 (-1)) 2 (-1)) 3 (-1)) 4 (-1)) 5 (-1)) 6 (-1)) 7 (-1)))), (q74, .inl (K.1, 320, .inl (fun _ => 0))), (q82, .inl (K.1, 110, .inl (fun _ => 0))), (q90, .inl (K.1, 16, .inl (fun _ => 0)))] H := hP
  have hD : va_D A [(h0, .inr (8, [.ref q8, .int 0, .ref q15, .ref q23, .ref q31, .ref q74, .ref q82, .int 0, .int 0, .int 0, .ref q90, .int 0, .int 0, .int 0, .int 0, .null, .int 0, .int 0, .int 0, .null, .null])), (q8, .inl (K.1, 1092, .inl (fun _ => 0))), (q15, .inl (K.2.1, 2, .inl (fun _ => 0))), (q23, .inl (K.1, 8, .inl (fun _ => 0))), (q31, .inl (K.1, 8, .inl (upd (upd (upd (upd (upd (upd (upd (upd (fun _ => 0) 0 (-1)) 1 (-1)) 2 (-1)) 3 (-1)) 4 (-1)) 5 (-1)) 6 (-1)) 7 (-1)))), (q74, .inl (K.1, 320, .inl (fun _ => 0))), (q82, .inl (K.1, 110, .inl (fun _ => 0))), (q90, .inl (K.1, 16, .inl (fun _ => 0)))] := hD
  refine lv_aload_n hx hb dX8_init_95 rfl (lv_at hl 0 rfl) ?_
  refine lv_bipush (v := 6) hx hb dX8_init_96 (by decide) ?_
  refine cn_newI hx hb (hts _ k_acI) hK hP hD hS hA (N := 6) (by decide) (by decide) (Nat.le_of_ble_eq_true rfl) (Nat.le_of_ble_eq_true rfl) (Nat.le_of_ble_eq_true rfl) dX8_init_98 (fun q98 H hP hD hS => ?_)
  have hP : va_P D vwCl [(h0, .inr (8, [.ref q8, .int 0, .ref q15, .ref q23, .ref q31, .ref q74, .ref q82, .int 0, .int 0, .int 0, .ref q90, .int 0, .int 0, .int 0, .int 0, .null, .int 0, .int 0, .int 0, .null, .null])), (q8, .inl (K.1, 1092, .inl (fun _ => 0))), (q15, .inl (K.2.1, 2, .inl (fun _ => 0))), (q23, .inl (K.1, 8, .inl (fun _ => 0))), (q31, .inl (K.1, 8, .inl (upd (upd (upd (upd (upd (upd (upd (upd (fun _ => 0) 0 (-1)) 1 (-1)) 2 (-1)) 3 (-1)) 4 (-1)) 5 (-1)) 6 (-1)) 7 (-1)))), (q74, .inl (K.1, 320, .inl (fun _ => 0))), (q82, .inl (K.1, 110, .inl (fun _ => 0))), (q90, .inl (K.1, 16, .inl (fun _ => 0))), (q98, .inl (K.1, 6, .inl (fun _ => 0)))] H := hP
  have hD : va_D A [(h0, .inr (8, [.ref q8, .int 0, .ref q15, .ref q23, .ref q31, .ref q74, .ref q82, .int 0, .int 0, .int 0, .ref q90, .int 0, .int 0, .int 0, .int 0, .null, .int 0, .int 0, .int 0, .null, .null])), (q8, .inl (K.1, 1092, .inl (fun _ => 0))), (q15, .inl (K.2.1, 2, .inl (fun _ => 0))), (q23, .inl (K.1, 8, .inl (fun _ => 0))), (q31, .inl (K.1, 8, .inl (upd (upd (upd (upd (upd (upd (upd (upd (fun _ => 0) 0 (-1)) 1 (-1)) 2 (-1)) 3 (-1)) 4 (-1)) 5 (-1)) 6 (-1)) 7 (-1)))), (q74, .inl (K.1, 320, .inl (fun _ => 0))), (q82, .inl (K.1, 110, .inl (fun _ => 0))), (q90, .inl (K.1, 16, .inl (fun _ => 0))), (q98, .inl (K.1, 6, .inl (fun _ => 0)))] := hD
  refine W.widen (k := 8) (n := 1562) (Nat.le_of_ble_eq_true rfl) (Nat.le_of_ble_eq_true rfl) ?_
  refine lv_dup hx hb dX8_init_100 rfl ?_
  refine lv_iconst (v := 0) hx hb dX8_init_101 (by decide) ?_
  refine lv_iconst (v := 0) hx hb dX8_init_102 (by decide) ?_
  refine va_iast hx hb hK hP hD hS 8 0 rfl rfl (show vp_in 0 6 by unfold vp_in; decide) dX8_init_103 (fun H locs hP hD hS => ?_)
  have hP : va_P D vwCl [(h0, .inr (8, [.ref q8, .int 0, .ref q15, .ref q23, .ref q31, .ref q74, .ref q82, .int 0, .int 0, .int 0, .ref q90, .int 0, .int 0, .int 0, .int 0, .null, .int 0, .int 0, .int 0, .null, .null])), (q8, .inl (K.1, 1092, .inl (fun _ => 0))), (q15, .inl (K.2.1, 2, .inl (fun _ => 0))), (q23, .inl (K.1, 8, .inl (fun _ => 0))), (q31, .inl (K.1, 8, .inl (upd (upd (upd (upd (upd (upd (upd (upd (fun _ => 0) 0 (-1)) 1 (-1)) 2 (-1)) 3 (-1)) 4 (-1)) 5 (-1)) 6 (-1)) 7 (-1)))), (q74, .inl (K.1, 320, .inl (fun _ => 0))), (q82, .inl (K.1, 110, .inl (fun _ => 0))), (q90, .inl (K.1, 16, .inl (fun _ => 0))), (q98, .inl (K.1, 6, .inl (upd (fun _ => 0) 0 0)))] H := hP
  have hD : va_D A [(h0, .inr (8, [.ref q8, .int 0, .ref q15, .ref q23, .ref q31, .ref q74, .ref q82, .int 0, .int 0, .int 0, .ref q90, .int 0, .int 0, .int 0, .int 0, .null, .int 0, .int 0, .int 0, .null, .null])), (q8, .inl (K.1, 1092, .inl (fun _ => 0))), (q15, .inl (K.2.1, 2, .inl (fun _ => 0))), (q23, .inl (K.1, 8, .inl (fun _ => 0))), (q31, .inl (K.1, 8, .inl (upd (upd (upd (upd (upd (upd (upd (upd (fun _ => 0) 0 (-1)) 1 (-1)) 2 (-1)) 3 (-1)) 4 (-1)) 5 (-1)) 6 (-1)) 7 (-1)))), (q74, .inl (K.1, 320, .inl (fun _ => 0))), (q82, .inl (K.1, 110, .inl (fun _ => 0))), (q90, .inl (K.1, 16, .inl (fun _ => 0))), (q98, .inl (K.1, 6, .inl (upd (fun _ => 0) 0 0)))] := hD
  refine lv_dup hx hb dX8_init_104 rfl ?_
  refine lv_iconst (v := 1) hx hb dX8_init_105 (by decide) ?_
  refine lv_iconst (v := 1) hx hb dX8_init_106 (by decide) ?_
  refine va_iast hx hb hK hP hD hS 8 0 rfl rfl (show vp_in 1 6 by unfold vp_in; decide) dX8_init_107 (fun H locs hP hD hS => ?_)
  have hP : va_P D vwCl [(h0, .inr (8, [.ref q8, .int 0, .ref q15, .ref q23, .ref q31, .ref q74, .ref q82, .int 0, .int 0, .int 0, .ref q90, .int 0, .int 0, .int 0, .int 0, .null, .int 0, .int 0, .int 0, .null, .null])), (q8, .inl (K.1, 1092, .inl (fun _ => 0))), (q15, .inl (K.2.1, 2, .inl (fun _ => 0))), (q23, .inl (K.1, 8, .inl (fun _ => 0))), (q31, .inl (K.1, 8, .inl (upd (upd (upd (upd (upd (upd (upd (upd (fun _ => 0) 0 (-1)) 1 (-1)) 2 (-1)) 3 (-1)) 4 (-1)) 5 (-1)) 6 (-1)) 7 (-1)))), (q74, .inl (K.1, 320, .inl (fun _ => 0))), (q82, .inl (K.1, 110, .inl (fun _ => 0))), (q90, .inl (K.1, 16, .inl (fun _ => 0))), (q98, .inl (K.1, 6, .inl (upd (upd (fun _ => 0) 0 0) 1 1)))] H := hP
  have hD : va_D A [(h0, .inr (8, [.ref q8, .int 0, .ref q15, .ref q23, .ref q31, .ref q74, .ref q82, .int 0, .int 0, .int 0, .ref q90, .int 0, .int 0, .int 0, .int 0, .null, .int 0, .int 0, .int 0, .null, .null])), (q8, .inl (K.1, 1092, .inl (fun _ => 0))), (q15, .inl (K.2.1, 2, .inl (fun _ => 0))), (q23, .inl (K.1, 8, .inl (fun _ => 0))), (q31, .inl (K.1, 8, .inl (upd (upd (upd (upd (upd (upd (upd (upd (fun _ => 0) 0 (-1)) 1 (-1)) 2 (-1)) 3 (-1)) 4 (-1)) 5 (-1)) 6 (-1)) 7 (-1)))), (q74, .inl (K.1, 320, .inl (fun _ => 0))), (q82, .inl (K.1, 110, .inl (fun _ => 0))), (q90, .inl (K.1, 16, .inl (fun _ => 0))), (q98, .inl (K.1, 6, .inl (upd (upd (fun _ => 0) 0 0) 1 1)))] := hD
  refine lv_dup hx hb dX8_init_108 rfl ?_
  refine lv_iconst (v := 2) hx hb dX8_init_109 (by decide) ?_
  refine lv_iconst (v := 2) hx hb dX8_init_110 (by decide) ?_
  refine va_iast hx hb hK hP hD hS 8 0 rfl rfl (show vp_in 2 6 by unfold vp_in; decide) dX8_init_111 (fun H locs hP hD hS => ?_)
  have hP : va_P D vwCl [(h0, .inr (8, [.ref q8, .int 0, .ref q15, .ref q23, .ref q31, .ref q74, .ref q82, .int 0, .int 0, .int 0, .ref q90, .int 0, .int 0, .int 0, .int 0, .null, .int 0, .int 0, .int 0, .null, .null])), (q8, .inl (K.1, 1092, .inl (fun _ => 0))), (q15, .inl (K.2.1, 2, .inl (fun _ => 0))), (q23, .inl (K.1, 8, .inl (fun _ => 0))), (q31, .inl (K.1, 8, .inl (upd (upd (upd (upd (upd (upd (upd (upd (fun _ => 0) 0 (-1)) 1 (-1)) 2 (-1)) 3 (-1)) 4 (-1)) 5 (-1)) 6 (-1)) 7 (-1)))), (q74, .inl (K.1, 320, .inl (fun _ => 0))), (q82, .inl (K.1, 110, .inl (fun _ => 0))), (q90, .inl (K.1, 16, .inl (fun _ => 0))), (q98, .inl (K.1, 6, .inl (upd (upd (upd (fun _ => 0) 0 0) 1 1) 2 2)))] H := hP
  have hD : va_D A [(h0, .inr (8, [.ref q8, .int 0, .ref q15, .ref q23, .ref q31, .ref q74, .ref q82, .int 0, .int 0, .int 0, .ref q90, .int 0, .int 0, .int 0, .int 0, .null, .int 0, .int 0, .int 0, .null, .null])), (q8, .inl (K.1, 1092, .inl (fun _ => 0))), (q15, .inl (K.2.1, 2, .inl (fun _ => 0))), (q23, .inl (K.1, 8, .inl (fun _ => 0))), (q31, .inl (K.1, 8, .inl (upd (upd (upd (upd (upd (upd (upd (upd (fun _ => 0) 0 (-1)) 1 (-1)) 2 (-1)) 3 (-1)) 4 (-1)) 5 (-1)) 6 (-1)) 7 (-1)))), (q74, .inl (K.1, 320, .inl (fun _ => 0))), (q82, .inl (K.1, 110, .inl (fun _ => 0))), (q90, .inl (K.1, 16, .inl (fun _ => 0))), (q98, .inl (K.1, 6, .inl (upd (upd (upd (fun _ => 0) 0 0) 1 1) 2 2)))] := hD
  refine lv_dup hx hb dX8_init_112 rfl ?_
  refine lv_iconst (v := 3) hx hb dX8_init_113 (by decide) ?_
  refine lv_iconst (v := 3) hx hb dX8_init_114 (by decide) ?_
  refine va_iast hx hb hK hP hD hS 8 0 rfl rfl (show vp_in 3 6 by unfold vp_in; decide) dX8_init_115 (fun H locs hP hD hS => ?_)
  have hP : va_P D vwCl [(h0, .inr (8, [.ref q8, .int 0, .ref q15, .ref q23, .ref q31, .ref q74, .ref q82, .int 0, .int 0, .int 0, .ref q90, .int 0, .int 0, .int 0, .int 0, .null, .int 0, .int 0, .int 0, .null, .null])), (q8, .inl (K.1, 1092, .inl (fun _ => 0))), (q15, .inl (K.2.1, 2, .inl (fun _ => 0))), (q23, .inl (K.1, 8, .inl (fun _ => 0))), (q31, .inl (K.1, 8, .inl (upd (upd (upd (upd (upd (upd (upd (upd (fun _ => 0) 0 (-1)) 1 (-1)) 2 (-1)) 3 (-1)) 4 (-1)) 5 (-1)) 6 (-1)) 7 (-1)))), (q74, .inl (K.1, 320, .inl (fun _ => 0))), (q82, .inl (K.1, 110, .inl (fun _ => 0))), (q90, .inl (K.1, 16, .inl (fun _ => 0))), (q98, .inl (K.1, 6, .inl (upd (upd (upd (upd (fun _ => 0) 0 0) 1 1) 2 2) 3 3)))] H := hP
  have hD : va_D A [(h0, .inr (8, [.ref q8, .int 0, .ref q15, .ref q23, .ref q31, .ref q74, .ref q82, .int 0, .int 0, .int 0, .ref q90, .int 0, .int 0, .int 0, .int 0, .null, .int 0, .int 0, .int 0, .null, .null])), (q8, .inl (K.1, 1092, .inl (fun _ => 0))), (q15, .inl (K.2.1, 2, .inl (fun _ => 0))), (q23, .inl (K.1, 8, .inl (fun _ => 0))), (q31, .inl (K.1, 8, .inl (upd (upd (upd (upd (upd (upd (upd (upd (fun _ => 0) 0 (-1)) 1 (-1)) 2 (-1)) 3 (-1)) 4 (-1)) 5 (-1)) 6 (-1)) 7 (-1)))), (q74, .inl (K.1, 320, .inl (fun _ => 0))), (q82, .inl (K.1, 110, .inl (fun _ => 0))), (q90, .inl (K.1, 16, .inl (fun _ => 0))), (q98, .inl (K.1, 6, .inl (upd (upd (upd (upd (fun _ => 0) 0 0) 1 1) 2 2) 3 3)))] := hD
  refine lv_dup hx hb dX8_init_116 rfl ?_
  refine lv_iconst (v := 4) hx hb dX8_init_117 (by decide) ?_
  refine lv_iconst (v := 4) hx hb dX8_init_118 (by decide) ?_
  refine va_iast hx hb hK hP hD hS 8 0 rfl rfl (show vp_in 4 6 by unfold vp_in; decide) dX8_init_119 (fun H locs hP hD hS => ?_)
  have hP : va_P D vwCl [(h0, .inr (8, [.ref q8, .int 0, .ref q15, .ref q23, .ref q31, .ref q74, .ref q82, .int 0, .int 0, .int 0, .ref q90, .int 0, .int 0, .int 0, .int 0, .null, .int 0, .int 0, .int 0, .null, .null])), (q8, .inl (K.1, 1092, .inl (fun _ => 0))), (q15, .inl (K.2.1, 2, .inl (fun _ => 0))), (q23, .inl (K.1, 8, .inl (fun _ => 0))), (q31, .inl (K.1, 8, .inl (upd (upd (upd (upd (upd (upd (upd (upd (fun _ => 0) 0 (-1)) 1 (-1)) 2 (-1)) 3 (-1)) 4 (-1)) 5 (-1)) 6 (-1)) 7 (-1)))), (q74, .inl (K.1, 320, .inl (fun _ => 0))), (q82, .inl (K.1, 110, .inl (fun _ => 0))), (q90, .inl (K.1, 16, .inl (fun _ => 0))), (q98, .inl (K.1, 6, .inl (upd (upd (upd (upd (upd (fun _ => 0) 0 0) 1 1) 2 2) 3 3) 4 4)))] H := hP
  have hD : va_D A [(h0, .inr (8, [.ref q8, .int 0, .ref q15, .ref q23, .ref q31, .ref q74, .ref q82, .int 0, .int 0, .int 0, .ref q90, .int 0, .int 0, .int 0, .int 0, .null, .int 0, .int 0, .int 0, .null, .null])), (q8, .inl (K.1, 1092, .inl (fun _ => 0))), (q15, .inl (K.2.1, 2, .inl (fun _ => 0))), (q23, .inl (K.1, 8, .inl (fun _ => 0))), (q31, .inl (K.1, 8, .inl (upd (upd (upd (upd (upd (upd (upd (upd (fun _ => 0) 0 (-1)) 1 (-1)) 2 (-1)) 3 (-1)) 4 (-1)) 5 (-1)) 6 (-1)) 7 (-1)))), (q74, .inl (K.1, 320, .inl (fun _ => 0))), (q82, .inl (K.1, 110, .inl (fun _ => 0))), (q90, .inl (K.1, 16, .inl (fun _ => 0))), (q98, .inl (K.1, 6, .inl (upd (upd (upd (upd (upd (fun _ => 0) 0 0) 1 1) 2 2) 3 3) 4 4)))] := hD
  refine lv_dup hx hb dX8_init_120 rfl ?_
  refine lv_iconst (v := 5) hx hb dX8_init_121 (by decide) ?_
  refine lv_iconst (v := 5) hx hb dX8_init_122 (by decide) ?_
  refine va_iast hx hb hK hP hD hS 8 0 rfl rfl (show vp_in 5 6 by unfold vp_in; decide) dX8_init_123 (fun H locs hP hD hS => ?_)
  have hP : va_P D vwCl [(h0, .inr (8, [.ref q8, .int 0, .ref q15, .ref q23, .ref q31, .ref q74, .ref q82, .int 0, .int 0, .int 0, .ref q90, .int 0, .int 0, .int 0, .int 0, .null, .int 0, .int 0, .int 0, .null, .null])), (q8, .inl (K.1, 1092, .inl (fun _ => 0))), (q15, .inl (K.2.1, 2, .inl (fun _ => 0))), (q23, .inl (K.1, 8, .inl (fun _ => 0))), (q31, .inl (K.1, 8, .inl (upd (upd (upd (upd (upd (upd (upd (upd (fun _ => 0) 0 (-1)) 1 (-1)) 2 (-1)) 3 (-1)) 4 (-1)) 5 (-1)) 6 (-1)) 7 (-1)))), (q74, .inl (K.1, 320, .inl (fun _ => 0))), (q82, .inl (K.1, 110, .inl (fun _ => 0))), (q90, .inl (K.1, 16, .inl (fun _ => 0))), (q98, .inl (K.1, 6, .inl (upd (upd (upd (upd (upd (upd (fun _ => 0) 0 0) 1 1) 2 2) 3 3) 4 4) 5 5)))] H := hP
  have hD : va_D A [(h0, .inr (8, [.ref q8, .int 0, .ref q15, .ref q23, .ref q31, .ref q74, .ref q82, .int 0, .int 0, .int 0, .ref q90, .int 0, .int 0, .int 0, .int 0, .null, .int 0, .int 0, .int 0, .null, .null])), (q8, .inl (K.1, 1092, .inl (fun _ => 0))), (q15, .inl (K.2.1, 2, .inl (fun _ => 0))), (q23, .inl (K.1, 8, .inl (fun _ => 0))), (q31, .inl (K.1, 8, .inl (upd (upd (upd (upd (upd (upd (upd (upd (fun _ => 0) 0 (-1)) 1 (-1)) 2 (-1)) 3 (-1)) 4 (-1)) 5 (-1)) 6 (-1)) 7 (-1)))), (q74, .inl (K.1, 320, .inl (fun _ => 0))), (q82, .inl (K.1, 110, .inl (fun _ => 0))), (q90, .inl (K.1, 16, .inl (fun _ => 0))), (q98, .inl (K.1, 6, .inl (upd (upd (upd (upd (upd (upd (fun _ => 0) 0 0) 1 1) 2 2) 3 3) 4 4) 5 5)))] := hD
  refine va_putF (D := D) (ci := 8) (v := .ref q98) (ty := .array .int) (C := RX8) (T := TX8) (N := 21) hx hb hts clX8_in tyX8 tyX8_ok nmX8 hown hK hP hD hS 0 rfl rfl 15 (by decide) (hts _ kf_X8_32) (fun _ h9 => h9) rfl hin rfl (by decide +kernel) rfl rfl (Nat.le_of_ble_eq_true rfl) dX8_init_124 (fun H locs hP hD hS => ?_)
  have hP : va_P D vwCl [(h0, .inr (8, [.ref q8, .int 0, .ref q15, .ref q23, .ref q31, .ref q74, .ref q82, .int 0, .int 0, .int 0, .ref q90, .int 0, .int 0, .int 0, .int 0, .ref q98, .int 0, .int 0, .int 0, .null, .null])), (q8, .inl (K.1, 1092, .inl (fun _ => 0))), (q15, .inl (K.2.1, 2, .inl (fun _ => 0))), (q23, .inl (K.1, 8, .inl (fun _ => 0))), (q31, .inl (K.1, 8, .inl (upd (upd (upd (upd (upd (upd (upd (upd (fun _ => 0) 0 (-1)) 1 (-1)) 2 (-1)) 3 (-1)) 4 (-1)) 5 (-1)) 6 (-1)) 7 (-1)))), (q74, .inl (K.1, 320, .inl (fun _ => 0))), (q82, .inl (K.1, 110, .inl (fun _ => 0))), (q90, .inl (K.1, 16, .inl (fun _ => 0))), (q98, .inl (K.1, 6, .inl (upd (upd (upd (upd (upd (upd (fun _ => 0) 0 0) 1 1) 2 2) 3 3) 4 4) 5 5)))] H := hP
  have hD : va_D A [(h0, .inr (8, [.ref q8, .int 0, .ref q15, .ref q23, .ref q31, .ref q74, .ref q82, .int 0, .int 0, .int 0, .ref q90, .int 0, .int 0, .int 0, .int 0, .ref q98, .int 0, .int 0, .int 0, .null, .null])), (q8, .inl (K.1, 1092, .inl (fun _ => 0))), (q15, .inl (K.2.1, 2, .inl (fun _ => 0))), (q23, .inl (K.1, 8, .inl (fun _ => 0))), (q31, .inl (K.1, 8, .inl (upd (upd (upd (upd (upd (upd (upd (upd (fun _ => 0) 0 (-1)) 1 (-1)) 2 (-1)) 3 (-1)) 4 (-1)) 5 (-1)) 6 (-1)) 7 (-1)))), (q74, .inl (K.1, 320, .inl (fun _ => 0))), (q82, .inl (K.1, 110, .inl (fun _ => 0))), (q90, .inl (K.1, 16, .inl (fun _ => 0))), (q98, .inl (K.1, 6, .inl (upd (upd (upd (upd (upd (upd (fun _ => 0) 0 0) 1 1) 2 2) 3 3) 4 4) 5 5)))] := hD
  refine lv_aload_n hx hb dX8_init_127 rfl (lv_at hl 0 rfl) ?_
  refine lv_bipush (v := 6) hx hb dX8_init_128 (by decide) ?_
  refine cn_newI hx hb (hts _ k_acI) hK hP hD hS hA (N := 6) (by decide) (by decide) (Nat.le_of_ble_eq_true rfl) (Nat.le_of_ble_eq_true rfl) (Nat.le_of_ble_eq_true rfl) dX8_init_130 (fun q130 H hP hD hS => ?_)
  have hP : va_P D vwCl [(h0, .inr (8, [.ref q8, .int 0, .ref q15, .ref q23, .ref q31, .ref q74, .ref q82, .int 0, .int 0, .int 0, .ref q90, .int 0, .int 0, .int 0, .int 0, .ref q98, .int 0, .int 0, .int 0, .null, .null])), (q8, .inl (K.1, 1092, .inl (fun _ => 0))), (q15, .inl (K.2.1, 2, .inl (fun _ => 0))), (q23, .inl (K.1, 8, .inl (fun _ => 0))), (q31, .inl (K.1, 8, .inl (upd (upd (upd (upd (upd (upd (upd (upd (fun _ => 0) 0 (-1)) 1 (-1)) 2 (-1)) 3 (-1)) 4 (-1)) 5 (-1)) 6 (-1)) 7 (-1)))), (q74, .inl (K.1, 320, .inl (fun _ => 0))), (q82, .inl (K.1, 110, .inl (fun _ => 0))), (q90, .inl (K.1, 16, .inl (fun _ => 0))), (q98, .inl (K.1, 6, .inl (upd (upd (upd (upd (upd (upd (fun _ => 0) 0 0) 1 1) 2 2) 3 3) 4 4) 5 5))), (q130, .inl (K.1, 6, .inl (fun _ => 0)))] H := hP
  have hD : va_D A [(h0, .inr (8, [.ref q8, .int 0, .ref q15, .ref q23, .ref q31, .ref q74, .ref q82, .int 0, .int 0, .int 0, .ref q90, .int 0, .int 0, .int 0, .int 0, .ref q98, .int 0, .int 0, .int 0, .null, .null])), (q8, .inl (K.1, 1092, .inl (fun _ => 0))), (q15, .inl (K.2.1, 2, .inl (fun _ => 0))), (q23, .inl (K.1, 8, .inl (fun _ => 0))), (q31, .inl (K.1, 8, .inl (upd (upd (upd (upd (upd (upd (upd (upd (fun _ => 0) 0 (-1)) 1 (-1)) 2 (-1)) 3 (-1)) 4 (-1)) 5 (-1)) 6 (-1)) 7 (-1)))), (q74, .inl (K.1, 320, .inl (fun _ => 0))), (q82, .inl (K.1, 110, .inl (fun _ => 0))), (q90, .inl (K.1, 16, .inl (fun _ => 0))), (q98, .inl (K.1, 6, .inl (upd (upd (upd (upd (upd (upd (fun _ => 0) 0 0) 1 1) 2 2) 3 3) 4 4) 5 5))), (q130, .inl (K.1, 6, .inl (fun _ => 0)))] := hD
  refine W.widen (k := 9) (n := 1568) (Nat.le_of_ble_eq_true rfl) (Nat.le_of_ble_eq_true rfl) ?_
  refine va_putF (D := D) (ci := 8) (v := .ref q130) (ty := .array .int) (C := RX8) (T := TX8) (N := 21) hx hb hts clX8_in tyX8 tyX8_ok nmX8 hown hK hP hD hS 0 rfl rfl 19 (by decide) (hts _ kf_X8_35) (fun _ h9 => h9) rfl hin rfl (by decide +kernel) rfl rfl (Nat.le_of_ble_eq_true rfl) dX8_init_132 (fun H locs hP hD hS => ?_)
  have hP : va_P D vwCl [(h0, .inr (8, [.ref q8, .int 0, .ref q15, .ref q23, .ref q31, .ref q74, .ref q82, .int 0, .int 0, .int 0, .ref q90, .int 0, .int 0, .int 0, .int 0, .ref q98, .int 0, .int 0, .int 0, .ref q130, .null])), (q8, .inl (K.1, 1092, .inl (fun _ => 0))), (q15, .inl (K.2.1, 2, .inl (fun _ => 0))), (q23, .inl (K.1, 8, .inl (fun _ => 0))), (q31, .inl (K.1, 8, .inl (upd (upd (upd (upd (upd (upd (upd (upd (fun _ => 0) 0 (-1)) 1 (-1)) 2 (-1)) 3 (-1)) 4 (-1)) 5 (-1)) 6 (-1)) 7 (-1)))), (q74, .inl (K.1, 320, .inl (fun _ => 0))), (q82, .inl (K.1, 110, .inl (fun _ => 0))), (q90, .inl (K.1, 16, .inl (fun _ => 0))), (q98, .inl (K.1, 6, .inl (upd (upd (upd (upd (upd (upd (fun _ => 0) 0 0) 1 1) 2 2) 3 3) 4 4) 5 5))), (q130, .inl (K.1, 6, .inl (fun _ => 0)))] H := hP
  have hD : va_D A [(h0, .inr (8, [.ref q8, .int 0, .ref q15, .ref q23, .ref q31, .ref q74, .ref q82, .int 0, .int 0, .int 0, .ref q90, .int 0, .int 0, .int 0, .int 0, .ref q98, .int 0, .int 0, .int 0, .ref q130, .null])), (q8, .inl (K.1, 1092, .inl (fun _ => 0))), (q15, .inl (K.2.1, 2, .inl (fun _ => 0))), (q23, .inl (K.1, 8, .inl (fun _ => 0))), (q31, .inl (K.1, 8, .inl (upd (upd (upd (upd (upd (upd (upd (upd (fun _ => 0) 0 (-1)) 1 (-1)) 2 (-1)) 3 (-1)) 4 (-1)) 5 (-1)) 6 (-1)) 7 (-1)))), (q74, .inl (K.1, 320, .inl (fun _ => 0))), (q82, .inl (K.1, 110, .inl (fun _ => 0))), (q90, .inl (K.1, 16, .inl (fun _ => 0))), (q98, .inl (K.1, 6, .inl (upd (upd (upd (upd (upd (upd (fun _ => 0) 0 0) 1 1) 2 2) 3 3) 4 4) 5 5))), (q130, .inl (K.1, 6, .inl (fun _ => 0)))] := hD
  refine lv_aload_n hx hb dX8_init_135 rfl (lv_at hl 0 rfl) ?_
  refine lv_bipush (v := 16) hx hb dX8_init_136 (by decide) ?_
  refine cn_newI hx hb (hts _ k_acI) hK hP hD hS hA (N := 16) (by decide) (by decide) (Nat.le_of_ble_eq_true rfl) (Nat.le_of_ble_eq_true rfl) (Nat.le_of_ble_eq_true rfl) dX8_init_138 (fun q138 H hP hD hS => ?_)
  have hP : va_P D vwCl [(h0, .inr (8, [.ref q8, .int 0, .ref q15, .ref q23, .ref q31, .ref q74, .ref q82, .int 0, .int 0, .int 0, .ref q90, .int 0, .int 0, .int 0, .int 0, .ref q98, .int 0, .int 0, .int 0, .ref q130, .null])), (q8, .inl (K.1, 1092, .inl (fun _ => 0))), (q15, .inl (K.2.1, 2, .inl (fun _ => 0))), (q23, .inl (K.1, 8, .inl (fun _ => 0))), (q31, .inl (K.1, 8, .inl (upd (upd (upd (upd (upd (upd (upd (upd (fun _ => 0) 0 (-1)) 1 (-1)) 2 (-1)) 3 (-1)) 4 (-1)) 5 (-1)) 6 (-1)) 7 (-1)))), (q74, .inl (K.1, 320, .inl (fun _ => 0))), (q82, .inl (K.1, 110, .inl (fun _ => 0))), (q90, .inl (K.1, 16, .inl (fun _ => 0))), (q98, .inl (K.1, 6, .inl (upd (upd (upd (upd (upd (upd (fun _ => 0) 0 0) 1 1) 2 2) 3 3) 4 4) 5 5))), (q130, .inl (K.1, 6, .inl (fun _ => 0))), (q138, .inl (K.1, 16, .inl (fun _ => 0)))] H := hP
  have hD : va_D A [(h0, .inr (8, [.ref q8, .int 0, .ref q15, .ref q23, .ref q31, .ref q74, .ref q82, .int 0, .int 0, .int 0, .ref q90, .int 0, .int 0, .int 0, .int 0, .ref q98, .int 0, .int 0, .int 0, .ref q130, .null])), (q8, .inl (K.1, 1092, .inl (fun _ => 0))), (q15, .inl (K.2.1, 2, .inl (fun _ => 0))), (q23, .inl (K.1, 8, .inl (fun _ => 0))), (q31, .inl (K.1, 8, .inl (upd (upd (upd (upd (upd (upd (upd (upd (fun _ => 0) 0 (-1)) 1 (-1)) 2 (-1)) 3 (-1)) 4 (-1)) 5 (-1)) 6 (-1)) 7 (-1)))), (q74, .inl (K.1, 320, .inl (fun _ => 0))), (q82, .inl (K.1, 110, .inl (fun _ => 0))), (q90, .inl (K.1, 16, .inl (fun _ => 0))), (q98, .inl (K.1, 6, .inl (upd (upd (upd (upd (upd (upd (fun _ => 0) 0 0) 1 1) 2 2) 3 3) 4 4) 5 5))), (q130, .inl (K.1, 6, .inl (fun _ => 0))), (q138, .inl (K.1, 16, .inl (fun _ => 0)))] := hD
  refine W.widen (k := 10) (n := 1584) (Nat.le_of_ble_eq_true rfl) (Nat.le_of_ble_eq_true rfl) ?_
  refine va_putF (D := D) (ci := 8) (v := .ref q138) (ty := .array .int) (C := RX8) (T := TX8) (N := 21) hx hb hts clX8_in tyX8 tyX8_ok nmX8 hown hK hP hD hS 0 rfl rfl 20 (by decide) (hts _ kf_X8_38) (fun _ h9 => h9) rfl hin rfl (by decide +kernel) rfl rfl (Nat.le_of_ble_eq_true rfl) dX8_init_140 (fun H locs hP hD hS => ?_)
  have hP : va_P D vwCl [(h0, .inr (8, [.ref q8, .int 0, .ref q15, .ref q23, .ref q31, .ref q74, .ref q82, .int 0, .int 0, .int 0, .ref q90, .int 0, .int 0, .int 0, .int 0, .ref q98, .int 0, .int 0, .int 0, .ref q130, .ref q138])), (q8, .inl (K.1, 1092, .inl (fun _ => 0))), (q15, .inl (K.2.1, 2, .inl (fun _ => 0))), (q23, .inl (K.1, 8, .inl (fun _ => 0))), (q31, .inl (K.1, 8, .inl (upd (upd (upd (upd (upd (upd (upd (upd (fun _ => 0) 0 (-1)) 1 (-1)) 2 (-1)) 3 (-1)) 4 (-1)) 5 (-1)) 6 (-1)) 7 (-1)))), (q74, .inl (K.1, 320, .inl (fun _ => 0))), (q82, .inl (K.1, 110, .inl (fun _ => 0))), (q90, .inl (K.1, 16, .inl (fun _ => 0))), (q98, .inl (K.1, 6, .inl (upd (upd (upd (upd (upd (upd (fun _ => 0) 0 0) 1 1) 2 2) 3 3) 4 4) 5 5))), (q130, .inl (K.1, 6, .inl (fun _ => 0))), (q138, .inl (K.1, 16, .inl (fun _ => 0)))] H := hP
  have hD : va_D A [(h0, .inr (8, [.ref q8, .int 0, .ref q15, .ref q23, .ref q31, .ref q74, .ref q82, .int 0, .int 0, .int 0, .ref q90, .int 0, .int 0, .int 0, .int 0, .ref q98, .int 0, .int 0, .int 0, .ref q130, .ref q138])), (q8, .inl (K.1, 1092, .inl (fun _ => 0))), (q15, .inl (K.2.1, 2, .inl (fun _ => 0))), (q23, .inl (K.1, 8, .inl (fun _ => 0))), (q31, .inl (K.1, 8, .inl (upd (upd (upd (upd (upd (upd (upd (upd (fun _ => 0) 0 (-1)) 1 (-1)) 2 (-1)) 3 (-1)) 4 (-1)) 5 (-1)) 6 (-1)) 7 (-1)))), (q74, .inl (K.1, 320, .inl (fun _ => 0))), (q82, .inl (K.1, 110, .inl (fun _ => 0))), (q90, .inl (K.1, 16, .inl (fun _ => 0))), (q98, .inl (K.1, 6, .inl (upd (upd (upd (upd (upd (upd (fun _ => 0) 0 0) 1 1) 2 2) 3 3) 4 4) 5 5))), (q130, .inl (K.1, 6, .inl (fun _ => 0))), (q138, .inl (K.1, 16, .inl (fun _ => 0)))] := hD
  refine W.widen (k := 10) (n := 1584) (Nat.le_of_ble_eq_true rfl) (Nat.le_of_ble_eq_true rfl) ?_
  exact W.vret hx hb hr (fun t ht hW => ⟨⟨(fun k => ([q8, q15, q23, q31, q74, q82, q90, q98, q130, q138] : List Nat).getD k 0), rfl, trivial, by rw [ht]; exact hP, va_K.moved hW.alike hK, hD⟩, hS.F ht⟩) hS.2.2 dX8_init_143

