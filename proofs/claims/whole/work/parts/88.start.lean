theorem am_St.cong {ad ad' : Nat → Nat} {A : Nat → Prop} {U : State} {H : Heap} (h : ∀ k, 1000 ≤ k → ad' k = ad k) (hs : am_St ad A U H) : am_St ad' A U H := by
  unfold am_St at hs ⊢
  rw [h 1000 (by omega), h 1001 (by omega), h 1002 (by omega), h 1003 (by omega), h 1004 (by omega)]
  exact hs
theorem st_arr {s : State} {args : Array Value} {ty : FieldType} (h : (Cond.arrayClass ty).before args s = true) : ∃ c : ClassId, ArrOfT s c ty ∧ s.vm.findClass ("[" ++ ty.toString) = some c := by
  obtain ⟨c, k, comp, h1, h2, h3⟩ := Cond.arrayClass_spec h
  exact ⟨c, fun n z => ⟨fun k9 h9 => (by cases h9), k, h2, comp, h3⟩, h1⟩
theorem st_arr2 {s : State} {args : Array Value} (h : (Cond.arrayOver (.array .int)).before args s = true) : ∃ c : ClassId, ArrOfT s c (.array .int) ∧ s.vm.findClass ("[" ++ (FieldType.array .int).toString) = some c := by
  obtain ⟨comp, c, k, h1, h2, h3, h4⟩ := mn_over h
  exact ⟨c, fun n z => ⟨fun k9 h9 => (by cases h9), k, h2, comp, h3⟩, h4⟩
set_option maxHeartbeats 4000000 in
set_option maxRecDepth 100000 in
theorem st_St {s : State} {b : Nat} (hts : ∀ w ∈ lw_tbl, w.before #[Value.ref b] s = true) (hgv : (Jvm.Cond.and given_1 narrow_1).before #[Value.ref b] s = true) : ∃ ad0 : Nat → Nat, am_St ad0 (fun q => s.heap.size ≤ q) s s.heap := by
  have hs := flat_of_before _ hgv
  have hA : ∀ a : Nat, a < s.heap.size → ¬ (fun q : Nat => s.heap.size ≤ q) a := fun a h => Nat.not_le.mpr h
  obtain ⟨t0, ev0, hT0⟩ := va_Tof (args := #[Value.ref b]) (s := s) (tm := .static "LuggageBelt$Asks" "KIND_ABOVE" "[I") (ty := .int) (N := 6) (f := fun j => .int (([-1, 0, 1, 1, 0, 4] : List Int32).getD j 0)) (A := fun q => s.heap.size ≤ q) (by decide) (hs (Cond.arrayOf (.static "LuggageBelt$Asks" "KIND_ABOVE" "[I") .int) (by decide +kernel)) (va_eqt (hs (Cond.eq (.length (.static "LuggageBelt$Asks" "KIND_ABOVE" "[I")) (.int 6)) (by decide +kernel))) (fun j hj => by
    rcases (show j = 0 ∨ j = 1 ∨ j = 2 ∨ j = 3 ∨ j = 4 ∨ j = 5 by omega) with rfl | rfl | rfl | rfl | rfl | rfl
    · exact va_eqt (hs (Cond.eq (.elem (.static "LuggageBelt$Asks" "KIND_ABOVE" "[I") (.int 0)) (.int (-1))) (by decide +kernel))
    · exact va_eqt (hs (Cond.eq (.elem (.static "LuggageBelt$Asks" "KIND_ABOVE" "[I") (.int 1)) (.int (0))) (by decide +kernel))
    · exact va_eqt (hs (Cond.eq (.elem (.static "LuggageBelt$Asks" "KIND_ABOVE" "[I") (.int 2)) (.int (1))) (by decide +kernel))
    · exact va_eqt (hs (Cond.eq (.elem (.static "LuggageBelt$Asks" "KIND_ABOVE" "[I") (.int 3)) (.int (1))) (by decide +kernel))
    · exact va_eqt (hs (Cond.eq (.elem (.static "LuggageBelt$Asks" "KIND_ABOVE" "[I") (.int 4)) (.int (0))) (by decide +kernel))
    · exact va_eqt (hs (Cond.eq (.elem (.static "LuggageBelt$Asks" "KIND_ABOVE" "[I") (.int 5)) (.int (4))) (by decide +kernel))) hA
  have hZ0 := va_Zof (A := fun q => s.heap.size ≤ q) (hts (Cond.laysStatic "LuggageBelt$Asks" "KIND_ABOVE" "[I") (List.mem_of_getElem? (i := 1029) (by decide +kernel))) (hts (Cond.initialized "LuggageBelt$Asks") (List.mem_of_getElem? (i := 93) (by decide +kernel))) ev0 hA
  obtain ⟨t1, ev1, hT1⟩ := va_Tof (args := #[Value.ref b]) (s := s) (tm := .static "LuggageBelt$Asks" "SIZE_BODIES" "[I") (ty := .int) (N := 6) (f := fun j => .int (([10, 11, 12, -1000000, 13, 14] : List Int32).getD j 0)) (A := fun q => s.heap.size ≤ q) (by decide) (hs (Cond.arrayOf (.static "LuggageBelt$Asks" "SIZE_BODIES" "[I") .int) (by decide +kernel)) (va_eqt (hs (Cond.eq (.length (.static "LuggageBelt$Asks" "SIZE_BODIES" "[I")) (.int 6)) (by decide +kernel))) (fun j hj => by
    rcases (show j = 0 ∨ j = 1 ∨ j = 2 ∨ j = 3 ∨ j = 4 ∨ j = 5 by omega) with rfl | rfl | rfl | rfl | rfl | rfl
    · exact va_eqt (hs (Cond.eq (.elem (.static "LuggageBelt$Asks" "SIZE_BODIES" "[I") (.int 0)) (.int (10))) (by decide +kernel))
    · exact va_eqt (hs (Cond.eq (.elem (.static "LuggageBelt$Asks" "SIZE_BODIES" "[I") (.int 1)) (.int (11))) (by decide +kernel))
    · exact va_eqt (hs (Cond.eq (.elem (.static "LuggageBelt$Asks" "SIZE_BODIES" "[I") (.int 2)) (.int (12))) (by decide +kernel))
    · exact va_eqt (hs (Cond.eq (.elem (.static "LuggageBelt$Asks" "SIZE_BODIES" "[I") (.int 3)) (.int (-1000000))) (by decide +kernel))
    · exact va_eqt (hs (Cond.eq (.elem (.static "LuggageBelt$Asks" "SIZE_BODIES" "[I") (.int 4)) (.int (13))) (by decide +kernel))
    · exact va_eqt (hs (Cond.eq (.elem (.static "LuggageBelt$Asks" "SIZE_BODIES" "[I") (.int 5)) (.int (14))) (by decide +kernel))) hA
  have hZ1 := va_Zof (A := fun q => s.heap.size ≤ q) (hts (Cond.laysStatic "LuggageBelt$Asks" "SIZE_BODIES" "[I") (List.mem_of_getElem? (i := 1043) (by decide +kernel))) (hts (Cond.initialized "LuggageBelt$Asks") (List.mem_of_getElem? (i := 93) (by decide +kernel))) ev1 hA
  obtain ⟨t2, ev2, hT2⟩ := va_Tof (args := #[Value.ref b]) (s := s) (tm := .static "LuggageBelt$Asks" "MARK_BODIES" "[I") (ty := .int) (N := 6) (f := fun j => .int (([20, 21, 24, 22, 23, -1000000] : List Int32).getD j 0)) (A := fun q => s.heap.size ≤ q) (by decide) (hs (Cond.arrayOf (.static "LuggageBelt$Asks" "MARK_BODIES" "[I") .int) (by decide +kernel)) (va_eqt (hs (Cond.eq (.length (.static "LuggageBelt$Asks" "MARK_BODIES" "[I")) (.int 6)) (by decide +kernel))) (fun j hj => by
    rcases (show j = 0 ∨ j = 1 ∨ j = 2 ∨ j = 3 ∨ j = 4 ∨ j = 5 by omega) with rfl | rfl | rfl | rfl | rfl | rfl
    · exact va_eqt (hs (Cond.eq (.elem (.static "LuggageBelt$Asks" "MARK_BODIES" "[I") (.int 0)) (.int (20))) (by decide +kernel))
    · exact va_eqt (hs (Cond.eq (.elem (.static "LuggageBelt$Asks" "MARK_BODIES" "[I") (.int 1)) (.int (21))) (by decide +kernel))
    · exact va_eqt (hs (Cond.eq (.elem (.static "LuggageBelt$Asks" "MARK_BODIES" "[I") (.int 2)) (.int (24))) (by decide +kernel))
    · exact va_eqt (hs (Cond.eq (.elem (.static "LuggageBelt$Asks" "MARK_BODIES" "[I") (.int 3)) (.int (22))) (by decide +kernel))
    · exact va_eqt (hs (Cond.eq (.elem (.static "LuggageBelt$Asks" "MARK_BODIES" "[I") (.int 4)) (.int (23))) (by decide +kernel))
    · exact va_eqt (hs (Cond.eq (.elem (.static "LuggageBelt$Asks" "MARK_BODIES" "[I") (.int 5)) (.int (-1000000))) (by decide +kernel))) hA
  have hZ2 := va_Zof (A := fun q => s.heap.size ≤ q) (hts (Cond.laysStatic "LuggageBelt$Asks" "MARK_BODIES" "[I") (List.mem_of_getElem? (i := 1045) (by decide +kernel))) (hts (Cond.initialized "LuggageBelt$Asks") (List.mem_of_getElem? (i := 93) (by decide +kernel))) ev2 hA
  have hZC := va_Zof (A := fun q => s.heap.size ≤ q) (hts (Cond.laysStatic "java/lang/String" "COMPACT_STRINGS" "Z") (List.mem_of_getElem? (i := 487) (by decide +kernel))) (hts (Cond.initialized "java/lang/String") (List.mem_of_getElem? (i := 96) (by decide +kernel))) (va_eqt (hs (Cond.eq (.static "java/lang/String" "COMPACT_STRINGS" "Z") (.int 1)) (by decide +kernel))) hA
  obtain ⟨adK, adV, hV, hE⟩ := vk_Sof (args := #[Value.ref b]) (s := s) (N := 1) (tm := fun _ => .string "LuggageBelt$Tape" 59) (len := [5]) (byt := [[99, 115, 104, 108, 100]]) (A := fun q => s.heap.size ≤ q) (fun i hi => by rw [show i = 0 by omega]; decide) (fun i _ => hs (Cond.exactly (.string "LuggageBelt$Tape" 59) "java/lang/String") (by decide +kernel)) (fun i _ => hs (Cond.eq (.field (.string "LuggageBelt$Tape" 59) "java/lang/String" "coder" "B") (.int 0)) (by decide +kernel)) (fun i _ => hs (Cond.arrayOf (.field (.string "LuggageBelt$Tape" 59) "java/lang/String" "value" "[B") .byte) (by decide +kernel)) (fun i hi => by rw [show i = 0 by omega]; exact hs (Cond.eq (.length (.field (.string "LuggageBelt$Tape" 59) "java/lang/String" "value" "[B")) (.int 5)) (by decide +kernel)) (fun i hi j hj => by
    obtain rfl : i = 0 := by omega
    have hj5 : j < 5 := hj
    rcases (show j = 0 ∨ j = 1 ∨ j = 2 ∨ j = 3 ∨ j = 4 by omega) with rfl | rfl | rfl | rfl | rfl
    · exact hs (Cond.eq (.elem (.field (.string "LuggageBelt$Tape" 59) "java/lang/String" "value" "[B") (.int 0)) (.int 99)) (by decide +kernel)
    · exact hs (Cond.eq (.elem (.field (.string "LuggageBelt$Tape" 59) "java/lang/String" "value" "[B") (.int 1)) (.int 115)) (by decide +kernel)
    · exact hs (Cond.eq (.elem (.field (.string "LuggageBelt$Tape" 59) "java/lang/String" "value" "[B") (.int 2)) (.int 104)) (by decide +kernel)
    · exact hs (Cond.eq (.elem (.field (.string "LuggageBelt$Tape" 59) "java/lang/String" "value" "[B") (.int 3)) (.int 108)) (by decide +kernel)
    · exact hs (Cond.eq (.elem (.field (.string "LuggageBelt$Tape" 59) "java/lang/String" "value" "[B") (.int 4)) (.int 100)) (by decide +kernel)) (fun i j hi hj h => absurd (show i = j by omega) h) hA
  refine ⟨fun k => if k = 1000 then t0 else if k = 1001 then t1 else if k = 1002 then t2 else if k = 1003 then adK 0 else adV 0, ⟨hZ0, hT0⟩, ⟨hZ1, hT1⟩, ⟨hZ2, hT2⟩, vk_R.of (A := #[Value.ref b]) (hts (Cond.stringRef "LuggageBelt$Tape" 59 "cshld") (List.mem_of_getElem? (i := 473) (by decide +kernel))) (hE 0 Nat.one_pos), ⟨fun i hi => ?_, fun i j hi hj _ => by omega⟩, hZC⟩
  obtain rfl : i = 0 := by omega
  exact hV.1 0 Nat.one_pos
theorem k_inst_X7 : Cond.instantiable RX7 12 ∈ lw_t := lw_in (List.mem_of_getElem? (i := 104) (by decide +kernel)) rfl
theorem k_inst_X8 : Cond.instantiable RX8 21 ∈ lw_t := lw_in (List.mem_of_getElem? (i := 1081) (by decide +kernel)) rfl
theorem k_ini_X7 : Cond.initialized RX7 ∈ lw_t := lw_in (List.mem_of_getElem? (i := 85) (by decide +kernel)) rfl
theorem k_ini_X8 : Cond.initialized RX8 ∈ lw_t := lw_in (List.mem_of_getElem? (i := 94) (by decide +kernel)) rfl
theorem k_L_cl7 : Cond.classLink R_law 7 RX7 ∈ lw_t := lw_in (List.mem_of_getElem? (i := 103) (by decide +kernel)) rfl
theorem k_L_cl10 : Cond.classLink R_law 10 RX8 ∈ lw_t := lw_in (List.mem_of_getElem? (i := 1080) (by decide +kernel)) rfl
theorem k_L_ml9 : Cond.methodLink R_law 9 yX7_init ∈ lw_t := lw_in (List.mem_of_getElem? (i := 105) (by decide +kernel)) rfl
theorem k_code_X7 : Cond.code yX7_init cX7_init 1 none ∈ lw_t := lw_in (List.mem_of_getElem? (i := 107) (by decide +kernel)) rfl
theorem k_im_X7 : Cond.instanceMethod yX7_init ∈ lw_t := lw_in (List.mem_of_getElem? (i := 106) (by decide +kernel)) rfl
theorem k_L_ml12 : Cond.methodLink R_law 12 yX8_init ∈ lw_t := lw_in (List.mem_of_getElem? (i := 1082) (by decide +kernel)) rfl
theorem k_code_X8 : Cond.code yX8_init cX8_init 1 none ∈ lw_t := lw_in (List.mem_of_getElem? (i := 1084) (by decide +kernel)) rfl
theorem k_im_X8 : Cond.instanceMethod yX8_init ∈ lw_t := lw_in (List.mem_of_getElem? (i := 1083) (by decide +kernel)) rfl
theorem st_D {s : State} {args : Array Value} (hts : ∀ w ∈ lw_t, w.before args s = true) : ∃ D : va_G, ∀ (k : Nat) (q : vw_C), vwCl[k]? = some q → u_Kn s q.1 q.2.1 q.2.2 (D.1 k) (D.2 k) := by
  obtain ⟨c0, i0, h0⟩ := u_known (C := RX0) (T := TX0) (N := 3) (n := 3) hts clX0_in (hts _ k_inst_X0)
  obtain ⟨c1, i1, h1⟩ := u_known (C := RX1) (T := TX1) (N := 3) (n := 3) hts clX1_in (hts _ k_inst_X1)
  obtain ⟨c2, i2, h2⟩ := u_known (C := RX2) (T := TX2) (N := 3) (n := 3) hts clX2_in (hts _ k_inst_X2)
  obtain ⟨c3, i3, h3⟩ := u_known (C := RX3) (T := TX3) (N := 13) (n := 13) hts clX3_in (hts _ k_inst_X3)
  obtain ⟨c4, i4, h4⟩ := u_known (C := RX4) (T := TX4) (N := 10) (n := 10) hts clX4_in (hts _ k_inst_X4)
  obtain ⟨c5, i5, h5⟩ := u_known (C := RX5) (T := TX5) (N := 3) (n := 3) hts clX5_in (hts _ k_inst_X5)
  obtain ⟨c6, i6, h6⟩ := u_known (C := RX6) (T := TX6) (N := 6) (n := 6) hts clX6_in (hts _ k_inst_X6)
  obtain ⟨c7, i7, h7⟩ := u_known (C := RX7) (T := TX7) (N := 12) (n := 12) hts clX7_in (hts _ k_inst_X7)
  obtain ⟨c8, i8, h8⟩ := u_known (C := RX8) (T := TX8) (N := 21) (n := 21) hts clX8_in (hts _ k_inst_X8)
  refine ⟨(fun k => if k = 0 then c0 else if k = 1 then c1 else if k = 2 then c2 else if k = 3 then c3 else if k = 4 then c4 else if k = 5 then c5 else if k = 6 then c6 else if k = 7 then c7 else c8, fun k => if k = 0 then i0 else if k = 1 then i1 else if k = 2 then i2 else if k = 3 then i3 else if k = 4 then i4 else if k = 5 then i5 else if k = 6 then i6 else if k = 7 then i7 else i8), ?_⟩
  intro k q hq
  match k, hq with
  | 0, hq => cases hq; exact h0
  | 1, hq => cases hq; exact h1
  | 2, hq => cases hq; exact h2
  | 3, hq => cases hq; exact h3
  | 4, hq => cases hq; exact h4
  | 5, hq => cases hq; exact h5
  | 6, hq => cases hq; exact h6
  | 7, hq => cases hq; exact h7
  | 8, hq => cases hq; exact h8
  | k + 9, hq => simp [vwCl] at hq
def iniM (M : Mem) : Prop := (∀ j, j < 8 → M 4 j = -1) ∧ (∀ j, j < 6 → M 8 j = nI j) ∧ ∀ p, p ≠ 4 → p ≠ 8 → M p = fun _ => 0
set_option maxHeartbeats 8000000 in
set_option maxRecDepth 100000 in
/-- the law from its entry, over the forty pure steps -/
theorem start_open {Inv : Mem → Mem → Prop} (h0 : ∀ Mx Mm, iniX Mx → iniM Mm → Inv Mx Mm) (h_row : ok_row Inv) (h_set : ok_set Inv) (h_copy : ok_copy Inv) (h_drop : ok_drop Inv) (h_feed : ok_feed Inv) (h_hall : ok_hall Inv) (h_fault : ok_fault Inv) (h_undo : ok_undo Inv) (h_ticks : ok_ticks Inv) (h_move : ok_move Inv) (h_paint : ok_paint Inv) (h_back : ok_back Inv) (h_turn : ok_turn Inv) (h_traveller : ok_traveller Inv) (h_bag : ok_bag Inv) (h_stand : ok_stand Inv) (h_place : ok_place Inv) (h_ahead : ok_ahead Inv) (h_with : ok_with Inv) (h_all : ok_all Inv) (h_when : ok_when Inv) (h_empty : ok_empty Inv) (h_best : ok_best Inv) (h_order : ok_order Inv) (h_marks : ok_marks Inv) (h_sets : ok_sets Inv) (h_share : ok_share Inv) (h_byTurns : ok_byTurns Inv) (h_who : ok_who Inv) (h_colours : ok_colours Inv) (h_sleep : ok_sleep Inv) (h_drawn : ok_drawn Inv) (h_image : ok_image Inv) (h_restore : ok_restore Inv) (h_kind : ok_kind Inv) (h_as : ok_as Inv) (h_ask : ok_ask Inv) (h_trace : ok_trace Inv) (h_count : ok_count Inv) (h_status : ok_status Inv) {p : Program} {e : Env} {s : State} {m : MethodId} {below : List Frame} {meth : Method} {c : Code} (l : Launch) {b L : Nat} {xs : Nat → Int32} (hL : L ≤ 3584) (C0 : lw_At p s m meth c b L xs) : W p l e room_1 s m #[Value.ref b] below meth c s.heap [] 0 0 (lw_Z below #[Value.ref b] s) (entryFrame m ([Value.ref b] : List Value).toArray 4) := by
  obtain ⟨hx, hb, hr, hml, hown, hts0, hX, hbl, hlocks, hgv⟩ := id C0
  have hts : ∀ w ∈ lw_t, w.before #[Value.ref b] s = true := fun w hw => hts0 w (List.mem_filter.mp hw).1
  have hA : ∀ q : Nat, s.heap.size ≤ q → (fun q : Nat => s.heap.size ≤ q) q := fun _ h => h
  obtain ⟨ad0, hSt⟩ := st_St hts0 hgv
  obtain ⟨D, hDn⟩ := st_D hts
  obtain ⟨cI, aI, nI_⟩ := st_arr (hts _ k_acI)
  obtain ⟨cZ, aZ, nZ⟩ := st_arr (hts _ k_acZ)
  have hAO := hts0 (Cond.arrayOver (.array .int)) (List.mem_of_getElem? (i := 118) (by decide +kernel))
  obtain ⟨cQ, aQ, nQ⟩ := st_arr2 hAO
  have hao : ao s := hAO
  have hnst : nst s := ⟨va_Nw.of rfl (hts0 (.methodLinkNest RX7 18 yX6_init RX7) (List.mem_of_getElem? (i := 135) (by decide +kernel))), va_Nw.of rfl (hts0 (.methodLinkNest RX7 25 yX3_init RX7) (List.mem_of_getElem? (i := 160) (by decide +kernel))), va_Nw.of rfl (hts0 (.methodLinkNest RX7 35 yX0_init RX7) (List.mem_of_getElem? (i := 227) (by decide +kernel)))⟩
  obtain ⟨K, hKe⟩ : ∃ K : amK, K = (cI, cZ, cQ) := ⟨_, rfl⟩
  have hK : va_K D vwCl (am_tys K) s := by
    refine ⟨hDn, fun k q hk => ?_⟩
    subst hKe
    match k, hk with
    | 0, hk => cases hk; exact ⟨aI, nI_⟩
    | 1, hk => cases hk; exact ⟨aZ, nZ⟩
    | 2, hk => cases hk; exact ⟨aQ, nQ⟩
    | k + 3, hk => simp [am_tys] at hk
  have hS : va_S (fun q : Nat => s.heap.size ≤ q) s.heap s.heap [] := va_S.rf
  have hP : va_P D vwCl [] s.heap := fun k q h => by simp at h
  have hD : va_D (fun q : Nat => s.heap.size ≤ q) [] := ⟨fun i j p q h => by simp at h, fun k q h => by simp at h⟩
  have hl := lv_entry ([.ref b]) (n := 4) (Nat.le_of_ble_eq_true rfl)
  rw [lg_entry_eq]
  generalize (lg_sl ([.ref b]) ++ List.replicate (4 - (lg_sl ([.ref b])).length) Slot.unset).toArray = ls at hl ⊢
  have hl : lv_has ls 4 [(0, .ref b)] := hl
  refine va_new (ci := 7) (fs := [.null, .null, .null, .null, .null, .null, .null, .null, .null, .int 0, .int 0, .int 0]) (C := RX7) (T := TX7) (N := 12) hx hb hts clX7_in tyX7 tyX7_ok hown (hts _ k_L_cl7) (hts _ k_inst_X7) (hts _ k_ini_X7) hK hP hD hS hA rfl (fun j hj => by rcases (show j = 0 ∨ j = 1 ∨ j = 2 ∨ j = 3 ∨ j = 4 ∨ j = 5 ∨ j = 6 ∨ j = 7 ∨ j = 8 ∨ j = 9 ∨ j = 10 ∨ j = 11 by omega) with rfl | rfl | rfl | rfl | rfl | rfl | rfl | rfl | rfl | rfl | rfl | rfl <;> rfl) (Nat.le_of_ble_eq_true rfl) (Nat.le_of_ble_eq_true rfl) dL_law_0 (fun q0 H hP hD hS => ?_)
  have hP : va_P D vwCl [(q0, .inr (7, [.null, .null, .null, .null, .null, .null, .null, .null, .null, .int 0, .int 0, .int 0]))] H := hP
  have hD : va_D (fun q : Nat => s.heap.size ≤ q) [(q0, .inr (7, [.null, .null, .null, .null, .null, .null, .null, .null, .null, .int 0, .int 0, .int 0]))] := hD
  refine W.widen (k := 1) (n := 12) (Nat.le_of_ble_eq_true rfl) (Nat.le_of_ble_eq_true rfl) ?_
  refine lv_dup hx hb dL_law_3 rfl ?_
  have hFc := va_free (wc := [(q0, .inr (7, [.null, .null, .null, .null, .null, .null, .null, .null, .null, .int 0, .int 0, .int 0]))]) hD hS hA [0] rfl
  refine va_callv (va_runI (As := []) (rest := [.ref q0]) ⟨hx, hb, hml, hown, hts⟩ (c_X7_init l D K q0 H.size ad0) (cwI 0 hts (wT_good k_code_X7) rfl rfl rfl (hts _ k_ini_X7) (hts _ k_L_ml9) (hts _ k_im_X7) rfl (by decide +kernel) ⟨Nat.le_of_ble_eq_true rfl, Nat.le_of_ble_eq_true rfl⟩) ⟨fun a U g mk q => by obtain ⟨z0, z1, zP, zK, zD, z4, z5, z6⟩ := q; exact ⟨z0, z1, zP, va_K.moved (u := U) (U := U.calling g mk a) (Vm.Alike.refl U.vm) zK, zD, z4, am_St.same (u := U) (U := U.calling g mk a) z5 rfl, ⟨va_Nw.same rfl rfl z6.1, va_Nw.same rfl rfl z6.2.1, va_Nw.same rfl rfl z6.2.2⟩⟩, fun U hU hW => ⟨rfl, by rw [hU], by rw [hU]; exact hP, va_K.moved hW.alike hK, hD.weaken (fun _ _ _ _ => trivial), hao.moved hW.alike, by rw [hU]; exact hSt.go hW (fun a ha hn => hS.2.1 a ha hn) hFc, hnst.warm hW⟩⟩ rfl rfl hl.1 rfl (lv_room (Nat.le_of_ble_eq_true rfl)) dL_law_4 ⟨Nat.le_of_ble_eq_true rfl, Nat.le_of_ble_eq_true rfl⟩) hS (fun q _ h => hFc q h) hFc (fun u t H1 locs ht hvm hw hB hz1 hk1 hS => ?_)
  obtain ⟨ax, Mx⟩ := u
  obtain ⟨hiX, hax0, hax⟩ := hw
  obtain ⟨hP1, -, hD1⟩ := hB
  rw [ht] at hP1
  have hP1 : va_P D vwCl (ly_w K ax Mx lyX) H1 := hP1
  have hD1 : va_D (fun q : Nat => s.heap.size ≤ q) (ly_w K ax Mx lyX) := va_D.weaken hD1 (fun _ _ _ h => hFc _ h)
  clear hP hD hFc
  generalize H1 = H at hP1 hS ⊢
  refine W.widen (k := 44) (n := 2009) (Nat.le_of_ble_eq_true rfl) (Nat.le_of_ble_eq_true rfl) ?_
  refine lv_astore_n (lv' := [(1, .ref q0), (0, .ref b)]) hx hb dL_law_7 rfl hl (by decide) rfl (fun ls hl => ?_)
  refine va_new (ci := 8) (fs := [.null, .int 0, .null, .null, .null, .null, .null, .int 0, .int 0, .int 0, .null, .int 0, .int 0, .int 0, .int 0, .null, .int 0, .int 0, .int 0, .null, .null]) (C := RX8) (T := TX8) (N := 21) hx hb hts clX8_in tyX8 tyX8_ok hown (hts _ k_L_cl10) (hts _ k_inst_X8) (hts _ k_ini_X8) hK hP1 hD1 hS hA rfl (fun j hj => by rcases (show j = 0 ∨ j = 1 ∨ j = 2 ∨ j = 3 ∨ j = 4 ∨ j = 5 ∨ j = 6 ∨ j = 7 ∨ j = 8 ∨ j = 9 ∨ j = 10 ∨ j = 11 ∨ j = 12 ∨ j = 13 ∨ j = 14 ∨ j = 15 ∨ j = 16 ∨ j = 17 ∨ j = 18 ∨ j = 19 ∨ j = 20 by omega) with rfl | rfl | rfl | rfl | rfl | rfl | rfl | rfl | rfl | rfl | rfl | rfl | rfl | rfl | rfl | rfl | rfl | rfl | rfl | rfl | rfl <;> rfl) (Nat.le_of_ble_eq_true rfl) (Nat.le_of_ble_eq_true rfl) dL_law_8 (fun q1 H hP hD hS => ?_)
  obtain ⟨⟨hPx, hDx⟩, ⟨hPc, hDc⟩, hap⟩ := lw_split hP hD
  refine W.widen (k := 45) (n := 2030) (Nat.le_of_ble_eq_true rfl) (Nat.le_of_ble_eq_true rfl) ?_
  refine lv_dup hx hb dL_law_11 rfl ?_
  have hFc := va_free (wc := [(q1, .inr (8, [.null, .int 0, .null, .null, .null, .null, .null, .int 0, .int 0, .int 0, .null, .int 0, .int 0, .int 0, .int 0, .null, .int 0, .int 0, .int 0, .null, .null]))]) hDc hS hA [0] rfl
  refine va_callv (va_runI (As := []) (rest := [.ref q1]) ⟨hx, hb, hml, hown, hts⟩ (c_X8_init l D K q1 H.size) (cwI 0 hts (wT_good k_code_X8) rfl rfl rfl (hts _ k_ini_X8) (hts _ k_L_ml12) (hts _ k_im_X8) rfl (by decide +kernel) ⟨Nat.le_of_ble_eq_true rfl, Nat.le_of_ble_eq_true rfl⟩) ⟨fun a U g mk q => by obtain ⟨z0, z1, zP, zK, zD⟩ := q; exact ⟨z0, z1, zP, va_K.moved (u := U) (U := U.calling g mk a) (Vm.Alike.refl U.vm) zK, zD⟩, fun U hU hW => ⟨rfl, by rw [hU], by rw [hU]; exact hPc, va_K.moved hW.alike hK, hDc.weaken (fun _ _ _ _ => trivial)⟩⟩ rfl rfl hl.1 rfl (lv_room (Nat.le_of_ble_eq_true rfl)) dL_law_12 ⟨Nat.le_of_ble_eq_true rfl, Nat.le_of_ble_eq_true rfl⟩) hS (fun q _ h => hFc q h) hFc (fun u t H1 locs ht hvm hw hB hz1 hk1 hS => ?_)
  obtain ⟨hP2, -, hD2⟩ := hB
  rw [ht] at hP2
  have hPx1 : va_P D vwCl (ly_w K ax Mx lyX) H1 := hPx.kept (fun j q hj => hk1 q.1 (hPx j q hj).lt (fun hq => by
    rcases hq with ⟨k, e, hk⟩ | hq
    · exact hap j k q _ hj hk rfl
    · exact absurd (hPx j q hj).lt (Nat.not_lt.mpr hq)))
  obtain ⟨ay, hay⟩ : ∃ ay : Nat → Nat, ay = fun k => if k < 1000 then ([q1, u 0, u 1, u 2, u 3, u 4, u 5, u 6, u 7, u 8, u 9] : List Nat).getD k 0 else ad0 k := ⟨_, rfl⟩
  obtain ⟨Mm, hMm⟩ : ∃ Mm : Mem, Mm = fun p => if p = 4 then (upd (upd (upd (upd (upd (upd (upd (upd (fun _ => 0) 0 (-1)) 1 (-1)) 2 (-1)) 3 (-1)) 4 (-1)) 5 (-1)) 6 (-1)) 7 (-1)) else if p = 8 then (upd (upd (upd (upd (upd (upd (fun _ => 0) 0 0) 1 1) 2 2) 3 3) 4 4) 5 5) else fun _ => 0 := ⟨_, rfl⟩
  have e9 : cw_X8_init K q1 u = ly_w K ay Mm lyM := by subst hay; subst hMm; rw [ly_w_r]; rfl
  have hP2 : va_P D vwCl (ly_w K ay Mm lyM) H1 := e9 ▸ hP2
  have hD2 : va_D (va_A [(q1, .inr (8, [.null, .int 0, .null, .null, .null, .null, .null, .int 0, .int 0, .int 0, .null, .int 0, .int 0, .int 0, .int 0, .null, .int 0, .int 0, .int 0, .null, .null]))] H.size) (ly_w K ay Mm lyM) := e9 ▸ hD2
  have hxl : ∀ (j : Nat) (q : Nat × va_E), (ly_w K ax Mx lyX)[j]? = some q → q.1 < H.size := fun j q hj => (hPx j q hj).lt
  obtain ⟨hP, hD⟩ := lw_join hPx1 hP2 hDx (hD2.weaken (fun _ _ _ h => hFc _ h)) (fun i j p q h1 h2 he => by
    have hm := hD2.2 j q h2
    rcases hm with ⟨k, e, hk⟩ | hm
    · exact hap i k p _ h1 hk he
    · have := hxl i p h1
      omega)
  have hiM : iniM Mm := by
    subst hMm
    refine ⟨fun j hj => ?_, fun j hj => ?_, fun p h4 h8 => ?_⟩
    · rcases (show j = 0 ∨ j = 1 ∨ j = 2 ∨ j = 3 ∨ j = 4 ∨ j = 5 ∨ j = 6 ∨ j = 7 by omega) with rfl | rfl | rfl | rfl | rfl | rfl | rfl | rfl <;> rfl
    · rcases (show j = 0 ∨ j = 1 ∨ j = 2 ∨ j = 3 ∨ j = 4 ∨ j = 5 by omega) with rfl | rfl | rfl | rfl | rfl | rfl <;> rfl
    · show (if p = 4 then _ else if p = 8 then _ else _) = _
      rw [if_neg h4, if_neg h8]
  refine W.widen (k := 600000) (n := 7302250) (Nat.le_of_ble_eq_true rfl) (Nat.le_of_ble_eq_true rfl) ?_
  refine lv_astore_n (lv' := [(2, .ref q1), (1, .ref q0), (0, .ref b)]) hx hb dL_law_15 rfl hl (by decide) rfl (fun ls hl => ?_)
  refine lv_iconst (v := 0) hx hb dL_law_16 (by decide) ?_
  refine lv_istore_n (lv' := [(3, .int 0), (2, .ref q1), (1, .ref q0), (0, .ref b)]) hx hb dL_law_17 rfl hl (by decide) rfl (fun ls hl => ?_)
  have hq1 : q1 = ay 0 := by subst hay; rfl
  rw [← hax0, hq1] at hl
  have C : lwC (p, l, e, s, m, below, meth, c, D, K, ax, ay, b, L, xs) := ⟨hx, hb, hml, hown, hts, hlocks, hK, hSt.cong hax, hSt.cong (fun k hk => by subst hay; exact if_neg (by omega)), hX, hbl, hL, hr⟩
  exact lw_loop C h_row h_set h_copy h_drop h_feed h_hall h_fault h_undo h_ticks h_move h_paint h_back h_turn h_traveller h_bag h_stand h_place h_ahead h_with h_all h_when h_empty h_best h_order h_marks h_sets h_share h_byTurns h_who h_colours h_sleep h_drawn h_image h_restore h_kind h_as h_ask h_trace h_count h_status (L + 1) 0 Mx Mm (h0 Mx Mm hiX hiM) (Nat.zero_le _) (by show L - 0 < L + 1; omega) H1 locs ls hP hD hS (lv_sub hl [3, 2, 1, 0] rfl)
