def R_law : String := "LuggageBeltLaw"
def lw_P (b : Addr) (xs : List Int32) (args : Array Value) (s : State) : Prop := args = #[.ref b] ∧ s.IntsAt b xs ∧ xs.length ≤ 3584 ∧ (Jvm.Cond.and given_1 narrow_1).before args s = true
def lw_Q (_ : Array Value) (s : State) (o : Outcome) (t : State) : Prop := o = .returned (some (.int 1)) ∧ Framed s o t [] 600000 7302250
def lw_Z (below : List Frame) (a : Array Value) (s : State) : State → Prop := fun t => ∃ o, t.status = .running ∧ Ended t below o ∧ lw_Q a s o t
/-- the law's own end, with 1 on the stack, nothing written that was there before, its room as the claim has it -/
theorem lw_ret {p : Program} {l : Launch} {e : Env} {s : State} {m : MethodId} {below : List Frame} {meth : Method} {c : Code} {b : Nat} (hx : p.tables.exec = Jvm.exec) (hb : c.code = code) (hr : meth.sig.returnType = ret) (hlocks : meth.locks = false) {pc : Nat} {H : Heap} {ls : Array Slot} (hdg : decode code pc = .ok (.ireturn, 1)) : W p l e room_1 s m #[Value.ref b] below meth c H [] 600000 7302250 (lw_Z below #[Value.ref b] s) (F0 m pc ls [.int 1]) := by
  intro T hT X
  obtain ⟨fs, hret, hrun, hended, hW, hframe⟩ := X.leave (v := some (.int 1)) (hlocks := hlocks) (fun h => by rw [hr] at h; cases h)
  have hmeth' : T.vm.method? m = some meth := X.method'
  refine ⟨T.setFrames fs, ?_, .returned (some (.int 1)), hrun, hended, rfl, ⟨_, rfl⟩, hW, hframe⟩
  jvm_step X.here [X.here.top, hx, hb, hdg, hmeth', hr, ret, narrow_b1]
  (try refine ⟨rfl, ?_⟩); (try refine ⟨rfl, ?_⟩)
  first | (intro acts; rw [hret _ acts rfl rfl rfl]) | rw [hret _ _ rfl rfl rfl]
  exact Steps.refl _
/-- what holds at the law's entry: the machine, the code, the tables' words (any of lw_tbl by 'hts w (by decide +kernel)'), the script of L ints xs at the cell b, what the Statement gives of the start (any of its parts by flat_of_before) -/
def lw_At (p : Program) (s : State) (m : MethodId) (meth : Method) (c : Code) (b L : Nat) (xs : Nat → Int32) : Prop :=
  p.tables.exec = Jvm.exec ∧ c.code = code ∧ meth.sig.returnType = ret ∧ c.maxLocals = 4 ∧ s.vm.findClass R_law = some m.cls ∧ (∀ w ∈ lw_tbl, w.before #[Value.ref b] s = true) ∧ va_X b L xs s s.heap ∧ b < s.heap.size ∧ meth.locks = false ∧ (Jvm.Cond.and given_1 narrow_1).before #[Value.ref b] s = true
/-! THE LAW'S JUDGEMENT: the class's world and the reference's, side by side -/
theorem amet_p {d : Nat} {y : MethodName} {b : ByteArray} {n : Nat} {ret : Option FieldType} {lay : List lyE} {av : List Value} {M : Mem} {r : Int32} (h : AMet d y b n ret lay av M (qIp lay M) (some r)) : AMet d y b n ret lay av M (qI lay) (some (r, M)) := by
  intro l D K ad sz t ht
  cases ht
  exact h l D K ad sz r rfl
abbrev lwE : Type := Program × Launch × Env × State × MethodId × List Frame × Method × Code × va_G × amK × (Nat → Nat) × (Nat → Nat) × Nat × Nat × (Nat → Int32)
abbrev oP (E : lwE) : Program := E.1
abbrev oL (E : lwE) : Launch := E.2.1
abbrev oE (E : lwE) : Env := E.2.2.1
abbrev oS (E : lwE) : State := E.2.2.2.1
abbrev oM (E : lwE) : MethodId := E.2.2.2.2.1
abbrev oB (E : lwE) : List Frame := E.2.2.2.2.2.1
abbrev oH (E : lwE) : Method := E.2.2.2.2.2.2.1
abbrev oC (E : lwE) : Code := E.2.2.2.2.2.2.2.1
abbrev oD (E : lwE) : va_G := E.2.2.2.2.2.2.2.2.1
abbrev oK (E : lwE) : amK := E.2.2.2.2.2.2.2.2.2.1
abbrev oX (E : lwE) : Nat → Nat := E.2.2.2.2.2.2.2.2.2.2.1
abbrev oY (E : lwE) : Nat → Nat := E.2.2.2.2.2.2.2.2.2.2.2.1
abbrev oN (E : lwE) : Nat := E.2.2.2.2.2.2.2.2.2.2.2.2.1
abbrev oT (E : lwE) : Nat := E.2.2.2.2.2.2.2.2.2.2.2.2.2.1
abbrev oV (E : lwE) : Nat → Int32 := E.2.2.2.2.2.2.2.2.2.2.2.2.2.2
abbrev oA (E : lwE) : Nat → Prop := fun q => (oS E).heap.size ≤ q
def lwC (E : lwE) : Prop :=
  (oP E).tables.exec = Jvm.exec ∧ (oC E).code = code ∧ (oC E).maxLocals = 4 ∧ (oS E).vm.findClass R_law = some (oM E).cls ∧ (∀ w ∈ lw_t, w.before #[Value.ref (oN E)] (oS E) = true) ∧ (oH E).locks = false ∧ va_K (oD E) vwCl (am_tys (oK E)) (oS E) ∧ am_St (oX E) (oA E) (oS E) (oS E).heap ∧ am_St (oY E) (oA E) (oS E) (oS E).heap ∧ va_X (oN E) (oT E) (oV E) (oS E) (oS E).heap ∧ oN E < (oS E).heap.size ∧ oT E ≤ 3584 ∧ (oH E).sig.returnType = ret
def lwW (E : lwE) (Mx Mm : Mem) : va_W := ly_w (oK E) (oX E) Mx lyX ++ ly_w (oK E) (oY E) Mm lyM
def LW (E : lwE) (pc : Nat) (i : Int32) (st : List Value) (Mx Mm : Mem) : Prop :=
  ∀ (H : Heap) (locs : List Loc) (ls : Array Slot), va_P (oD E) vwCl (lwW E Mx Mm) H → va_D (oA E) (lwW E Mx Mm) → va_S (oA E) (oS E).heap H locs → lv_has ls 4 [(0, .ref (oN E)), (1, .ref (oX E 0)), (2, .ref (oY E 0)), (3, .int i)] →
    W (oP E) (oL E) (oE E) room_1 (oS E) (oM E) #[Value.ref (oN E)] (oB E) (oH E) (oC E) H locs 600000 7302250 (lw_Z (oB E) #[Value.ref (oN E)] (oS E)) (F0 (oM E) pc ls st)
theorem lw_split {D : va_G} {A : Nat → Prop} {w1 w2 : va_W} {H : Heap} (hP : va_P D vwCl (w1 ++ w2) H) (hD : va_D A (w1 ++ w2)) : (va_P D vwCl w1 H ∧ va_D A w1) ∧ (va_P D vwCl w2 H ∧ va_D A w2) ∧ (∀ (i j : Nat) (p q : Nat × va_E), w1[i]? = some p → w2[j]? = some q → p.1 ≠ q.1) := by
  have hl : ∀ (i : Nat) (p : Nat × va_E), w1[i]? = some p → (w1 ++ w2)[i]? = some p := fun i p h => by
    rw [List.getElem?_append_left (List.getElem?_eq_some_iff.mp h).1]; exact h
  have hr : ∀ (i : Nat) (p : Nat × va_E), w2[i]? = some p → (w1 ++ w2)[w1.length + i]? = some p := fun i p h => by
    rw [List.getElem?_append_right (by omega), Nat.add_sub_cancel_left]; exact h
  refine ⟨⟨fun k q h => hP k q (hl k q h), ⟨fun i j p q h1 h2 he => hD.1 i j p q (hl i p h1) (hl j q h2) he, fun k q h => hD.2 k q (hl k q h)⟩⟩, ⟨fun k q h => hP _ q (hr k q h), ⟨fun i j p q h1 h2 he => ?_, fun k q h => hD.2 _ q (hr k q h)⟩⟩, ?_⟩
  · have := hD.1 _ _ p q (hr i p h1) (hr j q h2) he
    omega
  · intro i j p q h1 h2 he
    have h3 := hD.1 _ _ p q (hl i p h1) (hr j q h2) he
    have h4 := (List.getElem?_eq_some_iff.mp h1).1
    omega
theorem lw_join {D : va_G} {A : Nat → Prop} {w1 w2 : va_W} {H : Heap} (h1 : va_P D vwCl w1 H) (h2 : va_P D vwCl w2 H) (d1 : va_D A w1) (d2 : va_D A w2) (hap : ∀ (i j : Nat) (p q : Nat × va_E), w1[i]? = some p → w2[j]? = some q → p.1 ≠ q.1) : va_P D vwCl (w1 ++ w2) H ∧ va_D A (w1 ++ w2) := by
  refine ⟨h1.app h2, ⟨fun i j p q hi hj he => ?_, fun k q hk => ?_⟩⟩
  · rw [List.getElem?_append] at hi hj
    by_cases a1 : i < w1.length <;> by_cases a2 : j < w1.length
    · rw [if_pos a1] at hi; rw [if_pos a2] at hj
      exact d1.1 i j p q hi hj he
    · rw [if_pos a1] at hi; rw [if_neg a2] at hj
      exact absurd he (hap _ _ _ _ hi hj)
    · rw [if_neg a1] at hi; rw [if_pos a2] at hj
      exact absurd he.symm (hap _ _ _ _ hj hi)
    · rw [if_neg a1] at hi; rw [if_neg a2] at hj
      have := d2.1 _ _ p q hi hj he
      omega
  · rw [List.getElem?_append] at hk
    by_cases a1 : k < w1.length
    · rw [if_pos a1] at hk
      exact d1.2 k q hk
    · rw [if_neg a1] at hk
      exact d2.2 _ q hk
/-- the addresses of a layout's world don't hang on the memory -/
theorem ly_w_ad {K : amK} {ad : Nat → Nat} {M M' : Mem} {lay : List lyE} {k : Nat} {q : Nat × va_E} (h : (ly_w K ad M lay)[k]? = some q) : ∃ q', (ly_w K ad M' lay)[k]? = some q' ∧ q'.1 = q.1 := by
  rw [ly_w_get] at h
  obtain ⟨e, he, rfl⟩ := Option.map_eq_some_iff.mp h
  exact ⟨_, ly_w_at he, rfl⟩
theorem lw_ints {As : List Value} (h : ∀ v ∈ As, ∃ x : Int32, v = .int x) (ad : Nat → Nat) : As.map (cv ad) = As := by
  induction As with
  | nil => rfl
  | cons a r ih =>
    obtain ⟨x, rfl⟩ := h a List.mem_cons_self
    rw [List.map_cons, ih (fun v hv => h v (List.mem_cons_of_mem _ hv))]
    rfl
section LR
variable {E : lwE} {pc : Nat} {i : Int32} {st : List Value} {Mx Mm : Mem}
theorem lw_free1 {ad : Nat → Nat} {M : Mem} {lay : List lyE} {H : Heap} {locs : List Loc} (hD : va_D (oA E) (ly_w (oK E) ad M lay)) (hS : va_S (oA E) (oS E).heap H locs) : ∀ q, va_A (ly_w (oK E) ad M lay) H.size q → oA E q := by
  intro q h
  rcases h with ⟨k, e, hk⟩ | h
  · exact hD.2 k _ hk
  · exact Nat.le_trans hS.1 h
theorem lw_aload1 (C : lwC E) (dg : decode code pc = .ok (.aload_n 1, 1)) (k : LW E (pc + 1) i (.ref (oX E 0) :: st) Mx Mm) : LW E pc i st Mx Mm := fun H locs ls hP hD hS hl => lv_aload_n C.1 C.2.1 dg rfl (lv_at hl 1 rfl) (k H locs ls hP hD hS hl)
theorem lw_aload2 (C : lwC E) (dg : decode code pc = .ok (.aload_n 2, 1)) (k : LW E (pc + 1) i (.ref (oY E 0) :: st) Mx Mm) : LW E pc i st Mx Mm := fun H locs ls hP hD hS hl => lv_aload_n C.1 C.2.1 dg rfl (lv_at hl 2 rfl) (k H locs ls hP hD hS hl)
/-- script[i + j] -/
theorem lw_arg (C : lwC E) {n : Nat} (j : Nat) (hi : i = nI n) (hj : n + j < oT E) (d0 : decode code pc = .ok (.aload_n 0, 1)) (d1 : decode code (pc + 1) = .ok (.iload_n 3, 1)) (d2 : decode code (pc + 2) = .ok (.iconst (j : Int), 1)) (d3 : decode code (pc + 3) = .ok (.iadd, 1)) (d4 : decode code (pc + 4) = .ok (.iaload, 1)) (k : LW E (pc + 5) i (.int (oV E (n + j)) :: st) Mx Mm) : LW E pc i st Mx Mm := by
  intro H locs ls hP hD hS hl
  have hT : oT E ≤ 3584 := C.2.2.2.2.2.2.2.2.2.2.2.1
  refine lv_aload_n C.1 C.2.1 d0 rfl (lv_at hl 0 rfl) ?_
  refine lv_iload_n C.1 C.2.1 d1 rfl (lv_at hl 3 rfl) ?_
  refine lv_iconst (v := nI j) C.1 C.2.1 d2 (by rfl) ?_
  refine lv_iadd C.1 C.2.1 d3 ?_
  have e1 : i + nI j = nI (n + j) := by rw [hi, nI_add]
  rw [e1]
  refine va_sld C.1 C.2.1 C.2.2.2.2.2.2.2.2.2.1 C.2.2.2.2.2.2.2.2.2.2.1 (Nat.not_le.mpr C.2.2.2.2.2.2.2.2.2.2.1) hS (vp_in_nI hj (by omega)) d4 ?_
  rw [nI_clamp (by omega)]
  exact k H locs ls hP hD hS hl
theorem lw_arg6 (C : lwC E) {n : Nat} (hi : i = nI n) (hj : n + 6 < oT E) (d0 : decode code pc = .ok (.aload_n 0, 1)) (d1 : decode code (pc + 1) = .ok (.iload_n 3, 1)) (d2 : decode code (pc + 2) = .ok (.bipush 6, 2)) (d3 : decode code (pc + 4) = .ok (.iadd, 1)) (d4 : decode code (pc + 5) = .ok (.iaload, 1)) (k : LW E (pc + 6) i (.int (oV E (n + 6)) :: st) Mx Mm) : LW E pc i st Mx Mm := by
  intro H locs ls hP hD hS hl
  have hT : oT E ≤ 3584 := C.2.2.2.2.2.2.2.2.2.2.2.1
  refine lv_aload_n C.1 C.2.1 d0 rfl (lv_at hl 0 rfl) ?_
  refine lv_iload_n C.1 C.2.1 d1 rfl (lv_at hl 3 rfl) ?_
  refine lv_bipush (v := nI 6) C.1 C.2.1 d2 (by rfl) ?_
  refine lv_iadd C.1 C.2.1 d3 ?_
  have e1 : i + nI 6 = nI (n + 6) := by rw [hi, nI_add]
  rw [e1]
  refine va_sld C.1 C.2.1 C.2.2.2.2.2.2.2.2.2.1 C.2.2.2.2.2.2.2.2.2.2.1 (Nat.not_le.mpr C.2.2.2.2.2.2.2.2.2.2.1) hS (vp_in_nI hj (by omega)) d4 ?_
  rw [nI_clamp (by omega)]
  exact k H locs ls hP hD hS hl
theorem lw_callXI (C : lwC E) {y : MethodName} {b : ByteArray} {n np ix dc : Nat} {rt : Option FieldType} (As rest : List Value) {r : Int32} {M' : Mem} (hM : AMet dc y b n rt lyX (.ref 0 :: As) Mx (qI lyX) (some (r, M'))) (hA : ∀ v ∈ As, ∃ x : Int32, v = .int x) (hy : amV y b n rt RX7 np) (hl : Cond.methodLink R_law ix y ∈ lw_t) (hdc : dc ≤ 1000) (hn : As.length = np) (hst : st = As.reverse ++ .ref (oX E 0) :: rest) (hr : (rest.map fun v => v.category).sum ≤ 8) (dg : decode code pc = .ok (.invokevirtual ix, 3)) (k : LW E (pc + 3) i (.int r :: rest) M' Mm) : LW E pc i st Mx Mm := by
  intro H locs ls hP hD hS hh
  obtain ⟨hW1, hW2, hap⟩ := lw_split hP hD
  have hF := lw_free1 (H := H) (locs := locs) hW1.2 hS
  subst hst
  refine va_calli (va_runV (As := As) (rest := rest) ⟨C.1, C.2.1, C.2.2.1, C.2.2.2.1, C.2.2.2.2.1⟩ (hM (oL E) (oD E) (oK E) (oX E) H.size (r, M') rfl)
    (cwV np C.2.2.2.2.1 (am_wsV hy hl) rfl rfl rfl hy.2.2.2.2.1 ⟨?_, ?_⟩) ⟨amPc_blind, va_recv (q := (RX7, TX7, 12)) C.2.2.2.2.2.2.1 hW1.1 (ci := 7) rfl (ly_w_at (lo_X_0)), fun U hU hW => ⟨?_, by rw [hU], by rw [hU]; exact hW1.1, va_K.moved hW.alike C.2.2.2.2.2.2.1, hW1.2.weaken (fun _ _ _ _ => trivial), by rw [hU]; exact C.2.2.2.2.2.2.2.1.go hW (fun a ha hn => hS.2.1 a ha hn) hF⟩⟩ rfl hn hh.1 rfl (lv_room hr) dg ⟨Nat.le_of_ble_eq_true rfl, Nat.le_of_ble_eq_true rfl⟩) hS (fun q _ h => hF q h) hF (fun r1 M1 t1 H1 locs1 ht1 hvm hpost hB hz hk hS1 => ?_)
  · show dc + 1 ≤ 2048
    omega
  · show 8 + (n + 11) + 64 * dc ≤ 84000
    have := hy.2.2.2.2.2
    omega
  · show (Value.ref (oX E 0) :: As).toArray = ((.ref 0 :: As : List Value).map (cv (oX E))).toArray
    rw [List.map_cons, lw_ints hA]
    rfl
  · cases hpost
    obtain ⟨hPn, -, hDn⟩ := hB
    rw [ht1] at hPn
    have hPo : va_P (oD E) vwCl (ly_w (oK E) (oY E) Mm lyM) H1 := hW2.1.kept (fun j q hj => hk q.1 (hW2.1 j q hj).lt (fun hq => by
      rcases hq with ⟨k, e, hk⟩ | hq
      · exact hap k j _ q hk hj rfl
      · exact absurd (hW2.1 j q hj).lt (Nat.not_lt.mpr hq)))
    obtain ⟨hP2, hD2⟩ := lw_join hPn hPo (hDn.weaken (fun _ _ _ h => hF _ h)) hW2.2 (fun i j p q h1 h2 => by obtain ⟨p', h1', e1⟩ := ly_w_ad (M' := Mx) h1; rw [← e1]; exact hap i j p' q h1' h2)
    exact k H1 locs1 ls hP2 hD2 hS1 hh
theorem lw_callXL (C : lwC E) {y : MethodName} {b : ByteArray} {n np ix dc : Nat} {rt : Option FieldType} (As rest : List Value) {r : Int64} {M' : Mem} (hM : AMet dc y b n rt lyX (.ref 0 :: As) Mx (qL lyX) (some (r, M'))) (hA : ∀ v ∈ As, ∃ x : Int32, v = .int x) (hy : amV y b n rt RX7 np) (hl : Cond.methodLink R_law ix y ∈ lw_t) (hdc : dc ≤ 1000) (hn : As.length = np) (hst : st = As.reverse ++ .ref (oX E 0) :: rest) (hr : (rest.map fun v => v.category).sum ≤ 8) (dg : decode code pc = .ok (.invokevirtual ix, 3)) (k : LW E (pc + 3) i (.long r :: rest) M' Mm) : LW E pc i st Mx Mm := by
  intro H locs ls hP hD hS hh
  obtain ⟨hW1, hW2, hap⟩ := lw_split hP hD
  have hF := lw_free1 (H := H) (locs := locs) hW1.2 hS
  subst hst
  refine va_calll (va_runV (As := As) (rest := rest) ⟨C.1, C.2.1, C.2.2.1, C.2.2.2.1, C.2.2.2.2.1⟩ (hM (oL E) (oD E) (oK E) (oX E) H.size (r, M') rfl)
    (cwV np C.2.2.2.2.1 (am_wsV hy hl) rfl rfl rfl hy.2.2.2.2.1 ⟨?_, ?_⟩) ⟨amPc_blind, va_recv (q := (RX7, TX7, 12)) C.2.2.2.2.2.2.1 hW1.1 (ci := 7) rfl (ly_w_at (lo_X_0)), fun U hU hW => ⟨?_, by rw [hU], by rw [hU]; exact hW1.1, va_K.moved hW.alike C.2.2.2.2.2.2.1, hW1.2.weaken (fun _ _ _ _ => trivial), by rw [hU]; exact C.2.2.2.2.2.2.2.1.go hW (fun a ha hn => hS.2.1 a ha hn) hF⟩⟩ rfl hn hh.1 rfl (lv_room hr) dg ⟨Nat.le_of_ble_eq_true rfl, Nat.le_of_ble_eq_true rfl⟩) hS (fun q _ h => hF q h) hF (fun r1 M1 t1 H1 locs1 ht1 hvm hpost hB hz hk hS1 => ?_)
  · show dc + 1 ≤ 2048
    omega
  · show 8 + (n + 11) + 64 * dc ≤ 84000
    have := hy.2.2.2.2.2
    omega
  · show (Value.ref (oX E 0) :: As).toArray = ((.ref 0 :: As : List Value).map (cv (oX E))).toArray
    rw [List.map_cons, lw_ints hA]
    rfl
  · cases hpost
    obtain ⟨hPn, -, hDn⟩ := hB
    rw [ht1] at hPn
    have hPo : va_P (oD E) vwCl (ly_w (oK E) (oY E) Mm lyM) H1 := hW2.1.kept (fun j q hj => hk q.1 (hW2.1 j q hj).lt (fun hq => by
      rcases hq with ⟨k, e, hk⟩ | hq
      · exact hap k j _ q hk hj rfl
      · exact absurd (hW2.1 j q hj).lt (Nat.not_lt.mpr hq)))
    obtain ⟨hP2, hD2⟩ := lw_join hPn hPo (hDn.weaken (fun _ _ _ h => hF _ h)) hW2.2 (fun i j p q h1 h2 => by obtain ⟨p', h1', e1⟩ := ly_w_ad (M' := Mx) h1; rw [← e1]; exact hap i j p' q h1' h2)
    exact k H1 locs1 ls hP2 hD2 hS1 hh
theorem lw_callMI (C : lwC E) {y : MethodName} {b : ByteArray} {n np ix dc : Nat} {rt : Option FieldType} (As rest : List Value) {r : Int32} {M' : Mem} (hM : AMet dc y b n rt lyM (.ref 0 :: As) Mm (qI lyM) (some (r, M'))) (hA : ∀ v ∈ As, ∃ x : Int32, v = .int x) (hy : amV y b n rt RX8 np) (hl : Cond.methodLink R_law ix y ∈ lw_t) (hdc : dc ≤ 1000) (hn : As.length = np) (hst : st = As.reverse ++ .ref (oY E 0) :: rest) (hr : (rest.map fun v => v.category).sum ≤ 8) (dg : decode code pc = .ok (.invokevirtual ix, 3)) (k : LW E (pc + 3) i (.int r :: rest) Mx M') : LW E pc i st Mx Mm := by
  intro H locs ls hP hD hS hh
  obtain ⟨hW1, hW2, hap⟩ := lw_split hP hD
  have hF := lw_free1 (H := H) (locs := locs) hW2.2 hS
  subst hst
  refine va_calli (va_runV (As := As) (rest := rest) ⟨C.1, C.2.1, C.2.2.1, C.2.2.2.1, C.2.2.2.2.1⟩ (hM (oL E) (oD E) (oK E) (oY E) H.size (r, M') rfl)
    (cwV np C.2.2.2.2.1 (am_wsV hy hl) rfl rfl rfl hy.2.2.2.2.1 ⟨?_, ?_⟩) ⟨amPc_blind, va_recv (q := (RX8, TX8, 21)) C.2.2.2.2.2.2.1 hW2.1 (ci := 8) rfl (ly_w_at (lo_M_0)), fun U hU hW => ⟨?_, by rw [hU], by rw [hU]; exact hW2.1, va_K.moved hW.alike C.2.2.2.2.2.2.1, hW2.2.weaken (fun _ _ _ _ => trivial), by rw [hU]; exact C.2.2.2.2.2.2.2.2.1.go hW (fun a ha hn => hS.2.1 a ha hn) hF⟩⟩ rfl hn hh.1 rfl (lv_room hr) dg ⟨Nat.le_of_ble_eq_true rfl, Nat.le_of_ble_eq_true rfl⟩) hS (fun q _ h => hF q h) hF (fun r1 M1 t1 H1 locs1 ht1 hvm hpost hB hz hk hS1 => ?_)
  · show dc + 1 ≤ 2048
    omega
  · show 8 + (n + 11) + 64 * dc ≤ 84000
    have := hy.2.2.2.2.2
    omega
  · show (Value.ref (oY E 0) :: As).toArray = ((.ref 0 :: As : List Value).map (cv (oY E))).toArray
    rw [List.map_cons, lw_ints hA]
    rfl
  · cases hpost
    obtain ⟨hPn, -, hDn⟩ := hB
    rw [ht1] at hPn
    have hPo : va_P (oD E) vwCl (ly_w (oK E) (oX E) Mx lyX) H1 := hW1.1.kept (fun j q hj => hk q.1 (hW1.1 j q hj).lt (fun hq => by
      rcases hq with ⟨k, e, hk⟩ | hq
      · exact hap j k q _ hj hk rfl
      · exact absurd (hW1.1 j q hj).lt (Nat.not_lt.mpr hq)))
    obtain ⟨hP2, hD2⟩ := lw_join hPo hPn hW1.2 (hDn.weaken (fun _ _ _ h => hF _ h)) (fun i j p q h1 h2 => by obtain ⟨q', h2', e2⟩ := ly_w_ad (M' := Mm) h2; rw [← e2]; exact hap i j p q' h1 h2')
    exact k H1 locs1 ls hP2 hD2 hS1 hh
theorem lw_callML (C : lwC E) {y : MethodName} {b : ByteArray} {n np ix dc : Nat} {rt : Option FieldType} (As rest : List Value) {r : Int64} {M' : Mem} (hM : AMet dc y b n rt lyM (.ref 0 :: As) Mm (qL lyM) (some (r, M'))) (hA : ∀ v ∈ As, ∃ x : Int32, v = .int x) (hy : amV y b n rt RX8 np) (hl : Cond.methodLink R_law ix y ∈ lw_t) (hdc : dc ≤ 1000) (hn : As.length = np) (hst : st = As.reverse ++ .ref (oY E 0) :: rest) (hr : (rest.map fun v => v.category).sum ≤ 8) (dg : decode code pc = .ok (.invokevirtual ix, 3)) (k : LW E (pc + 3) i (.long r :: rest) Mx M') : LW E pc i st Mx Mm := by
  intro H locs ls hP hD hS hh
  obtain ⟨hW1, hW2, hap⟩ := lw_split hP hD
  have hF := lw_free1 (H := H) (locs := locs) hW2.2 hS
  subst hst
  refine va_calll (va_runV (As := As) (rest := rest) ⟨C.1, C.2.1, C.2.2.1, C.2.2.2.1, C.2.2.2.2.1⟩ (hM (oL E) (oD E) (oK E) (oY E) H.size (r, M') rfl)
    (cwV np C.2.2.2.2.1 (am_wsV hy hl) rfl rfl rfl hy.2.2.2.2.1 ⟨?_, ?_⟩) ⟨amPc_blind, va_recv (q := (RX8, TX8, 21)) C.2.2.2.2.2.2.1 hW2.1 (ci := 8) rfl (ly_w_at (lo_M_0)), fun U hU hW => ⟨?_, by rw [hU], by rw [hU]; exact hW2.1, va_K.moved hW.alike C.2.2.2.2.2.2.1, hW2.2.weaken (fun _ _ _ _ => trivial), by rw [hU]; exact C.2.2.2.2.2.2.2.2.1.go hW (fun a ha hn => hS.2.1 a ha hn) hF⟩⟩ rfl hn hh.1 rfl (lv_room hr) dg ⟨Nat.le_of_ble_eq_true rfl, Nat.le_of_ble_eq_true rfl⟩) hS (fun q _ h => hF q h) hF (fun r1 M1 t1 H1 locs1 ht1 hvm hpost hB hz hk hS1 => ?_)
  · show dc + 1 ≤ 2048
    omega
  · show 8 + (n + 11) + 64 * dc ≤ 84000
    have := hy.2.2.2.2.2
    omega
  · show (Value.ref (oY E 0) :: As).toArray = ((.ref 0 :: As : List Value).map (cv (oY E))).toArray
    rw [List.map_cons, lw_ints hA]
    rfl
  · cases hpost
    obtain ⟨hPn, -, hDn⟩ := hB
    rw [ht1] at hPn
    have hPo : va_P (oD E) vwCl (ly_w (oK E) (oX E) Mx lyX) H1 := hW1.1.kept (fun j q hj => hk q.1 (hW1.1 j q hj).lt (fun hq => by
      rcases hq with ⟨k, e, hk⟩ | hq
      · exact hap j k q _ hj hk rfl
      · exact absurd (hW1.1 j q hj).lt (Nat.not_lt.mpr hq)))
    obtain ⟨hP2, hD2⟩ := lw_join hPo hPn hW1.2 (hDn.weaken (fun _ _ _ h => hF _ h)) (fun i j p q h1 h2 => by obtain ⟨q', h2', e2⟩ := ly_w_ad (M' := Mm) h2; rw [← e2]; exact hap i j p q' h1 h2')
    exact k H1 locs1 ls hP2 hD2 hS1 hh
theorem lw_eq (C : lwC E) {x y : Int32} {off : Int} (hxy : x = y) (dg : decode code pc = .ok (.if_icmp .eq off, 3)) (htg : (pc : Int) + off = (1451 : Nat)) (k : LW E 1451 i st Mx Mm) : LW E pc i (.int y :: .int x :: st) Mx Mm := fun H locs ls hP hD hS hl => lv_icmp_eq C.1 C.2.1 dg htg (fun _ => k H locs ls hP hD hS hl) (fun h => absurd hxy h)
theorem lw_leq (C : lwC E) {x y : Int64} {off : Int} (hxy : x = y) (d0 : decode code pc = .ok (.lcmp, 1)) (dg : decode code (pc + 1) = .ok (.ifCond .eq off, 3)) (htg : ((pc + 1 : Nat) : Int) + off = (1451 : Nat)) (k : LW E 1451 i st Mx Mm) : LW E pc i (.long y :: .long x :: st) Mx Mm := by
  intro H locs ls hP hD hS hl
  subst hxy
  refine W.lcmp C.1 C.2.1 d0 ?_
  have e : lg_cmp x x = 0 := by unfold lg_cmp; rw [if_neg (by rw [gt_iff_lt, Int64.lt_iff_toInt_lt]; omega), if_pos rfl]
  rw [e]
  exact lv_if_eq C.1 C.2.1 dg htg (fun _ => k H locs ls hP hD hS hl) (fun h => absurd rfl h)
end LR
