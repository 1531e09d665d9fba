theorem amet_none {d : Nat} {y : MethodName} {b : ByteArray} {n : Nat} {ret : Option FieldType} {lay : List lyE} {av : List Value} {M : Mem} {ρ : Type} {Qc : amQ ρ} : AMet d y b n ret lay av M Qc none := fun _ _ _ _ _ t h => by cases h
/-- Math.floorMod -/
def am_fm (x y : Int32) : Int32 := if (x ^^^ y) < 0 then (if x - x / y * y = 0 then x - x / y * y else x - x / y * y + y) else x - x / y * y
/-- "cshld".indexOf -/
def am_ix (x : Int32) : Int32 := if x = 99 then 0 else if x = 115 then 1 else if x = 104 then 2 else if x = 108 then 3 else if x = 100 then 4 else -1
section AR
variable {E : amE} {lay : List lyE} {d nL : Nat} {cc : ByteArray} {own : String} {ρ : Type} {Qc : amQ ρ} {F F1 F2 : Option ρ} {pc : Nat} {lv : List (Nat × Value)} {st : List Value} {M : Mem}
theorem aw_ldc_w (C : amC E d cc nL own) {idx : Nat} {v : Int32} (hc : Cond.constant own idx v ∈ lw_t) (hd : decode cc pc = .ok (.ldc_w idx, 3)) (k : AW E lay nL Qc F (pc + 3) lv (.int v :: st) M) : AW E lay nL Qc F pc lv st M := fun t ht H locs ls hS hh => lv_ldcw C.1 C.2.1 C.2.2.2.1 (C.2.2.2.2.1 _ hc) hd (k t ht H locs ls hS hh)
theorem aw_ldcS (C : amC E d cc nL RX6) (hd : decode cc pc = .ok (.ldc 59, 2)) (k : AW E lay nL Qc F (pc + 2) lv (.ref 1003 :: st) M) : AW E lay nL Qc F pc lv st M :=
  fun t ht H locs ls hS hh => va_ldcS C.1 C.2.1 C.2.2.2.1 C.2.2.2.2.2.2.2.2.1.2.2.2.1 hd (k t ht H locs ls hS hh)
theorem aw_sgetV (C : amC E d cc nL own) {idx : Nat} (hl : Cond.fieldLink own idx "java/lang/String" "value" "[B" ∈ lw_t) (dg : decode cc pc = .ok (.getfield idx, 3)) (k : AW E lay nL Qc F (pc + 3) lv (.ref 1004 :: st) M) : AW E lay nL Qc F pc lv (.ref 1003 :: st) M :=
  fun t ht H locs ls hS hh => vk_getf C.1 C.2.1 (C.2.2.2.2.2.2.2.2.1.2.2.2.2.1.1 0 Nat.one_pos).2.2.1 hS.2.2 C.2.2.2.1 (C.2.2.2.2.1 _ hl) (fun _ h => h) dg (k t ht H locs ls hS hh)
theorem aw_sgetC (C : amC E d cc nL own) {idx : Nat} (hl : Cond.fieldLink own idx "java/lang/String" "coder" "B" ∈ lw_t) (dg : decode cc pc = .ok (.getfield idx, 3)) (k : AW E lay nL Qc F (pc + 3) lv (.int 0 :: st) M) : AW E lay nL Qc F pc lv (.ref 1003 :: st) M :=
  fun t ht H locs ls hS hh => vk_getf C.1 C.2.1 (C.2.2.2.2.2.2.2.2.1.2.2.2.2.1.1 0 Nat.one_pos).2.1 hS.2.2 C.2.2.2.1 (C.2.2.2.2.1 _ hl) (fun _ h => h) dg (k t ht H locs ls hS hh)
theorem aw_getsCS (C : amC E d cc nL own) {idx : Nat} (hl : Cond.fieldLink own idx "java/lang/String" "COMPACT_STRINGS" "Z" ∈ lw_t) (dg : decode cc pc = .ok (.getstatic idx, 3)) (k : AW E lay nL Qc F (pc + 3) lv (.int 1 :: st) M) : AW E lay nL Qc F pc lv st M :=
  fun t ht H locs ls hS hh => va_gets C.1 C.2.1 C.2.2.2.2.2.2.2.2.1.2.2.2.2.2 hS.2.2 C.2.2.2.1 (C.2.2.2.2.1 _ hl) (fun _ h => h) dg (k t ht H locs ls hS hh)
def am_bt (j : Nat) : Int32 := ([99, 115, 104, 108, 100] : List Int32).getD j 0
theorem aw_btald (C : amC E d cc nL own) {i : Int32} (dg : decode cc pc = .ok (.baload, 1)) (k : AW E lay nL Qc F (pc + 1) lv (.int (am_bt i.toNatClampNeg) :: st) M) : AW E lay nL Qc (if am_in i 5 = true then F else none) pc lv (.int i :: .ref 1004 :: st) M := by
  refine aw_ite (fun hi => ?_) (fun _ => aw_none)
  exact fun u hu H locs ls hS hh => va_tb C.1 C.2.1 (C.2.2.2.2.2.2.2.2.1.2.2.2.2.1.1 0 Nat.one_pos).2.2.2 hS.2.2 (am_in_vp hi) rfl dg (k u hu H locs ls hS hh)
theorem aw_btlen (C : amC E d cc nL own) (dg : decode cc pc = .ok (.arraylength, 1)) (k : AW E lay nL Qc F (pc + 1) lv (.int 5 :: st) M) : AW E lay nL Qc F pc lv (.ref 1004 :: st) M :=
  fun u hu H locs ls hS hh => va_tlen C.1 C.2.1 (C.2.2.2.2.2.2.2.2.1.2.2.2.2.1.1 0 Nat.one_pos).2.2.2 hS.2.2 (by decide) dg (k u hu H locs ls hS hh)
theorem aw_bretp (C : amC E d cc nL own) {v : Int32} (hv : narrow .byte (.int v) = .int v) (hr : (eH E).sig.returnType = some .byte) (dg : decode cc pc = .ok (.ireturn, 1)) : AW E lay nL (qIp lay M) (some v) pc lv [.int v] M := by
  intro t ht H locs ls hS hh
  cases ht
  exact W.zret C.1 C.2.1 hr hv (fun t ht hW => ⟨⟨v, M, rfl, rfl, (am_end C hS t ht hW).1⟩, (am_end C hS t ht hW).2⟩) hS.2.2.2.2 dg C.2.2.2.2.2.1
theorem aw_cUIp (C : amC E d cc nL own) {y : MethodName} {b : ByteArray} {n np idx dc : Nat} {ret : Option FieldType} (As rest : List Value) {G : Option Int32} {kf : Int32 → Option ρ} (hM : AMet dc y b n ret lay (.ref 1003 :: As) M (qIp lay M) G) (hy : amV y b n ret "java/lang/String" np) (hl : Cond.methodLink own idx y ∈ lw_t) (hdc : dc + 1 ≤ d) (hn : As.length = np) (hst : st = As.reverse ++ .ref 1003 :: rest) (hr : (rest.map fun v => v.category).sum ≤ 8) (dg : decode cc pc = .ok (.invokevirtual idx, 3)) (k : ∀ u : Int32, AW E lay nL Qc (kf u) (pc + 3) lv (.int u :: rest) M) : AW E lay nL Qc (G.bind kf) pc lv st M := by
  intro t ht H locs ls hS hh
  obtain ⟨u, hG, hk0⟩ := am_bind ht
  subst hst
  refine va_calli (a := (Value.ref (eX E 1003) :: As.map (cv (eX E))).toArray) (va_runV (As := As.map (cv (eX E))) (rest := rest.map (cv (eX E))) ⟨C.1, C.2.1, C.2.2.1, C.2.2.2.1, C.2.2.2.2.1⟩ (hM (eL E) (eD E) (eK E) (eX E) H.size u hG)
    (cwV np C.2.2.2.2.1 (am_wsV hy hl) rfl rfl rfl hy.2.2.2.2.1 ⟨?_, ?_⟩) ⟨amPc_blind, vk_recv (i := 0) C.2.2.2.2.2.2.2.2.1.2.2.2.2.1 Nat.one_pos hS.2.2, fun U hU hW => am_pre C hS _ U hU hW⟩ rfl (by rw [List.length_map]; exact hn) hh.1 ?_ (lv_room ?_) dg ⟨Nat.zero_le _, Nat.zero_le _⟩) hS.2.2 (fun q _ h => am_free C hS q h) (am_free C hS) (fun r M' t1 H1 locs1 ht1 hvm hpost hB hz hk hS1 => ?_)
  · show dc + 1 ≤ _
    exact Nat.le_trans hdc C.2.2.2.2.2.2.2.2.2.1
  · show 8 + (n + 11) + 64 * dc ≤ _
    refine Nat.le_trans ?_ C.2.2.2.2.2.2.2.2.2.2
    have := hy.2.2.2.2.2
    omega
  · show (As.reverse ++ .ref 1003 :: rest).map (cv (eX E)) = _
    rw [List.map_append, List.map_reverse]
    rfl
  · rw [am_catl]; exact hr
  · cases hpost
    exact k u t hk0 H1 locs1 ls (am_after C hS ht1 hB hS1) hh
end AR
theorem pn_J0 : plainName RJ0 = true := by decide +kernel
theorem pn_J1 : plainName RJ1 = true := by decide +kernel
theorem v_J0_coder_7d493 : amV yJ0_coder_7d493 cJ0_coder_7d493 1 (some .byte) RJ0 0 := ⟨lw_in (List.mem_of_getElem? (i := 495) (by decide +kernel)) rfl, lw_in (List.mem_of_getElem? (i := 493) (by decide +kernel)) rfl, lw_in (List.mem_of_getElem? (i := 494) (by decide +kernel)) rfl, lw_in (List.mem_of_getElem? (i := 96) (by decide +kernel)) rfl, by decide +kernel, by decide⟩
