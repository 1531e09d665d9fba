theorem amet_none {d : Nat} {y : MethodName} {b : ByteArray} {n : Nat} {ret : Option FieldType} {lay : List lyE} {av : List Value} {M : Mem} {ρ : Type} {Qc : amQ ρ} : AMet d y b n ret lay av M Qc none := fun _ _ _ _ _ t h => by cases h
/-- Math.floorMod -/
def am_fm (x y : Int32) : Int32 := if (x ^^^ y) < 0 then (if x - x / y * y = 0 then x - x / y * y else x - x / y * y + y) else x - x / y * y
/-- "cshld".indexOf -/
def am_ix (x : Int32) : Int32 := if x = 99 then 0 else if x = 115 then 1 else if x = 104 then 2 else if x = 108 then 3 else if x = 100 then 4 else -1
section AR
variable {E : amE} {lay : List lyE} {d nL : Nat} {cc : ByteArray} {own : String} {ρ : Type} {Qc : amQ ρ} {F F1 F2 : Option ρ} {pc : Nat} {lv : List (Nat × Value)} {st : List Value} {M : Mem}
theorem aw_ldc_w (C : amC E d cc nL own) {idx : Nat} {v : Int32} (hc : Cond.constant own idx v ∈ lw_t) (hd : decode cc pc = .ok (.ldc_w idx, 3)) (k : AW E lay nL Qc F (pc + 3) lv (.int v :: st) M) : AW E lay nL Qc F pc lv st M := fun t ht H locs ls hS hh => lv_ldcw C.1 C.2.1 C.2.2.2.1 (C.2.2.2.2.1 _ hc) hd (k t ht H locs ls hS hh)
theorem aw_ldcS (C : amC E d cc nL "LuggageBelt$Tape") (hd : decode cc pc = .ok (.ldc 59, 2)) (k : AW E lay nL Qc F (pc + 2) lv (.ref 1003 :: st) M) : AW E lay nL Qc F pc lv st M := by
  sorry
theorem aw_indexOf (C : amC E d cc nL own) {idx : Nat} {x : Int32} (hl : Cond.methodLink own idx yJ0_indexOf_0f7a4 ∈ lw_t) (hd1 : 8 ≤ d) (hr : (st.map fun v => v.category).sum ≤ 8) (dg : decode cc pc = .ok (.invokevirtual idx, 3)) (k : AW E lay nL Qc F (pc + 3) lv (.int (am_ix x) :: st) M) : AW E lay nL Qc F pc lv (.int x :: .ref 1003 :: st) M := by
  sorry
end AR
