def lyX : List lyE := [.inl (7, [some 1, some 13, some 15, some 23, some 31, some 33, some 34, some 40, some 42, none, none, none]), .inl (5, [some 2, some 3, some 4]), .inr (.inl 8), .inr (.inl 8), .inr (.inr (.inr [5, 6, 7, 8, 9, 10, 11, 12])), .inr (.inl 40), .inr (.inl 40), .inr (.inl 40), .inr (.inl 40), .inr (.inl 40), .inr (.inl 40), .inr (.inl 40), .inr (.inl 40), .inl (6, [some 14, none, none, none, none, none]), .inr (.inl 110), .inl (3, [none, none, none, none, none, none, some 16, some 17, some 18, some 19, some 20, some 21, some 22]), .inr (.inl 6), .inr (.inl 6), .inr (.inl 6), .inr (.inl 6), .inr (.inl 6), .inr (.inl 6), .inr (.inl 12), .inl (3, [none, none, none, none, none, none, some 24, some 25, some 26, some 27, some 28, some 29, some 30]), .inr (.inl 6), .inr (.inl 6), .inr (.inl 6), .inr (.inl 6), .inr (.inl 6), .inr (.inl 6), .inr (.inl 12), .inl (0, [some 32, none, none]), .inr (.inl 960), .inl (2, [some 15, some 23, some 43]), .inl (4, [some 23, some 35, some 36, some 37, some 38, some 39, none, none, none, none]), .inr (.inl 240), .inr (.inl 40), .inr (.inl 40), .inr (.inl 6), .inr (.inl 6), .inl (1, [some 15, some 41, none]), .inr (.inl 16), .inr (.inl 80), .inr (.inl 5)]
theorem lo_X_0 : lyX[0]? = some (.inl (7, [some 1, some 13, some 15, some 23, some 31, some 33, some 34, some 40, some 42, none, none, none])) := rfl
theorem lo_X_1 : lyX[1]? = some (.inl (5, [some 2, some 3, some 4])) := rfl
theorem la_X_2 : lyX[2]? = some (.inr (.inl 8)) := rfl
theorem la_X_3 : lyX[3]? = some (.inr (.inl 8)) := rfl
theorem la_X_4 : lyX[4]? = some (.inr (.inr (.inr [5, 6, 7, 8, 9, 10, 11, 12]))) := rfl
theorem la_X_5 : lyX[5]? = some (.inr (.inl 40)) := rfl
theorem la_X_6 : lyX[6]? = some (.inr (.inl 40)) := rfl
theorem la_X_7 : lyX[7]? = some (.inr (.inl 40)) := rfl
theorem la_X_8 : lyX[8]? = some (.inr (.inl 40)) := rfl
theorem la_X_9 : lyX[9]? = some (.inr (.inl 40)) := rfl
theorem la_X_10 : lyX[10]? = some (.inr (.inl 40)) := rfl
theorem la_X_11 : lyX[11]? = some (.inr (.inl 40)) := rfl
theorem la_X_12 : lyX[12]? = some (.inr (.inl 40)) := rfl
theorem lo_X_13 : lyX[13]? = some (.inl (6, [some 14, none, none, none, none, none])) := rfl
theorem la_X_14 : lyX[14]? = some (.inr (.inl 110)) := rfl
theorem lo_X_15 : lyX[15]? = some (.inl (3, [none, none, none, none, none, none, some 16, some 17, some 18, some 19, some 20, some 21, some 22])) := rfl
theorem la_X_16 : lyX[16]? = some (.inr (.inl 6)) := rfl
theorem la_X_17 : lyX[17]? = some (.inr (.inl 6)) := rfl
theorem la_X_18 : lyX[18]? = some (.inr (.inl 6)) := rfl
theorem la_X_19 : lyX[19]? = some (.inr (.inl 6)) := rfl
theorem la_X_20 : lyX[20]? = some (.inr (.inl 6)) := rfl
theorem la_X_21 : lyX[21]? = some (.inr (.inl 6)) := rfl
theorem la_X_22 : lyX[22]? = some (.inr (.inl 12)) := rfl
theorem lo_X_23 : lyX[23]? = some (.inl (3, [none, none, none, none, none, none, some 24, some 25, some 26, some 27, some 28, some 29, some 30])) := rfl
theorem la_X_24 : lyX[24]? = some (.inr (.inl 6)) := rfl
theorem la_X_25 : lyX[25]? = some (.inr (.inl 6)) := rfl
theorem la_X_26 : lyX[26]? = some (.inr (.inl 6)) := rfl
theorem la_X_27 : lyX[27]? = some (.inr (.inl 6)) := rfl
theorem la_X_28 : lyX[28]? = some (.inr (.inl 6)) := rfl
theorem la_X_29 : lyX[29]? = some (.inr (.inl 6)) := rfl
theorem la_X_30 : lyX[30]? = some (.inr (.inl 12)) := rfl
theorem lo_X_31 : lyX[31]? = some (.inl (0, [some 32, none, none])) := rfl
theorem la_X_32 : lyX[32]? = some (.inr (.inl 960)) := rfl
theorem lo_X_33 : lyX[33]? = some (.inl (2, [some 15, some 23, some 43])) := rfl
theorem lo_X_34 : lyX[34]? = some (.inl (4, [some 23, some 35, some 36, some 37, some 38, some 39, none, none, none, none])) := rfl
theorem la_X_35 : lyX[35]? = some (.inr (.inl 240)) := rfl
theorem la_X_36 : lyX[36]? = some (.inr (.inl 40)) := rfl
theorem la_X_37 : lyX[37]? = some (.inr (.inl 40)) := rfl
theorem la_X_38 : lyX[38]? = some (.inr (.inl 6)) := rfl
theorem la_X_39 : lyX[39]? = some (.inr (.inl 6)) := rfl
theorem lo_X_40 : lyX[40]? = some (.inl (1, [some 15, some 41, none])) := rfl
theorem la_X_41 : lyX[41]? = some (.inr (.inl 16)) := rfl
theorem la_X_42 : lyX[42]? = some (.inr (.inl 80)) := rfl
theorem la_X_43 : lyX[43]? = some (.inr (.inl 5)) := rfl
def lyM : List lyE := [.inl (8, [some 1, none, some 2, some 3, some 4, some 5, some 6, none, none, none, some 7, none, none, none, none, some 8, none, none, none, some 9, some 10]), .inr (.inl 1092), .inr (.inr (.inl 2)), .inr (.inl 8), .inr (.inl 8), .inr (.inl 320), .inr (.inl 110), .inr (.inl 16), .inr (.inl 6), .inr (.inl 6), .inr (.inl 16)]
theorem lo_M_0 : lyM[0]? = some (.inl (8, [some 1, none, some 2, some 3, some 4, some 5, some 6, none, none, none, some 7, none, none, none, none, some 8, none, none, none, some 9, some 10])) := rfl
theorem la_M_1 : lyM[1]? = some (.inr (.inl 1092)) := rfl
theorem la_M_2 : lyM[2]? = some (.inr (.inr (.inl 2))) := rfl
theorem la_M_3 : lyM[3]? = some (.inr (.inl 8)) := rfl
theorem la_M_4 : lyM[4]? = some (.inr (.inl 8)) := rfl
theorem la_M_5 : lyM[5]? = some (.inr (.inl 320)) := rfl
theorem la_M_6 : lyM[6]? = some (.inr (.inl 110)) := rfl
theorem la_M_7 : lyM[7]? = some (.inr (.inl 16)) := rfl
theorem la_M_8 : lyM[8]? = some (.inr (.inl 6)) := rfl
theorem la_M_9 : lyM[9]? = some (.inr (.inl 6)) := rfl
theorem la_M_10 : lyM[10]? = some (.inr (.inl 16)) := rfl
def isHl (h : Nat) : Prop := h = 15 ∨ h = 23
theorem isHl_15 : isHl 15 := Or.inl rfl
theorem isHl_23 : isHl 23 := Or.inr rfl
theorem hl_o {h : Nat} (hh : isHl h) : lyX[h]? = some (.inl (3, [none, none, none, none, none, none, some (h + 1), some (h + 2), some (h + 3), some (h + 4), some (h + 5), some (h + 6), some (h + 7)])) := by rcases hh with rfl | rfl <;> rfl
theorem hl_1 {h : Nat} (hh : isHl h) : lyX[h + 1]? = some (.inr (.inl 6)) := by rcases hh with rfl | rfl <;> rfl
theorem hl_2 {h : Nat} (hh : isHl h) : lyX[h + 2]? = some (.inr (.inl 6)) := by rcases hh with rfl | rfl <;> rfl
theorem hl_3 {h : Nat} (hh : isHl h) : lyX[h + 3]? = some (.inr (.inl 6)) := by rcases hh with rfl | rfl <;> rfl
theorem hl_4 {h : Nat} (hh : isHl h) : lyX[h + 4]? = some (.inr (.inl 6)) := by rcases hh with rfl | rfl <;> rfl
theorem hl_5 {h : Nat} (hh : isHl h) : lyX[h + 5]? = some (.inr (.inl 6)) := by rcases hh with rfl | rfl <;> rfl
theorem hl_6 {h : Nat} (hh : isHl h) : lyX[h + 6]? = some (.inr (.inl 6)) := by rcases hh with rfl | rfl <;> rfl
theorem hl_7 {h : Nat} (hh : isHl h) : lyX[h + 7]? = some (.inr (.inl 12)) := by rcases hh with rfl | rfl <;> rfl
theorem ly_row2 {p : Nat} (h : 5 ≤ p ∧ p < 13) : lyX[p]? = some (.inr (.inl 40)) := by
  obtain ⟨h1, h2⟩ := h
  rcases (show p = 5 ∨ p = 6 ∨ p = 7 ∨ p = 8 ∨ p = 9 ∨ p = 10 ∨ p = 11 ∨ p = 12 by omega) with rfl | rfl | rfl | rfl | rfl | rfl | rfl | rfl <;> rfl
theorem ly_row {i : Int32} (h : am_in i 8 = true) : lyX[5 + i.toNatClampNeg]? = some (.inr (.inl 40)) := by
  have h1 := am_in_vp h
  have h2 : i.toNatClampNeg < 8 := Nat.lt_of_not_le (fun q => h1 (Or.inr q))
  exact ly_row2 ⟨by omega, by omega⟩
def am_let {α : Type} {β : Type} (a : α) (f : α → β) : β := f a
def am_fuel : Nat := 2000
def am_tab (t j : Nat) : Int32 := if t = 1000 then ([-1, 0, 1, 1, 0, 4] : List Int32).getD j 0 else if t = 1001 then ([10, 11, 12, -1000000, 13, 14] : List Int32).getD j 0 else ([20, 21, 24, 22, 23, -1000000] : List Int32).getD j 0
def isTb (t : Nat) : Prop := t = 1000 ∨ t = 1001 ∨ t = 1002
theorem isTb_1000 : isTb 1000 := Or.inl rfl
theorem isTb_1001 : isTb 1001 := Or.inr (Or.inl rfl)
theorem isTb_1002 : isTb 1002 := Or.inr (Or.inr rfl)
theorem am_tb {ad : Nat → Nat} {A : Nat → Prop} {U : State} {H : Heap} (h : am_St ad A U H) {t : Nat} (ht : isTb t) : va_T .int (ad t) 6 (fun j => .int (am_tab t j)) A U H := by
  rcases ht with rfl | rfl | rfl
  · exact h.1.2
  · exact h.2.1.2
  · exact h.2.2.1.2
section AR
variable {E : amE} {lay : List lyE} {d nL : Nat} {cc : ByteArray} {own : String} {ρ : Type} {Qc : amQ ρ} {F F1 F2 : Option ρ} {pc : Nat} {lv : List (Nat × Value)} {st : List Value} {M : Mem}
theorem aw_mlet {f : Mem → Option ρ} (k : ∀ M1 : Mem, AW E lay nL Qc (f M1) pc lv st M1) : AW E lay nL Qc (am_let M f) pc lv st M := k M
theorem aw_ilet {x : Int32} {f : Int32 → Option ρ} (k : ∀ y : Int32, AW E lay nL Qc (f y) pc lv (.int y :: st) M) : AW E lay nL Qc (am_let x f) pc lv (.int x :: st) M := k x
theorem aw_llet {x : Int64} {f : Int64 → Option ρ} (k : ∀ y : Int64, AW E lay nL Qc (f y) pc lv (.long y :: st) M) : AW E lay nL Qc (am_let x f) pc lv (.long x :: st) M := k x
theorem aw_st {st' : List Value} (h : st = st') (k : AW E lay nL Qc F pc lv st' M) : AW E lay nL Qc F pc lv st M := h ▸ k
theorem aw_aald8 (C : amC E d cc nL own) {i : Int32} (hq : lay[4]? = some (.inr (.inr (.inr [5, 6, 7, 8, 9, 10, 11, 12])))) (hi : am_in i 8 = true) (dg : decode cc pc = .ok (.aaload, 1)) (k : AW E lay nL Qc F (pc + 1) lv (.ref (5 + i.toNatClampNeg) :: st) M) : AW E lay nL Qc F pc lv (.int i :: .ref 4 :: st) M := by
  have h := aw_aald C (b := 5) (i := i) hq 8 rfl (fun j hj => by rcases (show j = 0 ∨ j = 1 ∨ j = 2 ∨ j = 3 ∨ j = 4 ∨ j = 5 ∨ j = 6 ∨ j = 7 by omega) with rfl | rfl | rfl | rfl | rfl | rfl | rfl | rfl <;> rfl) dg k
  rw [if_pos hi] at h
  exact h
theorem aw_tald (C : amC E d cc nL own) {t : Nat} {i : Int32} (ht : isTb t) (dg : decode cc pc = .ok (.iaload, 1)) (k : AW E lay nL Qc F (pc + 1) lv (.int (am_tab t i.toNatClampNeg) :: st) M) : AW E lay nL Qc (if am_in i 6 = true then F else none) pc lv (.int i :: .ref t :: st) M := by
  refine aw_ite (fun hi => ?_) (fun _ => aw_none)
  exact fun u hu H locs ls hS hh => va_ti C.1 C.2.1 (am_tb C.2.2.2.2.2.2.2.2.1 ht) hS.2.2 (am_in_vp hi) rfl dg (k u hu H locs ls hS hh)
theorem aw_tlen (C : amC E d cc nL own) {t : Nat} (ht : isTb t) (dg : decode cc pc = .ok (.arraylength, 1)) (k : AW E lay nL Qc F (pc + 1) lv (.int 6 :: st) M) : AW E lay nL Qc F pc lv (.ref t :: st) M :=
  fun u hu H locs ls hS hh => va_tlen C.1 C.2.1 (am_tb C.2.2.2.2.2.2.2.2.1 ht) hS.2.2 (by decide) dg (k u hu H locs ls hS hh)
theorem aw_gets1000 (C : amC E d cc nL own) {idx : Nat} (hl : Cond.fieldLink own idx "LuggageBelt$Asks" "KIND_ABOVE" "[I" ∈ lw_t) (dg : decode cc pc = .ok (.getstatic idx, 3)) (k : AW E lay nL Qc F (pc + 3) lv (.ref 1000 :: st) M) : AW E lay nL Qc F pc lv st M :=
  fun u hu H locs ls hS hh => va_gets C.1 C.2.1 C.2.2.2.2.2.2.2.2.1.1.1 hS.2.2 C.2.2.2.1 (C.2.2.2.2.1 _ hl) (fun _ h => h) dg (k u hu H locs ls hS hh)
theorem aw_gets1001 (C : amC E d cc nL own) {idx : Nat} (hl : Cond.fieldLink own idx "LuggageBelt$Asks" "SIZE_BODIES" "[I" ∈ lw_t) (dg : decode cc pc = .ok (.getstatic idx, 3)) (k : AW E lay nL Qc F (pc + 3) lv (.ref 1001 :: st) M) : AW E lay nL Qc F pc lv st M :=
  fun u hu H locs ls hS hh => va_gets C.1 C.2.1 C.2.2.2.2.2.2.2.2.1.2.1.1 hS.2.2 C.2.2.2.1 (C.2.2.2.2.1 _ hl) (fun _ h => h) dg (k u hu H locs ls hS hh)
theorem aw_gets1002 (C : amC E d cc nL own) {idx : Nat} (hl : Cond.fieldLink own idx "LuggageBelt$Asks" "MARK_BODIES" "[I" ∈ lw_t) (dg : decode cc pc = .ok (.getstatic idx, 3)) (k : AW E lay nL Qc F (pc + 3) lv (.ref 1002 :: st) M) : AW E lay nL Qc F pc lv st M :=
  fun u hu H locs ls hS hh => va_gets C.1 C.2.1 C.2.2.2.2.2.2.2.2.1.2.2.1.1 hS.2.2 C.2.2.2.1 (C.2.2.2.2.1 _ hl) (fun _ h => h) dg (k u hu H locs ls hS hh)
end AR
theorem pn_X0 : plainName RX0 = true := by decide +kernel
theorem pn_X1 : plainName RX1 = true := by decide +kernel
theorem pn_X2 : plainName RX2 = true := by decide +kernel
theorem pn_X3 : plainName RX3 = true := by decide +kernel
theorem pn_X4 : plainName RX4 = true := by decide +kernel
theorem pn_X5 : plainName RX5 = true := by decide +kernel
theorem pn_X6 : plainName RX6 = true := by decide +kernel
theorem pn_X7 : plainName RX7 = true := by decide +kernel
theorem pn_X8 : plainName RX8 = true := by decide +kernel
theorem pn_J6 : plainName RJ6 = true := by decide +kernel
theorem pn_J7 : plainName RJ7 = true := by decide +kernel
