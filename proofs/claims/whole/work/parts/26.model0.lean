def X8_in  (x0 : Int64) (x2 : Int64) (x4 : Int64)  : Option (Int32) :=
  if (lg_cmp x0 x2) < 0 then
    some (0 : Int32)
  else
    if 0 < (lg_cmp x0 x4) then
      some (0 : Int32)
    else
      some (1 : Int32)
theorem m_X8_in  (M : Mem) (x0 : Int64) (x2 : Int64) (x4 : Int64)  : AMet 1 yX8_in cX8_in 6 (some .boolean) lyM [.long x0, .long x2, .long x4] M (qIp lyM M) (X8_in x0 x2 x4) := by
  refine am_ent pn_X8 (Nat.le_of_ble_eq_true rfl) (fun E C hr => ?_)
  refine aw_lv (lv' := [(0, .long x0), (2, .long x2), (4, .long x4)]) rfl ?_
  unfold X8_in
  refine aw_lload_n C dX8_in_0 rfl ?_
  refine aw_lload_n C dX8_in_1 rfl ?_
  refine aw_lcmp C dX8_in_2 ?_
  refine aw_if_lt C (tgt := 17) dX8_in_3 (by decide) ?_ ?_
  · refine aw_iconst C (0 : Int32) dX8_in_17 (by decide) ?_
    exact aw_zretp C (Or.inl rfl) hr dX8_in_18
  · refine aw_lload_n C dX8_in_6 rfl ?_
    refine aw_lload C dX8_in_7 rfl ?_
    refine aw_lcmp C dX8_in_9 ?_
    refine aw_if_gt C (tgt := 17) dX8_in_10 (by decide) ?_ ?_
    · refine aw_iconst C (0 : Int32) dX8_in_17 (by decide) ?_
      exact aw_zretp C (Or.inl rfl) hr dX8_in_18
    · refine aw_iconst C (1 : Int32) dX8_in_13 (by decide) ?_
      refine aw_goto C (tgt := 18) dX8_in_14 (by decide) ?_
      exact aw_zretp C (Or.inr rfl) hr dX8_in_18
def X8_has  (x0 : Int32) (x1 : Int32)  : Option (Int32) :=
  if ((x0 >>> (x1 &&& 31)) &&& (1 : Int32)) = (1 : Int32) then
    some (1 : Int32)
  else
    some (0 : Int32)
theorem m_X8_has  (M : Mem) (x0 : Int32) (x1 : Int32)  : AMet 1 yX8_has cX8_has 2 (some .boolean) lyM [.int x0, .int x1] M (qIp lyM M) (X8_has x0 x1) := by
  refine am_ent pn_X8 (Nat.le_of_ble_eq_true rfl) (fun E C hr => ?_)
  refine aw_lv (lv' := [(0, .int x0), (1, .int x1)]) rfl ?_
  unfold X8_has
  refine aw_iload_n C dX8_has_0 rfl ?_
  refine aw_iload_n C dX8_has_1 rfl ?_
  refine aw_ishr C dX8_has_2 ?_
  refine aw_iconst C (1 : Int32) dX8_has_3 (by decide) ?_
  refine aw_iand C dX8_has_4 ?_
  refine aw_iconst C (1 : Int32) dX8_has_5 (by decide) ?_
  refine aw_icmp_ne C (tgt := 13) dX8_has_6 (by decide) ?_ ?_
  · refine aw_iconst C (1 : Int32) dX8_has_9 (by decide) ?_
    refine aw_goto C (tgt := 14) dX8_has_10 (by decide) ?_
    exact aw_zretp C (Or.inr rfl) hr dX8_has_14
  · refine aw_iconst C (0 : Int32) dX8_has_13 (by decide) ?_
    exact aw_zretp C (Or.inl rfl) hr dX8_has_14
def X8_bits_4  : Nat → Int32 → Int32 → Int32 → Option (Int32)
  | 0, _, _, _ => none
  | f + 1, x0, x1, x2 =>
    if x2 < (6 : Int32) then
      X8_bits_4  f x0 (x1 + ((x0 >>> (x2 &&& 31)) &&& (1 : Int32))) (x2 + (1 : Int32))
    else
      some x1
def X8_bits  (x0 : Int32)  : Option (Int32) :=
  X8_bits_4 am_fuel x0 (0 : Int32) (0 : Int32)
theorem m_X8_bits_4 {E : amE} (C : amC E 1 cX8_bits 3 RX8) (hr : (eH E).sig.returnType = (some .int)) (M : Mem) : ∀ (f : Nat) (x0 : Int32) (x1 : Int32) (x2 : Int32), AW E lyM 3 (qIp lyM M) (X8_bits_4 f x0 x1 x2) 4 [(0, .int x0), (1, .int x1), (2, .int x2)] [] M := by
  intro f
  induction f with
  | zero => exact (fun _ _ _ => aw_none)
  | succ f ih =>
    intro x0 x1 x2
    rw [X8_bits_4]
    refine aw_iload_n C dX8_bits_4 rfl ?_
    refine aw_bipush C (6 : Int32) dX8_bits_5 (by decide) ?_
    refine aw_icmp_ge C (tgt := 24) dX8_bits_7 (by decide) ?_ ?_
    · refine aw_iload_n C dX8_bits_10 rfl ?_
      refine aw_iload_n C dX8_bits_11 rfl ?_
      refine aw_iload_n C dX8_bits_12 rfl ?_
      refine aw_ishr C dX8_bits_13 ?_
      refine aw_iconst C (1 : Int32) dX8_bits_14 (by decide) ?_
      refine aw_iand C dX8_bits_15 ?_
      refine aw_iadd C dX8_bits_16 ?_
      refine aw_istore_n C [(1, .int (x1 + ((x0 >>> (x2 &&& 31)) &&& (1 : Int32)))), (0, .int x0), (2, .int x2)] dX8_bits_17 (by decide) rfl ?_
      refine aw_iinc C (v := (1 : Int32)) [(2, .int (x2 + (1 : Int32))), (1, .int (x1 + ((x0 >>> (x2 &&& 31)) &&& (1 : Int32)))), (0, .int x0)] dX8_bits_18 rfl (by decide) (by decide) rfl ?_
      refine aw_goto C (tgt := 4) dX8_bits_21 (by decide) ?_
      refine aw_sub [2, 1, 0] rfl ?_
      exact ih x0 (x1 + ((x0 >>> (x2 &&& 31)) &&& (1 : Int32))) (x2 + (1 : Int32))
    · refine aw_iload_n C dX8_bits_24 rfl ?_
      exact aw_iretp C hr dX8_bits_25
theorem m_X8_bits  (M : Mem) (x0 : Int32)  : AMet 1 yX8_bits cX8_bits 3 (some .int) lyM [.int x0] M (qIp lyM M) (X8_bits x0) := by
  refine am_ent pn_X8 (Nat.le_of_ble_eq_true rfl) (fun E C hr => ?_)
  refine aw_lv (lv' := [(0, .int x0)]) rfl ?_
  unfold X8_bits
  refine aw_iconst C (0 : Int32) dX8_bits_0 (by decide) ?_
  refine aw_istore_n C [(1, .int (0 : Int32)), (0, .int x0)] dX8_bits_1 (by decide) rfl ?_
  refine aw_iconst C (0 : Int32) dX8_bits_2 (by decide) ?_
  refine aw_istore_n C [(2, .int (0 : Int32)), (1, .int (0 : Int32)), (0, .int x0)] dX8_bits_3 (by decide) rfl ?_
  refine aw_sub [2, 1, 0] rfl ?_
  exact m_X8_bits_4 C hr M am_fuel x0 (0 : Int32) (0 : Int32)
def X8_find  (x1 : Int32) (M : Mem) : Option (Int32 × Mem) :=
  am_let (mset M 0 (upd (M 0) 9 x1)) fun M1 =>
  some ((-1000010 : Int32) - x1, M1)
theorem m_X8_find   (x1 : Int32) (M : Mem) : AMet 1 yX8_find cX8_find 2 (some .int) lyM [.ref 0, .int x1] M (qI lyM) (X8_find x1 M) := by
  refine am_ent pn_X8 (Nat.le_of_ble_eq_true rfl) (fun E C hr => ?_)
  refine aw_lv (lv' := [(0, .ref 0), (1, .int x1)]) rfl ?_
  unfold X8_find
  refine aw_aload_n C dX8_find_0 rfl ?_
  refine aw_iload_n C dX8_find_1 rfl ?_
  refine aw_putI C clX8 lo_M_0 9 rfl (by decide) rfl rfl kf_X8_41 dX8_find_2 ?_
  refine aw_mlet (fun M1 => ?_)
  refine aw_ldc C kc_X8_45 dX8_find_5 ?_
  refine aw_iload_n C dX8_find_7 rfl ?_
  refine aw_isub C dX8_find_8 ?_
  exact aw_iret C hr dX8_find_9
def X8_well  (x1 : Int32) (M : Mem) : Option (Int32 × Mem) :=
  am_let (mset M 0 (upd (M 0) 9 (0 : Int32))) fun M1 =>
  some (x1, M1)
theorem m_X8_well   (x1 : Int32) (M : Mem) : AMet 1 yX8_well cX8_well 2 (some .int) lyM [.ref 0, .int x1] M (qI lyM) (X8_well x1 M) := by
  refine am_ent pn_X8 (Nat.le_of_ble_eq_true rfl) (fun E C hr => ?_)
  refine aw_lv (lv' := [(0, .ref 0), (1, .int x1)]) rfl ?_
  unfold X8_well
  refine aw_aload_n C dX8_well_0 rfl ?_
  refine aw_iconst C (0 : Int32) dX8_well_1 (by decide) ?_
  refine aw_putI C clX8 lo_M_0 9 rfl (by decide) rfl rfl kf_X8_41 dX8_well_2 ?_
  refine aw_mlet (fun M1 => ?_)
  refine aw_iload_n C dX8_well_5 rfl ?_
  exact aw_iret C hr dX8_well_6
def X8_isRow  (x0 : Int32)  : Option (Int32) :=
  Option.bind (X8_in x0.toInt64 (0 : Int64) (7 : Int64)) fun r1 =>
  if r1 = 0 ∨ r1 = 1 then some r1 else none
theorem m_X8_isRow  (M : Mem) (x0 : Int32)  : AMet 2 yX8_isRow cX8_isRow 1 (some .boolean) lyM [.int x0] M (qIp lyM M) (X8_isRow x0) := by
  refine am_ent pn_X8 (Nat.le_of_ble_eq_true rfl) (fun E C hr => ?_)
  refine aw_lv (lv' := [(0, .int x0)]) rfl ?_
  unfold X8_isRow
  refine aw_iload_n C dX8_isRow_0 rfl ?_
  refine aw_i2l C dX8_isRow_1 ?_
  refine aw_lconst C (0 : Int64) dX8_isRow_2 (by decide) ?_
  refine aw_ldc2 C kd_X8_46 dX8_isRow_3 ?_
  refine aw_cSIp C [.long x0.toInt64, .long (0 : Int64), .long (7 : Int64)] [] (m_X8_in M x0.toInt64 (0 : Int64) (7 : Int64)) t_X8_in km_X8_48 (by decide) rfl rfl (Nat.le_of_ble_eq_true rfl) dX8_isRow_6 (fun r1 => ?_)
  exact aw_zretgp C hr dX8_isRow_9
def X8_row_55  : Nat → Int32 → Int32 → Int32 → Mem → Option (Int32 × Mem)
  | 0, _, _, _, _ => none
  | f + 1, x1, x3, x4, M =>
    if x4 < (40 : Int32) then
      if am_in (((40 : Int32) * x1) + x4) 320 = true then
        am_let (mset M 5 (upd (M 5) (((40 : Int32) * x1) + x4).toNatClampNeg (0 : Int32))) fun M1 =>
        X8_row_55  f x1 x3 (x4 + (1 : Int32)) M1
      else none
    else
      Option.bind (X8_well x3 M) fun u2 =>
      some (u2.1, u2.2)
def X8_row  (x1 : Int32) (x2 : Int32) (x3 : Int32) (M : Mem) : Option (Int32 × Mem) :=
  Option.bind (X8_isRow x1) fun r1 =>
  if r1 = 0 then
    some ((-1000001 : Int32), M)
  else
    Option.bind (X8_in x2.toInt64 (0 : Int64) (2 : Int64)) fun r2 =>
    if r2 = 0 then
      some ((-1000001 : Int32), M)
    else
      if (40 : Int32) < x3 then
        some ((-1000001 : Int32), M)
      else
        if x3 < 0 then
          Option.bind (X8_find (4 : Int32) M) fun u3 =>
          some (u3.1, u3.2)
        else
          if am_in x1 8 = true then
            am_let (mset M 3 (upd (M 3) x1.toNatClampNeg x2)) fun M4 =>
            if am_in x1 8 = true then
              am_let (mset M4 4 (upd (M4 4) x1.toNatClampNeg x3)) fun M5 =>
              X8_row_55 am_fuel x1 x3 (0 : Int32) M5
            else none
          else none
theorem m_X8_row_55 {E : amE} (C : amC E 3 cX8_row 5 RX8) (hr : (eH E).sig.returnType = (some .int))  : ∀ (f : Nat) (x1 : Int32) (x3 : Int32) (x4 : Int32) (M : Mem), AW E lyM 5 (qI lyM) (X8_row_55 f x1 x3 x4 M) 55 [(0, .ref 0), (1, .int x1), (3, .int x3), (4, .int x4)] [] M := by
  intro f
  induction f with
  | zero => exact (fun _ _ _ _ => aw_none)
  | succ f ih =>
    intro x1 x3 x4 M
    rw [X8_row_55]
    refine aw_iload C dX8_row_55 rfl ?_
    refine aw_bipush C (40 : Int32) dX8_row_57 (by decide) ?_
    refine aw_icmp_ge C (tgt := 81) dX8_row_59 (by decide) ?_ ?_
    · refine aw_aload_n C dX8_row_62 rfl ?_
      refine aw_getR C (r := 5) clX8 lo_M_0 5 rfl (by decide) kf_X8_23 dX8_row_63 ?_
      refine aw_bipush C (40 : Int32) dX8_row_66 (by decide) ?_
      refine aw_iload_n C dX8_row_68 rfl ?_
      refine aw_imul C dX8_row_69 ?_
      refine aw_iload C dX8_row_70 rfl ?_
      refine aw_iadd C dX8_row_72 ?_
      refine aw_iconst C (0 : Int32) dX8_row_73 (by decide) ?_
      refine aw_iast C la_M_5 dX8_row_74 ?_
      refine aw_mlet (fun M1 => ?_)
      refine aw_iinc C (v := (1 : Int32)) [(4, .int (x4 + (1 : Int32))), (0, .ref 0), (1, .int x1), (3, .int x3)] dX8_row_75 rfl (by decide) (by decide) rfl ?_
      refine aw_goto C (tgt := 55) dX8_row_78 (by decide) ?_
      refine aw_sub [1, 2, 3, 0] rfl ?_
      exact ih x1 x3 (x4 + (1 : Int32)) M1
    · refine aw_aload_n C dX8_row_81 rfl ?_
      refine aw_iload_n C dX8_row_82 rfl ?_
      refine aw_cVI C [.int x3] [] (m_X8_well x3 M) v_X8_well km_X8_63 (by decide) lo_M_0 rfl rfl rfl (Nat.le_of_ble_eq_true rfl) dX8_row_83 (fun u2 => ?_)
      exact aw_iret C hr dX8_row_86
theorem m_X8_row   (x1 : Int32) (x2 : Int32) (x3 : Int32) (M : Mem) : AMet 3 yX8_row cX8_row 5 (some .int) lyM [.ref 0, .int x1, .int x2, .int x3] M (qI lyM) (X8_row x1 x2 x3 M) := by
  refine am_ent pn_X8 (Nat.le_of_ble_eq_true rfl) (fun E C hr => ?_)
  refine aw_lv (lv' := [(0, .ref 0), (1, .int x1), (2, .int x2), (3, .int x3)]) rfl ?_
  unfold X8_row
  refine aw_iload_n C dX8_row_0 rfl ?_
  refine aw_cSIp C [.int x1] [] (m_X8_isRow M x1) t_X8_isRow km_X8_52 (by decide) rfl rfl (Nat.le_of_ble_eq_true rfl) dX8_row_1 (fun r1 => ?_)
  refine aw_if_eq C (tgt := 25) dX8_row_4 (by decide) ?_ ?_
  · refine aw_ldc C kc_X8_58 dX8_row_25 ?_
    exact aw_iret C hr dX8_row_27
  · refine aw_iload_n C dX8_row_7 rfl ?_
    refine aw_i2l C dX8_row_8 ?_
    refine aw_lconst C (0 : Int64) dX8_row_9 (by decide) ?_
    refine aw_ldc2 C kd_X8_56 dX8_row_10 ?_
    refine aw_cSIp C [.long x2.toInt64, .long (0 : Int64), .long (2 : Int64)] [] (m_X8_in M x2.toInt64 (0 : Int64) (2 : Int64)) t_X8_in km_X8_48 (by decide) rfl rfl (Nat.le_of_ble_eq_true rfl) dX8_row_13 (fun r2 => ?_)
    refine aw_if_eq C (tgt := 25) dX8_row_16 (by decide) ?_ ?_
    · refine aw_ldc C kc_X8_58 dX8_row_25 ?_
      exact aw_iret C hr dX8_row_27
    · refine aw_iload_n C dX8_row_19 rfl ?_
      refine aw_bipush C (40 : Int32) dX8_row_20 (by decide) ?_
      refine aw_icmp_le C (tgt := 28) dX8_row_22 (by decide) ?_ ?_
      · refine aw_ldc C kc_X8_58 dX8_row_25 ?_
        exact aw_iret C hr dX8_row_27
      · refine aw_iload_n C dX8_row_28 rfl ?_
        refine aw_if_ge C (tgt := 38) dX8_row_29 (by decide) ?_ ?_
        · refine aw_aload_n C dX8_row_32 rfl ?_
          refine aw_iconst C (4 : Int32) dX8_row_33 (by decide) ?_
          refine aw_cVI C [.int (4 : Int32)] [] (m_X8_find (4 : Int32) M) v_X8_find km_X8_59 (by decide) lo_M_0 rfl rfl rfl (Nat.le_of_ble_eq_true rfl) dX8_row_34 (fun u3 => ?_)
          exact aw_iret C hr dX8_row_37
        · refine aw_aload_n C dX8_row_38 rfl ?_
          refine aw_getR C (r := 3) clX8 lo_M_0 3 rfl (by decide) kf_X8_17 dX8_row_39 ?_
          refine aw_iload_n C dX8_row_42 rfl ?_
          refine aw_iload_n C dX8_row_43 rfl ?_
          refine aw_iast C la_M_3 dX8_row_44 ?_
          refine aw_mlet (fun M4 => ?_)
          refine aw_aload_n C dX8_row_45 rfl ?_
          refine aw_getR C (r := 4) clX8 lo_M_0 4 rfl (by decide) kf_X8_20 dX8_row_46 ?_
          refine aw_iload_n C dX8_row_49 rfl ?_
          refine aw_iload_n C dX8_row_50 rfl ?_
          refine aw_iast C la_M_4 dX8_row_51 ?_
          refine aw_mlet (fun M5 => ?_)
          refine aw_iconst C (0 : Int32) dX8_row_52 (by decide) ?_
          refine aw_istore C [(4, .int (0 : Int32)), (0, .ref 0), (1, .int x1), (2, .int x2), (3, .int x3)] dX8_row_53 (by decide) rfl ?_
          refine aw_sub [1, 2, 4, 0] rfl ?_
          exact m_X8_row_55 C hr am_fuel x1 x3 (0 : Int32) M5
def X8_narrow  (x0 : Int32) (x1 : Int32)  : Option (Int32) :=
  if x1 = 0 then
    some x0.toInt8.toInt32
  else
    if x1 = (1 : Int32) then
      some x0.toInt16.toInt32
    else
      some x0
theorem m_X8_narrow  (M : Mem) (x0 : Int32) (x1 : Int32)  : AMet 1 yX8_narrow cX8_narrow 2 (some .int) lyM [.int x0, .int x1] M (qIp lyM M) (X8_narrow x0 x1) := by
  refine am_ent pn_X8 (Nat.le_of_ble_eq_true rfl) (fun E C hr => ?_)
  refine aw_lv (lv' := [(0, .int x0), (1, .int x1)]) rfl ?_
  unfold X8_narrow
  refine aw_iload_n C dX8_narrow_0 rfl ?_
  refine aw_if_ne C (tgt := 9) dX8_narrow_1 (by decide) ?_ ?_
  · refine aw_iload_n C dX8_narrow_4 rfl ?_
    refine aw_i2b C dX8_narrow_5 ?_
    refine aw_goto C (tgt := 20) dX8_narrow_6 (by decide) ?_
    exact aw_iretp C hr dX8_narrow_20
  · refine aw_iload_n C dX8_narrow_9 rfl ?_
    refine aw_iconst C (1 : Int32) dX8_narrow_10 (by decide) ?_
    refine aw_icmp_ne C (tgt := 19) dX8_narrow_11 (by decide) ?_ ?_
    · refine aw_iload_n C dX8_narrow_14 rfl ?_
      refine aw_i2s C dX8_narrow_15 ?_
      refine aw_goto C (tgt := 20) dX8_narrow_16 (by decide) ?_
      exact aw_iretp C hr dX8_narrow_20
    · refine aw_iload_n C dX8_narrow_19 rfl ?_
      exact aw_iretp C hr dX8_narrow_20
def X8_set  (x1 : Int32) (x2 : Int32) (x3 : Int32) (M : Mem) : Option (Int32 × Mem) :=
  Option.bind (X8_isRow x1) fun r1 =>
  if r1 = 0 then
    some ((-1000001 : Int32), M)
  else
    if am_in x1 8 = true then
      if (M 4 x1.toNatClampNeg) < 0 then
        Option.bind (X8_find (1 : Int32) M) fun u2 =>
        some (u2.1, u2.2)
      else
        if am_in x1 8 = true then
          Option.bind (X8_in x2.toInt64 (0 : Int64) (((M 4 x1.toNatClampNeg) - (1 : Int32)).toInt64)) fun r3 =>
          if r3 = 0 then
            Option.bind (X8_find (2 : Int32) M) fun u4 =>
            some (u4.1, u4.2)
          else
            if am_in x1 8 = true then
              Option.bind (X8_narrow x3 (M 3 x1.toNatClampNeg)) fun r5 =>
              if am_in (((40 : Int32) * x1) + x2) 320 = true then
                am_let (mset M 5 (upd (M 5) (((40 : Int32) * x1) + x2).toNatClampNeg r5)) fun M6 =>
                if am_in (((40 : Int32) * x1) + x2) 320 = true then
                  Option.bind (X8_well (M6 5 (((40 : Int32) * x1) + x2).toNatClampNeg) M6) fun u7 =>
                  some (u7.1, u7.2)
                else none
              else none
            else none
        else none
    else none
theorem m_X8_set   (x1 : Int32) (x2 : Int32) (x3 : Int32) (M : Mem) : AMet 3 yX8_set cX8_set 4 (some .int) lyM [.ref 0, .int x1, .int x2, .int x3] M (qI lyM) (X8_set x1 x2 x3 M) := by
  refine am_ent pn_X8 (Nat.le_of_ble_eq_true rfl) (fun E C hr => ?_)
  refine aw_lv (lv' := [(0, .ref 0), (1, .int x1), (2, .int x2), (3, .int x3)]) rfl ?_
  unfold X8_set
  refine aw_iload_n C dX8_set_0 rfl ?_
  refine aw_cSIp C [.int x1] [] (m_X8_isRow M x1) t_X8_isRow km_X8_52 (by decide) rfl rfl (Nat.le_of_ble_eq_true rfl) dX8_set_1 (fun r1 => ?_)
  refine aw_if_ne C (tgt := 10) dX8_set_4 (by decide) ?_ ?_
  · refine aw_ldc C kc_X8_58 dX8_set_7 ?_
    exact aw_iret C hr dX8_set_9
  · refine aw_aload_n C dX8_set_10 rfl ?_
    refine aw_getR C (r := 4) clX8 lo_M_0 4 rfl (by decide) kf_X8_20 dX8_set_11 ?_
    refine aw_iload_n C dX8_set_14 rfl ?_
    refine aw_iald C la_M_4 dX8_set_15 ?_
    refine aw_if_ge C (tgt := 25) dX8_set_16 (by decide) ?_ ?_
    · refine aw_aload_n C dX8_set_19 rfl ?_
      refine aw_iconst C (1 : Int32) dX8_set_20 (by decide) ?_
      refine aw_cVI C [.int (1 : Int32)] [] (m_X8_find (1 : Int32) M) v_X8_find km_X8_59 (by decide) lo_M_0 rfl rfl rfl (Nat.le_of_ble_eq_true rfl) dX8_set_21 (fun u2 => ?_)
      exact aw_iret C hr dX8_set_24
    · refine aw_iload_n C dX8_set_25 rfl ?_
      refine aw_i2l C dX8_set_26 ?_
      refine aw_lconst C (0 : Int64) dX8_set_27 (by decide) ?_
      refine aw_aload_n C dX8_set_28 rfl ?_
      refine aw_getR C (r := 4) clX8 lo_M_0 4 rfl (by decide) kf_X8_20 dX8_set_29 ?_
      refine aw_iload_n C dX8_set_32 rfl ?_
      refine aw_iald C la_M_4 dX8_set_33 ?_
      refine aw_iconst C (1 : Int32) dX8_set_34 (by decide) ?_
      refine aw_isub C dX8_set_35 ?_
      refine aw_i2l C dX8_set_36 ?_
      refine aw_cSIp C [.long x2.toInt64, .long (0 : Int64), .long (((M 4 x1.toNatClampNeg) - (1 : Int32)).toInt64)] [] (m_X8_in M x2.toInt64 (0 : Int64) (((M 4 x1.toNatClampNeg) - (1 : Int32)).toInt64)) t_X8_in km_X8_48 (by decide) rfl rfl (Nat.le_of_ble_eq_true rfl) dX8_set_37 (fun r3 => ?_)
      refine aw_if_ne C (tgt := 49) dX8_set_40 (by decide) ?_ ?_
      · refine aw_aload_n C dX8_set_43 rfl ?_
        refine aw_iconst C (2 : Int32) dX8_set_44 (by decide) ?_
        refine aw_cVI C [.int (2 : Int32)] [] (m_X8_find (2 : Int32) M) v_X8_find km_X8_59 (by decide) lo_M_0 rfl rfl rfl (Nat.le_of_ble_eq_true rfl) dX8_set_45 (fun u4 => ?_)
        exact aw_iret C hr dX8_set_48
      · refine aw_aload_n C dX8_set_49 rfl ?_
        refine aw_getR C (r := 5) clX8 lo_M_0 5 rfl (by decide) kf_X8_23 dX8_set_50 ?_
        refine aw_bipush C (40 : Int32) dX8_set_53 (by decide) ?_
        refine aw_iload_n C dX8_set_55 rfl ?_
        refine aw_imul C dX8_set_56 ?_
        refine aw_iload_n C dX8_set_57 rfl ?_
        refine aw_iadd C dX8_set_58 ?_
        refine aw_iload_n C dX8_set_59 rfl ?_
        refine aw_aload_n C dX8_set_60 rfl ?_
        refine aw_getR C (r := 3) clX8 lo_M_0 3 rfl (by decide) kf_X8_17 dX8_set_61 ?_
        refine aw_iload_n C dX8_set_64 rfl ?_
        refine aw_iald C la_M_3 dX8_set_65 ?_
        refine aw_cSIp C [.int x3, .int (M 3 x1.toNatClampNeg)] [.int (((40 : Int32) * x1) + x2), .ref 5] (m_X8_narrow M x3 (M 3 x1.toNatClampNeg)) t_X8_narrow km_X8_66 (by decide) rfl rfl (Nat.le_of_ble_eq_true rfl) dX8_set_66 (fun r5 => ?_)
        refine aw_iast C la_M_5 dX8_set_69 ?_
        refine aw_mlet (fun M6 => ?_)
        refine aw_aload_n C dX8_set_70 rfl ?_
        refine aw_aload_n C dX8_set_71 rfl ?_
        refine aw_getR C (r := 5) clX8 lo_M_0 5 rfl (by decide) kf_X8_23 dX8_set_72 ?_
        refine aw_bipush C (40 : Int32) dX8_set_75 (by decide) ?_
        refine aw_iload_n C dX8_set_77 rfl ?_
        refine aw_imul C dX8_set_78 ?_
        refine aw_iload_n C dX8_set_79 rfl ?_
        refine aw_iadd C dX8_set_80 ?_
        refine aw_iald C la_M_5 dX8_set_81 ?_
        refine aw_cVI C [.int (M6 5 (((40 : Int32) * x1) + x2).toNatClampNeg)] [] (m_X8_well (M6 5 (((40 : Int32) * x1) + x2).toNatClampNeg) M6) v_X8_well km_X8_63 (by decide) lo_M_0 rfl rfl rfl (Nat.le_of_ble_eq_true rfl) dX8_set_82 (fun u7 => ?_)
        exact aw_iret C hr dX8_set_85
def X8_isSpan (M : Mem) (x1 : Int32) (x2 : Int32) (x3 : Int32)  : Option (Int32) :=
  if x2 < 0 then
    some (0 : Int32)
  else
    if x3 < 0 then
      some (0 : Int32)
    else
      if am_in x1 8 = true then
        if 0 < (lg_cmp (x2.toInt64 + x3.toInt64) ((M 4 x1.toNatClampNeg).toInt64)) then
          some (0 : Int32)
        else
          some (1 : Int32)
      else none
theorem m_X8_isSpan  (M : Mem) (x1 : Int32) (x2 : Int32) (x3 : Int32)  : AMet 1 yX8_isSpan cX8_isSpan 4 (some .boolean) lyM [.ref 0, .int x1, .int x2, .int x3] M (qIp lyM M) (X8_isSpan M x1 x2 x3) := by
  refine am_ent pn_X8 (Nat.le_of_ble_eq_true rfl) (fun E C hr => ?_)
  refine aw_lv (lv' := [(0, .ref 0), (1, .int x1), (2, .int x2), (3, .int x3)]) rfl ?_
  unfold X8_isSpan
  refine aw_iload_n C dX8_isSpan_0 rfl ?_
  refine aw_if_lt C (tgt := 28) dX8_isSpan_1 (by decide) ?_ ?_
  · refine aw_iconst C (0 : Int32) dX8_isSpan_28 (by decide) ?_
    exact aw_zretp C (Or.inl rfl) hr dX8_isSpan_29
  · refine aw_iload_n C dX8_isSpan_4 rfl ?_
    refine aw_if_lt C (tgt := 28) dX8_isSpan_5 (by decide) ?_ ?_
    · refine aw_iconst C (0 : Int32) dX8_isSpan_28 (by decide) ?_
      exact aw_zretp C (Or.inl rfl) hr dX8_isSpan_29
    · refine aw_iload_n C dX8_isSpan_8 rfl ?_
      refine aw_i2l C dX8_isSpan_9 ?_
      refine aw_iload_n C dX8_isSpan_10 rfl ?_
      refine aw_i2l C dX8_isSpan_11 ?_
      refine aw_ladd C dX8_isSpan_12 ?_
      refine aw_aload_n C dX8_isSpan_13 rfl ?_
      refine aw_getR C (r := 4) clX8 lo_M_0 4 rfl (by decide) kf_X8_20 dX8_isSpan_14 ?_
      refine aw_iload_n C dX8_isSpan_17 rfl ?_
      refine aw_iald C la_M_4 dX8_isSpan_18 ?_
      refine aw_i2l C dX8_isSpan_19 ?_
      refine aw_lcmp C dX8_isSpan_20 ?_
      refine aw_if_gt C (tgt := 28) dX8_isSpan_21 (by decide) ?_ ?_
      · refine aw_iconst C (0 : Int32) dX8_isSpan_28 (by decide) ?_
        exact aw_zretp C (Or.inl rfl) hr dX8_isSpan_29
      · refine aw_iconst C (1 : Int32) dX8_isSpan_24 (by decide) ?_
        refine aw_goto C (tgt := 29) dX8_isSpan_25 (by decide) ?_
        exact aw_zretp C (Or.inr rfl) hr dX8_isSpan_29
def X8_copy_131 (K107 : Int32 → Int32 → Int32 → Int32 → Int32 → Int32 → Int32 → Mem → Option (Int32 × Mem)) (x1 : Int32) (x2 : Int32) (x3 : Int32) (x4 : Int32) (x5 : Int32) (x6 : Int32) (x7 : Int32) (s0 : Int32) (M : Mem) : Option (Int32 × Mem) :=
  if am_in ((((40 : Int32) * x1) + x2) + s0) 320 = true then
    if am_in ((((40 : Int32) * x3) + x4) + s0) 320 = true then
      am_let (mset M 5 (upd (M 5) ((((40 : Int32) * x3) + x4) + s0).toNatClampNeg (M 5 ((((40 : Int32) * x1) + x2) + s0).toNatClampNeg))) fun M1 =>
      K107 x1 x2 x3 x4 x5 x6 (x7 + (1 : Int32)) M1
    else none
  else none
def X8_copy_107  : Nat → Int32 → Int32 → Int32 → Int32 → Int32 → Int32 → Int32 → Mem → Option (Int32 × Mem)
  | 0, _, _, _, _, _, _, _, _ => none
  | f + 1, x1, x2, x3, x4, x5, x6, x7, M =>
    if x7 < x5 then
      if x6 = 0 then
        X8_copy_131 (X8_copy_107  f) x1 x2 x3 x4 x5 x6 x7 x7 M
      else
        X8_copy_131 (X8_copy_107  f) x1 x2 x3 x4 x5 x6 x7 ((x5 - (1 : Int32)) - x7) M
    else
      Option.bind (X8_well x5 M) fun u2 =>
      some (u2.1, u2.2)
def X8_copy  (x1 : Int32) (x2 : Int32) (x3 : Int32) (x4 : Int32) (x5 : Int32) (M : Mem) : Option (Int32 × Mem) :=
  Option.bind (X8_isRow x1) fun r1 =>
  if r1 = 0 then
    some ((-1000001 : Int32), M)
  else
    Option.bind (X8_isRow x3) fun r2 =>
    if r2 = 0 then
      some ((-1000001 : Int32), M)
    else
      if am_in x1 8 = true then
        if (M 4 x1.toNatClampNeg) < 0 then
          Option.bind (X8_find (1 : Int32) M) fun u3 =>
          some (u3.1, u3.2)
        else
          if am_in x3 8 = true then
            if (M 4 x3.toNatClampNeg) < 0 then
              Option.bind (X8_find (1 : Int32) M) fun u4 =>
              some (u4.1, u4.2)
            else
              if am_in x1 8 = true then
                if am_in x3 8 = true then
                  if (M 3 x1.toNatClampNeg) = (M 3 x3.toNatClampNeg) then
                    Option.bind (X8_isSpan M x1 x2 x5) fun r5 =>
                    if r5 = 0 then
                      Option.bind (X8_find (2 : Int32) M) fun u6 =>
                      some (u6.1, u6.2)
                    else
                      Option.bind (X8_isSpan M x3 x4 x5) fun r7 =>
                      if r7 = 0 then
                        Option.bind (X8_find (2 : Int32) M) fun u8 =>
                        some (u8.1, u8.2)
                      else
                        if x2 < x4 then
                          X8_copy_107 am_fuel x1 x2 x3 x4 x5 (1 : Int32) (0 : Int32) M
                        else
                          X8_copy_107 am_fuel x1 x2 x3 x4 x5 (0 : Int32) (0 : Int32) M
                  else
                    Option.bind (X8_find (5 : Int32) M) fun u3 =>
                    some (u3.1, u3.2)
                else none
              else none
          else none
      else none
theorem m_X8_copy_131 {E : amE} (C : amC E 3 cX8_copy 9 RX8) (hr : (eH E).sig.returnType = (some .int)) (K107 : Int32 → Int32 → Int32 → Int32 → Int32 → Int32 → Int32 → Mem → Option (Int32 × Mem)) (hK107 : ∀ (x1 : Int32) (x2 : Int32) (x3 : Int32) (x4 : Int32) (x5 : Int32) (x6 : Int32) (x7 : Int32) (M : Mem), AW E lyM 9 (qI lyM) (K107 x1 x2 x3 x4 x5 x6 x7 M) 107 [(0, .ref 0), (1, .int x1), (2, .int x2), (3, .int x3), (4, .int x4), (5, .int x5), (6, .int x6), (7, .int x7)] [] M) (x1 : Int32) (x2 : Int32) (x3 : Int32) (x4 : Int32) (x5 : Int32) (x6 : Int32) (x7 : Int32) (s0 : Int32) (M : Mem) : AW E lyM 9 (qI lyM) (X8_copy_131 K107 x1 x2 x3 x4 x5 x6 x7 s0 M) 131 [(0, .ref 0), (1, .int x1), (2, .int x2), (3, .int x3), (4, .int x4), (5, .int x5), (6, .int x6), (7, .int x7)] [.int s0] M := by
  unfold X8_copy_131
  refine aw_istore C [(8, .int s0), (0, .ref 0), (1, .int x1), (2, .int x2), (3, .int x3), (4, .int x4), (5, .int x5), (6, .int x6), (7, .int x7)] dX8_copy_131 (by decide) rfl ?_
  refine aw_aload_n C dX8_copy_133 rfl ?_
  refine aw_getR C (r := 5) clX8 lo_M_0 5 rfl (by decide) kf_X8_23 dX8_copy_134 ?_
  refine aw_bipush C (40 : Int32) dX8_copy_137 (by decide) ?_
  refine aw_iload_n C dX8_copy_139 rfl ?_
  refine aw_imul C dX8_copy_140 ?_
  refine aw_iload C dX8_copy_141 rfl ?_
  refine aw_iadd C dX8_copy_143 ?_
  refine aw_iload C dX8_copy_144 rfl ?_
  refine aw_iadd C dX8_copy_146 ?_
  refine aw_aload_n C dX8_copy_147 rfl ?_
  refine aw_getR C (r := 5) clX8 lo_M_0 5 rfl (by decide) kf_X8_23 dX8_copy_148 ?_
  refine aw_bipush C (40 : Int32) dX8_copy_151 (by decide) ?_
  refine aw_iload_n C dX8_copy_153 rfl ?_
  refine aw_imul C dX8_copy_154 ?_
  refine aw_iload_n C dX8_copy_155 rfl ?_
  refine aw_iadd C dX8_copy_156 ?_
  refine aw_iload C dX8_copy_157 rfl ?_
  refine aw_iadd C dX8_copy_159 ?_
  refine aw_iald C la_M_5 dX8_copy_160 ?_
  refine aw_iast C la_M_5 dX8_copy_161 ?_
  refine aw_mlet (fun M1 => ?_)
  refine aw_iinc C (v := (1 : Int32)) [(7, .int (x7 + (1 : Int32))), (8, .int s0), (0, .ref 0), (1, .int x1), (2, .int x2), (3, .int x3), (4, .int x4), (5, .int x5), (6, .int x6)] dX8_copy_162 rfl (by decide) (by decide) rfl ?_
  refine aw_goto C (tgt := 107) dX8_copy_165 (by decide) ?_
  refine aw_sub [2, 3, 4, 5, 6, 7, 8, 0] rfl ?_
  exact hK107 x1 x2 x3 x4 x5 x6 (x7 + (1 : Int32)) M1
theorem m_X8_copy_107 {E : amE} (C : amC E 3 cX8_copy 9 RX8) (hr : (eH E).sig.returnType = (some .int))  : ∀ (f : Nat) (x1 : Int32) (x2 : Int32) (x3 : Int32) (x4 : Int32) (x5 : Int32) (x6 : Int32) (x7 : Int32) (M : Mem), AW E lyM 9 (qI lyM) (X8_copy_107 f x1 x2 x3 x4 x5 x6 x7 M) 107 [(0, .ref 0), (1, .int x1), (2, .int x2), (3, .int x3), (4, .int x4), (5, .int x5), (6, .int x6), (7, .int x7)] [] M := by
  intro f
  induction f with
  | zero => exact (fun _ _ _ _ _ _ _ _ => aw_none)
  | succ f ih =>
    intro x1 x2 x3 x4 x5 x6 x7 M
    rw [X8_copy_107]
    refine aw_iload C dX8_copy_107 rfl ?_
    refine aw_iload C dX8_copy_109 rfl ?_
    refine aw_icmp_ge C (tgt := 168) dX8_copy_111 (by decide) ?_ ?_
    · refine aw_iload C dX8_copy_114 rfl ?_
      refine aw_if_eq C (tgt := 129) dX8_copy_116 (by decide) ?_ ?_
      · refine aw_iload C dX8_copy_129 rfl ?_
        exact m_X8_copy_131 C hr (X8_copy_107  f) ih x1 x2 x3 x4 x5 x6 x7 x7 M
      · refine aw_iload C dX8_copy_119 rfl ?_
        refine aw_iconst C (1 : Int32) dX8_copy_121 (by decide) ?_
        refine aw_isub C dX8_copy_122 ?_
        refine aw_iload C dX8_copy_123 rfl ?_
        refine aw_isub C dX8_copy_125 ?_
        refine aw_goto C (tgt := 131) dX8_copy_126 (by decide) ?_
        exact m_X8_copy_131 C hr (X8_copy_107  f) ih x1 x2 x3 x4 x5 x6 x7 ((x5 - (1 : Int32)) - x7) M
    · refine aw_aload_n C dX8_copy_168 rfl ?_
      refine aw_iload C dX8_copy_169 rfl ?_
      refine aw_cVI C [.int x5] [] (m_X8_well x5 M) v_X8_well km_X8_63 (by decide) lo_M_0 rfl rfl rfl (Nat.le_of_ble_eq_true rfl) dX8_copy_171 (fun u2 => ?_)
      exact aw_iret C hr dX8_copy_174
theorem m_X8_copy   (x1 : Int32) (x2 : Int32) (x3 : Int32) (x4 : Int32) (x5 : Int32) (M : Mem) : AMet 3 yX8_copy cX8_copy 9 (some .int) lyM [.ref 0, .int x1, .int x2, .int x3, .int x4, .int x5] M (qI lyM) (X8_copy x1 x2 x3 x4 x5 M) := by
  refine am_ent pn_X8 (Nat.le_of_ble_eq_true rfl) (fun E C hr => ?_)
  refine aw_lv (lv' := [(0, .ref 0), (1, .int x1), (2, .int x2), (3, .int x3), (4, .int x4), (5, .int x5)]) rfl ?_
  unfold X8_copy
  refine aw_iload_n C dX8_copy_0 rfl ?_
  refine aw_cSIp C [.int x1] [] (m_X8_isRow M x1) t_X8_isRow km_X8_52 (by decide) rfl rfl (Nat.le_of_ble_eq_true rfl) dX8_copy_1 (fun r1 => ?_)
  refine aw_if_eq C (tgt := 14) dX8_copy_4 (by decide) ?_ ?_
  · refine aw_ldc C kc_X8_58 dX8_copy_14 ?_
    exact aw_iret C hr dX8_copy_16
  · refine aw_iload_n C dX8_copy_7 rfl ?_
    refine aw_cSIp C [.int x3] [] (m_X8_isRow M x3) t_X8_isRow km_X8_52 (by decide) rfl rfl (Nat.le_of_ble_eq_true rfl) dX8_copy_8 (fun r2 => ?_)
    refine aw_if_ne C (tgt := 17) dX8_copy_11 (by decide) ?_ ?_
    · refine aw_ldc C kc_X8_58 dX8_copy_14 ?_
      exact aw_iret C hr dX8_copy_16
    · refine aw_aload_n C dX8_copy_17 rfl ?_
      refine aw_getR C (r := 4) clX8 lo_M_0 4 rfl (by decide) kf_X8_20 dX8_copy_18 ?_
      refine aw_iload_n C dX8_copy_21 rfl ?_
      refine aw_iald C la_M_4 dX8_copy_22 ?_
      refine aw_if_lt C (tgt := 35) dX8_copy_23 (by decide) ?_ ?_
      · refine aw_aload_n C dX8_copy_35 rfl ?_
        refine aw_iconst C (1 : Int32) dX8_copy_36 (by decide) ?_
        refine aw_cVI C [.int (1 : Int32)] [] (m_X8_find (1 : Int32) M) v_X8_find km_X8_59 (by decide) lo_M_0 rfl rfl rfl (Nat.le_of_ble_eq_true rfl) dX8_copy_37 (fun u3 => ?_)
        exact aw_iret C hr dX8_copy_40
      · refine aw_aload_n C dX8_copy_26 rfl ?_
        refine aw_getR C (r := 4) clX8 lo_M_0 4 rfl (by decide) kf_X8_20 dX8_copy_27 ?_
        refine aw_iload_n C dX8_copy_30 rfl ?_
        refine aw_iald C la_M_4 dX8_copy_31 ?_
        refine aw_if_ge C (tgt := 41) dX8_copy_32 (by decide) ?_ ?_
        · refine aw_aload_n C dX8_copy_35 rfl ?_
          refine aw_iconst C (1 : Int32) dX8_copy_36 (by decide) ?_
          refine aw_cVI C [.int (1 : Int32)] [] (m_X8_find (1 : Int32) M) v_X8_find km_X8_59 (by decide) lo_M_0 rfl rfl rfl (Nat.le_of_ble_eq_true rfl) dX8_copy_37 (fun u4 => ?_)
          exact aw_iret C hr dX8_copy_40
        · refine aw_aload_n C dX8_copy_41 rfl ?_
          refine aw_getR C (r := 3) clX8 lo_M_0 3 rfl (by decide) kf_X8_17 dX8_copy_42 ?_
          refine aw_iload_n C dX8_copy_45 rfl ?_
          refine aw_iald C la_M_3 dX8_copy_46 ?_
          refine aw_aload_n C dX8_copy_47 rfl ?_
          refine aw_getR C (r := 3) clX8 lo_M_0 3 rfl (by decide) kf_X8_17 dX8_copy_48 ?_
          refine aw_iload_n C dX8_copy_51 rfl ?_
          refine aw_iald C la_M_3 dX8_copy_52 ?_
          refine aw_icmp_eq C (tgt := 62) dX8_copy_53 (by decide) ?_ ?_
          · refine aw_aload_n C dX8_copy_62 rfl ?_
            refine aw_iload_n C dX8_copy_63 rfl ?_
            refine aw_iload_n C dX8_copy_64 rfl ?_
            refine aw_iload C dX8_copy_65 rfl ?_
            refine aw_cVIp C [.int x1, .int x2, .int x5] [] (m_X8_isSpan M x1 x2 x5) v_X8_isSpan km_X8_70 (by decide) lo_M_0 rfl rfl rfl (Nat.le_of_ble_eq_true rfl) dX8_copy_67 (fun r5 => ?_)
            refine aw_if_eq C (tgt := 85) dX8_copy_70 (by decide) ?_ ?_
            · refine aw_aload_n C dX8_copy_85 rfl ?_
              refine aw_iconst C (2 : Int32) dX8_copy_86 (by decide) ?_
              refine aw_cVI C [.int (2 : Int32)] [] (m_X8_find (2 : Int32) M) v_X8_find km_X8_59 (by decide) lo_M_0 rfl rfl rfl (Nat.le_of_ble_eq_true rfl) dX8_copy_87 (fun u6 => ?_)
              exact aw_iret C hr dX8_copy_90
            · refine aw_aload_n C dX8_copy_73 rfl ?_
              refine aw_iload_n C dX8_copy_74 rfl ?_
              refine aw_iload C dX8_copy_75 rfl ?_
              refine aw_iload C dX8_copy_77 rfl ?_
              refine aw_cVIp C [.int x3, .int x4, .int x5] [] (m_X8_isSpan M x3 x4 x5) v_X8_isSpan km_X8_70 (by decide) lo_M_0 rfl rfl rfl (Nat.le_of_ble_eq_true rfl) dX8_copy_79 (fun r7 => ?_)
              refine aw_if_ne C (tgt := 91) dX8_copy_82 (by decide) ?_ ?_
              · refine aw_aload_n C dX8_copy_85 rfl ?_
                refine aw_iconst C (2 : Int32) dX8_copy_86 (by decide) ?_
                refine aw_cVI C [.int (2 : Int32)] [] (m_X8_find (2 : Int32) M) v_X8_find km_X8_59 (by decide) lo_M_0 rfl rfl rfl (Nat.le_of_ble_eq_true rfl) dX8_copy_87 (fun u8 => ?_)
                exact aw_iret C hr dX8_copy_90
              · refine aw_iload_n C dX8_copy_91 rfl ?_
                refine aw_iload C dX8_copy_92 rfl ?_
                refine aw_icmp_ge C (tgt := 101) dX8_copy_94 (by decide) ?_ ?_
                · refine aw_iconst C (1 : Int32) dX8_copy_97 (by decide) ?_
                  refine aw_goto C (tgt := 102) dX8_copy_98 (by decide) ?_
                  refine aw_istore C [(6, .int (1 : Int32)), (0, .ref 0), (1, .int x1), (2, .int x2), (3, .int x3), (4, .int x4), (5, .int x5)] dX8_copy_102 (by decide) rfl ?_
                  refine aw_iconst C (0 : Int32) dX8_copy_104 (by decide) ?_
                  refine aw_istore C [(7, .int (0 : Int32)), (6, .int (1 : Int32)), (0, .ref 0), (1, .int x1), (2, .int x2), (3, .int x3), (4, .int x4), (5, .int x5)] dX8_copy_105 (by decide) rfl ?_
                  refine aw_sub [2, 3, 4, 5, 6, 7, 1, 0] rfl ?_
                  exact m_X8_copy_107 C hr am_fuel x1 x2 x3 x4 x5 (1 : Int32) (0 : Int32) M
                · refine aw_iconst C (0 : Int32) dX8_copy_101 (by decide) ?_
                  refine aw_istore C [(6, .int (0 : Int32)), (0, .ref 0), (1, .int x1), (2, .int x2), (3, .int x3), (4, .int x4), (5, .int x5)] dX8_copy_102 (by decide) rfl ?_
                  refine aw_iconst C (0 : Int32) dX8_copy_104 (by decide) ?_
                  refine aw_istore C [(7, .int (0 : Int32)), (6, .int (0 : Int32)), (0, .ref 0), (1, .int x1), (2, .int x2), (3, .int x3), (4, .int x4), (5, .int x5)] dX8_copy_105 (by decide) rfl ?_
                  refine aw_sub [2, 3, 4, 5, 6, 7, 1, 0] rfl ?_
                  exact m_X8_copy_107 C hr am_fuel x1 x2 x3 x4 x5 (0 : Int32) (0 : Int32) M
          · refine aw_aload_n C dX8_copy_56 rfl ?_
            refine aw_iconst C (5 : Int32) dX8_copy_57 (by decide) ?_
            refine aw_cVI C [.int (5 : Int32)] [] (m_X8_find (5 : Int32) M) v_X8_find km_X8_59 (by decide) lo_M_0 rfl rfl rfl (Nat.le_of_ble_eq_true rfl) dX8_copy_58 (fun u3 => ?_)
            exact aw_iret C hr dX8_copy_61
def X8_drop  (x1 : Int32) (M : Mem) : Option (Int32 × Mem) :=
  Option.bind (X8_isRow x1) fun r1 =>
  if r1 = 0 then
    some ((-1000001 : Int32), M)
  else
    if am_in x1 8 = true then
      if (M 4 x1.toNatClampNeg) < 0 then
        Option.bind (X8_find (1 : Int32) M) fun u2 =>
        some (u2.1, u2.2)
      else
        if am_in x1 8 = true then
          if am_in x1 8 = true then
            am_let (mset M 4 (upd (M 4) x1.toNatClampNeg (-1 : Int32))) fun M3 =>
            Option.bind (X8_well (M 4 x1.toNatClampNeg) M3) fun u4 =>
            some (u4.1, u4.2)
          else none
        else none
    else none
theorem m_X8_drop   (x1 : Int32) (M : Mem) : AMet 3 yX8_drop cX8_drop 3 (some .int) lyM [.ref 0, .int x1] M (qI lyM) (X8_drop x1 M) := by
  refine am_ent pn_X8 (Nat.le_of_ble_eq_true rfl) (fun E C hr => ?_)
  refine aw_lv (lv' := [(0, .ref 0), (1, .int x1)]) rfl ?_
  unfold X8_drop
  refine aw_iload_n C dX8_drop_0 rfl ?_
  refine aw_cSIp C [.int x1] [] (m_X8_isRow M x1) t_X8_isRow km_X8_52 (by decide) rfl rfl (Nat.le_of_ble_eq_true rfl) dX8_drop_1 (fun r1 => ?_)
  refine aw_if_ne C (tgt := 10) dX8_drop_4 (by decide) ?_ ?_
  · refine aw_ldc C kc_X8_58 dX8_drop_7 ?_
    exact aw_iret C hr dX8_drop_9
  · refine aw_aload_n C dX8_drop_10 rfl ?_
    refine aw_getR C (r := 4) clX8 lo_M_0 4 rfl (by decide) kf_X8_20 dX8_drop_11 ?_
    refine aw_iload_n C dX8_drop_14 rfl ?_
    refine aw_iald C la_M_4 dX8_drop_15 ?_
    refine aw_if_ge C (tgt := 25) dX8_drop_16 (by decide) ?_ ?_
    · refine aw_aload_n C dX8_drop_19 rfl ?_
      refine aw_iconst C (1 : Int32) dX8_drop_20 (by decide) ?_
      refine aw_cVI C [.int (1 : Int32)] [] (m_X8_find (1 : Int32) M) v_X8_find km_X8_59 (by decide) lo_M_0 rfl rfl rfl (Nat.le_of_ble_eq_true rfl) dX8_drop_21 (fun u2 => ?_)
      exact aw_iret C hr dX8_drop_24
    · refine aw_aload_n C dX8_drop_25 rfl ?_
      refine aw_getR C (r := 4) clX8 lo_M_0 4 rfl (by decide) kf_X8_20 dX8_drop_26 ?_
      refine aw_iload_n C dX8_drop_29 rfl ?_
      refine aw_iald C la_M_4 dX8_drop_30 ?_
      refine aw_istore_n C [(2, .int (M 4 x1.toNatClampNeg)), (0, .ref 0), (1, .int x1)] dX8_drop_31 (by decide) rfl ?_
      refine aw_aload_n C dX8_drop_32 rfl ?_
      refine aw_getR C (r := 4) clX8 lo_M_0 4 rfl (by decide) kf_X8_20 dX8_drop_33 ?_
      refine aw_iload_n C dX8_drop_36 rfl ?_
      refine aw_iconst C (-1 : Int32) dX8_drop_37 (by decide) ?_
      refine aw_iast C la_M_4 dX8_drop_38 ?_
      refine aw_mlet (fun M3 => ?_)
      refine aw_aload_n C dX8_drop_39 rfl ?_
      refine aw_iload_n C dX8_drop_40 rfl ?_
      refine aw_cVI C [.int (M 4 x1.toNatClampNeg)] [] (m_X8_well (M 4 x1.toNatClampNeg) M3) v_X8_well km_X8_63 (by decide) lo_M_0 rfl rfl rfl (Nat.le_of_ble_eq_true rfl) dX8_drop_41 (fun u4 => ?_)
      exact aw_iret C hr dX8_drop_44
def X8_feed  (x1 : Int32) (M : Mem) : Option (Int32 × Mem) :=
  Option.bind (X8_in x1.toInt64 (0 : Int64) (255 : Int64)) fun r1 =>
  if r1 = 0 then
    some ((-1000001 : Int32), M)
  else
    if (M 0 7) = (110 : Int32) then
      some ((-1000003 : Int32), M)
    else
      if am_in (M 0 7) 110 = true then
        am_let (mset M 6 (upd (M 6) (M 0 7).toNatClampNeg x1)) fun M2 =>
        am_let (mset M2 0 (upd (M2 0) 7 ((M2 0 7) + (1 : Int32)))) fun M3 =>
        some (M3 0 7, M3)
      else none
theorem m_X8_feed   (x1 : Int32) (M : Mem) : AMet 2 yX8_feed cX8_feed 2 (some .int) lyM [.ref 0, .int x1] M (qI lyM) (X8_feed x1 M) := by
  refine am_ent pn_X8 (Nat.le_of_ble_eq_true rfl) (fun E C hr => ?_)
  refine aw_lv (lv' := [(0, .ref 0), (1, .int x1)]) rfl ?_
  unfold X8_feed
  refine aw_iload_n C dX8_feed_0 rfl ?_
  refine aw_i2l C dX8_feed_1 ?_
  refine aw_lconst C (0 : Int64) dX8_feed_2 (by decide) ?_
  refine aw_ldc2 C kd_X8_74 dX8_feed_3 ?_
  refine aw_cSIp C [.long x1.toInt64, .long (0 : Int64), .long (255 : Int64)] [] (m_X8_in M x1.toInt64 (0 : Int64) (255 : Int64)) t_X8_in km_X8_48 (by decide) rfl rfl (Nat.le_of_ble_eq_true rfl) dX8_feed_6 (fun r1 => ?_)
  refine aw_if_ne C (tgt := 15) dX8_feed_9 (by decide) ?_ ?_
  · refine aw_ldc C kc_X8_58 dX8_feed_12 ?_
    exact aw_iret C hr dX8_feed_14
  · refine aw_aload_n C dX8_feed_15 rfl ?_
    refine aw_getI C clX8 lo_M_0 7 rfl (by decide) kf_X8_76 dX8_feed_16 ?_
    refine aw_bipush C (110 : Int32) dX8_feed_19 (by decide) ?_
    refine aw_icmp_ne C (tgt := 27) dX8_feed_21 (by decide) ?_ ?_
    · refine aw_ldc C kc_X8_79 dX8_feed_24 ?_
      exact aw_iret C hr dX8_feed_26
    · refine aw_aload_n C dX8_feed_27 rfl ?_
      refine aw_getR C (r := 6) clX8 lo_M_0 6 rfl (by decide) kf_X8_26 dX8_feed_28 ?_
      refine aw_aload_n C dX8_feed_31 rfl ?_
      refine aw_getI C clX8 lo_M_0 7 rfl (by decide) kf_X8_76 dX8_feed_32 ?_
      refine aw_iload_n C dX8_feed_35 rfl ?_
      refine aw_iast C la_M_6 dX8_feed_36 ?_
      refine aw_mlet (fun M2 => ?_)
      refine aw_aload_n C dX8_feed_37 rfl ?_
      refine aw_dup C dX8_feed_38 rfl ?_
      refine aw_getI C clX8 lo_M_0 7 rfl (by decide) kf_X8_76 dX8_feed_39 ?_
      refine aw_iconst C (1 : Int32) dX8_feed_42 (by decide) ?_
      refine aw_iadd C dX8_feed_43 ?_
      refine aw_putI C clX8 lo_M_0 7 rfl (by decide) rfl rfl kf_X8_76 dX8_feed_44 ?_
      refine aw_mlet (fun M3 => ?_)
      refine aw_aload_n C dX8_feed_47 rfl ?_
      refine aw_getI C clX8 lo_M_0 7 rfl (by decide) kf_X8_76 dX8_feed_48 ?_
      exact aw_iret C hr dX8_feed_51
def X8_isLetter (M : Mem) (x1 : Int32)  : Option (Int32) :=
  if (M 0 12) < (M 0 7) then
    if am_in (M 0 12) 110 = true then
      if (M 6 (M 0 12).toNatClampNeg) = x1 then
        some (1 : Int32)
      else
        some (0 : Int32)
    else none
  else
    some (0 : Int32)
theorem m_X8_isLetter  (M : Mem) (x1 : Int32)  : AMet 1 yX8_isLetter cX8_isLetter 2 (some .boolean) lyM [.ref 0, .int x1] M (qIp lyM M) (X8_isLetter M x1) := by
  refine am_ent pn_X8 (Nat.le_of_ble_eq_true rfl) (fun E C hr => ?_)
  refine aw_lv (lv' := [(0, .ref 0), (1, .int x1)]) rfl ?_
  unfold X8_isLetter
  refine aw_aload_n C dX8_isLetter_0 rfl ?_
  refine aw_getI C clX8 lo_M_0 12 rfl (by decide) kf_X8_80 dX8_isLetter_1 ?_
  refine aw_aload_n C dX8_isLetter_4 rfl ?_
  refine aw_getI C clX8 lo_M_0 7 rfl (by decide) kf_X8_76 dX8_isLetter_5 ?_
  refine aw_icmp_ge C (tgt := 28) dX8_isLetter_8 (by decide) ?_ ?_
  · refine aw_aload_n C dX8_isLetter_11 rfl ?_
    refine aw_getR C (r := 6) clX8 lo_M_0 6 rfl (by decide) kf_X8_26 dX8_isLetter_12 ?_
    refine aw_aload_n C dX8_isLetter_15 rfl ?_
    refine aw_getI C clX8 lo_M_0 12 rfl (by decide) kf_X8_80 dX8_isLetter_16 ?_
    refine aw_iald C la_M_6 dX8_isLetter_19 ?_
    refine aw_iload_n C dX8_isLetter_20 rfl ?_
    refine aw_icmp_ne C (tgt := 28) dX8_isLetter_21 (by decide) ?_ ?_
    · refine aw_iconst C (1 : Int32) dX8_isLetter_24 (by decide) ?_
      refine aw_goto C (tgt := 29) dX8_isLetter_25 (by decide) ?_
      exact aw_zretp C (Or.inr rfl) hr dX8_isLetter_29
    · refine aw_iconst C (0 : Int32) dX8_isLetter_28 (by decide) ?_
      exact aw_zretp C (Or.inl rfl) hr dX8_isLetter_29
  · refine aw_iconst C (0 : Int32) dX8_isLetter_28 (by decide) ?_
    exact aw_zretp C (Or.inl rfl) hr dX8_isLetter_29
def X8_isFigure (M : Mem) (x1 : Int32)  : Option (Int32) :=
  if x1 < (M 0 7) then
    if am_in x1 110 = true then
      Option.bind (X8_in ((M 6 x1.toNatClampNeg).toInt64) (48 : Int64) (57 : Int64)) fun r1 =>
      if r1 = 0 then
        some (0 : Int32)
      else
        some (1 : Int32)
    else none
  else
    some (0 : Int32)
theorem m_X8_isFigure  (M : Mem) (x1 : Int32)  : AMet 2 yX8_isFigure cX8_isFigure 2 (some .boolean) lyM [.ref 0, .int x1] M (qIp lyM M) (X8_isFigure M x1) := by
  refine am_ent pn_X8 (Nat.le_of_ble_eq_true rfl) (fun E C hr => ?_)
  refine aw_lv (lv' := [(0, .ref 0), (1, .int x1)]) rfl ?_
  unfold X8_isFigure
  refine aw_iload_n C dX8_isFigure_0 rfl ?_
  refine aw_aload_n C dX8_isFigure_1 rfl ?_
  refine aw_getI C clX8 lo_M_0 7 rfl (by decide) kf_X8_76 dX8_isFigure_2 ?_
  refine aw_icmp_ge C (tgt := 31) dX8_isFigure_5 (by decide) ?_ ?_
  · refine aw_aload_n C dX8_isFigure_8 rfl ?_
    refine aw_getR C (r := 6) clX8 lo_M_0 6 rfl (by decide) kf_X8_26 dX8_isFigure_9 ?_
    refine aw_iload_n C dX8_isFigure_12 rfl ?_
    refine aw_iald C la_M_6 dX8_isFigure_13 ?_
    refine aw_i2l C dX8_isFigure_14 ?_
    refine aw_ldc2 C kd_X8_83 dX8_isFigure_15 ?_
    refine aw_ldc2 C kd_X8_85 dX8_isFigure_18 ?_
    refine aw_cSIp C [.long ((M 6 x1.toNatClampNeg).toInt64), .long (48 : Int64), .long (57 : Int64)] [] (m_X8_in M ((M 6 x1.toNatClampNeg).toInt64) (48 : Int64) (57 : Int64)) t_X8_in km_X8_48 (by decide) rfl rfl (Nat.le_of_ble_eq_true rfl) dX8_isFigure_21 (fun r1 => ?_)
    refine aw_if_eq C (tgt := 31) dX8_isFigure_24 (by decide) ?_ ?_
    · refine aw_iconst C (0 : Int32) dX8_isFigure_31 (by decide) ?_
      exact aw_zretp C (Or.inl rfl) hr dX8_isFigure_32
    · refine aw_iconst C (1 : Int32) dX8_isFigure_27 (by decide) ?_
      refine aw_goto C (tgt := 32) dX8_isFigure_28 (by decide) ?_
      exact aw_zretp C (Or.inr rfl) hr dX8_isFigure_32
  · refine aw_iconst C (0 : Int32) dX8_isFigure_31 (by decide) ?_
    exact aw_zretp C (Or.inl rfl) hr dX8_isFigure_32
def X8_refuse  (x1 : Int32) (M : Mem) : Option (Int32 × Mem) :=
  am_let (mset M 0 (upd (M 0) 13 x1)) fun M1 =>
  some ((0 : Int32), M1)
theorem m_X8_refuse   (x1 : Int32) (M : Mem) : AMet 1 yX8_refuse cX8_refuse 2 (some .boolean) lyM [.ref 0, .int x1] M (qI lyM) (X8_refuse x1 M) := by
  refine am_ent pn_X8 (Nat.le_of_ble_eq_true rfl) (fun E C hr => ?_)
  refine aw_lv (lv' := [(0, .ref 0), (1, .int x1)]) rfl ?_
  unfold X8_refuse
  refine aw_aload_n C dX8_refuse_0 rfl ?_
  refine aw_iload_n C dX8_refuse_1 rfl ?_
  refine aw_putI C clX8 lo_M_0 13 rfl (by decide) rfl rfl kf_X8_87 dX8_refuse_2 ?_
  refine aw_mlet (fun M1 => ?_)
  refine aw_iconst C (0 : Int32) dX8_refuse_5 (by decide) ?_
  exact aw_zret C (Or.inl rfl) hr dX8_refuse_6
def X8_sign  (x1 : Int32) (M : Mem) : Option (Int32 × Mem) :=
  Option.bind (X8_isLetter M x1) fun r1 =>
  if r1 = 0 then
    Option.bind (X8_refuse (1 : Int32) M) fun u2 =>
    if u2.1 = 0 ∨ u2.1 = 1 then some (u2.1, u2.2) else none
  else
    am_let (mset M 0 (upd (M 0) 12 ((M 0 12) + (1 : Int32)))) fun M3 =>
    some ((1 : Int32), M3)
theorem m_X8_sign   (x1 : Int32) (M : Mem) : AMet 2 yX8_sign cX8_sign 2 (some .boolean) lyM [.ref 0, .int x1] M (qI lyM) (X8_sign x1 M) := by
  refine am_ent pn_X8 (Nat.le_of_ble_eq_true rfl) (fun E C hr => ?_)
  refine aw_lv (lv' := [(0, .ref 0), (1, .int x1)]) rfl ?_
  unfold X8_sign
  refine aw_aload_n C dX8_sign_0 rfl ?_
  refine aw_iload_n C dX8_sign_1 rfl ?_
  refine aw_cVIp C [.int x1] [] (m_X8_isLetter M x1) v_X8_isLetter km_X8_90 (by decide) lo_M_0 rfl rfl rfl (Nat.le_of_ble_eq_true rfl) dX8_sign_2 (fun r1 => ?_)
  refine aw_if_ne C (tgt := 14) dX8_sign_5 (by decide) ?_ ?_
  · refine aw_aload_n C dX8_sign_8 rfl ?_
    refine aw_iconst C (1 : Int32) dX8_sign_9 (by decide) ?_
    refine aw_cVI C [.int (1 : Int32)] [] (m_X8_refuse (1 : Int32) M) v_X8_refuse km_X8_93 (by decide) lo_M_0 rfl rfl rfl (Nat.le_of_ble_eq_true rfl) dX8_sign_10 (fun u2 => ?_)
    exact aw_zretg C hr dX8_sign_13
  · refine aw_aload_n C dX8_sign_14 rfl ?_
    refine aw_dup C dX8_sign_15 rfl ?_
    refine aw_getI C clX8 lo_M_0 12 rfl (by decide) kf_X8_80 dX8_sign_16 ?_
    refine aw_iconst C (1 : Int32) dX8_sign_19 (by decide) ?_
    refine aw_iadd C dX8_sign_20 ?_
    refine aw_putI C clX8 lo_M_0 12 rfl (by decide) rfl rfl kf_X8_80 dX8_sign_21 ?_
    refine aw_mlet (fun M3 => ?_)
    refine aw_iconst C (1 : Int32) dX8_sign_24 (by decide) ?_
    exact aw_zret C (Or.inr rfl) hr dX8_sign_25
def X8_readsNumber_113  (x1 : Int32) (x2 : Int32) (x3 : Int32) (s0 : Int32) (M : Mem) : Option (Int32 × Mem) :=
  am_let (mset M 0 (upd (M 0) 14 s0)) fun M1 =>
  Option.bind (X8_in ((M1 0 14).toInt64) x1.toInt64 x2.toInt64) fun r2 =>
  if r2 = 0 then
    Option.bind (X8_refuse (2 : Int32) M1) fun u3 =>
    if u3.1 = 0 ∨ u3.1 = 1 then some (u3.1, u3.2) else none
  else
    am_let (mset M1 0 (upd (M1 0) 12 ((M1 0 12) + x3))) fun M4 =>
    some ((1 : Int32), M4)
def X8_readsNumber_77  (x1 : Int32) (x2 : Int32) (s0 : Int32) (M : Mem) : Option (Int32 × Mem) :=
  if s0 = (2 : Int32) then
    if am_in ((M 0 12) + (1 : Int32)) 110 = true then
      X8_readsNumber_113 x1 x2 s0 ((((10 : Int32) * (M 0 14)) + (M 6 ((M 0 12) + (1 : Int32)).toNatClampNeg)) - (48 : Int32)) M
    else none
  else
    X8_readsNumber_113 x1 x2 s0 (M 0 14) M
def X8_readsNumber_43  (x1 : Int32) (x2 : Int32) (M : Mem) : Option (Int32 × Mem) :=
  if am_in (M 0 12) 110 = true then
    am_let (mset M 0 (upd (M 0) 14 ((M 6 (M 0 12).toNatClampNeg) - (48 : Int32)))) fun M1 =>
    Option.bind (X8_isFigure M1 ((M1 0 12) + (1 : Int32))) fun r2 =>
    if r2 = 0 then
      X8_readsNumber_77 x1 x2 (1 : Int32) M1
    else
      X8_readsNumber_77 x1 x2 (2 : Int32) M1
  else none
def X8_readsNumber  (x1 : Int32) (x2 : Int32) (M : Mem) : Option (Int32 × Mem) :=
  Option.bind (X8_isFigure M (M 0 12)) fun r1 =>
  if r1 = 0 then
    Option.bind (X8_refuse (1 : Int32) M) fun u2 =>
    if u2.1 = 0 ∨ u2.1 = 1 then some (u2.1, u2.2) else none
  else
    Option.bind (X8_isFigure M ((M 0 12) + (1 : Int32))) fun r3 =>
    if r3 = 0 then
      X8_readsNumber_43 x1 x2 M
    else
      Option.bind (X8_isFigure M ((M 0 12) + (2 : Int32))) fun r5 =>
      if r5 = 0 then
        X8_readsNumber_43 x1 x2 M
      else
        Option.bind (X8_refuse (1 : Int32) M) fun u6 =>
        if u6.1 = 0 ∨ u6.1 = 1 then some (u6.1, u6.2) else none
theorem m_X8_readsNumber_113 {E : amE} (C : amC E 3 cX8_readsNumber 4 RX8) (hr : (eH E).sig.returnType = (some .boolean))  (x1 : Int32) (x2 : Int32) (x3 : Int32) (s0 : Int32) (M : Mem) : AW E lyM 4 (qI lyM) (X8_readsNumber_113 x1 x2 x3 s0 M) 113 [(0, .ref 0), (1, .int x1), (2, .int x2), (3, .int x3)] [.int s0, .ref 0] M := by
  unfold X8_readsNumber_113
  refine aw_putI C clX8 lo_M_0 14 rfl (by decide) rfl rfl kf_X8_99 dX8_readsNumber_113 ?_
  refine aw_mlet (fun M1 => ?_)
  refine aw_aload_n C dX8_readsNumber_116 rfl ?_
  refine aw_getI C clX8 lo_M_0 14 rfl (by decide) kf_X8_99 dX8_readsNumber_117 ?_
  refine aw_i2l C dX8_readsNumber_120 ?_
  refine aw_iload_n C dX8_readsNumber_121 rfl ?_
  refine aw_i2l C dX8_readsNumber_122 ?_
  refine aw_iload_n C dX8_readsNumber_123 rfl ?_
  refine aw_i2l C dX8_readsNumber_124 ?_
  refine aw_cSIp C [.long ((M1 0 14).toInt64), .long x1.toInt64, .long x2.toInt64] [] (m_X8_in M1 ((M1 0 14).toInt64) x1.toInt64 x2.toInt64) t_X8_in km_X8_48 (by decide) rfl rfl (Nat.le_of_ble_eq_true rfl) dX8_readsNumber_125 (fun r2 => ?_)
  refine aw_if_ne C (tgt := 137) dX8_readsNumber_128 (by decide) ?_ ?_
  · refine aw_aload_n C dX8_readsNumber_131 rfl ?_
    refine aw_iconst C (2 : Int32) dX8_readsNumber_132 (by decide) ?_
    refine aw_cVI C [.int (2 : Int32)] [] (m_X8_refuse (2 : Int32) M1) v_X8_refuse km_X8_93 (by decide) lo_M_0 rfl rfl rfl (Nat.le_of_ble_eq_true rfl) dX8_readsNumber_133 (fun u3 => ?_)
    exact aw_zretg C hr dX8_readsNumber_136
  · refine aw_aload_n C dX8_readsNumber_137 rfl ?_
    refine aw_dup C dX8_readsNumber_138 rfl ?_
    refine aw_getI C clX8 lo_M_0 12 rfl (by decide) kf_X8_80 dX8_readsNumber_139 ?_
    refine aw_iload_n C dX8_readsNumber_142 rfl ?_
    refine aw_iadd C dX8_readsNumber_143 ?_
    refine aw_putI C clX8 lo_M_0 12 rfl (by decide) rfl rfl kf_X8_80 dX8_readsNumber_144 ?_
    refine aw_mlet (fun M4 => ?_)
    refine aw_iconst C (1 : Int32) dX8_readsNumber_147 (by decide) ?_
    exact aw_zret C (Or.inr rfl) hr dX8_readsNumber_148
theorem m_X8_readsNumber_77 {E : amE} (C : amC E 3 cX8_readsNumber 4 RX8) (hr : (eH E).sig.returnType = (some .boolean))  (x1 : Int32) (x2 : Int32) (s0 : Int32) (M : Mem) : AW E lyM 4 (qI lyM) (X8_readsNumber_77 x1 x2 s0 M) 77 [(0, .ref 0), (1, .int x1), (2, .int x2)] [.int s0] M := by
  unfold X8_readsNumber_77
  refine aw_istore_n C [(3, .int s0), (0, .ref 0), (1, .int x1), (2, .int x2)] dX8_readsNumber_77 (by decide) rfl ?_
  refine aw_aload_n C dX8_readsNumber_78 rfl ?_
  refine aw_iload_n C dX8_readsNumber_79 rfl ?_
  refine aw_iconst C (2 : Int32) dX8_readsNumber_80 (by decide) ?_
  refine aw_icmp_ne C (tgt := 109) dX8_readsNumber_81 (by decide) ?_ ?_
  · refine aw_bipush C (10 : Int32) dX8_readsNumber_84 (by decide) ?_
    refine aw_aload_n C dX8_readsNumber_86 rfl ?_
    refine aw_getI C clX8 lo_M_0 14 rfl (by decide) kf_X8_99 dX8_readsNumber_87 ?_
    refine aw_imul C dX8_readsNumber_90 ?_
    refine aw_aload_n C dX8_readsNumber_91 rfl ?_
    refine aw_getR C (r := 6) clX8 lo_M_0 6 rfl (by decide) kf_X8_26 dX8_readsNumber_92 ?_
    refine aw_aload_n C dX8_readsNumber_95 rfl ?_
    refine aw_getI C clX8 lo_M_0 12 rfl (by decide) kf_X8_80 dX8_readsNumber_96 ?_
    refine aw_iconst C (1 : Int32) dX8_readsNumber_99 (by decide) ?_
    refine aw_iadd C dX8_readsNumber_100 ?_
    refine aw_iald C la_M_6 dX8_readsNumber_101 ?_
    refine aw_iadd C dX8_readsNumber_102 ?_
    refine aw_bipush C (48 : Int32) dX8_readsNumber_103 (by decide) ?_
    refine aw_isub C dX8_readsNumber_105 ?_
    refine aw_goto C (tgt := 113) dX8_readsNumber_106 (by decide) ?_
    refine aw_sub [1, 2, 3, 0] rfl ?_
    exact m_X8_readsNumber_113 C hr x1 x2 s0 ((((10 : Int32) * (M 0 14)) + (M 6 ((M 0 12) + (1 : Int32)).toNatClampNeg)) - (48 : Int32)) M
  · refine aw_aload_n C dX8_readsNumber_109 rfl ?_
    refine aw_getI C clX8 lo_M_0 14 rfl (by decide) kf_X8_99 dX8_readsNumber_110 ?_
    refine aw_sub [1, 2, 3, 0] rfl ?_
    exact m_X8_readsNumber_113 C hr x1 x2 s0 (M 0 14) M
theorem m_X8_readsNumber_43 {E : amE} (C : amC E 3 cX8_readsNumber 4 RX8) (hr : (eH E).sig.returnType = (some .boolean))  (x1 : Int32) (x2 : Int32) (M : Mem) : AW E lyM 4 (qI lyM) (X8_readsNumber_43 x1 x2 M) 43 [(0, .ref 0), (1, .int x1), (2, .int x2)] [] M := by
  unfold X8_readsNumber_43
  refine aw_aload_n C dX8_readsNumber_43 rfl ?_
  refine aw_aload_n C dX8_readsNumber_44 rfl ?_
  refine aw_getR C (r := 6) clX8 lo_M_0 6 rfl (by decide) kf_X8_26 dX8_readsNumber_45 ?_
  refine aw_aload_n C dX8_readsNumber_48 rfl ?_
  refine aw_getI C clX8 lo_M_0 12 rfl (by decide) kf_X8_80 dX8_readsNumber_49 ?_
  refine aw_iald C la_M_6 dX8_readsNumber_52 ?_
  refine aw_bipush C (48 : Int32) dX8_readsNumber_53 (by decide) ?_
  refine aw_isub C dX8_readsNumber_55 ?_
  refine aw_putI C clX8 lo_M_0 14 rfl (by decide) rfl rfl kf_X8_99 dX8_readsNumber_56 ?_
  refine aw_mlet (fun M1 => ?_)
  refine aw_aload_n C dX8_readsNumber_59 rfl ?_
  refine aw_aload_n C dX8_readsNumber_60 rfl ?_
  refine aw_getI C clX8 lo_M_0 12 rfl (by decide) kf_X8_80 dX8_readsNumber_61 ?_
  refine aw_iconst C (1 : Int32) dX8_readsNumber_64 (by decide) ?_
  refine aw_iadd C dX8_readsNumber_65 ?_
  refine aw_cVIp C [.int ((M1 0 12) + (1 : Int32))] [] (m_X8_isFigure M1 ((M1 0 12) + (1 : Int32))) v_X8_isFigure km_X8_96 (by decide) lo_M_0 rfl rfl rfl (Nat.le_of_ble_eq_true rfl) dX8_readsNumber_66 (fun r2 => ?_)
  refine aw_if_eq C (tgt := 76) dX8_readsNumber_69 (by decide) ?_ ?_
  · refine aw_iconst C (1 : Int32) dX8_readsNumber_76 (by decide) ?_
    exact m_X8_readsNumber_77 C hr x1 x2 (1 : Int32) M1
  · refine aw_iconst C (2 : Int32) dX8_readsNumber_72 (by decide) ?_
    refine aw_goto C (tgt := 77) dX8_readsNumber_73 (by decide) ?_
    exact m_X8_readsNumber_77 C hr x1 x2 (2 : Int32) M1
theorem m_X8_readsNumber   (x1 : Int32) (x2 : Int32) (M : Mem) : AMet 3 yX8_readsNumber cX8_readsNumber 4 (some .boolean) lyM [.ref 0, .int x1, .int x2] M (qI lyM) (X8_readsNumber x1 x2 M) := by
  refine am_ent pn_X8 (Nat.le_of_ble_eq_true rfl) (fun E C hr => ?_)
  refine aw_lv (lv' := [(0, .ref 0), (1, .int x1), (2, .int x2)]) rfl ?_
  unfold X8_readsNumber
  refine aw_aload_n C dX8_readsNumber_0 rfl ?_
  refine aw_aload_n C dX8_readsNumber_1 rfl ?_
  refine aw_getI C clX8 lo_M_0 12 rfl (by decide) kf_X8_80 dX8_readsNumber_2 ?_
  refine aw_cVIp C [.int (M 0 12)] [] (m_X8_isFigure M (M 0 12)) v_X8_isFigure km_X8_96 (by decide) lo_M_0 rfl rfl rfl (Nat.le_of_ble_eq_true rfl) dX8_readsNumber_5 (fun r1 => ?_)
  refine aw_if_eq C (tgt := 37) dX8_readsNumber_8 (by decide) ?_ ?_
  · refine aw_aload_n C dX8_readsNumber_37 rfl ?_
    refine aw_iconst C (1 : Int32) dX8_readsNumber_38 (by decide) ?_
    refine aw_cVI C [.int (1 : Int32)] [] (m_X8_refuse (1 : Int32) M) v_X8_refuse km_X8_93 (by decide) lo_M_0 rfl rfl rfl (Nat.le_of_ble_eq_true rfl) dX8_readsNumber_39 (fun u2 => ?_)
    exact aw_zretg C hr dX8_readsNumber_42
  · refine aw_aload_n C dX8_readsNumber_11 rfl ?_
    refine aw_aload_n C dX8_readsNumber_12 rfl ?_
    refine aw_getI C clX8 lo_M_0 12 rfl (by decide) kf_X8_80 dX8_readsNumber_13 ?_
    refine aw_iconst C (1 : Int32) dX8_readsNumber_16 (by decide) ?_
    refine aw_iadd C dX8_readsNumber_17 ?_
    refine aw_cVIp C [.int ((M 0 12) + (1 : Int32))] [] (m_X8_isFigure M ((M 0 12) + (1 : Int32))) v_X8_isFigure km_X8_96 (by decide) lo_M_0 rfl rfl rfl (Nat.le_of_ble_eq_true rfl) dX8_readsNumber_18 (fun r3 => ?_)
    refine aw_if_eq C (tgt := 43) dX8_readsNumber_21 (by decide) ?_ ?_
    · exact m_X8_readsNumber_43 C hr x1 x2 M
    · refine aw_aload_n C dX8_readsNumber_24 rfl ?_
      refine aw_aload_n C dX8_readsNumber_25 rfl ?_
      refine aw_getI C clX8 lo_M_0 12 rfl (by decide) kf_X8_80 dX8_readsNumber_26 ?_
      refine aw_iconst C (2 : Int32) dX8_readsNumber_29 (by decide) ?_
      refine aw_iadd C dX8_readsNumber_30 ?_
      refine aw_cVIp C [.int ((M 0 12) + (2 : Int32))] [] (m_X8_isFigure M ((M 0 12) + (2 : Int32))) v_X8_isFigure km_X8_96 (by decide) lo_M_0 rfl rfl rfl (Nat.le_of_ble_eq_true rfl) dX8_readsNumber_31 (fun r5 => ?_)
      refine aw_if_eq C (tgt := 43) dX8_readsNumber_34 (by decide) ?_ ?_
      · exact m_X8_readsNumber_43 C hr x1 x2 M
      · refine aw_aload_n C dX8_readsNumber_37 rfl ?_
        refine aw_iconst C (1 : Int32) dX8_readsNumber_38 (by decide) ?_
        refine aw_cVI C [.int (1 : Int32)] [] (m_X8_refuse (1 : Int32) M) v_X8_refuse km_X8_93 (by decide) lo_M_0 rfl rfl rfl (Nat.le_of_ble_eq_true rfl) dX8_readsNumber_39 (fun u6 => ?_)
        exact aw_zretg C hr dX8_readsNumber_42
def X8_readsLaw   (M : Mem) : Option (Int32 × Mem) :=
  Option.bind (X8_sign (98 : Int32) M) fun u1 =>
  if u1.1 = 0 then
    some ((0 : Int32), u1.2)
  else
    Option.bind (X8_readsNumber (4 : Int32) (12 : Int32) u1.2) fun u2 =>
    if u2.1 = 0 then
      some ((0 : Int32), u2.2)
    else
      if am_in (1053 : Int32) 1092 = true then
        am_let (mset u2.2 1 (upd (u2.2 1) (1053 : Int32).toNatClampNeg (u2.2 0 14))) fun M3 =>
        Option.bind (X8_sign (59 : Int32) M3) fun u4 =>
        if u4.1 = 0 ∨ u4.1 = 1 then some (u4.1, u4.2) else none
      else none
theorem m_X8_readsLaw    (M : Mem) : AMet 4 yX8_readsLaw cX8_readsLaw 1 (some .boolean) lyM [.ref 0] M (qI lyM) (X8_readsLaw M) := by
  refine am_ent pn_X8 (Nat.le_of_ble_eq_true rfl) (fun E C hr => ?_)
  refine aw_lv (lv' := [(0, .ref 0)]) rfl ?_
  unfold X8_readsLaw
  refine aw_aload_n C dX8_readsLaw_0 rfl ?_
  refine aw_bipush C (98 : Int32) dX8_readsLaw_1 (by decide) ?_
  refine aw_cVI C [.int (98 : Int32)] [] (m_X8_sign (98 : Int32) M) v_X8_sign km_X8_102 (by decide) lo_M_0 rfl rfl rfl (Nat.le_of_ble_eq_true rfl) dX8_readsLaw_3 (fun u1 => ?_)
  refine aw_if_eq C (tgt := 19) dX8_readsLaw_6 (by decide) ?_ ?_
  · refine aw_iconst C (0 : Int32) dX8_readsLaw_19 (by decide) ?_
    exact aw_zret C (Or.inl rfl) hr dX8_readsLaw_20
  · refine aw_aload_n C dX8_readsLaw_9 rfl ?_
    refine aw_iconst C (4 : Int32) dX8_readsLaw_10 (by decide) ?_
    refine aw_bipush C (12 : Int32) dX8_readsLaw_11 (by decide) ?_
    refine aw_cVI C [.int (4 : Int32), .int (12 : Int32)] [] (m_X8_readsNumber (4 : Int32) (12 : Int32) u1.2) v_X8_readsNumber km_X8_105 (by decide) lo_M_0 rfl rfl rfl (Nat.le_of_ble_eq_true rfl) dX8_readsLaw_13 (fun u2 => ?_)
    refine aw_if_ne C (tgt := 21) dX8_readsLaw_16 (by decide) ?_ ?_
    · refine aw_iconst C (0 : Int32) dX8_readsLaw_19 (by decide) ?_
      exact aw_zret C (Or.inl rfl) hr dX8_readsLaw_20
    · refine aw_aload_n C dX8_readsLaw_21 rfl ?_
      refine aw_getR C (r := 1) clX8 lo_M_0 0 rfl (by decide) kf_X8_7 dX8_readsLaw_22 ?_
      refine aw_sipush C (1053 : Int32) dX8_readsLaw_25 (by decide) ?_
      refine aw_aload_n C dX8_readsLaw_28 rfl ?_
      refine aw_getI C clX8 lo_M_0 14 rfl (by decide) kf_X8_99 dX8_readsLaw_29 ?_
      refine aw_iast C la_M_1 dX8_readsLaw_32 ?_
      refine aw_mlet (fun M3 => ?_)
      refine aw_aload_n C dX8_readsLaw_33 rfl ?_
      refine aw_bipush C (59 : Int32) dX8_readsLaw_34 (by decide) ?_
      refine aw_cVI C [.int (59 : Int32)] [] (m_X8_sign (59 : Int32) M3) v_X8_sign km_X8_102 (by decide) lo_M_0 rfl rfl rfl (Nat.le_of_ble_eq_true rfl) dX8_readsLaw_36 (fun u4 => ?_)
      exact aw_zretg C hr dX8_readsLaw_39
def X8_kindOfLetter  (x0 : Int32)  : Option (Int32) :=
  if x0 = (99 : Int32) then
    some (1 : Int32)
  else
    if x0 = (115 : Int32) then
      some (2 : Int32)
    else
      if x0 = (104 : Int32) then
        some (3 : Int32)
      else
        if x0 = (108 : Int32) then
          some (4 : Int32)
        else
          if x0 = (100 : Int32) then
            some (5 : Int32)
          else
            some (0 : Int32)
theorem m_X8_kindOfLetter  (M : Mem) (x0 : Int32)  : AMet 1 yX8_kindOfLetter cX8_kindOfLetter 1 (some .int) lyM [.int x0] M (qIp lyM M) (X8_kindOfLetter x0) := by
  refine am_ent pn_X8 (Nat.le_of_ble_eq_true rfl) (fun E C hr => ?_)
  refine aw_lv (lv' := [(0, .int x0)]) rfl ?_
  unfold X8_kindOfLetter
  refine aw_iload_n C dX8_kindOfLetter_0 rfl ?_
  refine aw_bipush C (99 : Int32) dX8_kindOfLetter_1 (by decide) ?_
  refine aw_icmp_ne C (tgt := 10) dX8_kindOfLetter_3 (by decide) ?_ ?_
  · refine aw_iconst C (1 : Int32) dX8_kindOfLetter_6 (by decide) ?_
    refine aw_goto C (tgt := 51) dX8_kindOfLetter_7 (by decide) ?_
    exact aw_iretp C hr dX8_kindOfLetter_51
  · refine aw_iload_n C dX8_kindOfLetter_10 rfl ?_
    refine aw_bipush C (115 : Int32) dX8_kindOfLetter_11 (by decide) ?_
    refine aw_icmp_ne C (tgt := 20) dX8_kindOfLetter_13 (by decide) ?_ ?_
    · refine aw_iconst C (2 : Int32) dX8_kindOfLetter_16 (by decide) ?_
      refine aw_goto C (tgt := 51) dX8_kindOfLetter_17 (by decide) ?_
      exact aw_iretp C hr dX8_kindOfLetter_51
    · refine aw_iload_n C dX8_kindOfLetter_20 rfl ?_
      refine aw_bipush C (104 : Int32) dX8_kindOfLetter_21 (by decide) ?_
      refine aw_icmp_ne C (tgt := 30) dX8_kindOfLetter_23 (by decide) ?_ ?_
      · refine aw_iconst C (3 : Int32) dX8_kindOfLetter_26 (by decide) ?_
        refine aw_goto C (tgt := 51) dX8_kindOfLetter_27 (by decide) ?_
        exact aw_iretp C hr dX8_kindOfLetter_51
      · refine aw_iload_n C dX8_kindOfLetter_30 rfl ?_
        refine aw_bipush C (108 : Int32) dX8_kindOfLetter_31 (by decide) ?_
        refine aw_icmp_ne C (tgt := 40) dX8_kindOfLetter_33 (by decide) ?_ ?_
        · refine aw_iconst C (4 : Int32) dX8_kindOfLetter_36 (by decide) ?_
          refine aw_goto C (tgt := 51) dX8_kindOfLetter_37 (by decide) ?_
          exact aw_iretp C hr dX8_kindOfLetter_51
        · refine aw_iload_n C dX8_kindOfLetter_40 rfl ?_
          refine aw_bipush C (100 : Int32) dX8_kindOfLetter_41 (by decide) ?_
          refine aw_icmp_ne C (tgt := 50) dX8_kindOfLetter_43 (by decide) ?_ ?_
          · refine aw_iconst C (5 : Int32) dX8_kindOfLetter_46 (by decide) ?_
            refine aw_goto C (tgt := 51) dX8_kindOfLetter_47 (by decide) ?_
            exact aw_iretp C hr dX8_kindOfLetter_51
          · refine aw_iconst C (0 : Int32) dX8_kindOfLetter_50 (by decide) ?_
            exact aw_iretp C hr dX8_kindOfLetter_51
def X8_readsTraveller   (M : Mem) : Option (Int32 × Mem) :=
  if am_in (1054 : Int32) 1092 = true then
    if (M 1 (1054 : Int32).toNatClampNeg) = (6 : Int32) then
      Option.bind (X8_refuse (3 : Int32) M) fun u1 =>
      if u1.1 = 0 ∨ u1.1 = 1 then some (u1.1, u1.2) else none
    else
      if am_in (M 0 12) 110 = true then
        Option.bind (X8_kindOfLetter (M 6 (M 0 12).toNatClampNeg)) fun r2 =>
        if am_in ((1056 : Int32) + (M 1 (1054 : Int32).toNatClampNeg)) 1092 = true then
          am_let (mset M 1 (upd (M 1) ((1056 : Int32) + (M 1 (1054 : Int32).toNatClampNeg)).toNatClampNeg r2)) fun M3 =>
          am_let (mset M3 0 (upd (M3 0) 12 ((M3 0 12) + (1 : Int32)))) fun M4 =>
          if am_in (1053 : Int32) 1092 = true then
            Option.bind (X8_readsNumber (0 : Int32) ((M4 1 (1053 : Int32).toNatClampNeg) - (1 : Int32)) M4) fun u5 =>
            if u5.1 = 0 then
              some ((0 : Int32), u5.2)
            else
              if am_in ((1062 : Int32) + (M 1 (1054 : Int32).toNatClampNeg)) 1092 = true then
                am_let (mset u5.2 1 (upd (u5.2 1) ((1062 : Int32) + (M 1 (1054 : Int32).toNatClampNeg)).toNatClampNeg (u5.2 0 14))) fun M6 =>
                Option.bind (X8_sign (44 : Int32) M6) fun u7 =>
                if u7.1 = 0 then
                  some ((0 : Int32), u7.2)
                else
                  Option.bind (X8_readsNumber (0 : Int32) (3 : Int32) u7.2) fun u8 =>
                  if u8.1 = 0 then
                    some ((0 : Int32), u8.2)
                  else
                    if am_in ((1080 : Int32) + (M 1 (1054 : Int32).toNatClampNeg)) 1092 = true then
                      am_let (mset u8.2 1 (upd (u8.2 1) ((1080 : Int32) + (M 1 (1054 : Int32).toNatClampNeg)).toNatClampNeg (u8.2 0 14))) fun M9 =>
                      if am_in (1054 : Int32) 1092 = true then
                        if am_in (1054 : Int32) 1092 = true then
                          am_let (mset M9 1 (upd (M9 1) (1054 : Int32).toNatClampNeg ((M9 1 (1054 : Int32).toNatClampNeg) + (1 : Int32)))) fun M10 =>
                          Option.bind (X8_sign (59 : Int32) M10) fun u11 =>
                          if u11.1 = 0 ∨ u11.1 = 1 then some (u11.1, u11.2) else none
                        else none
                      else none
                    else none
              else none
          else none
        else none
      else none
  else none
theorem m_X8_readsTraveller    (M : Mem) : AMet 4 yX8_readsTraveller cX8_readsTraveller 2 (some .boolean) lyM [.ref 0] M (qI lyM) (X8_readsTraveller M) := by
  refine am_ent pn_X8 (Nat.le_of_ble_eq_true rfl) (fun E C hr => ?_)
  refine aw_lv (lv' := [(0, .ref 0)]) rfl ?_
  unfold X8_readsTraveller
  refine aw_aload_n C dX8_readsTraveller_0 rfl ?_
  refine aw_getR C (r := 1) clX8 lo_M_0 0 rfl (by decide) kf_X8_7 dX8_readsTraveller_1 ?_
  refine aw_sipush C (1054 : Int32) dX8_readsTraveller_4 (by decide) ?_
  refine aw_iald C la_M_1 dX8_readsTraveller_7 ?_
  refine aw_istore_n C [(1, .int (M 1 (1054 : Int32).toNatClampNeg)), (0, .ref 0)] dX8_readsTraveller_8 (by decide) rfl ?_
  refine aw_iload_n C dX8_readsTraveller_9 rfl ?_
  refine aw_bipush C (6 : Int32) dX8_readsTraveller_10 (by decide) ?_
  refine aw_icmp_ne C (tgt := 21) dX8_readsTraveller_12 (by decide) ?_ ?_
  · refine aw_aload_n C dX8_readsTraveller_15 rfl ?_
    refine aw_iconst C (3 : Int32) dX8_readsTraveller_16 (by decide) ?_
    refine aw_cVI C [.int (3 : Int32)] [] (m_X8_refuse (3 : Int32) M) v_X8_refuse km_X8_93 (by decide) lo_M_0 rfl rfl rfl (Nat.le_of_ble_eq_true rfl) dX8_readsTraveller_17 (fun u1 => ?_)
    exact aw_zretg C hr dX8_readsTraveller_20
  · refine aw_aload_n C dX8_readsTraveller_21 rfl ?_
    refine aw_getR C (r := 1) clX8 lo_M_0 0 rfl (by decide) kf_X8_7 dX8_readsTraveller_22 ?_
    refine aw_sipush C (1056 : Int32) dX8_readsTraveller_25 (by decide) ?_
    refine aw_iload_n C dX8_readsTraveller_28 rfl ?_
    refine aw_iadd C dX8_readsTraveller_29 ?_
    refine aw_aload_n C dX8_readsTraveller_30 rfl ?_
    refine aw_getR C (r := 6) clX8 lo_M_0 6 rfl (by decide) kf_X8_26 dX8_readsTraveller_31 ?_
    refine aw_aload_n C dX8_readsTraveller_34 rfl ?_
    refine aw_getI C clX8 lo_M_0 12 rfl (by decide) kf_X8_80 dX8_readsTraveller_35 ?_
    refine aw_iald C la_M_6 dX8_readsTraveller_38 ?_
    refine aw_cSIp C [.int (M 6 (M 0 12).toNatClampNeg)] [.int ((1056 : Int32) + (M 1 (1054 : Int32).toNatClampNeg)), .ref 1] (m_X8_kindOfLetter M (M 6 (M 0 12).toNatClampNeg)) t_X8_kindOfLetter km_X8_109 (by decide) rfl rfl (Nat.le_of_ble_eq_true rfl) dX8_readsTraveller_39 (fun r2 => ?_)
    refine aw_iast C la_M_1 dX8_readsTraveller_42 ?_
    refine aw_mlet (fun M3 => ?_)
    refine aw_aload_n C dX8_readsTraveller_43 rfl ?_
    refine aw_dup C dX8_readsTraveller_44 rfl ?_
    refine aw_getI C clX8 lo_M_0 12 rfl (by decide) kf_X8_80 dX8_readsTraveller_45 ?_
    refine aw_iconst C (1 : Int32) dX8_readsTraveller_48 (by decide) ?_
    refine aw_iadd C dX8_readsTraveller_49 ?_
    refine aw_putI C clX8 lo_M_0 12 rfl (by decide) rfl rfl kf_X8_80 dX8_readsTraveller_50 ?_
    refine aw_mlet (fun M4 => ?_)
    refine aw_aload_n C dX8_readsTraveller_53 rfl ?_
    refine aw_iconst C (0 : Int32) dX8_readsTraveller_54 (by decide) ?_
    refine aw_aload_n C dX8_readsTraveller_55 rfl ?_
    refine aw_getR C (r := 1) clX8 lo_M_0 0 rfl (by decide) kf_X8_7 dX8_readsTraveller_56 ?_
    refine aw_sipush C (1053 : Int32) dX8_readsTraveller_59 (by decide) ?_
    refine aw_iald C la_M_1 dX8_readsTraveller_62 ?_
    refine aw_iconst C (1 : Int32) dX8_readsTraveller_63 (by decide) ?_
    refine aw_isub C dX8_readsTraveller_64 ?_
    refine aw_cVI C [.int (0 : Int32), .int ((M4 1 (1053 : Int32).toNatClampNeg) - (1 : Int32))] [] (m_X8_readsNumber (0 : Int32) ((M4 1 (1053 : Int32).toNatClampNeg) - (1 : Int32)) M4) v_X8_readsNumber km_X8_105 (by decide) lo_M_0 rfl rfl rfl (Nat.le_of_ble_eq_true rfl) dX8_readsTraveller_65 (fun u5 => ?_)
    refine aw_if_ne C (tgt := 73) dX8_readsTraveller_68 (by decide) ?_ ?_
    · refine aw_iconst C (0 : Int32) dX8_readsTraveller_71 (by decide) ?_
      exact aw_zret C (Or.inl rfl) hr dX8_readsTraveller_72
    · refine aw_aload_n C dX8_readsTraveller_73 rfl ?_
      refine aw_getR C (r := 1) clX8 lo_M_0 0 rfl (by decide) kf_X8_7 dX8_readsTraveller_74 ?_
      refine aw_sipush C (1062 : Int32) dX8_readsTraveller_77 (by decide) ?_
      refine aw_iload_n C dX8_readsTraveller_80 rfl ?_
      refine aw_iadd C dX8_readsTraveller_81 ?_
      refine aw_aload_n C dX8_readsTraveller_82 rfl ?_
      refine aw_getI C clX8 lo_M_0 14 rfl (by decide) kf_X8_99 dX8_readsTraveller_83 ?_
      refine aw_iast C la_M_1 dX8_readsTraveller_86 ?_
      refine aw_mlet (fun M6 => ?_)
      refine aw_aload_n C dX8_readsTraveller_87 rfl ?_
      refine aw_bipush C (44 : Int32) dX8_readsTraveller_88 (by decide) ?_
      refine aw_cVI C [.int (44 : Int32)] [] (m_X8_sign (44 : Int32) M6) v_X8_sign km_X8_102 (by decide) lo_M_0 rfl rfl rfl (Nat.le_of_ble_eq_true rfl) dX8_readsTraveller_90 (fun u7 => ?_)
      refine aw_if_eq C (tgt := 105) dX8_readsTraveller_93 (by decide) ?_ ?_
      · refine aw_iconst C (0 : Int32) dX8_readsTraveller_105 (by decide) ?_
        exact aw_zret C (Or.inl rfl) hr dX8_readsTraveller_106
      · refine aw_aload_n C dX8_readsTraveller_96 rfl ?_
        refine aw_iconst C (0 : Int32) dX8_readsTraveller_97 (by decide) ?_
        refine aw_iconst C (3 : Int32) dX8_readsTraveller_98 (by decide) ?_
        refine aw_cVI C [.int (0 : Int32), .int (3 : Int32)] [] (m_X8_readsNumber (0 : Int32) (3 : Int32) u7.2) v_X8_readsNumber km_X8_105 (by decide) lo_M_0 rfl rfl rfl (Nat.le_of_ble_eq_true rfl) dX8_readsTraveller_99 (fun u8 => ?_)
        refine aw_if_ne C (tgt := 107) dX8_readsTraveller_102 (by decide) ?_ ?_
        · refine aw_iconst C (0 : Int32) dX8_readsTraveller_105 (by decide) ?_
          exact aw_zret C (Or.inl rfl) hr dX8_readsTraveller_106
        · refine aw_aload_n C dX8_readsTraveller_107 rfl ?_
          refine aw_getR C (r := 1) clX8 lo_M_0 0 rfl (by decide) kf_X8_7 dX8_readsTraveller_108 ?_
          refine aw_sipush C (1080 : Int32) dX8_readsTraveller_111 (by decide) ?_
          refine aw_iload_n C dX8_readsTraveller_114 rfl ?_
          refine aw_iadd C dX8_readsTraveller_115 ?_
          refine aw_aload_n C dX8_readsTraveller_116 rfl ?_
          refine aw_getI C clX8 lo_M_0 14 rfl (by decide) kf_X8_99 dX8_readsTraveller_117 ?_
          refine aw_iast C la_M_1 dX8_readsTraveller_120 ?_
          refine aw_mlet (fun M9 => ?_)
          refine aw_aload_n C dX8_readsTraveller_121 rfl ?_
          refine aw_getR C (r := 1) clX8 lo_M_0 0 rfl (by decide) kf_X8_7 dX8_readsTraveller_122 ?_
          refine aw_sipush C (1054 : Int32) dX8_readsTraveller_125 (by decide) ?_
          refine aw_dup2 C dX8_readsTraveller_128 rfl rfl ?_
          refine aw_iald C la_M_1 dX8_readsTraveller_129 ?_
          refine aw_iconst C (1 : Int32) dX8_readsTraveller_130 (by decide) ?_
          refine aw_iadd C dX8_readsTraveller_131 ?_
          refine aw_iast C la_M_1 dX8_readsTraveller_132 ?_
          refine aw_mlet (fun M10 => ?_)
          refine aw_aload_n C dX8_readsTraveller_133 rfl ?_
          refine aw_bipush C (59 : Int32) dX8_readsTraveller_134 (by decide) ?_
          refine aw_cVI C [.int (59 : Int32)] [] (m_X8_sign (59 : Int32) M10) v_X8_sign km_X8_102 (by decide) lo_M_0 rfl rfl rfl (Nat.le_of_ble_eq_true rfl) dX8_readsTraveller_136 (fun u11 => ?_)
          exact aw_zretg C hr dX8_readsTraveller_139
def X8_reads_139  (x1 : Int32) (M : Mem) : Option (Int32 × Mem) :=
  if x1 = 0 then
    some ((0 : Int32), M)
  else
    if (M 0 12) = (M 0 7) then
      some ((1 : Int32), M)
    else
      Option.bind (X8_refuse (1 : Int32) M) fun u1 =>
      if u1.1 = 0 then
        some ((0 : Int32), u1.2)
      else
        some ((1 : Int32), u1.2)
def X8_reads_101  : Nat → Int32 → Mem → Option (Int32 × Mem)
  | 0, _, _ => none
  | f + 1, x1, M =>
    if x1 = 0 then
      X8_reads_139 x1 M
    else
      if (M 0 12) < (M 0 7) then
        if am_in (M 0 12) 110 = true then
          Option.bind (X8_kindOfLetter (M 6 (M 0 12).toNatClampNeg)) fun r2 =>
          if 0 < r2 then
            Option.bind (X8_readsTraveller M) fun u3 =>
            X8_reads_101  f u3.1 u3.2
          else
            X8_reads_139 x1 M
        else none
      else
        X8_reads_139 x1 M
def X8_reads_2  : Nat → Int32 → Mem → Option (Int32 × Mem)
  | 0, _, _ => none
  | f + 1, x1, M =>
    if x1 < (39 : Int32) then
      Option.bind (X8_in x1.toInt64 (15 : Int64) (20 : Int64)) fun r1 =>
      if r1 = 0 then
        if x1 < (33 : Int32) then
          if am_in ((1053 : Int32) + x1) 1092 = true then
            am_let (mset M 1 (upd (M 1) ((1053 : Int32) + x1).toNatClampNeg (0 : Int32))) fun M2 =>
            X8_reads_2  f (x1 + (1 : Int32)) M2
          else none
        else
          if am_in ((1053 : Int32) + x1) 1092 = true then
            am_let (mset M 1 (upd (M 1) ((1053 : Int32) + x1).toNatClampNeg (20 : Int32))) fun M3 =>
            X8_reads_2  f (x1 + (1 : Int32)) M3
          else none
      else
        if am_in ((1053 : Int32) + x1) 1092 = true then
          am_let (mset M 1 (upd (M 1) ((1053 : Int32) + x1).toNatClampNeg (-1000000 : Int32))) fun M4 =>
          X8_reads_2  f (x1 + (1 : Int32)) M4
        else none
    else
      am_let (mset M 0 (upd (M 0) 12 (0 : Int32))) fun M5 =>
      Option.bind (X8_readsLaw M5) fun u6 =>
      if u6.1 = 0 then
        X8_reads_101 am_fuel u6.1 u6.2
      else
        if (u6.2 0 12) = (u6.2 0 7) then
          Option.bind (X8_refuse (1 : Int32) u6.2) fun u4 =>
          if u4.1 = 0 ∨ u4.1 = 1 then some (u4.1, u4.2) else none
        else
          if am_in (u6.2 0 12) 110 = true then
            Option.bind (X8_kindOfLetter (u6.2 6 (u6.2 0 12).toNatClampNeg)) fun r5 =>
            if r5 = 0 then
              Option.bind (X8_refuse (1 : Int32) u6.2) fun u6 =>
              if u6.1 = 0 ∨ u6.1 = 1 then some (u6.1, u6.2) else none
            else
              X8_reads_101 am_fuel u6.1 u6.2
          else none
def X8_reads   (M : Mem) : Option (Int32 × Mem) :=
  X8_reads_2 am_fuel (0 : Int32) M
theorem m_X8_reads_139 {E : amE} (C : amC E 5 cX8_reads 2 RX8) (hr : (eH E).sig.returnType = (some .boolean))  (x1 : Int32) (M : Mem) : AW E lyM 2 (qI lyM) (X8_reads_139 x1 M) 139 [(0, .ref 0), (1, .int x1)] [] M := by
  unfold X8_reads_139
  refine aw_iload_n C dX8_reads_139 rfl ?_
  refine aw_if_eq C (tgt := 166) dX8_reads_140 (by decide) ?_ ?_
  · refine aw_iconst C (0 : Int32) dX8_reads_166 (by decide) ?_
    exact aw_zret C (Or.inl rfl) hr dX8_reads_167
  · refine aw_aload_n C dX8_reads_143 rfl ?_
    refine aw_getI C clX8 lo_M_0 12 rfl (by decide) kf_X8_80 dX8_reads_144 ?_
    refine aw_aload_n C dX8_reads_147 rfl ?_
    refine aw_getI C clX8 lo_M_0 7 rfl (by decide) kf_X8_76 dX8_reads_148 ?_
    refine aw_icmp_eq C (tgt := 162) dX8_reads_151 (by decide) ?_ ?_
    · refine aw_iconst C (1 : Int32) dX8_reads_162 (by decide) ?_
      refine aw_goto C (tgt := 167) dX8_reads_163 (by decide) ?_
      exact aw_zret C (Or.inr rfl) hr dX8_reads_167
    · refine aw_aload_n C dX8_reads_154 rfl ?_
      refine aw_iconst C (1 : Int32) dX8_reads_155 (by decide) ?_
      refine aw_cVI C [.int (1 : Int32)] [] (m_X8_refuse (1 : Int32) M) v_X8_refuse km_X8_93 (by decide) lo_M_0 rfl rfl rfl (Nat.le_of_ble_eq_true rfl) dX8_reads_156 (fun u1 => ?_)
      refine aw_if_eq C (tgt := 166) dX8_reads_159 (by decide) ?_ ?_
      · refine aw_iconst C (0 : Int32) dX8_reads_166 (by decide) ?_
        exact aw_zret C (Or.inl rfl) hr dX8_reads_167
      · refine aw_iconst C (1 : Int32) dX8_reads_162 (by decide) ?_
        refine aw_goto C (tgt := 167) dX8_reads_163 (by decide) ?_
        exact aw_zret C (Or.inr rfl) hr dX8_reads_167
theorem m_X8_reads_101 {E : amE} (C : amC E 5 cX8_reads 2 RX8) (hr : (eH E).sig.returnType = (some .boolean))  : ∀ (f : Nat) (x1 : Int32) (M : Mem), AW E lyM 2 (qI lyM) (X8_reads_101 f x1 M) 101 [(0, .ref 0), (1, .int x1)] [] M := by
  intro f
  induction f with
  | zero => exact (fun _ _ => aw_none)
  | succ f ih =>
    intro x1 M
    rw [X8_reads_101]
    refine aw_iload_n C dX8_reads_101 rfl ?_
    refine aw_if_eq C (tgt := 139) dX8_reads_102 (by decide) ?_ ?_
    · exact m_X8_reads_139 C hr x1 M
    · refine aw_aload_n C dX8_reads_105 rfl ?_
      refine aw_getI C clX8 lo_M_0 12 rfl (by decide) kf_X8_80 dX8_reads_106 ?_
      refine aw_aload_n C dX8_reads_109 rfl ?_
      refine aw_getI C clX8 lo_M_0 7 rfl (by decide) kf_X8_76 dX8_reads_110 ?_
      refine aw_icmp_ge C (tgt := 139) dX8_reads_113 (by decide) ?_ ?_
      · refine aw_aload_n C dX8_reads_116 rfl ?_
        refine aw_getR C (r := 6) clX8 lo_M_0 6 rfl (by decide) kf_X8_26 dX8_reads_117 ?_
        refine aw_aload_n C dX8_reads_120 rfl ?_
        refine aw_getI C clX8 lo_M_0 12 rfl (by decide) kf_X8_80 dX8_reads_121 ?_
        refine aw_iald C la_M_6 dX8_reads_124 ?_
        refine aw_cSIp C [.int (M 6 (M 0 12).toNatClampNeg)] [] (m_X8_kindOfLetter M (M 6 (M 0 12).toNatClampNeg)) t_X8_kindOfLetter km_X8_109 (by decide) rfl rfl (Nat.le_of_ble_eq_true rfl) dX8_reads_125 (fun r2 => ?_)
        refine aw_if_le C (tgt := 139) dX8_reads_128 (by decide) ?_ ?_
        · refine aw_aload_n C dX8_reads_131 rfl ?_
          refine aw_cVI C [] [] (m_X8_readsTraveller M) v_X8_readsTraveller km_X8_121 (by decide) lo_M_0 rfl rfl rfl (Nat.le_of_ble_eq_true rfl) dX8_reads_132 (fun u3 => ?_)
          refine aw_istore_n C [(1, .int u3.1), (0, .ref 0)] dX8_reads_135 (by decide) rfl ?_
          refine aw_goto C (tgt := 101) dX8_reads_136 (by decide) ?_
          refine aw_sub [1, 0] rfl ?_
          exact ih u3.1 u3.2
        · exact m_X8_reads_139 C hr x1 M
      · exact m_X8_reads_139 C hr x1 M
theorem m_X8_reads_2 {E : amE} (C : amC E 5 cX8_reads 2 RX8) (hr : (eH E).sig.returnType = (some .boolean))  : ∀ (f : Nat) (x1 : Int32) (M : Mem), AW E lyM 2 (qI lyM) (X8_reads_2 f x1 M) 2 [(0, .ref 0), (1, .int x1)] [] M := by
  intro f
  induction f with
  | zero => exact (fun _ _ => aw_none)
  | succ f ih =>
    intro x1 M
    rw [X8_reads_2]
    refine aw_iload_n C dX8_reads_2 rfl ?_
    refine aw_bipush C (39 : Int32) dX8_reads_3 (by decide) ?_
    refine aw_icmp_ge C (tgt := 55) dX8_reads_5 (by decide) ?_ ?_
    · refine aw_aload_n C dX8_reads_8 rfl ?_
      refine aw_getR C (r := 1) clX8 lo_M_0 0 rfl (by decide) kf_X8_7 dX8_reads_9 ?_
      refine aw_sipush C (1053 : Int32) dX8_reads_12 (by decide) ?_
      refine aw_iload_n C dX8_reads_15 rfl ?_
      refine aw_iadd C dX8_reads_16 ?_
      refine aw_iload_n C dX8_reads_17 rfl ?_
      refine aw_i2l C dX8_reads_18 ?_
      refine aw_ldc2 C kd_X8_112 dX8_reads_19 ?_
      refine aw_ldc2 C kd_X8_114 dX8_reads_22 ?_
      refine aw_cSIp C [.long x1.toInt64, .long (15 : Int64), .long (20 : Int64)] [.int ((1053 : Int32) + x1), .ref 1] (m_X8_in M x1.toInt64 (15 : Int64) (20 : Int64)) t_X8_in km_X8_48 (by decide) rfl rfl (Nat.le_of_ble_eq_true rfl) dX8_reads_25 (fun r1 => ?_)
      refine aw_if_eq C (tgt := 36) dX8_reads_28 (by decide) ?_ ?_
      · refine aw_iload_n C dX8_reads_36 rfl ?_
        refine aw_bipush C (33 : Int32) dX8_reads_37 (by decide) ?_
        refine aw_icmp_ge C (tgt := 46) dX8_reads_39 (by decide) ?_ ?_
        · refine aw_iconst C (0 : Int32) dX8_reads_42 (by decide) ?_
          refine aw_goto C (tgt := 48) dX8_reads_43 (by decide) ?_
          refine aw_iast C la_M_1 dX8_reads_48 ?_
          refine aw_mlet (fun M2 => ?_)
          refine aw_iinc C (v := (1 : Int32)) [(1, .int (x1 + (1 : Int32))), (0, .ref 0)] dX8_reads_49 rfl (by decide) (by decide) rfl ?_
          refine aw_goto C (tgt := 2) dX8_reads_52 (by decide) ?_
          refine aw_sub [1, 0] rfl ?_
          exact ih (x1 + (1 : Int32)) M2
        · refine aw_bipush C (20 : Int32) dX8_reads_46 (by decide) ?_
          refine aw_iast C la_M_1 dX8_reads_48 ?_
          refine aw_mlet (fun M3 => ?_)
          refine aw_iinc C (v := (1 : Int32)) [(1, .int (x1 + (1 : Int32))), (0, .ref 0)] dX8_reads_49 rfl (by decide) (by decide) rfl ?_
          refine aw_goto C (tgt := 2) dX8_reads_52 (by decide) ?_
          refine aw_sub [1, 0] rfl ?_
          exact ih (x1 + (1 : Int32)) M3
      · refine aw_ldc C kc_X8_116 dX8_reads_31 ?_
        refine aw_goto C (tgt := 48) dX8_reads_33 (by decide) ?_
        refine aw_iast C la_M_1 dX8_reads_48 ?_
        refine aw_mlet (fun M4 => ?_)
        refine aw_iinc C (v := (1 : Int32)) [(1, .int (x1 + (1 : Int32))), (0, .ref 0)] dX8_reads_49 rfl (by decide) (by decide) rfl ?_
        refine aw_goto C (tgt := 2) dX8_reads_52 (by decide) ?_
        refine aw_sub [1, 0] rfl ?_
        exact ih (x1 + (1 : Int32)) M4
    · refine aw_aload_n C dX8_reads_55 rfl ?_
      refine aw_iconst C (0 : Int32) dX8_reads_56 (by decide) ?_
      refine aw_putI C clX8 lo_M_0 12 rfl (by decide) rfl rfl kf_X8_80 dX8_reads_57 ?_
      refine aw_mlet (fun M5 => ?_)
      refine aw_aload_n C dX8_reads_60 rfl ?_
      refine aw_cVI C [] [] (m_X8_readsLaw M5) v_X8_readsLaw km_X8_117 (by decide) lo_M_0 rfl rfl rfl (Nat.le_of_ble_eq_true rfl) dX8_reads_61 (fun u6 => ?_)
      refine aw_istore_n C [(1, .int u6.1), (0, .ref 0)] dX8_reads_64 (by decide) rfl ?_
      refine aw_iload_n C dX8_reads_65 rfl ?_
      refine aw_if_eq C (tgt := 101) dX8_reads_66 (by decide) ?_ ?_
      · refine aw_sub [1, 0] rfl ?_
        exact m_X8_reads_101 C hr am_fuel u6.1 u6.2
      · refine aw_aload_n C dX8_reads_69 rfl ?_
        refine aw_getI C clX8 lo_M_0 12 rfl (by decide) kf_X8_80 dX8_reads_70 ?_
        refine aw_aload_n C dX8_reads_73 rfl ?_
        refine aw_getI C clX8 lo_M_0 7 rfl (by decide) kf_X8_76 dX8_reads_74 ?_
        refine aw_icmp_eq C (tgt := 95) dX8_reads_77 (by decide) ?_ ?_
        · refine aw_aload_n C dX8_reads_95 rfl ?_
          refine aw_iconst C (1 : Int32) dX8_reads_96 (by decide) ?_
          refine aw_cVI C [.int (1 : Int32)] [] (m_X8_refuse (1 : Int32) u6.2) v_X8_refuse km_X8_93 (by decide) lo_M_0 rfl rfl rfl (Nat.le_of_ble_eq_true rfl) dX8_reads_97 (fun u4 => ?_)
          exact aw_zretg C hr dX8_reads_100
        · refine aw_aload_n C dX8_reads_80 rfl ?_
          refine aw_getR C (r := 6) clX8 lo_M_0 6 rfl (by decide) kf_X8_26 dX8_reads_81 ?_
          refine aw_aload_n C dX8_reads_84 rfl ?_
          refine aw_getI C clX8 lo_M_0 12 rfl (by decide) kf_X8_80 dX8_reads_85 ?_
          refine aw_iald C la_M_6 dX8_reads_88 ?_
          refine aw_cSIp C [.int (u6.2 6 (u6.2 0 12).toNatClampNeg)] [] (m_X8_kindOfLetter u6.2 (u6.2 6 (u6.2 0 12).toNatClampNeg)) t_X8_kindOfLetter km_X8_109 (by decide) rfl rfl (Nat.le_of_ble_eq_true rfl) dX8_reads_89 (fun r5 => ?_)
          refine aw_if_ne C (tgt := 101) dX8_reads_92 (by decide) ?_ ?_
          · refine aw_aload_n C dX8_reads_95 rfl ?_
            refine aw_iconst C (1 : Int32) dX8_reads_96 (by decide) ?_
            refine aw_cVI C [.int (1 : Int32)] [] (m_X8_refuse (1 : Int32) u6.2) v_X8_refuse km_X8_93 (by decide) lo_M_0 rfl rfl rfl (Nat.le_of_ble_eq_true rfl) dX8_reads_97 (fun u6 => ?_)
            exact aw_zretg C hr dX8_reads_100
          · refine aw_sub [1, 0] rfl ?_
            exact m_X8_reads_101 C hr am_fuel u6.1 u6.2
theorem m_X8_reads    (M : Mem) : AMet 5 yX8_reads cX8_reads 2 (some .boolean) lyM [.ref 0] M (qI lyM) (X8_reads M) := by
  refine am_ent pn_X8 (Nat.le_of_ble_eq_true rfl) (fun E C hr => ?_)
  refine aw_lv (lv' := [(0, .ref 0)]) rfl ?_
  unfold X8_reads
  refine aw_iconst C (0 : Int32) dX8_reads_0 (by decide) ?_
  refine aw_istore_n C [(1, .int (0 : Int32)), (0, .ref 0)] dX8_reads_1 (by decide) rfl ?_
  refine aw_sub [1, 0] rfl ?_
  exact m_X8_reads_2 C hr am_fuel (0 : Int32) M
def X8_copyHall_2  : Nat → Int32 → Int32 → Int32 → Mem → Option (Mem)
  | 0, _, _, _, _ => none
  | f + 1, x1, x2, x3, M =>
    if x3 < (39 : Int32) then
      if am_in (x1 + x3) 1092 = true then
        if am_in (x2 + x3) 1092 = true then
          am_let (mset M 1 (upd (M 1) (x2 + x3).toNatClampNeg (M 1 (x1 + x3).toNatClampNeg))) fun M1 =>
          X8_copyHall_2  f x1 x2 (x3 + (1 : Int32)) M1
        else none
      else none
    else
      some M
def X8_copyHall  (x1 : Int32) (x2 : Int32) (M : Mem) : Option (Mem) :=
  X8_copyHall_2 am_fuel x1 x2 (0 : Int32) M
theorem m_X8_copyHall_2 {E : amE} (C : amC E 1 cX8_copyHall 4 RX8) (hr : (eH E).sig.returnType = none)  : ∀ (f : Nat) (x1 : Int32) (x2 : Int32) (x3 : Int32) (M : Mem), AW E lyM 4 (qV lyM) (X8_copyHall_2 f x1 x2 x3 M) 2 [(0, .ref 0), (1, .int x1), (2, .int x2), (3, .int x3)] [] M := by
  intro f
  induction f with
  | zero => exact (fun _ _ _ _ => aw_none)
  | succ f ih =>
    intro x1 x2 x3 M
    rw [X8_copyHall_2]
    refine aw_iload_n C dX8_copyHall_2 rfl ?_
    refine aw_bipush C (39 : Int32) dX8_copyHall_3 (by decide) ?_
    refine aw_icmp_ge C (tgt := 30) dX8_copyHall_5 (by decide) ?_ ?_
    · refine aw_aload_n C dX8_copyHall_8 rfl ?_
      refine aw_getR C (r := 1) clX8 lo_M_0 0 rfl (by decide) kf_X8_7 dX8_copyHall_9 ?_
      refine aw_iload_n C dX8_copyHall_12 rfl ?_
      refine aw_iload_n C dX8_copyHall_13 rfl ?_
      refine aw_iadd C dX8_copyHall_14 ?_
      refine aw_aload_n C dX8_copyHall_15 rfl ?_
      refine aw_getR C (r := 1) clX8 lo_M_0 0 rfl (by decide) kf_X8_7 dX8_copyHall_16 ?_
      refine aw_iload_n C dX8_copyHall_19 rfl ?_
      refine aw_iload_n C dX8_copyHall_20 rfl ?_
      refine aw_iadd C dX8_copyHall_21 ?_
      refine aw_iald C la_M_1 dX8_copyHall_22 ?_
      refine aw_iast C la_M_1 dX8_copyHall_23 ?_
      refine aw_mlet (fun M1 => ?_)
      refine aw_iinc C (v := (1 : Int32)) [(3, .int (x3 + (1 : Int32))), (0, .ref 0), (1, .int x1), (2, .int x2)] dX8_copyHall_24 rfl (by decide) (by decide) rfl ?_
      refine aw_goto C (tgt := 2) dX8_copyHall_27 (by decide) ?_
      refine aw_sub [1, 2, 3, 0] rfl ?_
      exact ih x1 x2 (x3 + (1 : Int32)) M1
    · exact aw_vret C hr dX8_copyHall_30
theorem m_X8_copyHall   (x1 : Int32) (x2 : Int32) (M : Mem) : AMet 1 yX8_copyHall cX8_copyHall 4 none lyM [.ref 0, .int x1, .int x2] M (qV lyM) (X8_copyHall x1 x2 M) := by
  refine am_ent pn_X8 (Nat.le_of_ble_eq_true rfl) (fun E C hr => ?_)
  refine aw_lv (lv' := [(0, .ref 0), (1, .int x1), (2, .int x2)]) rfl ?_
  unfold X8_copyHall
  refine aw_iconst C (0 : Int32) dX8_copyHall_0 (by decide) ?_
  refine aw_istore_n C [(3, .int (0 : Int32)), (0, .ref 0), (1, .int x1), (2, .int x2)] dX8_copyHall_1 (by decide) rfl ?_
  refine aw_sub [1, 2, 3, 0] rfl ?_
  exact m_X8_copyHall_2 C hr am_fuel x1 x2 (0 : Int32) M
def X8_hall   (M : Mem) : Option (Int32 × Mem) :=
  Option.bind (X8_reads M) fun u1 =>
  am_let (mset u1.2 0 (upd (u1.2 0) 7 (0 : Int32))) fun M2 =>
  if u1.1 = 0 then
    am_let (mset M2 0 (upd (M2 0) 8 (M2 0 13))) fun M3 =>
    some ((-1000100 : Int32) - (M3 0 12), M3)
  else
    Option.bind (X8_copyHall (1053 : Int32) (0 : Int32) M2) fun M4 =>
    am_let (mset M4 0 (upd (M4 0) 1 (0 : Int32))) fun M5 =>
    if am_in (1 : Int32) 1092 = true then
      some (M5 1 (1 : Int32).toNatClampNeg, M5)
    else none
theorem m_X8_hall    (M : Mem) : AMet 6 yX8_hall cX8_hall 2 (some .int) lyM [.ref 0] M (qI lyM) (X8_hall M) := by
  refine am_ent pn_X8 (Nat.le_of_ble_eq_true rfl) (fun E C hr => ?_)
  refine aw_lv (lv' := [(0, .ref 0)]) rfl ?_
  unfold X8_hall
  refine aw_aload_n C dX8_hall_0 rfl ?_
  refine aw_cVI C [] [] (m_X8_reads M) v_X8_reads km_X8_124 (by decide) lo_M_0 rfl rfl rfl (Nat.le_of_ble_eq_true rfl) dX8_hall_1 (fun u1 => ?_)
  refine aw_istore_n C [(1, .int u1.1), (0, .ref 0)] dX8_hall_4 (by decide) rfl ?_
  refine aw_aload_n C dX8_hall_5 rfl ?_
  refine aw_iconst C (0 : Int32) dX8_hall_6 (by decide) ?_
  refine aw_putI C clX8 lo_M_0 7 rfl (by decide) rfl rfl kf_X8_76 dX8_hall_7 ?_
  refine aw_mlet (fun M2 => ?_)
  refine aw_iload_n C dX8_hall_10 rfl ?_
  refine aw_if_ne C (tgt := 30) dX8_hall_11 (by decide) ?_ ?_
  · refine aw_aload_n C dX8_hall_14 rfl ?_
    refine aw_aload_n C dX8_hall_15 rfl ?_
    refine aw_getI C clX8 lo_M_0 13 rfl (by decide) kf_X8_87 dX8_hall_16 ?_
    refine aw_putI C clX8 lo_M_0 8 rfl (by decide) rfl rfl kf_X8_127 dX8_hall_19 ?_
    refine aw_mlet (fun M3 => ?_)
    refine aw_ldc C kc_X8_130 dX8_hall_22 ?_
    refine aw_aload_n C dX8_hall_24 rfl ?_
    refine aw_getI C clX8 lo_M_0 12 rfl (by decide) kf_X8_80 dX8_hall_25 ?_
    refine aw_isub C dX8_hall_28 ?_
    exact aw_iret C hr dX8_hall_29
  · refine aw_aload_n C dX8_hall_30 rfl ?_
    refine aw_sipush C (1053 : Int32) dX8_hall_31 (by decide) ?_
    refine aw_iconst C (0 : Int32) dX8_hall_34 (by decide) ?_
    refine aw_cVV C [.int (1053 : Int32), .int (0 : Int32)] [] (m_X8_copyHall (1053 : Int32) (0 : Int32) M2) v_X8_copyHall km_X8_131 (by decide) lo_M_0 rfl rfl rfl (Nat.le_of_ble_eq_true rfl) dX8_hall_35 (fun M4 => ?_)
    refine aw_aload_n C dX8_hall_38 rfl ?_
    refine aw_iconst C (0 : Int32) dX8_hall_39 (by decide) ?_
    refine aw_putI C clX8 lo_M_0 1 rfl (by decide) rfl rfl kf_X8_135 dX8_hall_40 ?_
    refine aw_mlet (fun M5 => ?_)
    refine aw_aload_n C dX8_hall_43 rfl ?_
    refine aw_getR C (r := 1) clX8 lo_M_0 0 rfl (by decide) kf_X8_7 dX8_hall_44 ?_
    refine aw_iconst C (1 : Int32) dX8_hall_47 (by decide) ?_
    refine aw_iald C la_M_1 dX8_hall_48 ?_
    exact aw_iret C hr dX8_hall_49
def X8_fault (M : Mem)   : Option (Int32) :=
  some (M 0 8)
theorem m_X8_fault  (M : Mem)   : AMet 1 yX8_fault cX8_fault 1 (some .int) lyM [.ref 0] M (qIp lyM M) (X8_fault M) := by
  refine am_ent pn_X8 (Nat.le_of_ble_eq_true rfl) (fun E C hr => ?_)
  refine aw_lv (lv' := [(0, .ref 0)]) rfl ?_
  unfold X8_fault
  refine aw_aload_n C dX8_fault_0 rfl ?_
  refine aw_getI C clX8 lo_M_0 8 rfl (by decide) kf_X8_127 dX8_fault_1 ?_
  exact aw_iretp C hr dX8_fault_4
def X8_isHall (M : Mem)   : Option (Int32) :=
  if am_in (0 : Int32) 1092 = true then
    if 0 < (M 1 (0 : Int32).toNatClampNeg) then
      some (1 : Int32)
    else
      some (0 : Int32)
  else none
theorem m_X8_isHall  (M : Mem)   : AMet 1 yX8_isHall cX8_isHall 1 (some .boolean) lyM [.ref 0] M (qIp lyM M) (X8_isHall M) := by
  refine am_ent pn_X8 (Nat.le_of_ble_eq_true rfl) (fun E C hr => ?_)
  refine aw_lv (lv' := [(0, .ref 0)]) rfl ?_
  unfold X8_isHall
  refine aw_aload_n C dX8_isHall_0 rfl ?_
  refine aw_getR C (r := 1) clX8 lo_M_0 0 rfl (by decide) kf_X8_7 dX8_isHall_1 ?_
  refine aw_iconst C (0 : Int32) dX8_isHall_4 (by decide) ?_
  refine aw_iald C la_M_1 dX8_isHall_5 ?_
  refine aw_if_le C (tgt := 13) dX8_isHall_6 (by decide) ?_ ?_
  · refine aw_iconst C (1 : Int32) dX8_isHall_9 (by decide) ?_
    refine aw_goto C (tgt := 14) dX8_isHall_10 (by decide) ?_
    exact aw_zretp C (Or.inr rfl) hr dX8_isHall_14
  · refine aw_iconst C (0 : Int32) dX8_isHall_13 (by decide) ?_
    exact aw_zretp C (Or.inl rfl) hr dX8_isHall_14
def X8_isOne (M : Mem) (x1 : Int32)  : Option (Int32) :=
  if am_in (1 : Int32) 1092 = true then
    Option.bind (X8_in x1.toInt64 (0 : Int64) (((M 1 (1 : Int32).toNatClampNeg) - (1 : Int32)).toInt64)) fun r1 =>
    if r1 = 0 ∨ r1 = 1 then some r1 else none
  else none
theorem m_X8_isOne  (M : Mem) (x1 : Int32)  : AMet 2 yX8_isOne cX8_isOne 2 (some .boolean) lyM [.ref 0, .int x1] M (qIp lyM M) (X8_isOne M x1) := by
  refine am_ent pn_X8 (Nat.le_of_ble_eq_true rfl) (fun E C hr => ?_)
  refine aw_lv (lv' := [(0, .ref 0), (1, .int x1)]) rfl ?_
  unfold X8_isOne
  refine aw_iload_n C dX8_isOne_0 rfl ?_
  refine aw_i2l C dX8_isOne_1 ?_
  refine aw_lconst C (0 : Int64) dX8_isOne_2 (by decide) ?_
  refine aw_aload_n C dX8_isOne_3 rfl ?_
  refine aw_getR C (r := 1) clX8 lo_M_0 0 rfl (by decide) kf_X8_7 dX8_isOne_4 ?_
  refine aw_iconst C (1 : Int32) dX8_isOne_7 (by decide) ?_
  refine aw_iald C la_M_1 dX8_isOne_8 ?_
  refine aw_iconst C (1 : Int32) dX8_isOne_9 (by decide) ?_
  refine aw_isub C dX8_isOne_10 ?_
  refine aw_i2l C dX8_isOne_11 ?_
  refine aw_cSIp C [.long x1.toInt64, .long (0 : Int64), .long (((M 1 (1 : Int32).toNatClampNeg) - (1 : Int32)).toInt64)] [] (m_X8_in M x1.toInt64 (0 : Int64) (((M 1 (1 : Int32).toNatClampNeg) - (1 : Int32)).toInt64)) t_X8_in km_X8_48 (by decide) rfl rfl (Nat.le_of_ble_eq_true rfl) dX8_isOne_12 (fun r1 => ?_)
  exact aw_zretgp C hr dX8_isOne_15
def X8_isPlace (M : Mem) (x1 : Int32)  : Option (Int32) :=
  if am_in (0 : Int32) 1092 = true then
    Option.bind (X8_in x1.toInt64 (0 : Int64) (((M 1 (0 : Int32).toNatClampNeg) - (1 : Int32)).toInt64)) fun r1 =>
    if r1 = 0 ∨ r1 = 1 then some r1 else none
  else none
theorem m_X8_isPlace  (M : Mem) (x1 : Int32)  : AMet 2 yX8_isPlace cX8_isPlace 2 (some .boolean) lyM [.ref 0, .int x1] M (qIp lyM M) (X8_isPlace M x1) := by
  refine am_ent pn_X8 (Nat.le_of_ble_eq_true rfl) (fun E C hr => ?_)
  refine aw_lv (lv' := [(0, .ref 0), (1, .int x1)]) rfl ?_
  unfold X8_isPlace
  refine aw_iload_n C dX8_isPlace_0 rfl ?_
  refine aw_i2l C dX8_isPlace_1 ?_
  refine aw_lconst C (0 : Int64) dX8_isPlace_2 (by decide) ?_
  refine aw_aload_n C dX8_isPlace_3 rfl ?_
  refine aw_getR C (r := 1) clX8 lo_M_0 0 rfl (by decide) kf_X8_7 dX8_isPlace_4 ?_
  refine aw_iconst C (0 : Int32) dX8_isPlace_7 (by decide) ?_
  refine aw_iald C la_M_1 dX8_isPlace_8 ?_
  refine aw_iconst C (1 : Int32) dX8_isPlace_9 (by decide) ?_
  refine aw_isub C dX8_isPlace_10 ?_
  refine aw_i2l C dX8_isPlace_11 ?_
  refine aw_cSIp C [.long x1.toInt64, .long (0 : Int64), .long (((M 1 (0 : Int32).toNatClampNeg) - (1 : Int32)).toInt64)] [] (m_X8_in M x1.toInt64 (0 : Int64) (((M 1 (0 : Int32).toNatClampNeg) - (1 : Int32)).toInt64)) t_X8_in km_X8_48 (by decide) rfl rfl (Nat.le_of_ble_eq_true rfl) dX8_isPlace_12 (fun r1 => ?_)
  exact aw_zretgp C hr dX8_isPlace_15
def X8_waits (M : Mem) (x1 : Int32) (x2 : Int32)  : Option (Int32) :=
  if am_in ((x1 + (15 : Int32)) + x2) 1092 = true then
    if (M 1 ((x1 + (15 : Int32)) + x2).toNatClampNeg) = (-1000000 : Int32) then
      some (1 : Int32)
    else
      some (0 : Int32)
  else none
theorem m_X8_waits  (M : Mem) (x1 : Int32) (x2 : Int32)  : AMet 1 yX8_waits cX8_waits 3 (some .boolean) lyM [.ref 0, .int x1, .int x2] M (qIp lyM M) (X8_waits M x1 x2) := by
  refine am_ent pn_X8 (Nat.le_of_ble_eq_true rfl) (fun E C hr => ?_)
  refine aw_lv (lv' := [(0, .ref 0), (1, .int x1), (2, .int x2)]) rfl ?_
  unfold X8_waits
  refine aw_aload_n C dX8_waits_0 rfl ?_
  refine aw_getR C (r := 1) clX8 lo_M_0 0 rfl (by decide) kf_X8_7 dX8_waits_1 ?_
  refine aw_iload_n C dX8_waits_4 rfl ?_
  refine aw_bipush C (15 : Int32) dX8_waits_5 (by decide) ?_
  refine aw_iadd C dX8_waits_7 ?_
  refine aw_iload_n C dX8_waits_8 rfl ?_
  refine aw_iadd C dX8_waits_9 ?_
  refine aw_iald C la_M_1 dX8_waits_10 ?_
  refine aw_ldc C kc_X8_116 dX8_waits_11 ?_
  refine aw_icmp_ne C (tgt := 20) dX8_waits_13 (by decide) ?_ ?_
  · refine aw_iconst C (1 : Int32) dX8_waits_16 (by decide) ?_
    refine aw_goto C (tgt := 21) dX8_waits_17 (by decide) ?_
    exact aw_zretp C (Or.inr rfl) hr dX8_waits_21
  · refine aw_iconst C (0 : Int32) dX8_waits_20 (by decide) ?_
    exact aw_zretp C (Or.inl rfl) hr dX8_waits_21
def X8_bagIn_2 (M : Mem) : Nat → Int32 → Int32 → Int32 → Option (Int32)
  | 0, _, _, _ => none
  | f + 1, x1, x2, x3 =>
    if am_in (x1 + (1 : Int32)) 1092 = true then
      if x3 < (M 1 (x1 + (1 : Int32)).toNatClampNeg) then
        if am_in ((x1 + (33 : Int32)) + x3) 1092 = true then
          if (M 1 ((x1 + (33 : Int32)) + x3).toNatClampNeg) = x2 then
            some x3
          else
            X8_bagIn_2 M f x1 x2 (x3 + (1 : Int32))
        else none
      else
        some (-1000000 : Int32)
    else none
def X8_bagIn (M : Mem) (x1 : Int32) (x2 : Int32)  : Option (Int32) :=
  X8_bagIn_2 M am_fuel x1 x2 (0 : Int32)
theorem m_X8_bagIn_2 {E : amE} (C : amC E 1 cX8_bagIn 4 RX8) (hr : (eH E).sig.returnType = (some .int)) (M : Mem) : ∀ (f : Nat) (x1 : Int32) (x2 : Int32) (x3 : Int32), AW E lyM 4 (qIp lyM M) (X8_bagIn_2 M f x1 x2 x3) 2 [(0, .ref 0), (1, .int x1), (2, .int x2), (3, .int x3)] [] M := by
  intro f
  induction f with
  | zero => exact (fun _ _ _ => aw_none)
  | succ f ih =>
    intro x1 x2 x3
    rw [X8_bagIn_2]
    refine aw_iload_n C dX8_bagIn_2 rfl ?_
    refine aw_aload_n C dX8_bagIn_3 rfl ?_
    refine aw_getR C (r := 1) clX8 lo_M_0 0 rfl (by decide) kf_X8_7 dX8_bagIn_4 ?_
    refine aw_iload_n C dX8_bagIn_7 rfl ?_
    refine aw_iconst C (1 : Int32) dX8_bagIn_8 (by decide) ?_
    refine aw_iadd C dX8_bagIn_9 ?_
    refine aw_iald C la_M_1 dX8_bagIn_10 ?_
    refine aw_icmp_ge C (tgt := 37) dX8_bagIn_11 (by decide) ?_ ?_
    · refine aw_aload_n C dX8_bagIn_14 rfl ?_
      refine aw_getR C (r := 1) clX8 lo_M_0 0 rfl (by decide) kf_X8_7 dX8_bagIn_15 ?_
      refine aw_iload_n C dX8_bagIn_18 rfl ?_
      refine aw_bipush C (33 : Int32) dX8_bagIn_19 (by decide) ?_
      refine aw_iadd C dX8_bagIn_21 ?_
      refine aw_iload_n C dX8_bagIn_22 rfl ?_
      refine aw_iadd C dX8_bagIn_23 ?_
      refine aw_iald C la_M_1 dX8_bagIn_24 ?_
      refine aw_iload_n C dX8_bagIn_25 rfl ?_
      refine aw_icmp_ne C (tgt := 31) dX8_bagIn_26 (by decide) ?_ ?_
      · refine aw_iload_n C dX8_bagIn_29 rfl ?_
        exact aw_iretp C hr dX8_bagIn_30
      · refine aw_iinc C (v := (1 : Int32)) [(3, .int (x3 + (1 : Int32))), (0, .ref 0), (1, .int x1), (2, .int x2)] dX8_bagIn_31 rfl (by decide) (by decide) rfl ?_
        refine aw_goto C (tgt := 2) dX8_bagIn_34 (by decide) ?_
        refine aw_sub [1, 2, 3, 0] rfl ?_
        exact ih x1 x2 (x3 + (1 : Int32))
    · refine aw_ldc C kc_X8_116 dX8_bagIn_37 ?_
      exact aw_iretp C hr dX8_bagIn_39
theorem m_X8_bagIn  (M : Mem) (x1 : Int32) (x2 : Int32)  : AMet 1 yX8_bagIn cX8_bagIn 4 (some .int) lyM [.ref 0, .int x1, .int x2] M (qIp lyM M) (X8_bagIn M x1 x2) := by
  refine am_ent pn_X8 (Nat.le_of_ble_eq_true rfl) (fun E C hr => ?_)
  refine aw_lv (lv' := [(0, .ref 0), (1, .int x1), (2, .int x2)]) rfl ?_
  unfold X8_bagIn
  refine aw_iconst C (0 : Int32) dX8_bagIn_0 (by decide) ?_
  refine aw_istore_n C [(3, .int (0 : Int32)), (0, .ref 0), (1, .int x1), (2, .int x2)] dX8_bagIn_1 (by decide) rfl ?_
  refine aw_sub [1, 2, 3, 0] rfl ?_
  exact m_X8_bagIn_2 C hr M am_fuel x1 x2 (0 : Int32)
def X8_turns_2  : Nat → Int32 → Int32 → Int32 → Mem → Option (Mem)
  | 0, _, _, _, _ => none
  | f + 1, x1, x2, x3, M =>
    if am_in (x1 + (1 : Int32)) 1092 = true then
      if x3 < (M 1 (x1 + (1 : Int32)).toNatClampNeg) then
        if am_in ((x1 + (33 : Int32)) + x3) 1092 = true then
          if (M 1 ((x1 + (33 : Int32)) + x3).toNatClampNeg) < (20 : Int32) then
            if am_in (x1 + (0 : Int32)) 1092 = true then
              if am_in (x1 + (0 : Int32)) 1092 = true then
                if M 1 (x1 + (0 : Int32)).toNatClampNeg = 0 then none else
                if am_in ((x1 + (33 : Int32)) + x3) 1092 = true then
                  am_let (mset M 1 (upd (M 1) ((x1 + (33 : Int32)) + x3).toNatClampNeg ((((M 1 ((x1 + (33 : Int32)) + x3).toNatClampNeg) + x2) + (M 1 (x1 + (0 : Int32)).toNatClampNeg)) - (((M 1 ((x1 + (33 : Int32)) + x3).toNatClampNeg) + x2) + (M 1 (x1 + (0 : Int32)).toNatClampNeg)) / (M 1 (x1 + (0 : Int32)).toNatClampNeg) * (M 1 (x1 + (0 : Int32)).toNatClampNeg)))) fun M1 =>
                  X8_turns_2  f x1 x2 (x3 + (1 : Int32)) M1
                else none
              else none
            else none
          else
            if am_in ((x1 + (33 : Int32)) + x3) 1092 = true then
              am_let (mset M 1 (upd (M 1) ((x1 + (33 : Int32)) + x3).toNatClampNeg (M 1 ((x1 + (33 : Int32)) + x3).toNatClampNeg))) fun M2 =>
              X8_turns_2  f x1 x2 (x3 + (1 : Int32)) M2
            else none
        else none
      else
        some M
    else none
def X8_turns  (x1 : Int32) (x2 : Int32) (M : Mem) : Option (Mem) :=
  X8_turns_2 am_fuel x1 x2 (0 : Int32) M
theorem m_X8_turns_2 {E : amE} (C : amC E 1 cX8_turns 5 RX8) (hr : (eH E).sig.returnType = none)  : ∀ (f : Nat) (x1 : Int32) (x2 : Int32) (x3 : Int32) (M : Mem), AW E lyM 5 (qV lyM) (X8_turns_2 f x1 x2 x3 M) 2 [(0, .ref 0), (1, .int x1), (2, .int x2), (3, .int x3)] [] M := by
  intro f
  induction f with
  | zero => exact (fun _ _ _ _ => aw_none)
  | succ f ih =>
    intro x1 x2 x3 M
    rw [X8_turns_2]
    refine aw_iload_n C dX8_turns_2 rfl ?_
    refine aw_aload_n C dX8_turns_3 rfl ?_
    refine aw_getR C (r := 1) clX8 lo_M_0 0 rfl (by decide) kf_X8_7 dX8_turns_4 ?_
    refine aw_iload_n C dX8_turns_7 rfl ?_
    refine aw_iconst C (1 : Int32) dX8_turns_8 (by decide) ?_
    refine aw_iadd C dX8_turns_9 ?_
    refine aw_iald C la_M_1 dX8_turns_10 ?_
    refine aw_icmp_ge C (tgt := 78) dX8_turns_11 (by decide) ?_ ?_
    · refine aw_aload_n C dX8_turns_14 rfl ?_
      refine aw_getR C (r := 1) clX8 lo_M_0 0 rfl (by decide) kf_X8_7 dX8_turns_15 ?_
      refine aw_iload_n C dX8_turns_18 rfl ?_
      refine aw_bipush C (33 : Int32) dX8_turns_19 (by decide) ?_
      refine aw_iadd C dX8_turns_21 ?_
      refine aw_iload_n C dX8_turns_22 rfl ?_
      refine aw_iadd C dX8_turns_23 ?_
      refine aw_iald C la_M_1 dX8_turns_24 ?_
      refine aw_istore C [(4, .int (M 1 ((x1 + (33 : Int32)) + x3).toNatClampNeg)), (0, .ref 0), (1, .int x1), (2, .int x2), (3, .int x3)] dX8_turns_25 (by decide) rfl ?_
      refine aw_aload_n C dX8_turns_27 rfl ?_
      refine aw_getR C (r := 1) clX8 lo_M_0 0 rfl (by decide) kf_X8_7 dX8_turns_28 ?_
      refine aw_iload_n C dX8_turns_31 rfl ?_
      refine aw_bipush C (33 : Int32) dX8_turns_32 (by decide) ?_
      refine aw_iadd C dX8_turns_34 ?_
      refine aw_iload_n C dX8_turns_35 rfl ?_
      refine aw_iadd C dX8_turns_36 ?_
      refine aw_iload C dX8_turns_37 rfl ?_
      refine aw_bipush C (20 : Int32) dX8_turns_39 (by decide) ?_
      refine aw_icmp_ge C (tgt := 69) dX8_turns_41 (by decide) ?_ ?_
      · refine aw_iload C dX8_turns_44 rfl ?_
        refine aw_iload_n C dX8_turns_46 rfl ?_
        refine aw_iadd C dX8_turns_47 ?_
        refine aw_aload_n C dX8_turns_48 rfl ?_
        refine aw_getR C (r := 1) clX8 lo_M_0 0 rfl (by decide) kf_X8_7 dX8_turns_49 ?_
        refine aw_iload_n C dX8_turns_52 rfl ?_
        refine aw_iconst C (0 : Int32) dX8_turns_53 (by decide) ?_
        refine aw_iadd C dX8_turns_54 ?_
        refine aw_iald C la_M_1 dX8_turns_55 ?_
        refine aw_iadd C dX8_turns_56 ?_
        refine aw_aload_n C dX8_turns_57 rfl ?_
        refine aw_getR C (r := 1) clX8 lo_M_0 0 rfl (by decide) kf_X8_7 dX8_turns_58 ?_
        refine aw_iload_n C dX8_turns_61 rfl ?_
        refine aw_iconst C (0 : Int32) dX8_turns_62 (by decide) ?_
        refine aw_iadd C dX8_turns_63 ?_
        refine aw_iald C la_M_1 dX8_turns_64 ?_
        refine aw_irem C dX8_turns_65 ?_
        refine aw_goto C (tgt := 71) dX8_turns_66 (by decide) ?_
        refine aw_iast C la_M_1 dX8_turns_71 ?_
        refine aw_mlet (fun M1 => ?_)
        refine aw_iinc C (v := (1 : Int32)) [(3, .int (x3 + (1 : Int32))), (4, .int (M 1 ((x1 + (33 : Int32)) + x3).toNatClampNeg)), (0, .ref 0), (1, .int x1), (2, .int x2)] dX8_turns_72 rfl (by decide) (by decide) rfl ?_
        refine aw_goto C (tgt := 2) dX8_turns_75 (by decide) ?_
        refine aw_sub [2, 3, 4, 0] rfl ?_
        exact ih x1 x2 (x3 + (1 : Int32)) M1
      · refine aw_iload C dX8_turns_69 rfl ?_
        refine aw_iast C la_M_1 dX8_turns_71 ?_
        refine aw_mlet (fun M2 => ?_)
        refine aw_iinc C (v := (1 : Int32)) [(3, .int (x3 + (1 : Int32))), (4, .int (M 1 ((x1 + (33 : Int32)) + x3).toNatClampNeg)), (0, .ref 0), (1, .int x1), (2, .int x2)] dX8_turns_72 rfl (by decide) (by decide) rfl ?_
        refine aw_goto C (tgt := 2) dX8_turns_75 (by decide) ?_
        refine aw_sub [2, 3, 4, 0] rfl ?_
        exact ih x1 x2 (x3 + (1 : Int32)) M2
    · exact aw_vret C hr dX8_turns_78
theorem m_X8_turns   (x1 : Int32) (x2 : Int32) (M : Mem) : AMet 1 yX8_turns cX8_turns 5 none lyM [.ref 0, .int x1, .int x2] M (qV lyM) (X8_turns x1 x2 M) := by
  refine am_ent pn_X8 (Nat.le_of_ble_eq_true rfl) (fun E C hr => ?_)
  refine aw_lv (lv' := [(0, .ref 0), (1, .int x1), (2, .int x2)]) rfl ?_
  unfold X8_turns
  refine aw_iconst C (0 : Int32) dX8_turns_0 (by decide) ?_
  refine aw_istore_n C [(3, .int (0 : Int32)), (0, .ref 0), (1, .int x1), (2, .int x2)] dX8_turns_1 (by decide) rfl ?_
  refine aw_sub [1, 2, 3, 0] rfl ?_
  exact m_X8_turns_2 C hr am_fuel x1 x2 (0 : Int32) M
def X8_falls_19  : Nat → Int32 → Int32 → Int32 → Mem → Option (Mem)
  | 0, _, _, _, _ => none
  | f + 1, x1, x2, x3, M =>
    if am_in (x1 + (1 : Int32)) 1092 = true then
      if x3 < (M 1 (x1 + (1 : Int32)).toNatClampNeg) then
        if x2 = 0 then
          some M
        else
          if am_in x3 6 = true then
            if am_in ((x1 + (33 : Int32)) + (M 8 x3.toNatClampNeg)) 1092 = true then
              if (M 1 ((x1 + (33 : Int32)) + (M 8 x3.toNatClampNeg)).toNatClampNeg) = (20 : Int32) then
                if am_in x3 6 = true then
                  if am_in ((x1 + (33 : Int32)) + (M 8 x3.toNatClampNeg)) 1092 = true then
                    am_let (mset M 1 (upd (M 1) ((x1 + (33 : Int32)) + (M 8 x3.toNatClampNeg)).toNatClampNeg (0 : Int32))) fun M1 =>
                    X8_falls_19  f x1 (0 : Int32) (x3 + (1 : Int32)) M1
                  else none
                else none
              else
                X8_falls_19  f x1 x2 (x3 + (1 : Int32)) M
            else none
          else none
      else
        some M
    else none
def X8_falls  (x1 : Int32) (M : Mem) : Option (Mem) :=
  Option.bind (X8_bagIn M x1 (0 : Int32)) fun r1 =>
  if r1 = (-1000000 : Int32) then
    X8_falls_19 am_fuel x1 (1 : Int32) (0 : Int32) M
  else
    X8_falls_19 am_fuel x1 (0 : Int32) (0 : Int32) M
theorem m_X8_falls_19 {E : amE} (C : amC E 2 cX8_falls 4 RX8) (hr : (eH E).sig.returnType = none)  : ∀ (f : Nat) (x1 : Int32) (x2 : Int32) (x3 : Int32) (M : Mem), AW E lyM 4 (qV lyM) (X8_falls_19 f x1 x2 x3 M) 19 [(0, .ref 0), (1, .int x1), (2, .int x2), (3, .int x3)] [] M := by
  intro f
  induction f with
  | zero => exact (fun _ _ _ _ => aw_none)
  | succ f ih =>
    intro x1 x2 x3 M
    rw [X8_falls_19]
    refine aw_iload_n C dX8_falls_19 rfl ?_
    refine aw_aload_n C dX8_falls_20 rfl ?_
    refine aw_getR C (r := 1) clX8 lo_M_0 0 rfl (by decide) kf_X8_7 dX8_falls_21 ?_
    refine aw_iload_n C dX8_falls_24 rfl ?_
    refine aw_iconst C (1 : Int32) dX8_falls_25 (by decide) ?_
    refine aw_iadd C dX8_falls_26 ?_
    refine aw_iald C la_M_1 dX8_falls_27 ?_
    refine aw_icmp_ge C (tgt := 81) dX8_falls_28 (by decide) ?_ ?_
    · refine aw_iload_n C dX8_falls_31 rfl ?_
      refine aw_if_eq C (tgt := 81) dX8_falls_32 (by decide) ?_ ?_
      · exact aw_vret C hr dX8_falls_81
      · refine aw_aload_n C dX8_falls_35 rfl ?_
        refine aw_getR C (r := 1) clX8 lo_M_0 0 rfl (by decide) kf_X8_7 dX8_falls_36 ?_
        refine aw_iload_n C dX8_falls_39 rfl ?_
        refine aw_bipush C (33 : Int32) dX8_falls_40 (by decide) ?_
        refine aw_iadd C dX8_falls_42 ?_
        refine aw_aload_n C dX8_falls_43 rfl ?_
        refine aw_getR C (r := 8) clX8 lo_M_0 15 rfl (by decide) kf_X8_32 dX8_falls_44 ?_
        refine aw_iload_n C dX8_falls_47 rfl ?_
        refine aw_iald C la_M_8 dX8_falls_48 ?_
        refine aw_iadd C dX8_falls_49 ?_
        refine aw_iald C la_M_1 dX8_falls_50 ?_
        refine aw_bipush C (20 : Int32) dX8_falls_51 (by decide) ?_
        refine aw_icmp_ne C (tgt := 75) dX8_falls_53 (by decide) ?_ ?_
        · refine aw_aload_n C dX8_falls_56 rfl ?_
          refine aw_getR C (r := 1) clX8 lo_M_0 0 rfl (by decide) kf_X8_7 dX8_falls_57 ?_
          refine aw_iload_n C dX8_falls_60 rfl ?_
          refine aw_bipush C (33 : Int32) dX8_falls_61 (by decide) ?_
          refine aw_iadd C dX8_falls_63 ?_
          refine aw_aload_n C dX8_falls_64 rfl ?_
          refine aw_getR C (r := 8) clX8 lo_M_0 15 rfl (by decide) kf_X8_32 dX8_falls_65 ?_
          refine aw_iload_n C dX8_falls_68 rfl ?_
          refine aw_iald C la_M_8 dX8_falls_69 ?_
          refine aw_iadd C dX8_falls_70 ?_
          refine aw_iconst C (0 : Int32) dX8_falls_71 (by decide) ?_
          refine aw_iast C la_M_1 dX8_falls_72 ?_
          refine aw_mlet (fun M1 => ?_)
          refine aw_iconst C (0 : Int32) dX8_falls_73 (by decide) ?_
          refine aw_istore_n C [(2, .int (0 : Int32)), (0, .ref 0), (1, .int x1), (3, .int x3)] dX8_falls_74 (by decide) rfl ?_
          refine aw_iinc C (v := (1 : Int32)) [(3, .int (x3 + (1 : Int32))), (2, .int (0 : Int32)), (0, .ref 0), (1, .int x1)] dX8_falls_75 rfl (by decide) (by decide) rfl ?_
          refine aw_goto C (tgt := 19) dX8_falls_78 (by decide) ?_
          refine aw_sub [2, 3, 1, 0] rfl ?_
          exact ih x1 (0 : Int32) (x3 + (1 : Int32)) M1
        · refine aw_iinc C (v := (1 : Int32)) [(3, .int (x3 + (1 : Int32))), (0, .ref 0), (1, .int x1), (2, .int x2)] dX8_falls_75 rfl (by decide) (by decide) rfl ?_
          refine aw_goto C (tgt := 19) dX8_falls_78 (by decide) ?_
          refine aw_sub [1, 2, 3, 0] rfl ?_
          exact ih x1 x2 (x3 + (1 : Int32)) M
    · exact aw_vret C hr dX8_falls_81
theorem m_X8_falls   (x1 : Int32) (M : Mem) : AMet 2 yX8_falls cX8_falls 4 none lyM [.ref 0, .int x1] M (qV lyM) (X8_falls x1 M) := by
  refine am_ent pn_X8 (Nat.le_of_ble_eq_true rfl) (fun E C hr => ?_)
  refine aw_lv (lv' := [(0, .ref 0), (1, .int x1)]) rfl ?_
  unfold X8_falls
  refine aw_aload_n C dX8_falls_0 rfl ?_
  refine aw_iload_n C dX8_falls_1 rfl ?_
  refine aw_iconst C (0 : Int32) dX8_falls_2 (by decide) ?_
  refine aw_cVIp C [.int x1, .int (0 : Int32)] [] (m_X8_bagIn M x1 (0 : Int32)) v_X8_bagIn km_X8_138 (by decide) lo_M_0 rfl rfl rfl (Nat.le_of_ble_eq_true rfl) dX8_falls_3 (fun r1 => ?_)
  refine aw_ldc C kc_X8_116 dX8_falls_6 ?_
  refine aw_icmp_ne C (tgt := 15) dX8_falls_8 (by decide) ?_ ?_
  · refine aw_iconst C (1 : Int32) dX8_falls_11 (by decide) ?_
    refine aw_goto C (tgt := 16) dX8_falls_12 (by decide) ?_
    refine aw_istore_n C [(2, .int (1 : Int32)), (0, .ref 0), (1, .int x1)] dX8_falls_16 (by decide) rfl ?_
    refine aw_iconst C (0 : Int32) dX8_falls_17 (by decide) ?_
    refine aw_istore_n C [(3, .int (0 : Int32)), (2, .int (1 : Int32)), (0, .ref 0), (1, .int x1)] dX8_falls_18 (by decide) rfl ?_
    refine aw_sub [2, 3, 1, 0] rfl ?_
    exact m_X8_falls_19 C hr am_fuel x1 (1 : Int32) (0 : Int32) M
  · refine aw_iconst C (0 : Int32) dX8_falls_15 (by decide) ?_
    refine aw_istore_n C [(2, .int (0 : Int32)), (0, .ref 0), (1, .int x1)] dX8_falls_16 (by decide) rfl ?_
    refine aw_iconst C (0 : Int32) dX8_falls_17 (by decide) ?_
    refine aw_istore_n C [(3, .int (0 : Int32)), (2, .int (0 : Int32)), (0, .ref 0), (1, .int x1)] dX8_falls_18 (by decide) rfl ?_
    refine aw_sub [2, 3, 1, 0] rfl ?_
    exact m_X8_falls_19 C hr am_fuel x1 (0 : Int32) (0 : Int32) M
def X8_isSeen_15 (M : Mem) : Nat → Int32 → Int32 → Int32 → Int32 → Int32 → Option (Int32)
  | 0, _, _, _, _, _ => none
  | f + 1, x1, x2, x3, x4, x5 =>
    if am_in (x1 + (1 : Int32)) 1092 = true then
      if x5 < (M 1 (x1 + (1 : Int32)).toNatClampNeg) then
        if am_in ((x1 + (9 : Int32)) + x5) 1092 = true then
          if am_in ((x1 + (9 : Int32)) + x2) 1092 = true then
            if x4 = 0 then none else
            am_let ((((M 1 ((x1 + (9 : Int32)) + x5).toNatClampNeg) - (M 1 ((x1 + (9 : Int32)) + x2).toNatClampNeg)) + x4) - (((M 1 ((x1 + (9 : Int32)) + x5).toNatClampNeg) - (M 1 ((x1 + (9 : Int32)) + x2).toNatClampNeg)) + x4) / x4 * x4) fun v1 =>
            if x3 = 0 then
              if x5 = x2 then
                X8_isSeen_15 M f x1 x2 (0 : Int32) x4 (x5 + (1 : Int32))
              else
                Option.bind (X8_waits M x1 x5) fun r2 =>
                if r2 = 0 then
                  X8_isSeen_15 M f x1 x2 (0 : Int32) x4 (x5 + (1 : Int32))
                else
                  if v1 < (2 : Int32) then
                    X8_isSeen_15 M f x1 x2 (1 : Int32) x4 (x5 + (1 : Int32))
                  else
                    if v1 = (x4 - (1 : Int32)) then
                      X8_isSeen_15 M f x1 x2 (1 : Int32) x4 (x5 + (1 : Int32))
                    else
                      X8_isSeen_15 M f x1 x2 (0 : Int32) x4 (x5 + (1 : Int32))
            else
              X8_isSeen_15 M f x1 x2 (1 : Int32) x4 (x5 + (1 : Int32))
          else none
        else none
      else
        if x3 = 0 ∨ x3 = 1 then some x3 else none
    else none
def X8_isSeen (M : Mem) (x1 : Int32) (x2 : Int32)  : Option (Int32) :=
  if am_in (x1 + (0 : Int32)) 1092 = true then
    X8_isSeen_15 M am_fuel x1 x2 (0 : Int32) (M 1 (x1 + (0 : Int32)).toNatClampNeg) (0 : Int32)
  else none
theorem m_X8_isSeen_15 {E : amE} (C : amC E 2 cX8_isSeen 7 RX8) (hr : (eH E).sig.returnType = (some .boolean)) (M : Mem) : ∀ (f : Nat) (x1 : Int32) (x2 : Int32) (x3 : Int32) (x4 : Int32) (x5 : Int32), AW E lyM 7 (qIp lyM M) (X8_isSeen_15 M f x1 x2 x3 x4 x5) 15 [(0, .ref 0), (1, .int x1), (2, .int x2), (3, .int x3), (4, .int x4), (5, .int x5)] [] M := by
  intro f
  induction f with
  | zero => exact (fun _ _ _ _ _ => aw_none)
  | succ f ih =>
    intro x1 x2 x3 x4 x5
    rw [X8_isSeen_15]
    refine aw_iload C dX8_isSeen_15 rfl ?_
    refine aw_aload_n C dX8_isSeen_17 rfl ?_
    refine aw_getR C (r := 1) clX8 lo_M_0 0 rfl (by decide) kf_X8_7 dX8_isSeen_18 ?_
    refine aw_iload_n C dX8_isSeen_21 rfl ?_
    refine aw_iconst C (1 : Int32) dX8_isSeen_22 (by decide) ?_
    refine aw_iadd C dX8_isSeen_23 ?_
    refine aw_iald C la_M_1 dX8_isSeen_24 ?_
    refine aw_icmp_ge C (tgt := 107) dX8_isSeen_25 (by decide) ?_ ?_
    · refine aw_aload_n C dX8_isSeen_28 rfl ?_
      refine aw_getR C (r := 1) clX8 lo_M_0 0 rfl (by decide) kf_X8_7 dX8_isSeen_29 ?_
      refine aw_iload_n C dX8_isSeen_32 rfl ?_
      refine aw_bipush C (9 : Int32) dX8_isSeen_33 (by decide) ?_
      refine aw_iadd C dX8_isSeen_35 ?_
      refine aw_iload C dX8_isSeen_36 rfl ?_
      refine aw_iadd C dX8_isSeen_38 ?_
      refine aw_iald C la_M_1 dX8_isSeen_39 ?_
      refine aw_aload_n C dX8_isSeen_40 rfl ?_
      refine aw_getR C (r := 1) clX8 lo_M_0 0 rfl (by decide) kf_X8_7 dX8_isSeen_41 ?_
      refine aw_iload_n C dX8_isSeen_44 rfl ?_
      refine aw_bipush C (9 : Int32) dX8_isSeen_45 (by decide) ?_
      refine aw_iadd C dX8_isSeen_47 ?_
      refine aw_iload_n C dX8_isSeen_48 rfl ?_
      refine aw_iadd C dX8_isSeen_49 ?_
      refine aw_iald C la_M_1 dX8_isSeen_50 ?_
      refine aw_isub C dX8_isSeen_51 ?_
      refine aw_iload C dX8_isSeen_52 rfl ?_
      refine aw_iadd C dX8_isSeen_54 ?_
      refine aw_iload C dX8_isSeen_55 rfl ?_
      refine aw_irem C dX8_isSeen_57 ?_
      refine aw_ilet (fun v1 => ?_)
      refine aw_istore C [(6, .int v1), (0, .ref 0), (1, .int x1), (2, .int x2), (3, .int x3), (4, .int x4), (5, .int x5)] dX8_isSeen_58 (by decide) rfl ?_
      refine aw_iload_n C dX8_isSeen_60 rfl ?_
      refine aw_if_ne C (tgt := 95) dX8_isSeen_61 (by decide) ?_ ?_
      · refine aw_iload C dX8_isSeen_64 rfl ?_
        refine aw_iload_n C dX8_isSeen_66 rfl ?_
        refine aw_icmp_eq C (tgt := 99) dX8_isSeen_67 (by decide) ?_ ?_
        · refine aw_iconst C (0 : Int32) dX8_isSeen_99 (by decide) ?_
          refine aw_istore_n C [(3, .int (0 : Int32)), (6, .int v1), (0, .ref 0), (1, .int x1), (2, .int x2), (4, .int x4), (5, .int x5)] dX8_isSeen_100 (by decide) rfl ?_
          refine aw_iinc C (v := (1 : Int32)) [(5, .int (x5 + (1 : Int32))), (3, .int (0 : Int32)), (6, .int v1), (0, .ref 0), (1, .int x1), (2, .int x2), (4, .int x4)] dX8_isSeen_101 rfl (by decide) (by decide) rfl ?_
          refine aw_goto C (tgt := 15) dX8_isSeen_104 (by decide) ?_
          refine aw_sub [3, 4, 5, 1, 6, 0] rfl ?_
          exact ih x1 x2 (0 : Int32) x4 (x5 + (1 : Int32))
        · refine aw_aload_n C dX8_isSeen_70 rfl ?_
          refine aw_iload_n C dX8_isSeen_71 rfl ?_
          refine aw_iload C dX8_isSeen_72 rfl ?_
          refine aw_cVIp C [.int x1, .int x5] [] (m_X8_waits M x1 x5) v_X8_waits km_X8_141 (by decide) lo_M_0 rfl rfl rfl (Nat.le_of_ble_eq_true rfl) dX8_isSeen_74 (fun r2 => ?_)
          refine aw_if_eq C (tgt := 99) dX8_isSeen_77 (by decide) ?_ ?_
          · refine aw_iconst C (0 : Int32) dX8_isSeen_99 (by decide) ?_
            refine aw_istore_n C [(3, .int (0 : Int32)), (6, .int v1), (0, .ref 0), (1, .int x1), (2, .int x2), (4, .int x4), (5, .int x5)] dX8_isSeen_100 (by decide) rfl ?_
            refine aw_iinc C (v := (1 : Int32)) [(5, .int (x5 + (1 : Int32))), (3, .int (0 : Int32)), (6, .int v1), (0, .ref 0), (1, .int x1), (2, .int x2), (4, .int x4)] dX8_isSeen_101 rfl (by decide) (by decide) rfl ?_
            refine aw_goto C (tgt := 15) dX8_isSeen_104 (by decide) ?_
            refine aw_sub [3, 4, 5, 1, 6, 0] rfl ?_
            exact ih x1 x2 (0 : Int32) x4 (x5 + (1 : Int32))
          · refine aw_iload C dX8_isSeen_80 rfl ?_
            refine aw_iconst C (2 : Int32) dX8_isSeen_82 (by decide) ?_
            refine aw_icmp_lt C (tgt := 95) dX8_isSeen_83 (by decide) ?_ ?_
            · refine aw_iconst C (1 : Int32) dX8_isSeen_95 (by decide) ?_
              refine aw_goto C (tgt := 100) dX8_isSeen_96 (by decide) ?_
              refine aw_istore_n C [(3, .int (1 : Int32)), (6, .int v1), (0, .ref 0), (1, .int x1), (2, .int x2), (4, .int x4), (5, .int x5)] dX8_isSeen_100 (by decide) rfl ?_
              refine aw_iinc C (v := (1 : Int32)) [(5, .int (x5 + (1 : Int32))), (3, .int (1 : Int32)), (6, .int v1), (0, .ref 0), (1, .int x1), (2, .int x2), (4, .int x4)] dX8_isSeen_101 rfl (by decide) (by decide) rfl ?_
              refine aw_goto C (tgt := 15) dX8_isSeen_104 (by decide) ?_
              refine aw_sub [3, 4, 5, 1, 6, 0] rfl ?_
              exact ih x1 x2 (1 : Int32) x4 (x5 + (1 : Int32))
            · refine aw_iload C dX8_isSeen_86 rfl ?_
              refine aw_iload C dX8_isSeen_88 rfl ?_
              refine aw_iconst C (1 : Int32) dX8_isSeen_90 (by decide) ?_
              refine aw_isub C dX8_isSeen_91 ?_
              refine aw_icmp_ne C (tgt := 99) dX8_isSeen_92 (by decide) ?_ ?_
              · refine aw_iconst C (1 : Int32) dX8_isSeen_95 (by decide) ?_
                refine aw_goto C (tgt := 100) dX8_isSeen_96 (by decide) ?_
                refine aw_istore_n C [(3, .int (1 : Int32)), (6, .int v1), (0, .ref 0), (1, .int x1), (2, .int x2), (4, .int x4), (5, .int x5)] dX8_isSeen_100 (by decide) rfl ?_
                refine aw_iinc C (v := (1 : Int32)) [(5, .int (x5 + (1 : Int32))), (3, .int (1 : Int32)), (6, .int v1), (0, .ref 0), (1, .int x1), (2, .int x2), (4, .int x4)] dX8_isSeen_101 rfl (by decide) (by decide) rfl ?_
                refine aw_goto C (tgt := 15) dX8_isSeen_104 (by decide) ?_
                refine aw_sub [3, 4, 5, 1, 6, 0] rfl ?_
                exact ih x1 x2 (1 : Int32) x4 (x5 + (1 : Int32))
              · refine aw_iconst C (0 : Int32) dX8_isSeen_99 (by decide) ?_
                refine aw_istore_n C [(3, .int (0 : Int32)), (6, .int v1), (0, .ref 0), (1, .int x1), (2, .int x2), (4, .int x4), (5, .int x5)] dX8_isSeen_100 (by decide) rfl ?_
                refine aw_iinc C (v := (1 : Int32)) [(5, .int (x5 + (1 : Int32))), (3, .int (0 : Int32)), (6, .int v1), (0, .ref 0), (1, .int x1), (2, .int x2), (4, .int x4)] dX8_isSeen_101 rfl (by decide) (by decide) rfl ?_
                refine aw_goto C (tgt := 15) dX8_isSeen_104 (by decide) ?_
                refine aw_sub [3, 4, 5, 1, 6, 0] rfl ?_
                exact ih x1 x2 (0 : Int32) x4 (x5 + (1 : Int32))
      · refine aw_iconst C (1 : Int32) dX8_isSeen_95 (by decide) ?_
        refine aw_goto C (tgt := 100) dX8_isSeen_96 (by decide) ?_
        refine aw_istore_n C [(3, .int (1 : Int32)), (6, .int v1), (0, .ref 0), (1, .int x1), (2, .int x2), (4, .int x4), (5, .int x5)] dX8_isSeen_100 (by decide) rfl ?_
        refine aw_iinc C (v := (1 : Int32)) [(5, .int (x5 + (1 : Int32))), (3, .int (1 : Int32)), (6, .int v1), (0, .ref 0), (1, .int x1), (2, .int x2), (4, .int x4)] dX8_isSeen_101 rfl (by decide) (by decide) rfl ?_
        refine aw_goto C (tgt := 15) dX8_isSeen_104 (by decide) ?_
        refine aw_sub [3, 4, 5, 1, 6, 0] rfl ?_
        exact ih x1 x2 (1 : Int32) x4 (x5 + (1 : Int32))
    · refine aw_iload_n C dX8_isSeen_107 rfl ?_
      exact aw_zretgp C hr dX8_isSeen_108
theorem m_X8_isSeen  (M : Mem) (x1 : Int32) (x2 : Int32)  : AMet 2 yX8_isSeen cX8_isSeen 7 (some .boolean) lyM [.ref 0, .int x1, .int x2] M (qIp lyM M) (X8_isSeen M x1 x2) := by
  refine am_ent pn_X8 (Nat.le_of_ble_eq_true rfl) (fun E C hr => ?_)
  refine aw_lv (lv' := [(0, .ref 0), (1, .int x1), (2, .int x2)]) rfl ?_
  unfold X8_isSeen
  refine aw_iconst C (0 : Int32) dX8_isSeen_0 (by decide) ?_
  refine aw_istore_n C [(3, .int (0 : Int32)), (0, .ref 0), (1, .int x1), (2, .int x2)] dX8_isSeen_1 (by decide) rfl ?_
  refine aw_aload_n C dX8_isSeen_2 rfl ?_
  refine aw_getR C (r := 1) clX8 lo_M_0 0 rfl (by decide) kf_X8_7 dX8_isSeen_3 ?_
  refine aw_iload_n C dX8_isSeen_6 rfl ?_
  refine aw_iconst C (0 : Int32) dX8_isSeen_7 (by decide) ?_
  refine aw_iadd C dX8_isSeen_8 ?_
  refine aw_iald C la_M_1 dX8_isSeen_9 ?_
  refine aw_istore C [(4, .int (M 1 (x1 + (0 : Int32)).toNatClampNeg)), (3, .int (0 : Int32)), (0, .ref 0), (1, .int x1), (2, .int x2)] dX8_isSeen_10 (by decide) rfl ?_
  refine aw_iconst C (0 : Int32) dX8_isSeen_12 (by decide) ?_
  refine aw_istore C [(5, .int (0 : Int32)), (4, .int (M 1 (x1 + (0 : Int32)).toNatClampNeg)), (3, .int (0 : Int32)), (0, .ref 0), (1, .int x1), (2, .int x2)] dX8_isSeen_13 (by decide) rfl ?_
  refine aw_sub [3, 4, 5, 2, 1, 0] rfl ?_
  exact m_X8_isSeen_15 C hr M am_fuel x1 x2 (0 : Int32) (M 1 (x1 + (0 : Int32)).toNatClampNeg) (0 : Int32)
def X8_takes (M : Mem) (x1 : Int32) (x2 : Int32) (x3 : Int32)  : Option (Int32) :=
  if am_in ((x1 + (3 : Int32)) + x2) 1092 = true then
    if M 1 ((x1 + (3 : Int32)) + x2).toNatClampNeg = (1 : Int32) then
      if x3 = x2 then
        some (1 : Int32)
      else
        some (0 : Int32)
    else
    if M 1 ((x1 + (3 : Int32)) + x2).toNatClampNeg = (2 : Int32) then
      if x3 = x2 then
        Option.bind (X8_isSeen M x1 x2) fun r2 =>
        if r2 = 0 then
          some (1 : Int32)
        else
          some (0 : Int32)
      else
        some (0 : Int32)
    else
    if M 1 ((x1 + (3 : Int32)) + x2).toNatClampNeg = (3 : Int32) then
      if am_in ((x1 + (27 : Int32)) + x3) 1092 = true then
        if am_in ((x1 + (27 : Int32)) + x2) 1092 = true then
          if (M 1 ((x1 + (27 : Int32)) + x3).toNatClampNeg) = (M 1 ((x1 + (27 : Int32)) + x2).toNatClampNeg) then
            some (1 : Int32)
          else
            some (0 : Int32)
        else none
      else none
    else
    if M 1 ((x1 + (3 : Int32)) + x2).toNatClampNeg = (4 : Int32) then
      if x3 = x2 then
        if am_in ((x1 + (21 : Int32)) + x2) 1092 = true then
          if (1 : Int32) < (M 1 ((x1 + (21 : Int32)) + x2).toNatClampNeg) then
            some (1 : Int32)
          else
            some (0 : Int32)
        else none
      else
        some (0 : Int32)
    else
    if x3 = x2 then
      if am_in ((x1 + (21 : Int32)) + x2) 1092 = true then
        if (2 : Int32) < (M 1 ((x1 + (21 : Int32)) + x2).toNatClampNeg) then
          some (1 : Int32)
        else
          some (0 : Int32)
      else none
    else
      some (0 : Int32)
  else none
theorem m_X8_takes  (M : Mem) (x1 : Int32) (x2 : Int32) (x3 : Int32)  : AMet 3 yX8_takes cX8_takes 4 (some .boolean) lyM [.ref 0, .int x1, .int x2, .int x3] M (qIp lyM M) (X8_takes M x1 x2 x3) := by
  refine am_ent pn_X8 (Nat.le_of_ble_eq_true rfl) (fun E C hr => ?_)
  refine aw_lv (lv' := [(0, .ref 0), (1, .int x1), (2, .int x2), (3, .int x3)]) rfl ?_
  unfold X8_takes
  refine aw_aload_n C dX8_takes_0 rfl ?_
  refine aw_getR C (r := 1) clX8 lo_M_0 0 rfl (by decide) kf_X8_7 dX8_takes_1 ?_
  refine aw_iload_n C dX8_takes_4 rfl ?_
  refine aw_iconst C (3 : Int32) dX8_takes_5 (by decide) ?_
  refine aw_iadd C dX8_takes_6 ?_
  refine aw_iload_n C dX8_takes_7 rfl ?_
  refine aw_iadd C dX8_takes_8 ?_
  refine aw_iald C la_M_1 dX8_takes_9 ?_
  refine aw_ite (fun h1 => ?_) (fun h1 => ?_)
  · refine aw_tswIn C (tgt := 40) (1 : Int32) h1 dX8_takes_10 (by decide) (by decide) rfl (by decide) ?_
    refine aw_iload_n C dX8_takes_40 rfl ?_
    refine aw_iload_n C dX8_takes_41 rfl ?_
    refine aw_icmp_ne C (tgt := 49) dX8_takes_42 (by decide) ?_ ?_
    · refine aw_iconst C (1 : Int32) dX8_takes_45 (by decide) ?_
      refine aw_goto C (tgt := 50) dX8_takes_46 (by decide) ?_
      exact aw_zretp C (Or.inr rfl) hr dX8_takes_50
    · refine aw_iconst C (0 : Int32) dX8_takes_49 (by decide) ?_
      exact aw_zretp C (Or.inl rfl) hr dX8_takes_50
  refine aw_ite (fun h3 => ?_) (fun h3 => ?_)
  · refine aw_tswIn C (tgt := 51) (2 : Int32) h3 dX8_takes_10 (by decide) (by decide) rfl (by decide) ?_
    refine aw_iload_n C dX8_takes_51 rfl ?_
    refine aw_iload_n C dX8_takes_52 rfl ?_
    refine aw_icmp_ne C (tgt := 69) dX8_takes_53 (by decide) ?_ ?_
    · refine aw_aload_n C dX8_takes_56 rfl ?_
      refine aw_iload_n C dX8_takes_57 rfl ?_
      refine aw_iload_n C dX8_takes_58 rfl ?_
      refine aw_cVIp C [.int x1, .int x2] [] (m_X8_isSeen M x1 x2) v_X8_isSeen km_X8_144 (by decide) lo_M_0 rfl rfl rfl (Nat.le_of_ble_eq_true rfl) dX8_takes_59 (fun r2 => ?_)
      refine aw_if_ne C (tgt := 69) dX8_takes_62 (by decide) ?_ ?_
      · refine aw_iconst C (1 : Int32) dX8_takes_65 (by decide) ?_
        refine aw_goto C (tgt := 70) dX8_takes_66 (by decide) ?_
        exact aw_zretp C (Or.inr rfl) hr dX8_takes_70
      · refine aw_iconst C (0 : Int32) dX8_takes_69 (by decide) ?_
        exact aw_zretp C (Or.inl rfl) hr dX8_takes_70
    · refine aw_iconst C (0 : Int32) dX8_takes_69 (by decide) ?_
      exact aw_zretp C (Or.inl rfl) hr dX8_takes_70
  refine aw_ite (fun h4 => ?_) (fun h4 => ?_)
  · refine aw_tswIn C (tgt := 71) (3 : Int32) h4 dX8_takes_10 (by decide) (by decide) rfl (by decide) ?_
    refine aw_aload_n C dX8_takes_71 rfl ?_
    refine aw_getR C (r := 1) clX8 lo_M_0 0 rfl (by decide) kf_X8_7 dX8_takes_72 ?_
    refine aw_iload_n C dX8_takes_75 rfl ?_
    refine aw_bipush C (27 : Int32) dX8_takes_76 (by decide) ?_
    refine aw_iadd C dX8_takes_78 ?_
    refine aw_iload_n C dX8_takes_79 rfl ?_
    refine aw_iadd C dX8_takes_80 ?_
    refine aw_iald C la_M_1 dX8_takes_81 ?_
    refine aw_aload_n C dX8_takes_82 rfl ?_
    refine aw_getR C (r := 1) clX8 lo_M_0 0 rfl (by decide) kf_X8_7 dX8_takes_83 ?_
    refine aw_iload_n C dX8_takes_86 rfl ?_
    refine aw_bipush C (27 : Int32) dX8_takes_87 (by decide) ?_
    refine aw_iadd C dX8_takes_89 ?_
    refine aw_iload_n C dX8_takes_90 rfl ?_
    refine aw_iadd C dX8_takes_91 ?_
    refine aw_iald C la_M_1 dX8_takes_92 ?_
    refine aw_icmp_ne C (tgt := 100) dX8_takes_93 (by decide) ?_ ?_
    · refine aw_iconst C (1 : Int32) dX8_takes_96 (by decide) ?_
      refine aw_goto C (tgt := 101) dX8_takes_97 (by decide) ?_
      exact aw_zretp C (Or.inr rfl) hr dX8_takes_101
    · refine aw_iconst C (0 : Int32) dX8_takes_100 (by decide) ?_
      exact aw_zretp C (Or.inl rfl) hr dX8_takes_101
  refine aw_ite (fun h5 => ?_) (fun h5 => ?_)
  · refine aw_tswIn C (tgt := 102) (4 : Int32) h5 dX8_takes_10 (by decide) (by decide) rfl (by decide) ?_
    refine aw_iload_n C dX8_takes_102 rfl ?_
    refine aw_iload_n C dX8_takes_103 rfl ?_
    refine aw_icmp_ne C (tgt := 126) dX8_takes_104 (by decide) ?_ ?_
    · refine aw_aload_n C dX8_takes_107 rfl ?_
      refine aw_getR C (r := 1) clX8 lo_M_0 0 rfl (by decide) kf_X8_7 dX8_takes_108 ?_
      refine aw_iload_n C dX8_takes_111 rfl ?_
      refine aw_bipush C (21 : Int32) dX8_takes_112 (by decide) ?_
      refine aw_iadd C dX8_takes_114 ?_
      refine aw_iload_n C dX8_takes_115 rfl ?_
      refine aw_iadd C dX8_takes_116 ?_
      refine aw_iald C la_M_1 dX8_takes_117 ?_
      refine aw_iconst C (1 : Int32) dX8_takes_118 (by decide) ?_
      refine aw_icmp_le C (tgt := 126) dX8_takes_119 (by decide) ?_ ?_
      · refine aw_iconst C (1 : Int32) dX8_takes_122 (by decide) ?_
        refine aw_goto C (tgt := 127) dX8_takes_123 (by decide) ?_
        exact aw_zretp C (Or.inr rfl) hr dX8_takes_127
      · refine aw_iconst C (0 : Int32) dX8_takes_126 (by decide) ?_
        exact aw_zretp C (Or.inl rfl) hr dX8_takes_127
    · refine aw_iconst C (0 : Int32) dX8_takes_126 (by decide) ?_
      exact aw_zretp C (Or.inl rfl) hr dX8_takes_127
  have q_h1 := lv_neT h1 (a := 1) (by decide)
  have q_h3 := lv_neT h3 (a := 2) (by decide)
  have q_h4 := lv_neT h4 (a := 3) (by decide)
  have q_h5 := lv_neT h5 (a := 4) (by decide)
  refine aw_tswOut C (tgt := 128) dX8_takes_10 (by omega) (by decide) ?_
  refine aw_iload_n C dX8_takes_128 rfl ?_
  refine aw_iload_n C dX8_takes_129 rfl ?_
  refine aw_icmp_ne C (tgt := 152) dX8_takes_130 (by decide) ?_ ?_
  · refine aw_aload_n C dX8_takes_133 rfl ?_
    refine aw_getR C (r := 1) clX8 lo_M_0 0 rfl (by decide) kf_X8_7 dX8_takes_134 ?_
    refine aw_iload_n C dX8_takes_137 rfl ?_
    refine aw_bipush C (21 : Int32) dX8_takes_138 (by decide) ?_
    refine aw_iadd C dX8_takes_140 ?_
    refine aw_iload_n C dX8_takes_141 rfl ?_
    refine aw_iadd C dX8_takes_142 ?_
    refine aw_iald C la_M_1 dX8_takes_143 ?_
    refine aw_iconst C (2 : Int32) dX8_takes_144 (by decide) ?_
    refine aw_icmp_le C (tgt := 152) dX8_takes_145 (by decide) ?_ ?_
    · refine aw_iconst C (1 : Int32) dX8_takes_148 (by decide) ?_
      refine aw_goto C (tgt := 153) dX8_takes_149 (by decide) ?_
      exact aw_zretp C (Or.inr rfl) hr dX8_takes_153
    · refine aw_iconst C (0 : Int32) dX8_takes_152 (by decide) ?_
      exact aw_zretp C (Or.inl rfl) hr dX8_takes_153
  · refine aw_iconst C (0 : Int32) dX8_takes_152 (by decide) ?_
    exact aw_zretp C (Or.inl rfl) hr dX8_takes_153
