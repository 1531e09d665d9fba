def X8_swapRanks  (x1 : Int32) (x2 : Int32) (M : Mem) : Option (Mem) :=
  if am_in x1 6 = true then
    if am_in x2 6 = true then
      if am_in x1 6 = true then
        am_let (mset M 8 (upd (M 8) x1.toNatClampNeg (M 8 x2.toNatClampNeg))) fun M1 =>
        if am_in x2 6 = true then
          am_let (mset M1 8 (upd (M1 8) x2.toNatClampNeg (M 8 x1.toNatClampNeg))) fun M2 =>
          some M2
        else none
      else none
    else none
  else none
theorem m_X8_swapRanks   (x1 : Int32) (x2 : Int32) (M : Mem) : AMet 1 yX8_swapRanks cX8_swapRanks 4 none lyM [.ref 0, .int x1, .int x2] M (qV lyM) (X8_swapRanks x1 x2 M) := by
  refine am_ent pn_X8 (Nat.le_of_ble_eq_true rfl) (fun E C hr => ?_)
  refine aw_lv (lv' := [(0, .ref 0), (1, .int x1), (2, .int x2)]) rfl ?_
  unfold X8_swapRanks
  refine aw_aload_n C dX8_swapRanks_0 rfl ?_
  refine aw_getR C (r := 8) clX8 lo_M_0 15 rfl (by decide) kf_X8_32 dX8_swapRanks_1 ?_
  refine aw_iload_n C dX8_swapRanks_4 rfl ?_
  refine aw_iald C la_M_8 dX8_swapRanks_5 ?_
  refine aw_istore_n C [(3, .int (M 8 x1.toNatClampNeg)), (0, .ref 0), (1, .int x1), (2, .int x2)] dX8_swapRanks_6 (by decide) rfl ?_
  refine aw_aload_n C dX8_swapRanks_7 rfl ?_
  refine aw_getR C (r := 8) clX8 lo_M_0 15 rfl (by decide) kf_X8_32 dX8_swapRanks_8 ?_
  refine aw_iload_n C dX8_swapRanks_11 rfl ?_
  refine aw_aload_n C dX8_swapRanks_12 rfl ?_
  refine aw_getR C (r := 8) clX8 lo_M_0 15 rfl (by decide) kf_X8_32 dX8_swapRanks_13 ?_
  refine aw_iload_n C dX8_swapRanks_16 rfl ?_
  refine aw_iald C la_M_8 dX8_swapRanks_17 ?_
  refine aw_iast C la_M_8 dX8_swapRanks_18 ?_
  refine aw_mlet (fun M1 => ?_)
  refine aw_aload_n C dX8_swapRanks_19 rfl ?_
  refine aw_getR C (r := 8) clX8 lo_M_0 15 rfl (by decide) kf_X8_32 dX8_swapRanks_20 ?_
  refine aw_iload_n C dX8_swapRanks_23 rfl ?_
  refine aw_iload_n C dX8_swapRanks_24 rfl ?_
  refine aw_iast C la_M_8 dX8_swapRanks_25 ?_
  refine aw_mlet (fun M2 => ?_)
  exact aw_vret C hr dX8_swapRanks_26
def X8_nextRanks_78  : Nat → Int32 → Int32 → Mem → Option (Int32 × Mem)
  | 0, _, _, _ => none
  | f + 1, x4, x5, M =>
    if x4 < x5 then
      Option.bind (X8_swapRanks x4 x5 M) fun M1 =>
      X8_nextRanks_78  f (x4 + (1 : Int32)) (x5 + (-1 : Int32)) M1
    else
      some ((1 : Int32), M)
def X8_nextRanks_41  : Nat → Int32 → Int32 → Int32 → Mem → Option (Int32 × Mem)
  | 0, _, _, _, _ => none
  | f + 1, x1, x2, x3, M =>
    if am_in x3 6 = true then
      if am_in x2 6 = true then
        if (M 8 x3.toNatClampNeg) < (M 8 x2.toNatClampNeg) then
          X8_nextRanks_41  f x1 x2 (x3 + (-1 : Int32)) M
        else
          Option.bind (X8_swapRanks x2 x3 M) fun M1 =>
          X8_nextRanks_78 am_fuel (x2 + (1 : Int32)) (x1 - (1 : Int32)) M1
      else none
    else none
def X8_nextRanks_4  : Nat → Int32 → Int32 → Mem → Option (Int32 × Mem)
  | 0, _, _, _ => none
  | f + 1, x1, x2, M =>
    if x2 < 0 then
      if x2 < 0 then
        some ((0 : Int32), M)
      else
        X8_nextRanks_41 am_fuel x1 x2 (x1 - (1 : Int32)) M
    else
      if am_in x2 6 = true then
        if am_in (x2 + (1 : Int32)) 6 = true then
          if (M 8 (x2 + (1 : Int32)).toNatClampNeg) < (M 8 x2.toNatClampNeg) then
            X8_nextRanks_4  f x1 (x2 + (-1 : Int32)) M
          else
            if x2 < 0 then
              some ((0 : Int32), M)
            else
              X8_nextRanks_41 am_fuel x1 x2 (x1 - (1 : Int32)) M
        else none
      else none
def X8_nextRanks  (x1 : Int32) (M : Mem) : Option (Int32 × Mem) :=
  X8_nextRanks_4 am_fuel x1 (x1 - (2 : Int32)) M
theorem m_X8_nextRanks_78 {E : amE} (C : amC E 2 cX8_nextRanks 6 RX8) (hr : (eH E).sig.returnType = (some .boolean))  : ∀ (f : Nat) (x4 : Int32) (x5 : Int32) (M : Mem), AW E lyM 6 (qI lyM) (X8_nextRanks_78 f x4 x5 M) 78 [(0, .ref 0), (4, .int x4), (5, .int x5)] [] M := by
  intro f
  induction f with
  | zero => exact (fun _ _ _ => aw_none)
  | succ f ih =>
    intro x4 x5 M
    rw [X8_nextRanks_78]
    refine aw_iload C dX8_nextRanks_78 rfl ?_
    refine aw_iload C dX8_nextRanks_80 rfl ?_
    refine aw_icmp_ge C (tgt := 102) dX8_nextRanks_82 (by decide) ?_ ?_
    · refine aw_aload_n C dX8_nextRanks_85 rfl ?_
      refine aw_iload C dX8_nextRanks_86 rfl ?_
      refine aw_iload C dX8_nextRanks_88 rfl ?_
      refine aw_cVV C [.int x4, .int x5] [] (m_X8_swapRanks x4 x5 M) v_X8_swapRanks km_X8_229 (by decide) lo_M_0 rfl rfl rfl (Nat.le_of_ble_eq_true rfl) dX8_nextRanks_90 (fun M1 => ?_)
      refine aw_iinc C (v := (1 : Int32)) [(4, .int (x4 + (1 : Int32))), (0, .ref 0), (5, .int x5)] dX8_nextRanks_93 rfl (by decide) (by decide) rfl ?_
      refine aw_iinc C (v := (-1 : Int32)) [(5, .int (x5 + (-1 : Int32))), (4, .int (x4 + (1 : Int32))), (0, .ref 0)] dX8_nextRanks_96 rfl (by decide) (by decide) rfl ?_
      refine aw_goto C (tgt := 78) dX8_nextRanks_99 (by decide) ?_
      refine aw_sub [2, 1, 0] rfl ?_
      exact ih (x4 + (1 : Int32)) (x5 + (-1 : Int32)) M1
    · refine aw_iconst C (1 : Int32) dX8_nextRanks_102 (by decide) ?_
      exact aw_zret C (Or.inr rfl) hr dX8_nextRanks_103
theorem m_X8_nextRanks_41 {E : amE} (C : amC E 2 cX8_nextRanks 6 RX8) (hr : (eH E).sig.returnType = (some .boolean))  : ∀ (f : Nat) (x1 : Int32) (x2 : Int32) (x3 : Int32) (M : Mem), AW E lyM 6 (qI lyM) (X8_nextRanks_41 f x1 x2 x3 M) 41 [(0, .ref 0), (1, .int x1), (2, .int x2), (3, .int x3)] [] M := by
  intro f
  induction f with
  | zero => exact (fun _ _ _ _ => aw_none)
  | succ f ih =>
    intro x1 x2 x3 M
    rw [X8_nextRanks_41]
    refine aw_aload_n C dX8_nextRanks_41 rfl ?_
    refine aw_getR C (r := 8) clX8 lo_M_0 15 rfl (by decide) kf_X8_32 dX8_nextRanks_42 ?_
    refine aw_iload_n C dX8_nextRanks_45 rfl ?_
    refine aw_iald C la_M_8 dX8_nextRanks_46 ?_
    refine aw_aload_n C dX8_nextRanks_47 rfl ?_
    refine aw_getR C (r := 8) clX8 lo_M_0 15 rfl (by decide) kf_X8_32 dX8_nextRanks_48 ?_
    refine aw_iload_n C dX8_nextRanks_51 rfl ?_
    refine aw_iald C la_M_8 dX8_nextRanks_52 ?_
    refine aw_icmp_ge C (tgt := 62) dX8_nextRanks_53 (by decide) ?_ ?_
    · refine aw_iinc C (v := (-1 : Int32)) [(3, .int (x3 + (-1 : Int32))), (0, .ref 0), (1, .int x1), (2, .int x2)] dX8_nextRanks_56 rfl (by decide) (by decide) rfl ?_
      refine aw_goto C (tgt := 41) dX8_nextRanks_59 (by decide) ?_
      refine aw_sub [1, 2, 3, 0] rfl ?_
      exact ih x1 x2 (x3 + (-1 : Int32)) M
    · refine aw_aload_n C dX8_nextRanks_62 rfl ?_
      refine aw_iload_n C dX8_nextRanks_63 rfl ?_
      refine aw_iload_n C dX8_nextRanks_64 rfl ?_
      refine aw_cVV C [.int x2, .int x3] [] (m_X8_swapRanks x2 x3 M) v_X8_swapRanks km_X8_229 (by decide) lo_M_0 rfl rfl rfl (Nat.le_of_ble_eq_true rfl) dX8_nextRanks_65 (fun M1 => ?_)
      refine aw_iload_n C dX8_nextRanks_68 rfl ?_
      refine aw_iconst C (1 : Int32) dX8_nextRanks_69 (by decide) ?_
      refine aw_iadd C dX8_nextRanks_70 ?_
      refine aw_istore C [(4, .int (x2 + (1 : Int32))), (0, .ref 0), (1, .int x1), (2, .int x2), (3, .int x3)] dX8_nextRanks_71 (by decide) rfl ?_
      refine aw_iload_n C dX8_nextRanks_73 rfl ?_
      refine aw_iconst C (1 : Int32) dX8_nextRanks_74 (by decide) ?_
      refine aw_isub C dX8_nextRanks_75 ?_
      refine aw_istore C [(5, .int (x1 - (1 : Int32))), (4, .int (x2 + (1 : Int32))), (0, .ref 0), (1, .int x1), (2, .int x2), (3, .int x3)] dX8_nextRanks_76 (by decide) rfl ?_
      refine aw_sub [2, 1, 0] rfl ?_
      exact m_X8_nextRanks_78 C hr am_fuel (x2 + (1 : Int32)) (x1 - (1 : Int32)) M1
theorem m_X8_nextRanks_4 {E : amE} (C : amC E 2 cX8_nextRanks 6 RX8) (hr : (eH E).sig.returnType = (some .boolean))  : ∀ (f : Nat) (x1 : Int32) (x2 : Int32) (M : Mem), AW E lyM 6 (qI lyM) (X8_nextRanks_4 f x1 x2 M) 4 [(0, .ref 0), (1, .int x1), (2, .int x2)] [] M := by
  intro f
  induction f with
  | zero => exact (fun _ _ _ => aw_none)
  | succ f ih =>
    intro x1 x2 M
    rw [X8_nextRanks_4]
    refine aw_iload_n C dX8_nextRanks_4 rfl ?_
    refine aw_if_lt C (tgt := 31) dX8_nextRanks_5 (by decide) ?_ ?_
    · refine aw_iload_n C dX8_nextRanks_31 rfl ?_
      refine aw_if_ge C (tgt := 37) dX8_nextRanks_32 (by decide) ?_ ?_
      · refine aw_iconst C (0 : Int32) dX8_nextRanks_35 (by decide) ?_
        exact aw_zret C (Or.inl rfl) hr dX8_nextRanks_36
      · refine aw_iload_n C dX8_nextRanks_37 rfl ?_
        refine aw_iconst C (1 : Int32) dX8_nextRanks_38 (by decide) ?_
        refine aw_isub C dX8_nextRanks_39 ?_
        refine aw_istore_n C [(3, .int (x1 - (1 : Int32))), (0, .ref 0), (1, .int x1), (2, .int x2)] dX8_nextRanks_40 (by decide) rfl ?_
        refine aw_sub [1, 2, 3, 0] rfl ?_
        exact m_X8_nextRanks_41 C hr am_fuel x1 x2 (x1 - (1 : Int32)) M
    · refine aw_aload_n C dX8_nextRanks_8 rfl ?_
      refine aw_getR C (r := 8) clX8 lo_M_0 15 rfl (by decide) kf_X8_32 dX8_nextRanks_9 ?_
      refine aw_iload_n C dX8_nextRanks_12 rfl ?_
      refine aw_iald C la_M_8 dX8_nextRanks_13 ?_
      refine aw_aload_n C dX8_nextRanks_14 rfl ?_
      refine aw_getR C (r := 8) clX8 lo_M_0 15 rfl (by decide) kf_X8_32 dX8_nextRanks_15 ?_
      refine aw_iload_n C dX8_nextRanks_18 rfl ?_
      refine aw_iconst C (1 : Int32) dX8_nextRanks_19 (by decide) ?_
      refine aw_iadd C dX8_nextRanks_20 ?_
      refine aw_iald C la_M_8 dX8_nextRanks_21 ?_
      refine aw_icmp_le C (tgt := 31) dX8_nextRanks_22 (by decide) ?_ ?_
      · refine aw_iinc C (v := (-1 : Int32)) [(2, .int (x2 + (-1 : Int32))), (0, .ref 0), (1, .int x1)] dX8_nextRanks_25 rfl (by decide) (by decide) rfl ?_
        refine aw_goto C (tgt := 4) dX8_nextRanks_28 (by decide) ?_
        refine aw_sub [1, 2, 0] rfl ?_
        exact ih x1 (x2 + (-1 : Int32)) M
      · refine aw_iload_n C dX8_nextRanks_31 rfl ?_
        refine aw_if_ge C (tgt := 37) dX8_nextRanks_32 (by decide) ?_ ?_
        · refine aw_iconst C (0 : Int32) dX8_nextRanks_35 (by decide) ?_
          exact aw_zret C (Or.inl rfl) hr dX8_nextRanks_36
        · refine aw_iload_n C dX8_nextRanks_37 rfl ?_
          refine aw_iconst C (1 : Int32) dX8_nextRanks_38 (by decide) ?_
          refine aw_isub C dX8_nextRanks_39 ?_
          refine aw_istore_n C [(3, .int (x1 - (1 : Int32))), (0, .ref 0), (1, .int x1), (2, .int x2)] dX8_nextRanks_40 (by decide) rfl ?_
          refine aw_sub [1, 2, 3, 0] rfl ?_
          exact m_X8_nextRanks_41 C hr am_fuel x1 x2 (x1 - (1 : Int32)) M
theorem m_X8_nextRanks   (x1 : Int32) (M : Mem) : AMet 2 yX8_nextRanks cX8_nextRanks 6 (some .boolean) lyM [.ref 0, .int x1] M (qI lyM) (X8_nextRanks x1 M) := by
  refine am_ent pn_X8 (Nat.le_of_ble_eq_true rfl) (fun E C hr => ?_)
  refine aw_lv (lv' := [(0, .ref 0), (1, .int x1)]) rfl ?_
  unfold X8_nextRanks
  refine aw_iload_n C dX8_nextRanks_0 rfl ?_
  refine aw_iconst C (2 : Int32) dX8_nextRanks_1 (by decide) ?_
  refine aw_isub C dX8_nextRanks_2 ?_
  refine aw_istore_n C [(2, .int (x1 - (2 : Int32))), (0, .ref 0), (1, .int x1)] dX8_nextRanks_3 (by decide) rfl ?_
  refine aw_sub [1, 2, 0] rfl ?_
  exact m_X8_nextRanks_4 C hr am_fuel x1 (x1 - (2 : Int32)) M
def X8_order_160  : Nat → Int32 → Int32 → Int32 → Mem → Option (Int32 × Mem)
  | 0, _, _, _, _ => none
  | f + 1, x2, x3, x6, M =>
    if x6 < (6 : Int32) then
      if am_in x6 6 = true then
        am_let (mset M 8 (upd (M 8) x6.toNatClampNeg x6)) fun M1 =>
        X8_order_160  f x2 x3 (x6 + (1 : Int32)) M1
      else none
    else
      if x2 = (-1 : Int32) then
        some (x3, M)
      else
        if am_in (1 : Int32) 1092 = true then
          if x2 < (M 1 (1 : Int32).toNatClampNeg) then
            if am_in x2 6 = true then
              some (M 9 x2.toNatClampNeg, M)
            else none
          else
            some ((-1000000 : Int32), M)
        else none
def X8_order_115 (K38 : Int32 → Int32 → Int32 → Int32 → Int32 → Mem → Option (Int32 × Mem)) : Nat → Int32 → Int32 → Int32 → Int32 → Int32 → Mem → Option (Int32 × Mem)
  | 0, _, _, _, _, _, _ => none
  | f + 1, x1, x2, x3, x4, x8, M =>
    if x8 < (6 : Int32) then
      if am_in x8 6 = true then
        if am_in x8 6 = true then
          am_let (mset M 9 (upd (M 9) x8.toNatClampNeg (M 8 x8.toNatClampNeg))) fun M1 =>
          X8_order_115 K38 f x1 x2 x3 x4 (x8 + (1 : Int32)) M1
        else none
      else none
    else
      if am_in (1 : Int32) 1092 = true then
        Option.bind (X8_nextRanks (M 1 (1 : Int32).toNatClampNeg) M) fun u2 =>
        K38 x1 x2 x3 x4 u2.1 u2.2
      else none
def X8_order_38  : Nat → Int32 → Int32 → Int32 → Int32 → Int32 → Mem → Option (Int32 × Mem)
  | 0, _, _, _, _, _, _ => none
  | f + 1, x1, x2, x3, x4, x5, M =>
    if x5 = 0 then
      X8_order_160 am_fuel x2 x3 (0 : Int32) M
    else
      Option.bind (X8_layTried M) fun M2 =>
      Option.bind (X8_ticksOf (1053 : Int32) x1 M2) fun M3 =>
      Option.bind (X8_goneOnes M3 (1053 : Int32)) fun r4 =>
      Option.bind (X8_wrongOnes M3 (1053 : Int32)) fun r5 =>
      Option.bind (X8_bits (r4 &&& (r5 ^^^ (-1 : Int32)))) fun r6 =>
      Option.bind (X8_allSaw M3 (1053 : Int32)) fun r7 =>
      if x3 < r6 then
        X8_order_115 (X8_order_38  f) am_fuel x1 x2 r6 r7 (0 : Int32) M3
      else
        if r6 = x3 then
          if r7 < x4 then
            X8_order_115 (X8_order_38  f) am_fuel x1 x2 r6 r7 (0 : Int32) M3
          else
            if am_in (1 : Int32) 1092 = true then
              Option.bind (X8_nextRanks (M3 1 (1 : Int32).toNatClampNeg) M3) fun u3 =>
              X8_order_38  f x1 x2 x3 x4 u3.1 u3.2
            else none
        else
          if am_in (1 : Int32) 1092 = true then
            Option.bind (X8_nextRanks (M3 1 (1 : Int32).toNatClampNeg) M3) fun u4 =>
            X8_order_38  f x1 x2 x3 x4 u4.1 u4.2
          else none
def X8_order  (x1 : Int32) (x2 : Int32) (M : Mem) : Option (Int32 × Mem) :=
  Option.bind (X8_isHall M) fun r1 =>
  if r1 = 0 then
    some ((-1000002 : Int32), M)
  else
    Option.bind (X8_in x1.toInt64 (1 : Int64) (40 : Int64)) fun r2 =>
    if r2 = 0 then
      some ((-1000001 : Int32), M)
    else
      if x2 < (-1 : Int32) then
        some ((-1000001 : Int32), M)
      else
        X8_order_38 am_fuel x1 x2 (-1 : Int32) (0 : Int32) (1 : Int32) M
theorem m_X8_order_160 {E : amE} (C : amC E 6 cX8_order 9 RX8) (hr : (eH E).sig.returnType = (some .int))  : ∀ (f : Nat) (x2 : Int32) (x3 : Int32) (x6 : Int32) (M : Mem), AW E lyM 9 (qI lyM) (X8_order_160 f x2 x3 x6 M) 160 [(0, .ref 0), (2, .int x2), (3, .int x3), (6, .int x6)] [] M := by
  intro f
  induction f with
  | zero => exact (fun _ _ _ _ => aw_none)
  | succ f ih =>
    intro x2 x3 x6 M
    rw [X8_order_160]
    refine aw_iload C dX8_order_160 rfl ?_
    refine aw_bipush C (6 : Int32) dX8_order_162 (by decide) ?_
    refine aw_icmp_ge C (tgt := 182) dX8_order_164 (by decide) ?_ ?_
    · refine aw_aload_n C dX8_order_167 rfl ?_
      refine aw_getR C (r := 8) clX8 lo_M_0 15 rfl (by decide) kf_X8_32 dX8_order_168 ?_
      refine aw_iload C dX8_order_171 rfl ?_
      refine aw_iload C dX8_order_173 rfl ?_
      refine aw_iast C la_M_8 dX8_order_175 ?_
      refine aw_mlet (fun M1 => ?_)
      refine aw_iinc C (v := (1 : Int32)) [(6, .int (x6 + (1 : Int32))), (0, .ref 0), (2, .int x2), (3, .int x3)] dX8_order_176 rfl (by decide) (by decide) rfl ?_
      refine aw_goto C (tgt := 160) dX8_order_179 (by decide) ?_
      refine aw_sub [1, 2, 3, 0] rfl ?_
      exact ih x2 x3 (x6 + (1 : Int32)) M1
    · refine aw_iload_n C dX8_order_182 rfl ?_
      refine aw_iconst C (-1 : Int32) dX8_order_183 (by decide) ?_
      refine aw_icmp_ne C (tgt := 191) dX8_order_184 (by decide) ?_ ?_
      · refine aw_iload_n C dX8_order_187 rfl ?_
        refine aw_goto C (tgt := 212) dX8_order_188 (by decide) ?_
        exact aw_iret C hr dX8_order_212
      · refine aw_iload_n C dX8_order_191 rfl ?_
        refine aw_aload_n C dX8_order_192 rfl ?_
        refine aw_getR C (r := 1) clX8 lo_M_0 0 rfl (by decide) kf_X8_7 dX8_order_193 ?_
        refine aw_iconst C (1 : Int32) dX8_order_196 (by decide) ?_
        refine aw_iald C la_M_1 dX8_order_197 ?_
        refine aw_icmp_ge C (tgt := 210) dX8_order_198 (by decide) ?_ ?_
        · refine aw_aload_n C dX8_order_201 rfl ?_
          refine aw_getR C (r := 9) clX8 lo_M_0 19 rfl (by decide) kf_X8_35 dX8_order_202 ?_
          refine aw_iload_n C dX8_order_205 rfl ?_
          refine aw_iald C la_M_9 dX8_order_206 ?_
          refine aw_goto C (tgt := 212) dX8_order_207 (by decide) ?_
          exact aw_iret C hr dX8_order_212
        · refine aw_ldc C kc_X8_116 dX8_order_210 ?_
          exact aw_iret C hr dX8_order_212
theorem m_X8_order_115 {E : amE} (C : amC E 6 cX8_order 9 RX8) (hr : (eH E).sig.returnType = (some .int)) (K38 : Int32 → Int32 → Int32 → Int32 → Int32 → Mem → Option (Int32 × Mem)) (hK38 : ∀ (x1 : Int32) (x2 : Int32) (x3 : Int32) (x4 : Int32) (x5 : Int32) (M : Mem), AW E lyM 9 (qI lyM) (K38 x1 x2 x3 x4 x5 M) 38 [(0, .ref 0), (1, .int x1), (2, .int x2), (3, .int x3), (4, .int x4), (5, .int x5)] [] M) : ∀ (f : Nat) (x1 : Int32) (x2 : Int32) (x3 : Int32) (x4 : Int32) (x8 : Int32) (M : Mem), AW E lyM 9 (qI lyM) (X8_order_115 K38 f x1 x2 x3 x4 x8 M) 115 [(0, .ref 0), (1, .int x1), (2, .int x2), (3, .int x3), (4, .int x4), (8, .int x8)] [] M := by
  intro f
  induction f with
  | zero => exact (fun _ _ _ _ _ _ => aw_none)
  | succ f ih =>
    intro x1 x2 x3 x4 x8 M
    rw [X8_order_115]
    refine aw_iload C dX8_order_115 rfl ?_
    refine aw_bipush C (6 : Int32) dX8_order_117 (by decide) ?_
    refine aw_icmp_ge C (tgt := 142) dX8_order_119 (by decide) ?_ ?_
    · refine aw_aload_n C dX8_order_122 rfl ?_
      refine aw_getR C (r := 9) clX8 lo_M_0 19 rfl (by decide) kf_X8_35 dX8_order_123 ?_
      refine aw_iload C dX8_order_126 rfl ?_
      refine aw_aload_n C dX8_order_128 rfl ?_
      refine aw_getR C (r := 8) clX8 lo_M_0 15 rfl (by decide) kf_X8_32 dX8_order_129 ?_
      refine aw_iload C dX8_order_132 rfl ?_
      refine aw_iald C la_M_8 dX8_order_134 ?_
      refine aw_iast C la_M_9 dX8_order_135 ?_
      refine aw_mlet (fun M1 => ?_)
      refine aw_iinc C (v := (1 : Int32)) [(8, .int (x8 + (1 : Int32))), (0, .ref 0), (1, .int x1), (2, .int x2), (3, .int x3), (4, .int x4)] dX8_order_136 rfl (by decide) (by decide) rfl ?_
      refine aw_goto C (tgt := 115) dX8_order_139 (by decide) ?_
      refine aw_sub [1, 2, 3, 4, 5, 0] rfl ?_
      exact ih x1 x2 x3 x4 (x8 + (1 : Int32)) M1
    · refine aw_aload_n C dX8_order_142 rfl ?_
      refine aw_aload_n C dX8_order_143 rfl ?_
      refine aw_getR C (r := 1) clX8 lo_M_0 0 rfl (by decide) kf_X8_7 dX8_order_144 ?_
      refine aw_iconst C (1 : Int32) dX8_order_147 (by decide) ?_
      refine aw_iald C la_M_1 dX8_order_148 ?_
      refine aw_cVI C [.int (M 1 (1 : Int32).toNatClampNeg)] [] (m_X8_nextRanks (M 1 (1 : Int32).toNatClampNeg) M) v_X8_nextRanks km_X8_237 (by decide) lo_M_0 rfl rfl rfl (Nat.le_of_ble_eq_true rfl) dX8_order_149 (fun u2 => ?_)
      refine aw_istore C [(5, .int u2.1), (0, .ref 0), (1, .int x1), (2, .int x2), (3, .int x3), (4, .int x4), (8, .int x8)] dX8_order_152 (by decide) rfl ?_
      refine aw_goto C (tgt := 38) dX8_order_154 (by decide) ?_
      refine aw_sub [1, 2, 3, 4, 5, 0] rfl ?_
      exact hK38 x1 x2 x3 x4 u2.1 u2.2
theorem m_X8_order_38 {E : amE} (C : amC E 6 cX8_order 9 RX8) (hr : (eH E).sig.returnType = (some .int))  : ∀ (f : Nat) (x1 : Int32) (x2 : Int32) (x3 : Int32) (x4 : Int32) (x5 : Int32) (M : Mem), AW E lyM 9 (qI lyM) (X8_order_38 f x1 x2 x3 x4 x5 M) 38 [(0, .ref 0), (1, .int x1), (2, .int x2), (3, .int x3), (4, .int x4), (5, .int x5)] [] M := by
  intro f
  induction f with
  | zero => exact (fun _ _ _ _ _ _ => aw_none)
  | succ f ih =>
    intro x1 x2 x3 x4 x5 M
    rw [X8_order_38]
    refine aw_iload C dX8_order_38 rfl ?_
    refine aw_if_eq C (tgt := 157) dX8_order_40 (by decide) ?_ ?_
    · refine aw_iconst C (0 : Int32) dX8_order_157 (by decide) ?_
      refine aw_istore C [(6, .int (0 : Int32)), (0, .ref 0), (1, .int x1), (2, .int x2), (3, .int x3), (4, .int x4), (5, .int x5)] dX8_order_158 (by decide) rfl ?_
      refine aw_sub [1, 3, 4, 0] rfl ?_
      exact m_X8_order_160 C hr am_fuel x2 x3 (0 : Int32) M
    · refine aw_aload_n C dX8_order_43 rfl ?_
      refine aw_cVV C [] [] (m_X8_layTried M) v_X8_layTried km_X8_222 (by decide) lo_M_0 rfl rfl rfl (Nat.le_of_ble_eq_true rfl) dX8_order_44 (fun M2 => ?_)
      refine aw_aload_n C dX8_order_47 rfl ?_
      refine aw_sipush C (1053 : Int32) dX8_order_48 (by decide) ?_
      refine aw_iload_n C dX8_order_51 rfl ?_
      refine aw_cVV C [.int (1053 : Int32), .int x1] [] (m_X8_ticksOf (1053 : Int32) x1 M2) v_X8_ticksOf km_X8_187 (by decide) lo_M_0 rfl rfl rfl (Nat.le_of_ble_eq_true rfl) dX8_order_52 (fun M3 => ?_)
      refine aw_aload_n C dX8_order_55 rfl ?_
      refine aw_sipush C (1053 : Int32) dX8_order_56 (by decide) ?_
      refine aw_cVIp C [.int (1053 : Int32)] [] (m_X8_goneOnes M3 (1053 : Int32)) v_X8_goneOnes km_X8_190 (by decide) lo_M_0 rfl rfl rfl (Nat.le_of_ble_eq_true rfl) dX8_order_59 (fun r4 => ?_)
      refine aw_aload_n C dX8_order_62 rfl ?_
      refine aw_sipush C (1053 : Int32) dX8_order_63 (by decide) ?_
      refine aw_cVIp C [.int (1053 : Int32)] [.int r4] (m_X8_wrongOnes M3 (1053 : Int32)) v_X8_wrongOnes km_X8_214 (by decide) lo_M_0 rfl rfl rfl (Nat.le_of_ble_eq_true rfl) dX8_order_66 (fun r5 => ?_)
      refine aw_iconst C (-1 : Int32) dX8_order_69 (by decide) ?_
      refine aw_ixor C dX8_order_70 ?_
      refine aw_iand C dX8_order_71 ?_
      refine aw_cSIp C [.int (r4 &&& (r5 ^^^ (-1 : Int32)))] [] (m_X8_bits M3 (r4 &&& (r5 ^^^ (-1 : Int32)))) t_X8_bits km_X8_207 (by decide) rfl rfl (Nat.le_of_ble_eq_true rfl) dX8_order_72 (fun r6 => ?_)
      refine aw_istore C [(6, .int r6), (0, .ref 0), (1, .int x1), (2, .int x2), (3, .int x3), (4, .int x4), (5, .int x5)] dX8_order_75 (by decide) rfl ?_
      refine aw_aload_n C dX8_order_77 rfl ?_
      refine aw_sipush C (1053 : Int32) dX8_order_78 (by decide) ?_
      refine aw_cVIp C [.int (1053 : Int32)] [] (m_X8_allSaw M3 (1053 : Int32)) v_X8_allSaw km_X8_234 (by decide) lo_M_0 rfl rfl rfl (Nat.le_of_ble_eq_true rfl) dX8_order_81 (fun r7 => ?_)
      refine aw_istore C [(7, .int r7), (6, .int r6), (0, .ref 0), (1, .int x1), (2, .int x2), (3, .int x3), (4, .int x4), (5, .int x5)] dX8_order_84 (by decide) rfl ?_
      refine aw_iload C dX8_order_86 rfl ?_
      refine aw_iload_n C dX8_order_88 rfl ?_
      refine aw_icmp_gt C (tgt := 105) dX8_order_89 (by decide) ?_ ?_
      · refine aw_iload C dX8_order_105 rfl ?_
        refine aw_istore_n C [(3, .int r6), (7, .int r7), (6, .int r6), (0, .ref 0), (1, .int x1), (2, .int x2), (4, .int x4), (5, .int x5)] dX8_order_107 (by decide) rfl ?_
        refine aw_iload C dX8_order_108 rfl ?_
        refine aw_istore C [(4, .int r7), (3, .int r6), (7, .int r7), (6, .int r6), (0, .ref 0), (1, .int x1), (2, .int x2), (5, .int x5)] dX8_order_110 (by decide) rfl ?_
        refine aw_iconst C (0 : Int32) dX8_order_112 (by decide) ?_
        refine aw_istore C [(8, .int (0 : Int32)), (4, .int r7), (3, .int r6), (7, .int r7), (6, .int r6), (0, .ref 0), (1, .int x1), (2, .int x2), (5, .int x5)] dX8_order_113 (by decide) rfl ?_
        refine aw_sub [5, 6, 7, 2, 1, 0] rfl ?_
        exact m_X8_order_115 C hr (X8_order_38  f) ih am_fuel x1 x2 r6 r7 (0 : Int32) M3
      · refine aw_iload C dX8_order_92 rfl ?_
        refine aw_iload_n C dX8_order_94 rfl ?_
        refine aw_icmp_ne C (tgt := 142) dX8_order_95 (by decide) ?_ ?_
        · refine aw_iload C dX8_order_98 rfl ?_
          refine aw_iload C dX8_order_100 rfl ?_
          refine aw_icmp_ge C (tgt := 142) dX8_order_102 (by decide) ?_ ?_
          · refine aw_iload C dX8_order_105 rfl ?_
            refine aw_istore_n C [(3, .int r6), (7, .int r7), (6, .int r6), (0, .ref 0), (1, .int x1), (2, .int x2), (4, .int x4), (5, .int x5)] dX8_order_107 (by decide) rfl ?_
            refine aw_iload C dX8_order_108 rfl ?_
            refine aw_istore C [(4, .int r7), (3, .int r6), (7, .int r7), (6, .int r6), (0, .ref 0), (1, .int x1), (2, .int x2), (5, .int x5)] dX8_order_110 (by decide) rfl ?_
            refine aw_iconst C (0 : Int32) dX8_order_112 (by decide) ?_
            refine aw_istore C [(8, .int (0 : Int32)), (4, .int r7), (3, .int r6), (7, .int r7), (6, .int r6), (0, .ref 0), (1, .int x1), (2, .int x2), (5, .int x5)] dX8_order_113 (by decide) rfl ?_
            refine aw_sub [5, 6, 7, 2, 1, 0] rfl ?_
            exact m_X8_order_115 C hr (X8_order_38  f) ih am_fuel x1 x2 r6 r7 (0 : Int32) M3
          · refine aw_aload_n C dX8_order_142 rfl ?_
            refine aw_aload_n C dX8_order_143 rfl ?_
            refine aw_getR C (r := 1) clX8 lo_M_0 0 rfl (by decide) kf_X8_7 dX8_order_144 ?_
            refine aw_iconst C (1 : Int32) dX8_order_147 (by decide) ?_
            refine aw_iald C la_M_1 dX8_order_148 ?_
            refine aw_cVI C [.int (M3 1 (1 : Int32).toNatClampNeg)] [] (m_X8_nextRanks (M3 1 (1 : Int32).toNatClampNeg) M3) v_X8_nextRanks km_X8_237 (by decide) lo_M_0 rfl rfl rfl (Nat.le_of_ble_eq_true rfl) dX8_order_149 (fun u3 => ?_)
            refine aw_istore C [(5, .int u3.1), (7, .int r7), (6, .int r6), (0, .ref 0), (1, .int x1), (2, .int x2), (3, .int x3), (4, .int x4)] dX8_order_152 (by decide) rfl ?_
            refine aw_goto C (tgt := 38) dX8_order_154 (by decide) ?_
            refine aw_sub [3, 4, 5, 6, 7, 0] rfl ?_
            exact ih x1 x2 x3 x4 u3.1 u3.2
        · refine aw_aload_n C dX8_order_142 rfl ?_
          refine aw_aload_n C dX8_order_143 rfl ?_
          refine aw_getR C (r := 1) clX8 lo_M_0 0 rfl (by decide) kf_X8_7 dX8_order_144 ?_
          refine aw_iconst C (1 : Int32) dX8_order_147 (by decide) ?_
          refine aw_iald C la_M_1 dX8_order_148 ?_
          refine aw_cVI C [.int (M3 1 (1 : Int32).toNatClampNeg)] [] (m_X8_nextRanks (M3 1 (1 : Int32).toNatClampNeg) M3) v_X8_nextRanks km_X8_237 (by decide) lo_M_0 rfl rfl rfl (Nat.le_of_ble_eq_true rfl) dX8_order_149 (fun u4 => ?_)
          refine aw_istore C [(5, .int u4.1), (7, .int r7), (6, .int r6), (0, .ref 0), (1, .int x1), (2, .int x2), (3, .int x3), (4, .int x4)] dX8_order_152 (by decide) rfl ?_
          refine aw_goto C (tgt := 38) dX8_order_154 (by decide) ?_
          refine aw_sub [3, 4, 5, 6, 7, 0] rfl ?_
          exact ih x1 x2 x3 x4 u4.1 u4.2
theorem m_X8_order   (x1 : Int32) (x2 : Int32) (M : Mem) : AMet 6 yX8_order cX8_order 9 (some .int) lyM [.ref 0, .int x1, .int x2] M (qI lyM) (X8_order x1 x2 M) := by
  refine am_ent pn_X8 (Nat.le_of_ble_eq_true rfl) (fun E C hr => ?_)
  refine aw_lv (lv' := [(0, .ref 0), (1, .int x1), (2, .int x2)]) rfl ?_
  unfold X8_order
  refine aw_aload_n C dX8_order_0 rfl ?_
  refine aw_cVIp C [] [] (m_X8_isHall M) v_X8_isHall km_X8_179 (by decide) lo_M_0 rfl rfl rfl (Nat.le_of_ble_eq_true rfl) dX8_order_1 (fun r1 => ?_)
  refine aw_if_ne C (tgt := 10) dX8_order_4 (by decide) ?_ ?_
  · refine aw_ldc C kc_X8_178 dX8_order_7 ?_
    exact aw_iret C hr dX8_order_9
  · refine aw_iload_n C dX8_order_10 rfl ?_
    refine aw_i2l C dX8_order_11 ?_
    refine aw_lconst C (1 : Int64) dX8_order_12 (by decide) ?_
    refine aw_ldc2 C kd_X8_232 dX8_order_13 ?_
    refine aw_cSIp C [.long x1.toInt64, .long (1 : Int64), .long (40 : Int64)] [] (m_X8_in M x1.toInt64 (1 : Int64) (40 : Int64)) t_X8_in km_X8_48 (by decide) rfl rfl (Nat.le_of_ble_eq_true rfl) dX8_order_16 (fun r2 => ?_)
    refine aw_if_eq C (tgt := 27) dX8_order_19 (by decide) ?_ ?_
    · refine aw_ldc C kc_X8_58 dX8_order_27 ?_
      exact aw_iret C hr dX8_order_29
    · refine aw_iload_n C dX8_order_22 rfl ?_
      refine aw_iconst C (-1 : Int32) dX8_order_23 (by decide) ?_
      refine aw_icmp_ge C (tgt := 30) dX8_order_24 (by decide) ?_ ?_
      · refine aw_ldc C kc_X8_58 dX8_order_27 ?_
        exact aw_iret C hr dX8_order_29
      · refine aw_iconst C (-1 : Int32) dX8_order_30 (by decide) ?_
        refine aw_istore_n C [(3, .int (-1 : Int32)), (0, .ref 0), (1, .int x1), (2, .int x2)] dX8_order_31 (by decide) rfl ?_
        refine aw_iconst C (0 : Int32) dX8_order_32 (by decide) ?_
        refine aw_istore C [(4, .int (0 : Int32)), (3, .int (-1 : Int32)), (0, .ref 0), (1, .int x1), (2, .int x2)] dX8_order_33 (by decide) rfl ?_
        refine aw_iconst C (1 : Int32) dX8_order_35 (by decide) ?_
        refine aw_istore C [(5, .int (1 : Int32)), (4, .int (0 : Int32)), (3, .int (-1 : Int32)), (0, .ref 0), (1, .int x1), (2, .int x2)] dX8_order_36 (by decide) rfl ?_
        refine aw_sub [3, 4, 5, 2, 1, 0] rfl ?_
        exact m_X8_order_38 C hr am_fuel x1 x2 (-1 : Int32) (0 : Int32) (1 : Int32) M
def X8_marks_76 (K40 : Int32 → Int32 → Int32 → Int32 → Mem → Option (Int32 × Mem)) : Nat → Int32 → Int32 → Int32 → Int32 → Int32 → Mem → Option (Int32 × Mem)
  | 0, _, _, _, _, _, _ => none
  | f + 1, x1, x2, x3, x4, x5, M =>
    if am_in (1 : Int32) 1092 = true then
      if x5 < (M 1 (1 : Int32).toNatClampNeg) then
        Option.bind (X8_has x4 x5) fun r1 =>
        if r1 = 0 then
          if am_in ((1080 : Int32) + x5) 1092 = true then
            if am_in ((1080 : Int32) + x5) 1092 = true then
              am_let (mset M 1 (upd (M 1) ((1080 : Int32) + x5).toNatClampNeg (M 1 ((1080 : Int32) + x5).toNatClampNeg))) fun M2 =>
              X8_marks_76 K40 f x1 x2 x3 x4 (x5 + (1 : Int32)) M2
            else none
          else none
        else
          if am_in ((1080 : Int32) + x5) 1092 = true then
            am_let (mset M 1 (upd (M 1) ((1080 : Int32) + x5).toNatClampNeg ((10 : Int32) + x5))) fun M3 =>
            X8_marks_76 K40 f x1 x2 x3 x4 (x5 + (1 : Int32)) M3
          else none
      else
        Option.bind (X8_ticksOf (1053 : Int32) x1 M) fun M4 =>
        Option.bind (X8_wrongOnes M4 (1053 : Int32)) fun r5 =>
        Option.bind (X8_wrongOnes M4 (0 : Int32)) fun r6 =>
        if (r5 &&& (r6 ^^^ (-1 : Int32))) = 0 then
          K40 x1 x2 x4 (x4 + (1 : Int32)) M4
        else
          K40 x1 x2 x3 (x4 + (1 : Int32)) M4
    else none
def X8_marks_40  : Nat → Int32 → Int32 → Int32 → Int32 → Mem → Option (Int32 × Mem)
  | 0, _, _, _, _, _ => none
  | f + 1, x1, x2, x3, x4, M =>
    if am_in (1 : Int32) 1092 = true then
      if x4 < ((1 : Int32) <<< ((M 1 (1 : Int32).toNatClampNeg) &&& 31)) then
        if x3 < 0 then
          Option.bind (X8_layTried M) fun M1 =>
          X8_marks_76 (X8_marks_40  f) am_fuel x1 x2 x3 x4 (0 : Int32) M1
        else
          Option.bind (X8_bits x4) fun r7 =>
          Option.bind (X8_bits x3) fun r8 =>
          if r7 < r8 then
            Option.bind (X8_layTried M) fun M9 =>
            X8_marks_76 (X8_marks_40  f) am_fuel x1 x2 x3 x4 (0 : Int32) M9
          else
            X8_marks_40  f x1 x2 x3 (x4 + (1 : Int32)) M
      else
        if x2 = 0 then
          Option.bind (X8_bits x3) fun r10 =>
          some (r10, M)
        else
          some (x3, M)
    else none
def X8_marks  (x1 : Int32) (x2 : Int32) (M : Mem) : Option (Int32 × Mem) :=
  Option.bind (X8_isHall M) fun r1 =>
  if r1 = 0 then
    some ((-1000002 : Int32), M)
  else
    Option.bind (X8_in x1.toInt64 (1 : Int64) (40 : Int64)) fun r2 =>
    if r2 = 0 then
      some ((-1000001 : Int32), M)
    else
      Option.bind (X8_in x2.toInt64 (0 : Int64) (1 : Int64)) fun r3 =>
      if r3 = 0 then
        some ((-1000001 : Int32), M)
      else
        X8_marks_40 am_fuel x1 x2 (-1 : Int32) (0 : Int32) M
theorem m_X8_marks_76 {E : amE} (C : amC E 6 cX8_marks 6 RX8) (hr : (eH E).sig.returnType = (some .int)) (K40 : Int32 → Int32 → Int32 → Int32 → Mem → Option (Int32 × Mem)) (hK40 : ∀ (x1 : Int32) (x2 : Int32) (x3 : Int32) (x4 : Int32) (M : Mem), AW E lyM 6 (qI lyM) (K40 x1 x2 x3 x4 M) 40 [(0, .ref 0), (1, .int x1), (2, .int x2), (3, .int x3), (4, .int x4)] [] M) : ∀ (f : Nat) (x1 : Int32) (x2 : Int32) (x3 : Int32) (x4 : Int32) (x5 : Int32) (M : Mem), AW E lyM 6 (qI lyM) (X8_marks_76 K40 f x1 x2 x3 x4 x5 M) 76 [(0, .ref 0), (1, .int x1), (2, .int x2), (3, .int x3), (4, .int x4), (5, .int x5)] [] M := by
  intro f
  induction f with
  | zero => exact (fun _ _ _ _ _ _ => aw_none)
  | succ f ih =>
    intro x1 x2 x3 x4 x5 M
    rw [X8_marks_76]
    refine aw_iload C dX8_marks_76 rfl ?_
    refine aw_aload_n C dX8_marks_78 rfl ?_
    refine aw_getR C (r := 1) clX8 lo_M_0 0 rfl (by decide) kf_X8_7 dX8_marks_79 ?_
    refine aw_iconst C (1 : Int32) dX8_marks_82 (by decide) ?_
    refine aw_iald C la_M_1 dX8_marks_83 ?_
    refine aw_icmp_ge C (tgt := 133) dX8_marks_84 (by decide) ?_ ?_
    · refine aw_aload_n C dX8_marks_87 rfl ?_
      refine aw_getR C (r := 1) clX8 lo_M_0 0 rfl (by decide) kf_X8_7 dX8_marks_88 ?_
      refine aw_sipush C (1080 : Int32) dX8_marks_91 (by decide) ?_
      refine aw_iload C dX8_marks_94 rfl ?_
      refine aw_iadd C dX8_marks_96 ?_
      refine aw_iload C dX8_marks_97 rfl ?_
      refine aw_iload C dX8_marks_99 rfl ?_
      refine aw_cSIp C [.int x4, .int x5] [.int ((1080 : Int32) + x5), .ref 1] (m_X8_has M x4 x5) t_X8_has km_X8_150 (by decide) rfl rfl (Nat.le_of_ble_eq_true rfl) dX8_marks_101 (fun r1 => ?_)
      refine aw_if_eq C (tgt := 115) dX8_marks_104 (by decide) ?_ ?_
      · refine aw_aload_n C dX8_marks_115 rfl ?_
        refine aw_getR C (r := 1) clX8 lo_M_0 0 rfl (by decide) kf_X8_7 dX8_marks_116 ?_
        refine aw_sipush C (1080 : Int32) dX8_marks_119 (by decide) ?_
        refine aw_iload C dX8_marks_122 rfl ?_
        refine aw_iadd C dX8_marks_124 ?_
        refine aw_iald C la_M_1 dX8_marks_125 ?_
        refine aw_iast C la_M_1 dX8_marks_126 ?_
        refine aw_mlet (fun M2 => ?_)
        refine aw_iinc C (v := (1 : Int32)) [(5, .int (x5 + (1 : Int32))), (0, .ref 0), (1, .int x1), (2, .int x2), (3, .int x3), (4, .int x4)] dX8_marks_127 rfl (by decide) (by decide) rfl ?_
        refine aw_goto C (tgt := 76) dX8_marks_130 (by decide) ?_
        refine aw_sub [1, 2, 3, 4, 5, 0] rfl ?_
        exact ih x1 x2 x3 x4 (x5 + (1 : Int32)) M2
      · refine aw_bipush C (10 : Int32) dX8_marks_107 (by decide) ?_
        refine aw_iload C dX8_marks_109 rfl ?_
        refine aw_iadd C dX8_marks_111 ?_
        refine aw_goto C (tgt := 126) dX8_marks_112 (by decide) ?_
        refine aw_iast C la_M_1 dX8_marks_126 ?_
        refine aw_mlet (fun M3 => ?_)
        refine aw_iinc C (v := (1 : Int32)) [(5, .int (x5 + (1 : Int32))), (0, .ref 0), (1, .int x1), (2, .int x2), (3, .int x3), (4, .int x4)] dX8_marks_127 rfl (by decide) (by decide) rfl ?_
        refine aw_goto C (tgt := 76) dX8_marks_130 (by decide) ?_
        refine aw_sub [1, 2, 3, 4, 5, 0] rfl ?_
        exact ih x1 x2 x3 x4 (x5 + (1 : Int32)) M3
    · refine aw_aload_n C dX8_marks_133 rfl ?_
      refine aw_sipush C (1053 : Int32) dX8_marks_134 (by decide) ?_
      refine aw_iload_n C dX8_marks_137 rfl ?_
      refine aw_cVV C [.int (1053 : Int32), .int x1] [] (m_X8_ticksOf (1053 : Int32) x1 M) v_X8_ticksOf km_X8_187 (by decide) lo_M_0 rfl rfl rfl (Nat.le_of_ble_eq_true rfl) dX8_marks_138 (fun M4 => ?_)
      refine aw_aload_n C dX8_marks_141 rfl ?_
      refine aw_sipush C (1053 : Int32) dX8_marks_142 (by decide) ?_
      refine aw_cVIp C [.int (1053 : Int32)] [] (m_X8_wrongOnes M4 (1053 : Int32)) v_X8_wrongOnes km_X8_214 (by decide) lo_M_0 rfl rfl rfl (Nat.le_of_ble_eq_true rfl) dX8_marks_145 (fun r5 => ?_)
      refine aw_aload_n C dX8_marks_148 rfl ?_
      refine aw_iconst C (0 : Int32) dX8_marks_149 (by decide) ?_
      refine aw_cVIp C [.int (0 : Int32)] [.int r5] (m_X8_wrongOnes M4 (0 : Int32)) v_X8_wrongOnes km_X8_214 (by decide) lo_M_0 rfl rfl rfl (Nat.le_of_ble_eq_true rfl) dX8_marks_150 (fun r6 => ?_)
      refine aw_iconst C (-1 : Int32) dX8_marks_153 (by decide) ?_
      refine aw_ixor C dX8_marks_154 ?_
      refine aw_iand C dX8_marks_155 ?_
      refine aw_if_ne C (tgt := 164) dX8_marks_156 (by decide) ?_ ?_
      · refine aw_iload C dX8_marks_159 rfl ?_
        refine aw_goto C (tgt := 165) dX8_marks_161 (by decide) ?_
        refine aw_istore_n C [(3, .int x4), (0, .ref 0), (1, .int x1), (2, .int x2), (4, .int x4), (5, .int x5)] dX8_marks_165 (by decide) rfl ?_
        refine aw_iinc C (v := (1 : Int32)) [(4, .int (x4 + (1 : Int32))), (3, .int x4), (0, .ref 0), (1, .int x1), (2, .int x2), (5, .int x5)] dX8_marks_166 rfl (by decide) (by decide) rfl ?_
        refine aw_goto C (tgt := 40) dX8_marks_169 (by decide) ?_
        refine aw_sub [2, 3, 4, 1, 0] rfl ?_
        exact hK40 x1 x2 x4 (x4 + (1 : Int32)) M4
      · refine aw_iload_n C dX8_marks_164 rfl ?_
        refine aw_istore_n C [(3, .int x3), (0, .ref 0), (1, .int x1), (2, .int x2), (4, .int x4), (5, .int x5)] dX8_marks_165 (by decide) rfl ?_
        refine aw_iinc C (v := (1 : Int32)) [(4, .int (x4 + (1 : Int32))), (3, .int x3), (0, .ref 0), (1, .int x1), (2, .int x2), (5, .int x5)] dX8_marks_166 rfl (by decide) (by decide) rfl ?_
        refine aw_goto C (tgt := 40) dX8_marks_169 (by decide) ?_
        refine aw_sub [2, 3, 4, 1, 0] rfl ?_
        exact hK40 x1 x2 x3 (x4 + (1 : Int32)) M4
theorem m_X8_marks_40 {E : amE} (C : amC E 6 cX8_marks 6 RX8) (hr : (eH E).sig.returnType = (some .int))  : ∀ (f : Nat) (x1 : Int32) (x2 : Int32) (x3 : Int32) (x4 : Int32) (M : Mem), AW E lyM 6 (qI lyM) (X8_marks_40 f x1 x2 x3 x4 M) 40 [(0, .ref 0), (1, .int x1), (2, .int x2), (3, .int x3), (4, .int x4)] [] M := by
  intro f
  induction f with
  | zero => exact (fun _ _ _ _ _ => aw_none)
  | succ f ih =>
    intro x1 x2 x3 x4 M
    rw [X8_marks_40]
    refine aw_iload C dX8_marks_40 rfl ?_
    refine aw_iconst C (1 : Int32) dX8_marks_42 (by decide) ?_
    refine aw_aload_n C dX8_marks_43 rfl ?_
    refine aw_getR C (r := 1) clX8 lo_M_0 0 rfl (by decide) kf_X8_7 dX8_marks_44 ?_
    refine aw_iconst C (1 : Int32) dX8_marks_47 (by decide) ?_
    refine aw_iald C la_M_1 dX8_marks_48 ?_
    refine aw_ishl C dX8_marks_49 ?_
    refine aw_icmp_ge C (tgt := 172) dX8_marks_50 (by decide) ?_ ?_
    · refine aw_iload_n C dX8_marks_53 rfl ?_
      refine aw_if_lt C (tgt := 69) dX8_marks_54 (by decide) ?_ ?_
      · refine aw_aload_n C dX8_marks_69 rfl ?_
        refine aw_cVV C [] [] (m_X8_layTried M) v_X8_layTried km_X8_222 (by decide) lo_M_0 rfl rfl rfl (Nat.le_of_ble_eq_true rfl) dX8_marks_70 (fun M1 => ?_)
        refine aw_iconst C (0 : Int32) dX8_marks_73 (by decide) ?_
        refine aw_istore C [(5, .int (0 : Int32)), (0, .ref 0), (1, .int x1), (2, .int x2), (3, .int x3), (4, .int x4)] dX8_marks_74 (by decide) rfl ?_
        refine aw_sub [1, 2, 3, 4, 5, 0] rfl ?_
        exact m_X8_marks_76 C hr (X8_marks_40  f) ih am_fuel x1 x2 x3 x4 (0 : Int32) M1
      · refine aw_iload C dX8_marks_57 rfl ?_
        refine aw_cSIp C [.int x4] [] (m_X8_bits M x4) t_X8_bits km_X8_207 (by decide) rfl rfl (Nat.le_of_ble_eq_true rfl) dX8_marks_59 (fun r7 => ?_)
        refine aw_iload_n C dX8_marks_62 rfl ?_
        refine aw_cSIp C [.int x3] [.int r7] (m_X8_bits M x3) t_X8_bits km_X8_207 (by decide) rfl rfl (Nat.le_of_ble_eq_true rfl) dX8_marks_63 (fun r8 => ?_)
        refine aw_icmp_ge C (tgt := 166) dX8_marks_66 (by decide) ?_ ?_
        · refine aw_aload_n C dX8_marks_69 rfl ?_
          refine aw_cVV C [] [] (m_X8_layTried M) v_X8_layTried km_X8_222 (by decide) lo_M_0 rfl rfl rfl (Nat.le_of_ble_eq_true rfl) dX8_marks_70 (fun M9 => ?_)
          refine aw_iconst C (0 : Int32) dX8_marks_73 (by decide) ?_
          refine aw_istore C [(5, .int (0 : Int32)), (0, .ref 0), (1, .int x1), (2, .int x2), (3, .int x3), (4, .int x4)] dX8_marks_74 (by decide) rfl ?_
          refine aw_sub [1, 2, 3, 4, 5, 0] rfl ?_
          exact m_X8_marks_76 C hr (X8_marks_40  f) ih am_fuel x1 x2 x3 x4 (0 : Int32) M9
        · refine aw_iinc C (v := (1 : Int32)) [(4, .int (x4 + (1 : Int32))), (0, .ref 0), (1, .int x1), (2, .int x2), (3, .int x3)] dX8_marks_166 rfl (by decide) (by decide) rfl ?_
          refine aw_goto C (tgt := 40) dX8_marks_169 (by decide) ?_
          refine aw_sub [1, 2, 3, 4, 0] rfl ?_
          exact ih x1 x2 x3 (x4 + (1 : Int32)) M
    · refine aw_iload_n C dX8_marks_172 rfl ?_
      refine aw_if_ne C (tgt := 183) dX8_marks_173 (by decide) ?_ ?_
      · refine aw_iload_n C dX8_marks_176 rfl ?_
        refine aw_cSIp C [.int x3] [] (m_X8_bits M x3) t_X8_bits km_X8_207 (by decide) rfl rfl (Nat.le_of_ble_eq_true rfl) dX8_marks_177 (fun r10 => ?_)
        refine aw_goto C (tgt := 184) dX8_marks_180 (by decide) ?_
        exact aw_iret C hr dX8_marks_184
      · refine aw_iload_n C dX8_marks_183 rfl ?_
        exact aw_iret C hr dX8_marks_184
theorem m_X8_marks   (x1 : Int32) (x2 : Int32) (M : Mem) : AMet 6 yX8_marks cX8_marks 6 (some .int) lyM [.ref 0, .int x1, .int x2] M (qI lyM) (X8_marks x1 x2 M) := by
  refine am_ent pn_X8 (Nat.le_of_ble_eq_true rfl) (fun E C hr => ?_)
  refine aw_lv (lv' := [(0, .ref 0), (1, .int x1), (2, .int x2)]) rfl ?_
  unfold X8_marks
  refine aw_aload_n C dX8_marks_0 rfl ?_
  refine aw_cVIp C [] [] (m_X8_isHall M) v_X8_isHall km_X8_179 (by decide) lo_M_0 rfl rfl rfl (Nat.le_of_ble_eq_true rfl) dX8_marks_1 (fun r1 => ?_)
  refine aw_if_ne C (tgt := 10) dX8_marks_4 (by decide) ?_ ?_
  · refine aw_ldc C kc_X8_178 dX8_marks_7 ?_
    exact aw_iret C hr dX8_marks_9
  · refine aw_iload_n C dX8_marks_10 rfl ?_
    refine aw_i2l C dX8_marks_11 ?_
    refine aw_lconst C (1 : Int64) dX8_marks_12 (by decide) ?_
    refine aw_ldc2 C kd_X8_232 dX8_marks_13 ?_
    refine aw_cSIp C [.long x1.toInt64, .long (1 : Int64), .long (40 : Int64)] [] (m_X8_in M x1.toInt64 (1 : Int64) (40 : Int64)) t_X8_in km_X8_48 (by decide) rfl rfl (Nat.le_of_ble_eq_true rfl) dX8_marks_16 (fun r2 => ?_)
    refine aw_if_eq C (tgt := 32) dX8_marks_19 (by decide) ?_ ?_
    · refine aw_ldc C kc_X8_58 dX8_marks_32 ?_
      exact aw_iret C hr dX8_marks_34
    · refine aw_iload_n C dX8_marks_22 rfl ?_
      refine aw_i2l C dX8_marks_23 ?_
      refine aw_lconst C (0 : Int64) dX8_marks_24 (by decide) ?_
      refine aw_lconst C (1 : Int64) dX8_marks_25 (by decide) ?_
      refine aw_cSIp C [.long x2.toInt64, .long (0 : Int64), .long (1 : Int64)] [] (m_X8_in M x2.toInt64 (0 : Int64) (1 : Int64)) t_X8_in km_X8_48 (by decide) rfl rfl (Nat.le_of_ble_eq_true rfl) dX8_marks_26 (fun r3 => ?_)
      refine aw_if_ne C (tgt := 35) dX8_marks_29 (by decide) ?_ ?_
      · refine aw_ldc C kc_X8_58 dX8_marks_32 ?_
        exact aw_iret C hr dX8_marks_34
      · refine aw_iconst C (-1 : Int32) dX8_marks_35 (by decide) ?_
        refine aw_istore_n C [(3, .int (-1 : Int32)), (0, .ref 0), (1, .int x1), (2, .int x2)] dX8_marks_36 (by decide) rfl ?_
        refine aw_iconst C (0 : Int32) dX8_marks_37 (by decide) ?_
        refine aw_istore C [(4, .int (0 : Int32)), (3, .int (-1 : Int32)), (0, .ref 0), (1, .int x1), (2, .int x2)] dX8_marks_38 (by decide) rfl ?_
        refine aw_sub [2, 3, 4, 1, 0] rfl ?_
        exact m_X8_marks_40 C hr am_fuel x1 x2 (-1 : Int32) (0 : Int32) M
def X8_sawOf_4 (M : Mem) : Nat → Int32 → Int32 → Int32 → Option (Int32)
  | 0, _, _, _ => none
  | f + 1, x1, x2, x3 =>
    if am_in (1 : Int32) 1092 = true then
      if x3 < (M 1 (1 : Int32).toNatClampNeg) then
        Option.bind (X8_has x1 x3) fun r1 =>
        if r1 = 0 then
          X8_sawOf_4 M f x1 (x2 + (0 : Int32)) (x3 + (1 : Int32))
        else
          if am_in ((21 : Int32) + x3) 1092 = true then
            X8_sawOf_4 M f x1 (x2 + (M 1 ((21 : Int32) + x3).toNatClampNeg)) (x3 + (1 : Int32))
          else none
      else
        some x2
    else none
def X8_sawOf (M : Mem) (x1 : Int32)  : Option (Int32) :=
  X8_sawOf_4 M am_fuel x1 (0 : Int32) (0 : Int32)
theorem m_X8_sawOf_4 {E : amE} (C : amC E 2 cX8_sawOf 4 RX8) (hr : (eH E).sig.returnType = (some .int)) (M : Mem) : ∀ (f : Nat) (x1 : Int32) (x2 : Int32) (x3 : Int32), AW E lyM 4 (qIp lyM M) (X8_sawOf_4 M f x1 x2 x3) 4 [(0, .ref 0), (1, .int x1), (2, .int x2), (3, .int x3)] [] M := by
  intro f
  induction f with
  | zero => exact (fun _ _ _ => aw_none)
  | succ f ih =>
    intro x1 x2 x3
    rw [X8_sawOf_4]
    refine aw_iload_n C dX8_sawOf_4 rfl ?_
    refine aw_aload_n C dX8_sawOf_5 rfl ?_
    refine aw_getR C (r := 1) clX8 lo_M_0 0 rfl (by decide) kf_X8_7 dX8_sawOf_6 ?_
    refine aw_iconst C (1 : Int32) dX8_sawOf_9 (by decide) ?_
    refine aw_iald C la_M_1 dX8_sawOf_10 ?_
    refine aw_icmp_ge C (tgt := 44) dX8_sawOf_11 (by decide) ?_ ?_
    · refine aw_iload_n C dX8_sawOf_14 rfl ?_
      refine aw_iload_n C dX8_sawOf_15 rfl ?_
      refine aw_iload_n C dX8_sawOf_16 rfl ?_
      refine aw_cSIp C [.int x1, .int x3] [.int x2] (m_X8_has M x1 x3) t_X8_has km_X8_150 (by decide) rfl rfl (Nat.le_of_ble_eq_true rfl) dX8_sawOf_17 (fun r1 => ?_)
      refine aw_if_eq C (tgt := 35) dX8_sawOf_20 (by decide) ?_ ?_
      · refine aw_iconst C (0 : Int32) dX8_sawOf_35 (by decide) ?_
        refine aw_iadd C dX8_sawOf_36 ?_
        refine aw_istore_n C [(2, .int (x2 + (0 : Int32))), (0, .ref 0), (1, .int x1), (3, .int x3)] dX8_sawOf_37 (by decide) rfl ?_
        refine aw_iinc C (v := (1 : Int32)) [(3, .int (x3 + (1 : Int32))), (2, .int (x2 + (0 : Int32))), (0, .ref 0), (1, .int x1)] dX8_sawOf_38 rfl (by decide) (by decide) rfl ?_
        refine aw_goto C (tgt := 4) dX8_sawOf_41 (by decide) ?_
        refine aw_sub [2, 3, 1, 0] rfl ?_
        exact ih x1 (x2 + (0 : Int32)) (x3 + (1 : Int32))
      · refine aw_aload_n C dX8_sawOf_23 rfl ?_
        refine aw_getR C (r := 1) clX8 lo_M_0 0 rfl (by decide) kf_X8_7 dX8_sawOf_24 ?_
        refine aw_bipush C (21 : Int32) dX8_sawOf_27 (by decide) ?_
        refine aw_iload_n C dX8_sawOf_29 rfl ?_
        refine aw_iadd C dX8_sawOf_30 ?_
        refine aw_iald C la_M_1 dX8_sawOf_31 ?_
        refine aw_goto C (tgt := 36) dX8_sawOf_32 (by decide) ?_
        refine aw_iadd C dX8_sawOf_36 ?_
        refine aw_istore_n C [(2, .int (x2 + (M 1 ((21 : Int32) + x3).toNatClampNeg))), (0, .ref 0), (1, .int x1), (3, .int x3)] dX8_sawOf_37 (by decide) rfl ?_
        refine aw_iinc C (v := (1 : Int32)) [(3, .int (x3 + (1 : Int32))), (2, .int (x2 + (M 1 ((21 : Int32) + x3).toNatClampNeg))), (0, .ref 0), (1, .int x1)] dX8_sawOf_38 rfl (by decide) (by decide) rfl ?_
        refine aw_goto C (tgt := 4) dX8_sawOf_41 (by decide) ?_
        refine aw_sub [2, 3, 1, 0] rfl ?_
        exact ih x1 (x2 + (M 1 ((21 : Int32) + x3).toNatClampNeg)) (x3 + (1 : Int32))
    · refine aw_iload_n C dX8_sawOf_44 rfl ?_
      exact aw_iretp C hr dX8_sawOf_45
theorem m_X8_sawOf  (M : Mem) (x1 : Int32)  : AMet 2 yX8_sawOf cX8_sawOf 4 (some .int) lyM [.ref 0, .int x1] M (qIp lyM M) (X8_sawOf M x1) := by
  refine am_ent pn_X8 (Nat.le_of_ble_eq_true rfl) (fun E C hr => ?_)
  refine aw_lv (lv' := [(0, .ref 0), (1, .int x1)]) rfl ?_
  unfold X8_sawOf
  refine aw_iconst C (0 : Int32) dX8_sawOf_0 (by decide) ?_
  refine aw_istore_n C [(2, .int (0 : Int32)), (0, .ref 0), (1, .int x1)] dX8_sawOf_1 (by decide) rfl ?_
  refine aw_iconst C (0 : Int32) dX8_sawOf_2 (by decide) ?_
  refine aw_istore_n C [(3, .int (0 : Int32)), (2, .int (0 : Int32)), (0, .ref 0), (1, .int x1)] dX8_sawOf_3 (by decide) rfl ?_
  refine aw_sub [2, 3, 1, 0] rfl ?_
  exact m_X8_sawOf_4 C hr M am_fuel x1 (0 : Int32) (0 : Int32)
def X8_sets_68 (M : Mem) : Nat → Int32 → Int32 → Int32 → Int32 → Int32 → Int32 → Int32 → Option (Int32)
  | 0, _, _, _, _, _, _, _ => none
  | f + 1, x1, x2, x3, x4, x5, x6, x7 =>
    if x3 < x7 then
      if x2 = 0 then
        some x4
      else
        if x2 = (2 : Int32) then
          some x6
        else
          if x4 = 0 then
            some (0 : Int32)
          else
            some x5
    else
      if (x7 &&& (x3 ^^^ (-1 : Int32))) = 0 then
        Option.bind (X8_sawOf M x7) fun r1 =>
        if r1 = x1 then
          X8_sets_68 M f x1 x2 x3 (x4 + (1 : Int32)) (x5 &&& x7) (x6 ||| x7) (x7 + (1 : Int32))
        else
          X8_sets_68 M f x1 x2 x3 x4 x5 x6 (x7 + (1 : Int32))
      else
        X8_sets_68 M f x1 x2 x3 x4 x5 x6 (x7 + (1 : Int32))
def X8_sets (M : Mem) (x1 : Int32) (x2 : Int32)  : Option (Int32) :=
  Option.bind (X8_isHall M) fun r1 =>
  if r1 = 0 then
    some (-1000002 : Int32)
  else
    Option.bind (X8_in x1.toInt64 (0 : Int64) (99 : Int64)) fun r2 =>
    if r2 = 0 then
      some (-1000001 : Int32)
    else
      Option.bind (X8_in x2.toInt64 (0 : Int64) (2 : Int64)) fun r3 =>
      if r3 = 0 then
        some (-1000001 : Int32)
      else
        if am_in (1 : Int32) 1092 = true then
          Option.bind (X8_goneOnes M (0 : Int32)) fun r4 =>
          am_let ((((1 : Int32) <<< ((M 1 (1 : Int32).toNatClampNeg) &&& 31)) - (1 : Int32)) &&& (r4 ^^^ (-1 : Int32))) fun v5 =>
          X8_sets_68 M am_fuel x1 x2 v5 (0 : Int32) v5 (0 : Int32) (0 : Int32)
        else none
theorem m_X8_sets_68 {E : amE} (C : amC E 3 cX8_sets 8 RX8) (hr : (eH E).sig.returnType = (some .int)) (M : Mem) : ∀ (f : Nat) (x1 : Int32) (x2 : Int32) (x3 : Int32) (x4 : Int32) (x5 : Int32) (x6 : Int32) (x7 : Int32), AW E lyM 8 (qIp lyM M) (X8_sets_68 M f x1 x2 x3 x4 x5 x6 x7) 68 [(0, .ref 0), (1, .int x1), (2, .int x2), (3, .int x3), (4, .int x4), (5, .int x5), (6, .int x6), (7, .int x7)] [] M := by
  intro f
  induction f with
  | zero => exact (fun _ _ _ _ _ _ _ => aw_none)
  | succ f ih =>
    intro x1 x2 x3 x4 x5 x6 x7
    rw [X8_sets_68]
    refine aw_iload C dX8_sets_68 rfl ?_
    refine aw_iload_n C dX8_sets_70 rfl ?_
    refine aw_icmp_gt C (tgt := 116) dX8_sets_71 (by decide) ?_ ?_
    · refine aw_iload_n C dX8_sets_116 rfl ?_
      refine aw_if_ne C (tgt := 125) dX8_sets_117 (by decide) ?_ ?_
      · refine aw_iload C dX8_sets_120 rfl ?_
        refine aw_goto C (tgt := 146) dX8_sets_122 (by decide) ?_
        exact aw_iretp C hr dX8_sets_146
      · refine aw_iload_n C dX8_sets_125 rfl ?_
        refine aw_iconst C (2 : Int32) dX8_sets_126 (by decide) ?_
        refine aw_icmp_ne C (tgt := 135) dX8_sets_127 (by decide) ?_ ?_
        · refine aw_iload C dX8_sets_130 rfl ?_
          refine aw_goto C (tgt := 146) dX8_sets_132 (by decide) ?_
          exact aw_iretp C hr dX8_sets_146
        · refine aw_iload C dX8_sets_135 rfl ?_
          refine aw_if_ne C (tgt := 144) dX8_sets_137 (by decide) ?_ ?_
          · refine aw_iconst C (0 : Int32) dX8_sets_140 (by decide) ?_
            refine aw_goto C (tgt := 146) dX8_sets_141 (by decide) ?_
            exact aw_iretp C hr dX8_sets_146
          · refine aw_iload C dX8_sets_144 rfl ?_
            exact aw_iretp C hr dX8_sets_146
    · refine aw_iload C dX8_sets_74 rfl ?_
      refine aw_iload_n C dX8_sets_76 rfl ?_
      refine aw_iconst C (-1 : Int32) dX8_sets_77 (by decide) ?_
      refine aw_ixor C dX8_sets_78 ?_
      refine aw_iand C dX8_sets_79 ?_
      refine aw_if_ne C (tgt := 110) dX8_sets_80 (by decide) ?_ ?_
      · refine aw_aload_n C dX8_sets_83 rfl ?_
        refine aw_iload C dX8_sets_84 rfl ?_
        refine aw_cVIp C [.int x7] [] (m_X8_sawOf M x7) v_X8_sawOf km_X8_242 (by decide) lo_M_0 rfl rfl rfl (Nat.le_of_ble_eq_true rfl) dX8_sets_86 (fun r1 => ?_)
        refine aw_iload_n C dX8_sets_89 rfl ?_
        refine aw_icmp_ne C (tgt := 110) dX8_sets_90 (by decide) ?_ ?_
        · refine aw_iinc C (v := (1 : Int32)) [(4, .int (x4 + (1 : Int32))), (0, .ref 0), (1, .int x1), (2, .int x2), (3, .int x3), (5, .int x5), (6, .int x6), (7, .int x7)] dX8_sets_93 rfl (by decide) (by decide) rfl ?_
          refine aw_iload C dX8_sets_96 rfl ?_
          refine aw_iload C dX8_sets_98 rfl ?_
          refine aw_iand C dX8_sets_100 ?_
          refine aw_istore C [(5, .int (x5 &&& x7)), (4, .int (x4 + (1 : Int32))), (0, .ref 0), (1, .int x1), (2, .int x2), (3, .int x3), (6, .int x6), (7, .int x7)] dX8_sets_101 (by decide) rfl ?_
          refine aw_iload C dX8_sets_103 rfl ?_
          refine aw_iload C dX8_sets_105 rfl ?_
          refine aw_ior C dX8_sets_107 ?_
          refine aw_istore C [(6, .int (x6 ||| x7)), (5, .int (x5 &&& x7)), (4, .int (x4 + (1 : Int32))), (0, .ref 0), (1, .int x1), (2, .int x2), (3, .int x3), (7, .int x7)] dX8_sets_108 (by decide) rfl ?_
          refine aw_iinc C (v := (1 : Int32)) [(7, .int (x7 + (1 : Int32))), (6, .int (x6 ||| x7)), (5, .int (x5 &&& x7)), (4, .int (x4 + (1 : Int32))), (0, .ref 0), (1, .int x1), (2, .int x2), (3, .int x3)] dX8_sets_110 rfl (by decide) (by decide) rfl ?_
          refine aw_goto C (tgt := 68) dX8_sets_113 (by decide) ?_
          refine aw_sub [4, 5, 6, 7, 3, 2, 1, 0] rfl ?_
          exact ih x1 x2 x3 (x4 + (1 : Int32)) (x5 &&& x7) (x6 ||| x7) (x7 + (1 : Int32))
        · refine aw_iinc C (v := (1 : Int32)) [(7, .int (x7 + (1 : Int32))), (0, .ref 0), (1, .int x1), (2, .int x2), (3, .int x3), (4, .int x4), (5, .int x5), (6, .int x6)] dX8_sets_110 rfl (by decide) (by decide) rfl ?_
          refine aw_goto C (tgt := 68) dX8_sets_113 (by decide) ?_
          refine aw_sub [1, 2, 3, 4, 5, 6, 7, 0] rfl ?_
          exact ih x1 x2 x3 x4 x5 x6 (x7 + (1 : Int32))
      · refine aw_iinc C (v := (1 : Int32)) [(7, .int (x7 + (1 : Int32))), (0, .ref 0), (1, .int x1), (2, .int x2), (3, .int x3), (4, .int x4), (5, .int x5), (6, .int x6)] dX8_sets_110 rfl (by decide) (by decide) rfl ?_
        refine aw_goto C (tgt := 68) dX8_sets_113 (by decide) ?_
        refine aw_sub [1, 2, 3, 4, 5, 6, 7, 0] rfl ?_
        exact ih x1 x2 x3 x4 x5 x6 (x7 + (1 : Int32))
theorem m_X8_sets  (M : Mem) (x1 : Int32) (x2 : Int32)  : AMet 3 yX8_sets cX8_sets 8 (some .int) lyM [.ref 0, .int x1, .int x2] M (qIp lyM M) (X8_sets M x1 x2) := by
  refine am_ent pn_X8 (Nat.le_of_ble_eq_true rfl) (fun E C hr => ?_)
  refine aw_lv (lv' := [(0, .ref 0), (1, .int x1), (2, .int x2)]) rfl ?_
  unfold X8_sets
  refine aw_aload_n C dX8_sets_0 rfl ?_
  refine aw_cVIp C [] [] (m_X8_isHall M) v_X8_isHall km_X8_179 (by decide) lo_M_0 rfl rfl rfl (Nat.le_of_ble_eq_true rfl) dX8_sets_1 (fun r1 => ?_)
  refine aw_if_ne C (tgt := 10) dX8_sets_4 (by decide) ?_ ?_
  · refine aw_ldc C kc_X8_178 dX8_sets_7 ?_
    exact aw_iretp C hr dX8_sets_9
  · refine aw_iload_n C dX8_sets_10 rfl ?_
    refine aw_i2l C dX8_sets_11 ?_
    refine aw_lconst C (0 : Int64) dX8_sets_12 (by decide) ?_
    refine aw_ldc2 C kd_X8_240 dX8_sets_13 ?_
    refine aw_cSIp C [.long x1.toInt64, .long (0 : Int64), .long (99 : Int64)] [] (m_X8_in M x1.toInt64 (0 : Int64) (99 : Int64)) t_X8_in km_X8_48 (by decide) rfl rfl (Nat.le_of_ble_eq_true rfl) dX8_sets_16 (fun r2 => ?_)
    refine aw_if_eq C (tgt := 34) dX8_sets_19 (by decide) ?_ ?_
    · refine aw_ldc C kc_X8_58 dX8_sets_34 ?_
      exact aw_iretp C hr dX8_sets_36
    · refine aw_iload_n C dX8_sets_22 rfl ?_
      refine aw_i2l C dX8_sets_23 ?_
      refine aw_lconst C (0 : Int64) dX8_sets_24 (by decide) ?_
      refine aw_ldc2 C kd_X8_56 dX8_sets_25 ?_
      refine aw_cSIp C [.long x2.toInt64, .long (0 : Int64), .long (2 : Int64)] [] (m_X8_in M x2.toInt64 (0 : Int64) (2 : Int64)) t_X8_in km_X8_48 (by decide) rfl rfl (Nat.le_of_ble_eq_true rfl) dX8_sets_28 (fun r3 => ?_)
      refine aw_if_ne C (tgt := 37) dX8_sets_31 (by decide) ?_ ?_
      · refine aw_ldc C kc_X8_58 dX8_sets_34 ?_
        exact aw_iretp C hr dX8_sets_36
      · refine aw_iconst C (1 : Int32) dX8_sets_37 (by decide) ?_
        refine aw_aload_n C dX8_sets_38 rfl ?_
        refine aw_getR C (r := 1) clX8 lo_M_0 0 rfl (by decide) kf_X8_7 dX8_sets_39 ?_
        refine aw_iconst C (1 : Int32) dX8_sets_42 (by decide) ?_
        refine aw_iald C la_M_1 dX8_sets_43 ?_
        refine aw_ishl C dX8_sets_44 ?_
        refine aw_iconst C (1 : Int32) dX8_sets_45 (by decide) ?_
        refine aw_isub C dX8_sets_46 ?_
        refine aw_aload_n C dX8_sets_47 rfl ?_
        refine aw_iconst C (0 : Int32) dX8_sets_48 (by decide) ?_
        refine aw_cVIp C [.int (0 : Int32)] [.int (((1 : Int32) <<< ((M 1 (1 : Int32).toNatClampNeg) &&& 31)) - (1 : Int32))] (m_X8_goneOnes M (0 : Int32)) v_X8_goneOnes km_X8_190 (by decide) lo_M_0 rfl rfl rfl (Nat.le_of_ble_eq_true rfl) dX8_sets_49 (fun r4 => ?_)
        refine aw_iconst C (-1 : Int32) dX8_sets_52 (by decide) ?_
        refine aw_ixor C dX8_sets_53 ?_
        refine aw_iand C dX8_sets_54 ?_
        refine aw_ilet (fun v5 => ?_)
        refine aw_istore_n C [(3, .int v5), (0, .ref 0), (1, .int x1), (2, .int x2)] dX8_sets_55 (by decide) rfl ?_
        refine aw_iconst C (0 : Int32) dX8_sets_56 (by decide) ?_
        refine aw_istore C [(4, .int (0 : Int32)), (3, .int v5), (0, .ref 0), (1, .int x1), (2, .int x2)] dX8_sets_57 (by decide) rfl ?_
        refine aw_iload_n C dX8_sets_59 rfl ?_
        refine aw_istore C [(5, .int v5), (4, .int (0 : Int32)), (3, .int v5), (0, .ref 0), (1, .int x1), (2, .int x2)] dX8_sets_60 (by decide) rfl ?_
        refine aw_iconst C (0 : Int32) dX8_sets_62 (by decide) ?_
        refine aw_istore C [(6, .int (0 : Int32)), (5, .int v5), (4, .int (0 : Int32)), (3, .int v5), (0, .ref 0), (1, .int x1), (2, .int x2)] dX8_sets_63 (by decide) rfl ?_
        refine aw_iconst C (0 : Int32) dX8_sets_65 (by decide) ?_
        refine aw_istore C [(7, .int (0 : Int32)), (6, .int (0 : Int32)), (5, .int v5), (4, .int (0 : Int32)), (3, .int v5), (0, .ref 0), (1, .int x1), (2, .int x2)] dX8_sets_66 (by decide) rfl ?_
        refine aw_sub [5, 6, 7, 4, 3, 2, 1, 0] rfl ?_
        exact m_X8_sets_68 C hr M am_fuel x1 x2 v5 (0 : Int32) v5 (0 : Int32) (0 : Int32)
def X8_share_44 (M : Mem) : Nat → Int32 → Int32 → Int32 → Int32 → Int32 → Int32 → Option (Int32)
  | 0, _, _, _, _, _, _ => none
  | f + 1, x1, x2, x3, x4, x5, x6 =>
    if am_in (1 : Int32) 1092 = true then
      if x6 < (M 1 (1 : Int32).toNatClampNeg) then
        if am_in ((21 : Int32) + x6) 1092 = true then
          if x3 = 0 then none else
          if x6 < x1 then
            if am_in ((21 : Int32) + x6) 1092 = true then
              if 0 < (M 1 ((21 : Int32) + x6).toNatClampNeg) then
                X8_share_44 M f x1 x2 x3 (x4 - ((x2 * (M 1 ((21 : Int32) + x6).toNatClampNeg)) / x3)) (x5 + (1 : Int32)) (x6 + (1 : Int32))
              else
                X8_share_44 M f x1 x2 x3 (x4 - ((x2 * (M 1 ((21 : Int32) + x6).toNatClampNeg)) / x3)) (x5 + (0 : Int32)) (x6 + (1 : Int32))
            else none
          else
            X8_share_44 M f x1 x2 x3 (x4 - ((x2 * (M 1 ((21 : Int32) + x6).toNatClampNeg)) / x3)) (x5 + (0 : Int32)) (x6 + (1 : Int32))
        else none
      else
        if am_in ((21 : Int32) + x1) 1092 = true then
          if x3 = 0 then none else
          if am_in ((21 : Int32) + x1) 1092 = true then
            if 0 < (M 1 ((21 : Int32) + x1).toNatClampNeg) then
              if x5 < x4 then
                some (((x2 * (M 1 ((21 : Int32) + x1).toNatClampNeg)) / x3) + (1 : Int32))
              else
                some (((x2 * (M 1 ((21 : Int32) + x1).toNatClampNeg)) / x3) + (0 : Int32))
            else
              some (((x2 * (M 1 ((21 : Int32) + x1).toNatClampNeg)) / x3) + (0 : Int32))
          else none
        else none
    else none
def X8_share (M : Mem) (x1 : Int32) (x2 : Int32)  : Option (Int32) :=
  Option.bind (X8_isOne M x1) fun r1 =>
  if r1 = 0 then
    some (-1000001 : Int32)
  else
    Option.bind (X8_in x2.toInt64 (0 : Int64) (999 : Int64)) fun r2 =>
    if r2 = 0 then
      some (-1000001 : Int32)
    else
      Option.bind (X8_allSaw M (0 : Int32)) fun r3 =>
      if r3 = 0 then
        some (0 : Int32)
      else
        X8_share_44 M am_fuel x1 x2 r3 x2 (0 : Int32) (0 : Int32)
theorem m_X8_share_44 {E : amE} (C : amC E 3 cX8_share 7 RX8) (hr : (eH E).sig.returnType = (some .int)) (M : Mem) : ∀ (f : Nat) (x1 : Int32) (x2 : Int32) (x3 : Int32) (x4 : Int32) (x5 : Int32) (x6 : Int32), AW E lyM 7 (qIp lyM M) (X8_share_44 M f x1 x2 x3 x4 x5 x6) 44 [(0, .ref 0), (1, .int x1), (2, .int x2), (3, .int x3), (4, .int x4), (5, .int x5), (6, .int x6)] [] M := by
  intro f
  induction f with
  | zero => exact (fun _ _ _ _ _ _ => aw_none)
  | succ f ih =>
    intro x1 x2 x3 x4 x5 x6
    rw [X8_share_44]
    refine aw_iload C dX8_share_44 rfl ?_
    refine aw_aload_n C dX8_share_46 rfl ?_
    refine aw_getR C (r := 1) clX8 lo_M_0 0 rfl (by decide) kf_X8_7 dX8_share_47 ?_
    refine aw_iconst C (1 : Int32) dX8_share_50 (by decide) ?_
    refine aw_iald C la_M_1 dX8_share_51 ?_
    refine aw_icmp_ge C (tgt := 109) dX8_share_52 (by decide) ?_ ?_
    · refine aw_iload C dX8_share_55 rfl ?_
      refine aw_iload_n C dX8_share_57 rfl ?_
      refine aw_aload_n C dX8_share_58 rfl ?_
      refine aw_getR C (r := 1) clX8 lo_M_0 0 rfl (by decide) kf_X8_7 dX8_share_59 ?_
      refine aw_bipush C (21 : Int32) dX8_share_62 (by decide) ?_
      refine aw_iload C dX8_share_64 rfl ?_
      refine aw_iadd C dX8_share_66 ?_
      refine aw_iald C la_M_1 dX8_share_67 ?_
      refine aw_imul C dX8_share_68 ?_
      refine aw_iload_n C dX8_share_69 rfl ?_
      refine aw_idiv C dX8_share_70 ?_
      refine aw_isub C dX8_share_71 ?_
      refine aw_istore C [(4, .int (x4 - ((x2 * (M 1 ((21 : Int32) + x6).toNatClampNeg)) / x3))), (0, .ref 0), (1, .int x1), (2, .int x2), (3, .int x3), (5, .int x5), (6, .int x6)] dX8_share_72 (by decide) rfl ?_
      refine aw_iload C dX8_share_74 rfl ?_
      refine aw_iload C dX8_share_76 rfl ?_
      refine aw_iload_n C dX8_share_78 rfl ?_
      refine aw_icmp_ge C (tgt := 99) dX8_share_79 (by decide) ?_ ?_
      · refine aw_aload_n C dX8_share_82 rfl ?_
        refine aw_getR C (r := 1) clX8 lo_M_0 0 rfl (by decide) kf_X8_7 dX8_share_83 ?_
        refine aw_bipush C (21 : Int32) dX8_share_86 (by decide) ?_
        refine aw_iload C dX8_share_88 rfl ?_
        refine aw_iadd C dX8_share_90 ?_
        refine aw_iald C la_M_1 dX8_share_91 ?_
        refine aw_if_le C (tgt := 99) dX8_share_92 (by decide) ?_ ?_
        · refine aw_iconst C (1 : Int32) dX8_share_95 (by decide) ?_
          refine aw_goto C (tgt := 100) dX8_share_96 (by decide) ?_
          refine aw_iadd C dX8_share_100 ?_
          refine aw_istore C [(5, .int (x5 + (1 : Int32))), (4, .int (x4 - ((x2 * (M 1 ((21 : Int32) + x6).toNatClampNeg)) / x3))), (0, .ref 0), (1, .int x1), (2, .int x2), (3, .int x3), (6, .int x6)] dX8_share_101 (by decide) rfl ?_
          refine aw_iinc C (v := (1 : Int32)) [(6, .int (x6 + (1 : Int32))), (5, .int (x5 + (1 : Int32))), (4, .int (x4 - ((x2 * (M 1 ((21 : Int32) + x6).toNatClampNeg)) / x3))), (0, .ref 0), (1, .int x1), (2, .int x2), (3, .int x3)] dX8_share_103 rfl (by decide) (by decide) rfl ?_
          refine aw_goto C (tgt := 44) dX8_share_106 (by decide) ?_
          refine aw_sub [3, 4, 5, 6, 2, 1, 0] rfl ?_
          exact ih x1 x2 x3 (x4 - ((x2 * (M 1 ((21 : Int32) + x6).toNatClampNeg)) / x3)) (x5 + (1 : Int32)) (x6 + (1 : Int32))
        · refine aw_iconst C (0 : Int32) dX8_share_99 (by decide) ?_
          refine aw_iadd C dX8_share_100 ?_
          refine aw_istore C [(5, .int (x5 + (0 : Int32))), (4, .int (x4 - ((x2 * (M 1 ((21 : Int32) + x6).toNatClampNeg)) / x3))), (0, .ref 0), (1, .int x1), (2, .int x2), (3, .int x3), (6, .int x6)] dX8_share_101 (by decide) rfl ?_
          refine aw_iinc C (v := (1 : Int32)) [(6, .int (x6 + (1 : Int32))), (5, .int (x5 + (0 : Int32))), (4, .int (x4 - ((x2 * (M 1 ((21 : Int32) + x6).toNatClampNeg)) / x3))), (0, .ref 0), (1, .int x1), (2, .int x2), (3, .int x3)] dX8_share_103 rfl (by decide) (by decide) rfl ?_
          refine aw_goto C (tgt := 44) dX8_share_106 (by decide) ?_
          refine aw_sub [3, 4, 5, 6, 2, 1, 0] rfl ?_
          exact ih x1 x2 x3 (x4 - ((x2 * (M 1 ((21 : Int32) + x6).toNatClampNeg)) / x3)) (x5 + (0 : Int32)) (x6 + (1 : Int32))
      · refine aw_iconst C (0 : Int32) dX8_share_99 (by decide) ?_
        refine aw_iadd C dX8_share_100 ?_
        refine aw_istore C [(5, .int (x5 + (0 : Int32))), (4, .int (x4 - ((x2 * (M 1 ((21 : Int32) + x6).toNatClampNeg)) / x3))), (0, .ref 0), (1, .int x1), (2, .int x2), (3, .int x3), (6, .int x6)] dX8_share_101 (by decide) rfl ?_
        refine aw_iinc C (v := (1 : Int32)) [(6, .int (x6 + (1 : Int32))), (5, .int (x5 + (0 : Int32))), (4, .int (x4 - ((x2 * (M 1 ((21 : Int32) + x6).toNatClampNeg)) / x3))), (0, .ref 0), (1, .int x1), (2, .int x2), (3, .int x3)] dX8_share_103 rfl (by decide) (by decide) rfl ?_
        refine aw_goto C (tgt := 44) dX8_share_106 (by decide) ?_
        refine aw_sub [3, 4, 5, 6, 2, 1, 0] rfl ?_
        exact ih x1 x2 x3 (x4 - ((x2 * (M 1 ((21 : Int32) + x6).toNatClampNeg)) / x3)) (x5 + (0 : Int32)) (x6 + (1 : Int32))
    · refine aw_iload_n C dX8_share_109 rfl ?_
      refine aw_aload_n C dX8_share_110 rfl ?_
      refine aw_getR C (r := 1) clX8 lo_M_0 0 rfl (by decide) kf_X8_7 dX8_share_111 ?_
      refine aw_bipush C (21 : Int32) dX8_share_114 (by decide) ?_
      refine aw_iload_n C dX8_share_116 rfl ?_
      refine aw_iadd C dX8_share_117 ?_
      refine aw_iald C la_M_1 dX8_share_118 ?_
      refine aw_imul C dX8_share_119 ?_
      refine aw_iload_n C dX8_share_120 rfl ?_
      refine aw_idiv C dX8_share_121 ?_
      refine aw_aload_n C dX8_share_122 rfl ?_
      refine aw_getR C (r := 1) clX8 lo_M_0 0 rfl (by decide) kf_X8_7 dX8_share_123 ?_
      refine aw_bipush C (21 : Int32) dX8_share_126 (by decide) ?_
      refine aw_iload_n C dX8_share_128 rfl ?_
      refine aw_iadd C dX8_share_129 ?_
      refine aw_iald C la_M_1 dX8_share_130 ?_
      refine aw_if_le C (tgt := 145) dX8_share_131 (by decide) ?_ ?_
      · refine aw_iload C dX8_share_134 rfl ?_
        refine aw_iload C dX8_share_136 rfl ?_
        refine aw_icmp_ge C (tgt := 145) dX8_share_138 (by decide) ?_ ?_
        · refine aw_iconst C (1 : Int32) dX8_share_141 (by decide) ?_
          refine aw_goto C (tgt := 146) dX8_share_142 (by decide) ?_
          refine aw_iadd C dX8_share_146 ?_
          exact aw_iretp C hr dX8_share_147
        · refine aw_iconst C (0 : Int32) dX8_share_145 (by decide) ?_
          refine aw_iadd C dX8_share_146 ?_
          exact aw_iretp C hr dX8_share_147
      · refine aw_iconst C (0 : Int32) dX8_share_145 (by decide) ?_
        refine aw_iadd C dX8_share_146 ?_
        exact aw_iretp C hr dX8_share_147
theorem m_X8_share  (M : Mem) (x1 : Int32) (x2 : Int32)  : AMet 3 yX8_share cX8_share 7 (some .int) lyM [.ref 0, .int x1, .int x2] M (qIp lyM M) (X8_share M x1 x2) := by
  refine am_ent pn_X8 (Nat.le_of_ble_eq_true rfl) (fun E C hr => ?_)
  refine aw_lv (lv' := [(0, .ref 0), (1, .int x1), (2, .int x2)]) rfl ?_
  unfold X8_share
  refine aw_aload_n C dX8_share_0 rfl ?_
  refine aw_iload_n C dX8_share_1 rfl ?_
  refine aw_cVIp C [.int x1] [] (m_X8_isOne M x1) v_X8_isOne km_X8_193 (by decide) lo_M_0 rfl rfl rfl (Nat.le_of_ble_eq_true rfl) dX8_share_2 (fun r1 => ?_)
  refine aw_if_eq C (tgt := 20) dX8_share_5 (by decide) ?_ ?_
  · refine aw_ldc C kc_X8_58 dX8_share_20 ?_
    exact aw_iretp C hr dX8_share_22
  · refine aw_iload_n C dX8_share_8 rfl ?_
    refine aw_i2l C dX8_share_9 ?_
    refine aw_lconst C (0 : Int64) dX8_share_10 (by decide) ?_
    refine aw_ldc2 C kd_X8_245 dX8_share_11 ?_
    refine aw_cSIp C [.long x2.toInt64, .long (0 : Int64), .long (999 : Int64)] [] (m_X8_in M x2.toInt64 (0 : Int64) (999 : Int64)) t_X8_in km_X8_48 (by decide) rfl rfl (Nat.le_of_ble_eq_true rfl) dX8_share_14 (fun r2 => ?_)
    refine aw_if_ne C (tgt := 23) dX8_share_17 (by decide) ?_ ?_
    · refine aw_ldc C kc_X8_58 dX8_share_20 ?_
      exact aw_iretp C hr dX8_share_22
    · refine aw_aload_n C dX8_share_23 rfl ?_
      refine aw_iconst C (0 : Int32) dX8_share_24 (by decide) ?_
      refine aw_cVIp C [.int (0 : Int32)] [] (m_X8_allSaw M (0 : Int32)) v_X8_allSaw km_X8_234 (by decide) lo_M_0 rfl rfl rfl (Nat.le_of_ble_eq_true rfl) dX8_share_25 (fun r3 => ?_)
      refine aw_istore_n C [(3, .int r3), (0, .ref 0), (1, .int x1), (2, .int x2)] dX8_share_28 (by decide) rfl ?_
      refine aw_iload_n C dX8_share_29 rfl ?_
      refine aw_if_ne C (tgt := 35) dX8_share_30 (by decide) ?_ ?_
      · refine aw_iconst C (0 : Int32) dX8_share_33 (by decide) ?_
        exact aw_iretp C hr dX8_share_34
      · refine aw_iload_n C dX8_share_35 rfl ?_
        refine aw_istore C [(4, .int x2), (3, .int r3), (0, .ref 0), (1, .int x1), (2, .int x2)] dX8_share_36 (by decide) rfl ?_
        refine aw_iconst C (0 : Int32) dX8_share_38 (by decide) ?_
        refine aw_istore C [(5, .int (0 : Int32)), (4, .int x2), (3, .int r3), (0, .ref 0), (1, .int x1), (2, .int x2)] dX8_share_39 (by decide) rfl ?_
        refine aw_iconst C (0 : Int32) dX8_share_41 (by decide) ?_
        refine aw_istore C [(6, .int (0 : Int32)), (5, .int (0 : Int32)), (4, .int x2), (3, .int r3), (0, .ref 0), (1, .int x1), (2, .int x2)] dX8_share_42 (by decide) rfl ?_
        refine aw_sub [4, 5, 6, 3, 2, 1, 0] rfl ?_
        exact m_X8_share_44 C hr M am_fuel x1 x2 r3 x2 (0 : Int32) (0 : Int32)
def X8_byTurns_53 (K39 : Int32 → Int32 → Int32 → Mem → Option (Int32 × Mem)) : Nat → Int32 → Int32 → Int32 → Int32 → Mem → Option (Int32 × Mem)
  | 0, _, _, _, _, _ => none
  | f + 1, x1, x2, x3, x4, M =>
    if x4 < x1 then
      Option.bind (X8_has x3 ((x1 - (1 : Int32)) - x4)) fun r1 =>
      if r1 = 0 then
        X8_byTurns_53 K39 f x1 x2 x3 (x4 + (1 : Int32)) M
      else
        if (2 : Int32) = 0 then none else
        if (x4 - x4 / (2 : Int32) * (2 : Int32)) = 0 then
          Option.bind (X8_turns (1053 : Int32) (1 : Int32) M) fun M2 =>
          X8_byTurns_53 K39 f x1 x2 x3 (x4 + (1 : Int32)) M2
        else
          Option.bind (X8_turns (1053 : Int32) (-1 : Int32) M) fun M3 =>
          X8_byTurns_53 K39 f x1 x2 x3 (x4 + (1 : Int32)) M3
    else
      Option.bind (X8_ticksOf (1053 : Int32) x2 M) fun M4 =>
      Option.bind (X8_goneOnes M4 (1053 : Int32)) fun r5 =>
      Option.bind (X8_bits r5) fun r6 =>
      if am_in x3 16 = true then
        am_let (mset M4 10 (upd (M4 10) x3.toNatClampNeg r6)) fun M7 =>
        K39 x1 x2 (x3 + (1 : Int32)) M7
      else none
def X8_byTurns_195 (K131 : Int32 → Mem → Option (Int32 × Mem)) (K138 : Int32 → Int32 → Mem → Option (Int32 × Mem)) (x3 : Int32) (x4 : Int32) (s0 : Int32) (s1 : Int32) (s2 : Int32) (M : Mem) : Option (Int32 × Mem) :=
  if s1 = s0 then
    if am_in (((2 : Int32) * x4) + (1 : Int32)) 16 = true then
      if am_in s2 16 = true then
        am_let (mset M 10 (upd (M 10) s2.toNatClampNeg (M 10 (((2 : Int32) * x4) + (1 : Int32)).toNatClampNeg))) fun M1 =>
        K138 x3 (x4 + (1 : Int32)) M1
      else none
    else none
  else
    if am_in ((2 : Int32) * x4) 16 = true then
      if am_in s2 16 = true then
        am_let (mset M 10 (upd (M 10) s2.toNatClampNeg (M 10 ((2 : Int32) * x4).toNatClampNeg))) fun M2 =>
        K138 x3 (x4 + (1 : Int32)) M2
      else none
    else none
def X8_byTurns_138 (K131 : Int32 → Mem → Option (Int32 × Mem)) : Nat → Int32 → Int32 → Mem → Option (Int32 × Mem)
  | 0, _, _, _ => none
  | f + 1, x3, x4, M =>
    if x4 < ((1 : Int32) <<< (x3 &&& 31)) then
      if am_in (((2 : Int32) * x4) + (1 : Int32)) 16 = true then
        if am_in ((2 : Int32) * x4) 16 = true then
          if (M 10 ((2 : Int32) * x4).toNatClampNeg) < (M 10 (((2 : Int32) * x4) + (1 : Int32)).toNatClampNeg) then
            if (2 : Int32) = 0 then none else
            if (x3 - x3 / (2 : Int32) * (2 : Int32)) = 0 then
              X8_byTurns_195 K131 (X8_byTurns_138 K131 f) x3 x4 (1 : Int32) (1 : Int32) x4 M
            else
              X8_byTurns_195 K131 (X8_byTurns_138 K131 f) x3 x4 (0 : Int32) (1 : Int32) x4 M
          else
            if (2 : Int32) = 0 then none else
            if (x3 - x3 / (2 : Int32) * (2 : Int32)) = 0 then
              X8_byTurns_195 K131 (X8_byTurns_138 K131 f) x3 x4 (1 : Int32) (0 : Int32) x4 M
            else
              X8_byTurns_195 K131 (X8_byTurns_138 K131 f) x3 x4 (0 : Int32) (0 : Int32) x4 M
        else none
      else none
    else
      K131 (x3 + (-1 : Int32)) M
def X8_byTurns_131  : Nat → Int32 → Mem → Option (Int32 × Mem)
  | 0, _, _ => none
  | f + 1, x3, M =>
    if x3 < 0 then
      if am_in (0 : Int32) 16 = true then
        some (M 10 (0 : Int32).toNatClampNeg, M)
      else none
    else
      X8_byTurns_138 (X8_byTurns_131  f) am_fuel x3 (0 : Int32) M
def X8_byTurns_39  : Nat → Int32 → Int32 → Int32 → Mem → Option (Int32 × Mem)
  | 0, _, _, _, _ => none
  | f + 1, x1, x2, x3, M =>
    if x3 < ((1 : Int32) <<< (x1 &&& 31)) then
      Option.bind (X8_layTried M) fun M1 =>
      X8_byTurns_53 (X8_byTurns_39  f) am_fuel x1 x2 x3 (0 : Int32) M1
    else
      X8_byTurns_131 am_fuel (x1 - (1 : Int32)) M
def X8_byTurns  (x1 : Int32) (x2 : Int32) (M : Mem) : Option (Int32 × Mem) :=
  Option.bind (X8_isHall M) fun r1 =>
  if r1 = 0 then
    some ((-1000002 : Int32), M)
  else
    Option.bind (X8_in x1.toInt64 (0 : Int64) (4 : Int64)) fun r2 =>
    if r2 = 0 then
      some ((-1000001 : Int32), M)
    else
      Option.bind (X8_in x2.toInt64 (1 : Int64) (20 : Int64)) fun r3 =>
      if r3 = 0 then
        some ((-1000001 : Int32), M)
      else
        X8_byTurns_39 am_fuel x1 x2 (0 : Int32) M
theorem m_X8_byTurns_53 {E : amE} (C : amC E 6 cX8_byTurns 6 RX8) (hr : (eH E).sig.returnType = (some .int)) (K39 : Int32 → Int32 → Int32 → Mem → Option (Int32 × Mem)) (hK39 : ∀ (x1 : Int32) (x2 : Int32) (x3 : Int32) (M : Mem), AW E lyM 6 (qI lyM) (K39 x1 x2 x3 M) 39 [(0, .ref 0), (1, .int x1), (2, .int x2), (3, .int x3)] [] M) : ∀ (f : Nat) (x1 : Int32) (x2 : Int32) (x3 : Int32) (x4 : Int32) (M : Mem), AW E lyM 6 (qI lyM) (X8_byTurns_53 K39 f x1 x2 x3 x4 M) 53 [(0, .ref 0), (1, .int x1), (2, .int x2), (3, .int x3), (4, .int x4)] [] M := by
  intro f
  induction f with
  | zero => exact (fun _ _ _ _ _ => aw_none)
  | succ f ih =>
    intro x1 x2 x3 x4 M
    rw [X8_byTurns_53]
    refine aw_iload C dX8_byTurns_53 rfl ?_
    refine aw_iload_n C dX8_byTurns_55 rfl ?_
    refine aw_icmp_ge C (tgt := 97) dX8_byTurns_56 (by decide) ?_ ?_
    · refine aw_iload_n C dX8_byTurns_59 rfl ?_
      refine aw_iload_n C dX8_byTurns_60 rfl ?_
      refine aw_iconst C (1 : Int32) dX8_byTurns_61 (by decide) ?_
      refine aw_isub C dX8_byTurns_62 ?_
      refine aw_iload C dX8_byTurns_63 rfl ?_
      refine aw_isub C dX8_byTurns_65 ?_
      refine aw_cSIp C [.int x3, .int ((x1 - (1 : Int32)) - x4)] [] (m_X8_has M x3 ((x1 - (1 : Int32)) - x4)) t_X8_has km_X8_150 (by decide) rfl rfl (Nat.le_of_ble_eq_true rfl) dX8_byTurns_66 (fun r1 => ?_)
      refine aw_if_eq C (tgt := 91) dX8_byTurns_69 (by decide) ?_ ?_
      · refine aw_iinc C (v := (1 : Int32)) [(4, .int (x4 + (1 : Int32))), (0, .ref 0), (1, .int x1), (2, .int x2), (3, .int x3)] dX8_byTurns_91 rfl (by decide) (by decide) rfl ?_
        refine aw_goto C (tgt := 53) dX8_byTurns_94 (by decide) ?_
        refine aw_sub [1, 2, 3, 4, 0] rfl ?_
        exact ih x1 x2 x3 (x4 + (1 : Int32)) M
      · refine aw_aload_n C dX8_byTurns_72 rfl ?_
        refine aw_sipush C (1053 : Int32) dX8_byTurns_73 (by decide) ?_
        refine aw_iload C dX8_byTurns_76 rfl ?_
        refine aw_iconst C (2 : Int32) dX8_byTurns_78 (by decide) ?_
        refine aw_irem C dX8_byTurns_79 ?_
        refine aw_if_ne C (tgt := 87) dX8_byTurns_80 (by decide) ?_ ?_
        · refine aw_iconst C (1 : Int32) dX8_byTurns_83 (by decide) ?_
          refine aw_goto C (tgt := 88) dX8_byTurns_84 (by decide) ?_
          refine aw_cVV C [.int (1053 : Int32), .int (1 : Int32)] [] (m_X8_turns (1053 : Int32) (1 : Int32) M) v_X8_turns km_X8_162 (by decide) lo_M_0 rfl rfl rfl (Nat.le_of_ble_eq_true rfl) dX8_byTurns_88 (fun M2 => ?_)
          refine aw_iinc C (v := (1 : Int32)) [(4, .int (x4 + (1 : Int32))), (0, .ref 0), (1, .int x1), (2, .int x2), (3, .int x3)] dX8_byTurns_91 rfl (by decide) (by decide) rfl ?_
          refine aw_goto C (tgt := 53) dX8_byTurns_94 (by decide) ?_
          refine aw_sub [1, 2, 3, 4, 0] rfl ?_
          exact ih x1 x2 x3 (x4 + (1 : Int32)) M2
        · refine aw_iconst C (-1 : Int32) dX8_byTurns_87 (by decide) ?_
          refine aw_cVV C [.int (1053 : Int32), .int (-1 : Int32)] [] (m_X8_turns (1053 : Int32) (-1 : Int32) M) v_X8_turns km_X8_162 (by decide) lo_M_0 rfl rfl rfl (Nat.le_of_ble_eq_true rfl) dX8_byTurns_88 (fun M3 => ?_)
          refine aw_iinc C (v := (1 : Int32)) [(4, .int (x4 + (1 : Int32))), (0, .ref 0), (1, .int x1), (2, .int x2), (3, .int x3)] dX8_byTurns_91 rfl (by decide) (by decide) rfl ?_
          refine aw_goto C (tgt := 53) dX8_byTurns_94 (by decide) ?_
          refine aw_sub [1, 2, 3, 4, 0] rfl ?_
          exact ih x1 x2 x3 (x4 + (1 : Int32)) M3
    · refine aw_aload_n C dX8_byTurns_97 rfl ?_
      refine aw_sipush C (1053 : Int32) dX8_byTurns_98 (by decide) ?_
      refine aw_iload_n C dX8_byTurns_101 rfl ?_
      refine aw_cVV C [.int (1053 : Int32), .int x2] [] (m_X8_ticksOf (1053 : Int32) x2 M) v_X8_ticksOf km_X8_187 (by decide) lo_M_0 rfl rfl rfl (Nat.le_of_ble_eq_true rfl) dX8_byTurns_102 (fun M4 => ?_)
      refine aw_aload_n C dX8_byTurns_105 rfl ?_
      refine aw_getR C (r := 10) clX8 lo_M_0 20 rfl (by decide) kf_X8_38 dX8_byTurns_106 ?_
      refine aw_iload_n C dX8_byTurns_109 rfl ?_
      refine aw_aload_n C dX8_byTurns_110 rfl ?_
      refine aw_sipush C (1053 : Int32) dX8_byTurns_111 (by decide) ?_
      refine aw_cVIp C [.int (1053 : Int32)] [.int x3, .ref 10] (m_X8_goneOnes M4 (1053 : Int32)) v_X8_goneOnes km_X8_190 (by decide) lo_M_0 rfl rfl rfl (Nat.le_of_ble_eq_true rfl) dX8_byTurns_114 (fun r5 => ?_)
      refine aw_cSIp C [.int r5] [.int x3, .ref 10] (m_X8_bits M4 r5) t_X8_bits km_X8_207 (by decide) rfl rfl (Nat.le_of_ble_eq_true rfl) dX8_byTurns_117 (fun r6 => ?_)
      refine aw_iast C la_M_10 dX8_byTurns_120 ?_
      refine aw_mlet (fun M7 => ?_)
      refine aw_iinc C (v := (1 : Int32)) [(3, .int (x3 + (1 : Int32))), (0, .ref 0), (1, .int x1), (2, .int x2), (4, .int x4)] dX8_byTurns_121 rfl (by decide) (by decide) rfl ?_
      refine aw_goto C (tgt := 39) dX8_byTurns_124 (by decide) ?_
      refine aw_sub [1, 2, 3, 0] rfl ?_
      exact hK39 x1 x2 (x3 + (1 : Int32)) M7
theorem m_X8_byTurns_195 {E : amE} (C : amC E 6 cX8_byTurns 6 RX8) (hr : (eH E).sig.returnType = (some .int)) (K131 : Int32 → Mem → Option (Int32 × Mem)) (hK131 : ∀ (x3 : Int32) (M : Mem), AW E lyM 6 (qI lyM) (K131 x3 M) 131 [(0, .ref 0), (3, .int x3)] [] M) (K138 : Int32 → Int32 → Mem → Option (Int32 × Mem)) (hK138 : ∀ (x3 : Int32) (x4 : Int32) (M : Mem), AW E lyM 6 (qI lyM) (K138 x3 x4 M) 138 [(0, .ref 0), (3, .int x3), (4, .int x4)] [] M) (x3 : Int32) (x4 : Int32) (s0 : Int32) (s1 : Int32) (s2 : Int32) (M : Mem) : AW E lyM 6 (qI lyM) (X8_byTurns_195 K131 K138 x3 x4 s0 s1 s2 M) 195 [(0, .ref 0), (3, .int x3), (4, .int x4)] [.int s0, .int s1, .int s2, .ref 10] M := by
  unfold X8_byTurns_195
  refine aw_icmp_ne C (tgt := 212) dX8_byTurns_195 (by decide) ?_ ?_
  · refine aw_aload_n C dX8_byTurns_198 rfl ?_
    refine aw_getR C (r := 10) clX8 lo_M_0 20 rfl (by decide) kf_X8_38 dX8_byTurns_199 ?_
    refine aw_iconst C (2 : Int32) dX8_byTurns_202 (by decide) ?_
    refine aw_iload C dX8_byTurns_203 rfl ?_
    refine aw_imul C dX8_byTurns_205 ?_
    refine aw_iconst C (1 : Int32) dX8_byTurns_206 (by decide) ?_
    refine aw_iadd C dX8_byTurns_207 ?_
    refine aw_iald C la_M_10 dX8_byTurns_208 ?_
    refine aw_goto C (tgt := 221) dX8_byTurns_209 (by decide) ?_
    refine aw_iast C la_M_10 dX8_byTurns_221 ?_
    refine aw_mlet (fun M1 => ?_)
    refine aw_iinc C (v := (1 : Int32)) [(4, .int (x4 + (1 : Int32))), (0, .ref 0), (3, .int x3)] dX8_byTurns_222 rfl (by decide) (by decide) rfl ?_
    refine aw_goto C (tgt := 138) dX8_byTurns_225 (by decide) ?_
    refine aw_sub [1, 2, 0] rfl ?_
    exact hK138 x3 (x4 + (1 : Int32)) M1
  · refine aw_aload_n C dX8_byTurns_212 rfl ?_
    refine aw_getR C (r := 10) clX8 lo_M_0 20 rfl (by decide) kf_X8_38 dX8_byTurns_213 ?_
    refine aw_iconst C (2 : Int32) dX8_byTurns_216 (by decide) ?_
    refine aw_iload C dX8_byTurns_217 rfl ?_
    refine aw_imul C dX8_byTurns_219 ?_
    refine aw_iald C la_M_10 dX8_byTurns_220 ?_
    refine aw_iast C la_M_10 dX8_byTurns_221 ?_
    refine aw_mlet (fun M2 => ?_)
    refine aw_iinc C (v := (1 : Int32)) [(4, .int (x4 + (1 : Int32))), (0, .ref 0), (3, .int x3)] dX8_byTurns_222 rfl (by decide) (by decide) rfl ?_
    refine aw_goto C (tgt := 138) dX8_byTurns_225 (by decide) ?_
    refine aw_sub [1, 2, 0] rfl ?_
    exact hK138 x3 (x4 + (1 : Int32)) M2
theorem m_X8_byTurns_138 {E : amE} (C : amC E 6 cX8_byTurns 6 RX8) (hr : (eH E).sig.returnType = (some .int)) (K131 : Int32 → Mem → Option (Int32 × Mem)) (hK131 : ∀ (x3 : Int32) (M : Mem), AW E lyM 6 (qI lyM) (K131 x3 M) 131 [(0, .ref 0), (3, .int x3)] [] M) : ∀ (f : Nat) (x3 : Int32) (x4 : Int32) (M : Mem), AW E lyM 6 (qI lyM) (X8_byTurns_138 K131 f x3 x4 M) 138 [(0, .ref 0), (3, .int x3), (4, .int x4)] [] M := by
  intro f
  induction f with
  | zero => exact (fun _ _ _ => aw_none)
  | succ f ih =>
    intro x3 x4 M
    rw [X8_byTurns_138]
    refine aw_iload C dX8_byTurns_138 rfl ?_
    refine aw_iconst C (1 : Int32) dX8_byTurns_140 (by decide) ?_
    refine aw_iload_n C dX8_byTurns_141 rfl ?_
    refine aw_ishl C dX8_byTurns_142 ?_
    refine aw_icmp_ge C (tgt := 228) dX8_byTurns_143 (by decide) ?_ ?_
    · refine aw_aload_n C dX8_byTurns_146 rfl ?_
      refine aw_getR C (r := 10) clX8 lo_M_0 20 rfl (by decide) kf_X8_38 dX8_byTurns_147 ?_
      refine aw_iconst C (2 : Int32) dX8_byTurns_150 (by decide) ?_
      refine aw_iload C dX8_byTurns_151 rfl ?_
      refine aw_imul C dX8_byTurns_153 ?_
      refine aw_iconst C (1 : Int32) dX8_byTurns_154 (by decide) ?_
      refine aw_iadd C dX8_byTurns_155 ?_
      refine aw_iald C la_M_10 dX8_byTurns_156 ?_
      refine aw_aload_n C dX8_byTurns_157 rfl ?_
      refine aw_getR C (r := 10) clX8 lo_M_0 20 rfl (by decide) kf_X8_38 dX8_byTurns_158 ?_
      refine aw_iconst C (2 : Int32) dX8_byTurns_161 (by decide) ?_
      refine aw_iload C dX8_byTurns_162 rfl ?_
      refine aw_imul C dX8_byTurns_164 ?_
      refine aw_iald C la_M_10 dX8_byTurns_165 ?_
      refine aw_icmp_le C (tgt := 173) dX8_byTurns_166 (by decide) ?_ ?_
      · refine aw_iconst C (1 : Int32) dX8_byTurns_169 (by decide) ?_
        refine aw_goto C (tgt := 174) dX8_byTurns_170 (by decide) ?_
        refine aw_istore C [(5, .int (1 : Int32)), (0, .ref 0), (3, .int x3), (4, .int x4)] dX8_byTurns_174 (by decide) rfl ?_
        refine aw_aload_n C dX8_byTurns_176 rfl ?_
        refine aw_getR C (r := 10) clX8 lo_M_0 20 rfl (by decide) kf_X8_38 dX8_byTurns_177 ?_
        refine aw_iload C dX8_byTurns_180 rfl ?_
        refine aw_iload C dX8_byTurns_182 rfl ?_
        refine aw_iload_n C dX8_byTurns_184 rfl ?_
        refine aw_iconst C (2 : Int32) dX8_byTurns_185 (by decide) ?_
        refine aw_irem C dX8_byTurns_186 ?_
        refine aw_if_ne C (tgt := 194) dX8_byTurns_187 (by decide) ?_ ?_
        · refine aw_iconst C (1 : Int32) dX8_byTurns_190 (by decide) ?_
          refine aw_goto C (tgt := 195) dX8_byTurns_191 (by decide) ?_
          refine aw_sub [1, 2, 3] rfl ?_
          exact m_X8_byTurns_195 C hr K131 hK131 (X8_byTurns_138 K131 f) ih x3 x4 (1 : Int32) (1 : Int32) x4 M
        · refine aw_iconst C (0 : Int32) dX8_byTurns_194 (by decide) ?_
          refine aw_sub [1, 2, 3] rfl ?_
          exact m_X8_byTurns_195 C hr K131 hK131 (X8_byTurns_138 K131 f) ih x3 x4 (0 : Int32) (1 : Int32) x4 M
      · refine aw_iconst C (0 : Int32) dX8_byTurns_173 (by decide) ?_
        refine aw_istore C [(5, .int (0 : Int32)), (0, .ref 0), (3, .int x3), (4, .int x4)] dX8_byTurns_174 (by decide) rfl ?_
        refine aw_aload_n C dX8_byTurns_176 rfl ?_
        refine aw_getR C (r := 10) clX8 lo_M_0 20 rfl (by decide) kf_X8_38 dX8_byTurns_177 ?_
        refine aw_iload C dX8_byTurns_180 rfl ?_
        refine aw_iload C dX8_byTurns_182 rfl ?_
        refine aw_iload_n C dX8_byTurns_184 rfl ?_
        refine aw_iconst C (2 : Int32) dX8_byTurns_185 (by decide) ?_
        refine aw_irem C dX8_byTurns_186 ?_
        refine aw_if_ne C (tgt := 194) dX8_byTurns_187 (by decide) ?_ ?_
        · refine aw_iconst C (1 : Int32) dX8_byTurns_190 (by decide) ?_
          refine aw_goto C (tgt := 195) dX8_byTurns_191 (by decide) ?_
          refine aw_sub [1, 2, 3] rfl ?_
          exact m_X8_byTurns_195 C hr K131 hK131 (X8_byTurns_138 K131 f) ih x3 x4 (1 : Int32) (0 : Int32) x4 M
        · refine aw_iconst C (0 : Int32) dX8_byTurns_194 (by decide) ?_
          refine aw_sub [1, 2, 3] rfl ?_
          exact m_X8_byTurns_195 C hr K131 hK131 (X8_byTurns_138 K131 f) ih x3 x4 (0 : Int32) (0 : Int32) x4 M
    · refine aw_iinc C (v := (-1 : Int32)) [(3, .int (x3 + (-1 : Int32))), (0, .ref 0), (4, .int x4)] dX8_byTurns_228 rfl (by decide) (by decide) rfl ?_
      refine aw_goto C (tgt := 131) dX8_byTurns_231 (by decide) ?_
      refine aw_sub [1, 0] rfl ?_
      exact hK131 (x3 + (-1 : Int32)) M
theorem m_X8_byTurns_131 {E : amE} (C : amC E 6 cX8_byTurns 6 RX8) (hr : (eH E).sig.returnType = (some .int))  : ∀ (f : Nat) (x3 : Int32) (M : Mem), AW E lyM 6 (qI lyM) (X8_byTurns_131 f x3 M) 131 [(0, .ref 0), (3, .int x3)] [] M := by
  intro f
  induction f with
  | zero => exact (fun _ _ => aw_none)
  | succ f ih =>
    intro x3 M
    rw [X8_byTurns_131]
    refine aw_iload_n C dX8_byTurns_131 rfl ?_
    refine aw_if_lt C (tgt := 234) dX8_byTurns_132 (by decide) ?_ ?_
    · refine aw_aload_n C dX8_byTurns_234 rfl ?_
      refine aw_getR C (r := 10) clX8 lo_M_0 20 rfl (by decide) kf_X8_38 dX8_byTurns_235 ?_
      refine aw_iconst C (0 : Int32) dX8_byTurns_238 (by decide) ?_
      refine aw_iald C la_M_10 dX8_byTurns_239 ?_
      exact aw_iret C hr dX8_byTurns_240
    · refine aw_iconst C (0 : Int32) dX8_byTurns_135 (by decide) ?_
      refine aw_istore C [(4, .int (0 : Int32)), (0, .ref 0), (3, .int x3)] dX8_byTurns_136 (by decide) rfl ?_
      refine aw_sub [1, 2, 0] rfl ?_
      exact m_X8_byTurns_138 C hr (X8_byTurns_131  f) ih am_fuel x3 (0 : Int32) M
theorem m_X8_byTurns_39 {E : amE} (C : amC E 6 cX8_byTurns 6 RX8) (hr : (eH E).sig.returnType = (some .int))  : ∀ (f : Nat) (x1 : Int32) (x2 : Int32) (x3 : Int32) (M : Mem), AW E lyM 6 (qI lyM) (X8_byTurns_39 f x1 x2 x3 M) 39 [(0, .ref 0), (1, .int x1), (2, .int x2), (3, .int x3)] [] M := by
  intro f
  induction f with
  | zero => exact (fun _ _ _ _ => aw_none)
  | succ f ih =>
    intro x1 x2 x3 M
    rw [X8_byTurns_39]
    refine aw_iload_n C dX8_byTurns_39 rfl ?_
    refine aw_iconst C (1 : Int32) dX8_byTurns_40 (by decide) ?_
    refine aw_iload_n C dX8_byTurns_41 rfl ?_
    refine aw_ishl C dX8_byTurns_42 ?_
    refine aw_icmp_ge C (tgt := 127) dX8_byTurns_43 (by decide) ?_ ?_
    · refine aw_aload_n C dX8_byTurns_46 rfl ?_
      refine aw_cVV C [] [] (m_X8_layTried M) v_X8_layTried km_X8_222 (by decide) lo_M_0 rfl rfl rfl (Nat.le_of_ble_eq_true rfl) dX8_byTurns_47 (fun M1 => ?_)
      refine aw_iconst C (0 : Int32) dX8_byTurns_50 (by decide) ?_
      refine aw_istore C [(4, .int (0 : Int32)), (0, .ref 0), (1, .int x1), (2, .int x2), (3, .int x3)] dX8_byTurns_51 (by decide) rfl ?_
      refine aw_sub [1, 2, 3, 4, 0] rfl ?_
      exact m_X8_byTurns_53 C hr (X8_byTurns_39  f) ih am_fuel x1 x2 x3 (0 : Int32) M1
    · refine aw_iload_n C dX8_byTurns_127 rfl ?_
      refine aw_iconst C (1 : Int32) dX8_byTurns_128 (by decide) ?_
      refine aw_isub C dX8_byTurns_129 ?_
      refine aw_istore_n C [(3, .int (x1 - (1 : Int32))), (0, .ref 0), (1, .int x1), (2, .int x2)] dX8_byTurns_130 (by decide) rfl ?_
      refine aw_sub [1, 0] rfl ?_
      exact m_X8_byTurns_131 C hr am_fuel (x1 - (1 : Int32)) M
theorem m_X8_byTurns   (x1 : Int32) (x2 : Int32) (M : Mem) : AMet 6 yX8_byTurns cX8_byTurns 6 (some .int) lyM [.ref 0, .int x1, .int x2] M (qI lyM) (X8_byTurns x1 x2 M) := by
  refine am_ent pn_X8 (Nat.le_of_ble_eq_true rfl) (fun E C hr => ?_)
  refine aw_lv (lv' := [(0, .ref 0), (1, .int x1), (2, .int x2)]) rfl ?_
  unfold X8_byTurns
  refine aw_aload_n C dX8_byTurns_0 rfl ?_
  refine aw_cVIp C [] [] (m_X8_isHall M) v_X8_isHall km_X8_179 (by decide) lo_M_0 rfl rfl rfl (Nat.le_of_ble_eq_true rfl) dX8_byTurns_1 (fun r1 => ?_)
  refine aw_if_ne C (tgt := 10) dX8_byTurns_4 (by decide) ?_ ?_
  · refine aw_ldc C kc_X8_178 dX8_byTurns_7 ?_
    exact aw_iret C hr dX8_byTurns_9
  · refine aw_iload_n C dX8_byTurns_10 rfl ?_
    refine aw_i2l C dX8_byTurns_11 ?_
    refine aw_lconst C (0 : Int64) dX8_byTurns_12 (by decide) ?_
    refine aw_ldc2 C kd_X8_247 dX8_byTurns_13 ?_
    refine aw_cSIp C [.long x1.toInt64, .long (0 : Int64), .long (4 : Int64)] [] (m_X8_in M x1.toInt64 (0 : Int64) (4 : Int64)) t_X8_in km_X8_48 (by decide) rfl rfl (Nat.le_of_ble_eq_true rfl) dX8_byTurns_16 (fun r2 => ?_)
    refine aw_if_eq C (tgt := 34) dX8_byTurns_19 (by decide) ?_ ?_
    · refine aw_ldc C kc_X8_58 dX8_byTurns_34 ?_
      exact aw_iret C hr dX8_byTurns_36
    · refine aw_iload_n C dX8_byTurns_22 rfl ?_
      refine aw_i2l C dX8_byTurns_23 ?_
      refine aw_lconst C (1 : Int64) dX8_byTurns_24 (by decide) ?_
      refine aw_ldc2 C kd_X8_114 dX8_byTurns_25 ?_
      refine aw_cSIp C [.long x2.toInt64, .long (1 : Int64), .long (20 : Int64)] [] (m_X8_in M x2.toInt64 (1 : Int64) (20 : Int64)) t_X8_in km_X8_48 (by decide) rfl rfl (Nat.le_of_ble_eq_true rfl) dX8_byTurns_28 (fun r3 => ?_)
      refine aw_if_ne C (tgt := 37) dX8_byTurns_31 (by decide) ?_ ?_
      · refine aw_ldc C kc_X8_58 dX8_byTurns_34 ?_
        exact aw_iret C hr dX8_byTurns_36
      · refine aw_iconst C (0 : Int32) dX8_byTurns_37 (by decide) ?_
        refine aw_istore_n C [(3, .int (0 : Int32)), (0, .ref 0), (1, .int x1), (2, .int x2)] dX8_byTurns_38 (by decide) rfl ?_
        refine aw_sub [1, 2, 3, 0] rfl ?_
        exact m_X8_byTurns_39 C hr am_fuel x1 x2 (0 : Int32) M
def X8_isSo_6  : Nat → Int32 → Int32 → Int32 → Int32 → Int32 → Mem → Option (Int32 × Mem)
  | 0, _, _, _, _, _, _ => none
  | f + 1, x1, x2, x3, x4, x5, M =>
    if x5 < x3 then
      Option.bind (X8_ticksOf (1053 : Int32) (1 : Int32) M) fun M1 =>
      if x4 = 0 then
        X8_isSo_6  f x1 x2 x3 (0 : Int32) (x5 + (1 : Int32)) M1
      else
        if am_in ((1086 : Int32) + x1) 1092 = true then
          if am_in (x2 + x5) 320 = true then
            if (M1 1 ((1086 : Int32) + x1).toNatClampNeg) = (M1 5 (x2 + x5).toNatClampNeg) then
              X8_isSo_6  f x1 x2 x3 (1 : Int32) (x5 + (1 : Int32)) M1
            else
              X8_isSo_6  f x1 x2 x3 (0 : Int32) (x5 + (1 : Int32)) M1
          else none
        else none
    else
      if x4 = 0 ∨ x4 = 1 then some (x4, M) else none
def X8_isSo  (x1 : Int32) (x2 : Int32) (x3 : Int32) (M : Mem) : Option (Int32 × Mem) :=
  X8_isSo_6 am_fuel x1 x2 x3 (1 : Int32) (0 : Int32) M
theorem m_X8_isSo_6 {E : amE} (C : amC E 6 cX8_isSo 6 RX8) (hr : (eH E).sig.returnType = (some .boolean))  : ∀ (f : Nat) (x1 : Int32) (x2 : Int32) (x3 : Int32) (x4 : Int32) (x5 : Int32) (M : Mem), AW E lyM 6 (qI lyM) (X8_isSo_6 f x1 x2 x3 x4 x5 M) 6 [(0, .ref 0), (1, .int x1), (2, .int x2), (3, .int x3), (4, .int x4), (5, .int x5)] [] M := by
  intro f
  induction f with
  | zero => exact (fun _ _ _ _ _ _ => aw_none)
  | succ f ih =>
    intro x1 x2 x3 x4 x5 M
    rw [X8_isSo_6]
    refine aw_iload C dX8_isSo_6 rfl ?_
    refine aw_iload_n C dX8_isSo_8 rfl ?_
    refine aw_icmp_ge C (tgt := 60) dX8_isSo_9 (by decide) ?_ ?_
    · refine aw_aload_n C dX8_isSo_12 rfl ?_
      refine aw_sipush C (1053 : Int32) dX8_isSo_13 (by decide) ?_
      refine aw_iconst C (1 : Int32) dX8_isSo_16 (by decide) ?_
      refine aw_cVV C [.int (1053 : Int32), .int (1 : Int32)] [] (m_X8_ticksOf (1053 : Int32) (1 : Int32) M) v_X8_ticksOf km_X8_187 (by decide) lo_M_0 rfl rfl rfl (Nat.le_of_ble_eq_true rfl) dX8_isSo_17 (fun M1 => ?_)
      refine aw_iload C dX8_isSo_20 rfl ?_
      refine aw_if_eq C (tgt := 51) dX8_isSo_22 (by decide) ?_ ?_
      · refine aw_iconst C (0 : Int32) dX8_isSo_51 (by decide) ?_
        refine aw_istore C [(4, .int (0 : Int32)), (0, .ref 0), (1, .int x1), (2, .int x2), (3, .int x3), (5, .int x5)] dX8_isSo_52 (by decide) rfl ?_
        refine aw_iinc C (v := (1 : Int32)) [(5, .int (x5 + (1 : Int32))), (4, .int (0 : Int32)), (0, .ref 0), (1, .int x1), (2, .int x2), (3, .int x3)] dX8_isSo_54 rfl (by decide) (by decide) rfl ?_
        refine aw_goto C (tgt := 6) dX8_isSo_57 (by decide) ?_
        refine aw_sub [2, 3, 4, 5, 1, 0] rfl ?_
        exact ih x1 x2 x3 (0 : Int32) (x5 + (1 : Int32)) M1
      · refine aw_aload_n C dX8_isSo_25 rfl ?_
        refine aw_getR C (r := 1) clX8 lo_M_0 0 rfl (by decide) kf_X8_7 dX8_isSo_26 ?_
        refine aw_sipush C (1086 : Int32) dX8_isSo_29 (by decide) ?_
        refine aw_iload_n C dX8_isSo_32 rfl ?_
        refine aw_iadd C dX8_isSo_33 ?_
        refine aw_iald C la_M_1 dX8_isSo_34 ?_
        refine aw_aload_n C dX8_isSo_35 rfl ?_
        refine aw_getR C (r := 5) clX8 lo_M_0 5 rfl (by decide) kf_X8_23 dX8_isSo_36 ?_
        refine aw_iload_n C dX8_isSo_39 rfl ?_
        refine aw_iload C dX8_isSo_40 rfl ?_
        refine aw_iadd C dX8_isSo_42 ?_
        refine aw_iald C la_M_5 dX8_isSo_43 ?_
        refine aw_icmp_ne C (tgt := 51) dX8_isSo_44 (by decide) ?_ ?_
        · refine aw_iconst C (1 : Int32) dX8_isSo_47 (by decide) ?_
          refine aw_goto C (tgt := 52) dX8_isSo_48 (by decide) ?_
          refine aw_istore C [(4, .int (1 : Int32)), (0, .ref 0), (1, .int x1), (2, .int x2), (3, .int x3), (5, .int x5)] dX8_isSo_52 (by decide) rfl ?_
          refine aw_iinc C (v := (1 : Int32)) [(5, .int (x5 + (1 : Int32))), (4, .int (1 : Int32)), (0, .ref 0), (1, .int x1), (2, .int x2), (3, .int x3)] dX8_isSo_54 rfl (by decide) (by decide) rfl ?_
          refine aw_goto C (tgt := 6) dX8_isSo_57 (by decide) ?_
          refine aw_sub [2, 3, 4, 5, 1, 0] rfl ?_
          exact ih x1 x2 x3 (1 : Int32) (x5 + (1 : Int32)) M1
        · refine aw_iconst C (0 : Int32) dX8_isSo_51 (by decide) ?_
          refine aw_istore C [(4, .int (0 : Int32)), (0, .ref 0), (1, .int x1), (2, .int x2), (3, .int x3), (5, .int x5)] dX8_isSo_52 (by decide) rfl ?_
          refine aw_iinc C (v := (1 : Int32)) [(5, .int (x5 + (1 : Int32))), (4, .int (0 : Int32)), (0, .ref 0), (1, .int x1), (2, .int x2), (3, .int x3)] dX8_isSo_54 rfl (by decide) (by decide) rfl ?_
          refine aw_goto C (tgt := 6) dX8_isSo_57 (by decide) ?_
          refine aw_sub [2, 3, 4, 5, 1, 0] rfl ?_
          exact ih x1 x2 x3 (0 : Int32) (x5 + (1 : Int32)) M1
    · refine aw_iload C dX8_isSo_60 rfl ?_
      exact aw_zretg C hr dX8_isSo_62
theorem m_X8_isSo   (x1 : Int32) (x2 : Int32) (x3 : Int32) (M : Mem) : AMet 6 yX8_isSo cX8_isSo 6 (some .boolean) lyM [.ref 0, .int x1, .int x2, .int x3] M (qI lyM) (X8_isSo x1 x2 x3 M) := by
  refine am_ent pn_X8 (Nat.le_of_ble_eq_true rfl) (fun E C hr => ?_)
  refine aw_lv (lv' := [(0, .ref 0), (1, .int x1), (2, .int x2), (3, .int x3)]) rfl ?_
  unfold X8_isSo
  refine aw_iconst C (1 : Int32) dX8_isSo_0 (by decide) ?_
  refine aw_istore C [(4, .int (1 : Int32)), (0, .ref 0), (1, .int x1), (2, .int x2), (3, .int x3)] dX8_isSo_1 (by decide) rfl ?_
  refine aw_iconst C (0 : Int32) dX8_isSo_3 (by decide) ?_
  refine aw_istore C [(5, .int (0 : Int32)), (4, .int (1 : Int32)), (0, .ref 0), (1, .int x1), (2, .int x2), (3, .int x3)] dX8_isSo_4 (by decide) rfl ?_
  refine aw_sub [2, 3, 4, 5, 1, 0] rfl ?_
  exact m_X8_isSo_6 C hr am_fuel x1 x2 x3 (1 : Int32) (0 : Int32) M
def X8_refusal  (x1 : Int32) (x2 : Int32) (x3 : Int32) (M : Mem) : Option (Int32 × Mem) :=
  if am_in x1 8 = true then
    if (M 4 x1.toNatClampNeg) < 0 then
      Option.bind (X8_find (1 : Int32) M) fun u1 =>
      some (u1.1, u1.2)
    else
      Option.bind (X8_isSpan M x1 x2 x3) fun r2 =>
      if r2 = 0 then
        Option.bind (X8_find (2 : Int32) M) fun u3 =>
        some (u3.1, u3.2)
      else
        some ((0 : Int32), M)
  else none
theorem m_X8_refusal   (x1 : Int32) (x2 : Int32) (x3 : Int32) (M : Mem) : AMet 2 yX8_refusal cX8_refusal 4 (some .int) lyM [.ref 0, .int x1, .int x2, .int x3] M (qI lyM) (X8_refusal x1 x2 x3 M) := by
  refine am_ent pn_X8 (Nat.le_of_ble_eq_true rfl) (fun E C hr => ?_)
  refine aw_lv (lv' := [(0, .ref 0), (1, .int x1), (2, .int x2), (3, .int x3)]) rfl ?_
  unfold X8_refusal
  refine aw_aload_n C dX8_refusal_0 rfl ?_
  refine aw_getR C (r := 4) clX8 lo_M_0 4 rfl (by decide) kf_X8_20 dX8_refusal_1 ?_
  refine aw_iload_n C dX8_refusal_4 rfl ?_
  refine aw_iald C la_M_4 dX8_refusal_5 ?_
  refine aw_if_ge C (tgt := 17) dX8_refusal_6 (by decide) ?_ ?_
  · refine aw_aload_n C dX8_refusal_9 rfl ?_
    refine aw_iconst C (1 : Int32) dX8_refusal_10 (by decide) ?_
    refine aw_cVI C [.int (1 : Int32)] [] (m_X8_find (1 : Int32) M) v_X8_find km_X8_59 (by decide) lo_M_0 rfl rfl rfl (Nat.le_of_ble_eq_true rfl) dX8_refusal_11 (fun u1 => ?_)
    refine aw_goto C (tgt := 36) dX8_refusal_14 (by decide) ?_
    exact aw_iret C hr dX8_refusal_36
  · refine aw_aload_n C dX8_refusal_17 rfl ?_
    refine aw_iload_n C dX8_refusal_18 rfl ?_
    refine aw_iload_n C dX8_refusal_19 rfl ?_
    refine aw_iload_n C dX8_refusal_20 rfl ?_
    refine aw_cVIp C [.int x1, .int x2, .int x3] [] (m_X8_isSpan M x1 x2 x3) v_X8_isSpan km_X8_70 (by decide) lo_M_0 rfl rfl rfl (Nat.le_of_ble_eq_true rfl) dX8_refusal_21 (fun r2 => ?_)
    refine aw_if_ne C (tgt := 35) dX8_refusal_24 (by decide) ?_ ?_
    · refine aw_aload_n C dX8_refusal_27 rfl ?_
      refine aw_iconst C (2 : Int32) dX8_refusal_28 (by decide) ?_
      refine aw_cVI C [.int (2 : Int32)] [] (m_X8_find (2 : Int32) M) v_X8_find km_X8_59 (by decide) lo_M_0 rfl rfl rfl (Nat.le_of_ble_eq_true rfl) dX8_refusal_29 (fun u3 => ?_)
      refine aw_goto C (tgt := 36) dX8_refusal_32 (by decide) ?_
      exact aw_iret C hr dX8_refusal_36
    · refine aw_iconst C (0 : Int32) dX8_refusal_35 (by decide) ?_
      exact aw_iret C hr dX8_refusal_36
def X8_who_119 (K78 : Int32 → Int32 → Int32 → Int32 → Int32 → Int32 → Int32 → Int32 → Mem → Option (Int32 × Mem)) (x1 : Int32) (x2 : Int32) (x3 : Int32) (x4 : Int32) (x5 : Int32) (x6 : Int32) (x8 : Int32) (x9 : Int32) (s0 : Int32) (s1 : Int32) (M : Mem) : Option (Int32 × Mem) :=
  if am_in ((s1 + s0) + x1) 1092 = true then
    am_let (mset M 1 (upd (M 1) ((s1 + s0) + x1).toNatClampNeg x9)) fun M1 =>
    Option.bind (X8_isSo x3 (((40 : Int32) * x4) + x5) x6 M1) fun u2 =>
    if u2.1 = 0 then
      K78 x1 x2 x3 x4 x5 x6 (x8 ||| (0 : Int32)) (x9 + (1 : Int32)) u2.2
    else
      K78 x1 x2 x3 x4 x5 x6 (x8 ||| ((1 : Int32) <<< (x9 &&& 31))) (x9 + (1 : Int32)) u2.2
  else none
def X8_who_95 (K78 : Int32 → Int32 → Int32 → Int32 → Int32 → Int32 → Int32 → Int32 → Mem → Option (Int32 × Mem)) (x1 : Int32) (x2 : Int32) (x3 : Int32) (x4 : Int32) (x5 : Int32) (x6 : Int32) (x8 : Int32) (x9 : Int32) (s0 : Int32) (s1 : Int32) (M : Mem) : Option (Int32 × Mem) :=
  if s1 < s0 then
    Option.bind (X8_layTried M) fun M1 =>
    if x2 = 0 then
      X8_who_119 K78 x1 x2 x3 x4 x5 x6 x8 x9 (3 : Int32) (1053 : Int32) M1
    else
      X8_who_119 K78 x1 x2 x3 x4 x5 x6 x8 x9 (9 : Int32) (1053 : Int32) M1
  else
    Option.bind (X8_well x8 M) fun u3 =>
    some (u3.1, u3.2)
def X8_who_78  : Nat → Int32 → Int32 → Int32 → Int32 → Int32 → Int32 → Int32 → Int32 → Mem → Option (Int32 × Mem)
  | 0, _, _, _, _, _, _, _, _, _ => none
  | f + 1, x1, x2, x3, x4, x5, x6, x8, x9, M =>
    if x2 = 0 then
      X8_who_95 (X8_who_78  f) x1 x2 x3 x4 x5 x6 x8 x9 (6 : Int32) x9 M
    else
      if am_in (0 : Int32) 1092 = true then
        X8_who_95 (X8_who_78  f) x1 x2 x3 x4 x5 x6 x8 x9 (M 1 (0 : Int32).toNatClampNeg) x9 M
      else none
def X8_who  (x1 : Int32) (x2 : Int32) (x3 : Int32) (x4 : Int32) (x5 : Int32) (x6 : Int32) (M : Mem) : Option (Int32 × Mem) :=
  Option.bind (X8_isOne M x1) fun r1 =>
  if r1 = 0 then
    some ((-1000001 : Int32), M)
  else
    Option.bind (X8_in x2.toInt64 (0 : Int64) (1 : Int64)) fun r2 =>
    if r2 = 0 then
      some ((-1000001 : Int32), M)
    else
      Option.bind (X8_isOne M x3) fun r3 =>
      if r3 = 0 then
        some ((-1000001 : Int32), M)
      else
        Option.bind (X8_isRow x4) fun r4 =>
        if r4 = 0 then
          some ((-1000001 : Int32), M)
        else
          Option.bind (X8_in x6.toInt64 (1 : Int64) (12 : Int64)) fun r5 =>
          if r5 = 0 then
            some ((-1000001 : Int32), M)
          else
            Option.bind (X8_refusal x4 x5 x6 M) fun u6 =>
            if u6.1 = 0 then
              X8_who_78 am_fuel x1 x2 x3 x4 x5 x6 (0 : Int32) ((1 : Int32) - x2) u6.2
            else
              some (u6.1, u6.2)
theorem m_X8_who_119 {E : amE} (C : amC E 7 cX8_who 10 RX8) (hr : (eH E).sig.returnType = (some .int)) (K78 : Int32 → Int32 → Int32 → Int32 → Int32 → Int32 → Int32 → Int32 → Mem → Option (Int32 × Mem)) (hK78 : ∀ (x1 : Int32) (x2 : Int32) (x3 : Int32) (x4 : Int32) (x5 : Int32) (x6 : Int32) (x8 : Int32) (x9 : Int32) (M : Mem), AW E lyM 10 (qI lyM) (K78 x1 x2 x3 x4 x5 x6 x8 x9 M) 78 [(0, .ref 0), (1, .int x1), (2, .int x2), (3, .int x3), (4, .int x4), (5, .int x5), (6, .int x6), (8, .int x8), (9, .int x9)] [] M) (x1 : Int32) (x2 : Int32) (x3 : Int32) (x4 : Int32) (x5 : Int32) (x6 : Int32) (x8 : Int32) (x9 : Int32) (s0 : Int32) (s1 : Int32) (M : Mem) : AW E lyM 10 (qI lyM) (X8_who_119 K78 x1 x2 x3 x4 x5 x6 x8 x9 s0 s1 M) 119 [(0, .ref 0), (1, .int x1), (2, .int x2), (3, .int x3), (4, .int x4), (5, .int x5), (6, .int x6), (8, .int x8), (9, .int x9)] [.int s0, .int s1, .ref 1] M := by
  unfold X8_who_119
  refine aw_iadd C dX8_who_119 ?_
  refine aw_iload_n C dX8_who_120 rfl ?_
  refine aw_iadd C dX8_who_121 ?_
  refine aw_iload C dX8_who_122 rfl ?_
  refine aw_iast C la_M_1 dX8_who_124 ?_
  refine aw_mlet (fun M1 => ?_)
  refine aw_iload C dX8_who_125 rfl ?_
  refine aw_aload_n C dX8_who_127 rfl ?_
  refine aw_iload_n C dX8_who_128 rfl ?_
  refine aw_bipush C (40 : Int32) dX8_who_129 (by decide) ?_
  refine aw_iload C dX8_who_131 rfl ?_
  refine aw_imul C dX8_who_133 ?_
  refine aw_iload C dX8_who_134 rfl ?_
  refine aw_iadd C dX8_who_136 ?_
  refine aw_iload C dX8_who_137 rfl ?_
  refine aw_cVI C [.int x3, .int (((40 : Int32) * x4) + x5), .int x6] [.int x8] (m_X8_isSo x3 (((40 : Int32) * x4) + x5) x6 M1) v_X8_isSo km_X8_254 (by decide) lo_M_0 rfl rfl rfl (Nat.le_of_ble_eq_true rfl) dX8_who_139 (fun u2 => ?_)
  refine aw_if_eq C (tgt := 152) dX8_who_142 (by decide) ?_ ?_
  · refine aw_iconst C (0 : Int32) dX8_who_152 (by decide) ?_
    refine aw_ior C dX8_who_153 ?_
    refine aw_istore C [(8, .int (x8 ||| (0 : Int32))), (0, .ref 0), (1, .int x1), (2, .int x2), (3, .int x3), (4, .int x4), (5, .int x5), (6, .int x6), (9, .int x9)] dX8_who_154 (by decide) rfl ?_
    refine aw_iinc C (v := (1 : Int32)) [(9, .int (x9 + (1 : Int32))), (8, .int (x8 ||| (0 : Int32))), (0, .ref 0), (1, .int x1), (2, .int x2), (3, .int x3), (4, .int x4), (5, .int x5), (6, .int x6)] dX8_who_156 rfl (by decide) (by decide) rfl ?_
    refine aw_goto C (tgt := 78) dX8_who_159 (by decide) ?_
    refine aw_sub [2, 3, 4, 5, 6, 7, 8, 1, 0] rfl ?_
    exact hK78 x1 x2 x3 x4 x5 x6 (x8 ||| (0 : Int32)) (x9 + (1 : Int32)) u2.2
  · refine aw_iconst C (1 : Int32) dX8_who_145 (by decide) ?_
    refine aw_iload C dX8_who_146 rfl ?_
    refine aw_ishl C dX8_who_148 ?_
    refine aw_goto C (tgt := 153) dX8_who_149 (by decide) ?_
    refine aw_ior C dX8_who_153 ?_
    refine aw_istore C [(8, .int (x8 ||| ((1 : Int32) <<< (x9 &&& 31)))), (0, .ref 0), (1, .int x1), (2, .int x2), (3, .int x3), (4, .int x4), (5, .int x5), (6, .int x6), (9, .int x9)] dX8_who_154 (by decide) rfl ?_
    refine aw_iinc C (v := (1 : Int32)) [(9, .int (x9 + (1 : Int32))), (8, .int (x8 ||| ((1 : Int32) <<< (x9 &&& 31)))), (0, .ref 0), (1, .int x1), (2, .int x2), (3, .int x3), (4, .int x4), (5, .int x5), (6, .int x6)] dX8_who_156 rfl (by decide) (by decide) rfl ?_
    refine aw_goto C (tgt := 78) dX8_who_159 (by decide) ?_
    refine aw_sub [2, 3, 4, 5, 6, 7, 8, 1, 0] rfl ?_
    exact hK78 x1 x2 x3 x4 x5 x6 (x8 ||| ((1 : Int32) <<< (x9 &&& 31))) (x9 + (1 : Int32)) u2.2
theorem m_X8_who_95 {E : amE} (C : amC E 7 cX8_who 10 RX8) (hr : (eH E).sig.returnType = (some .int)) (K78 : Int32 → Int32 → Int32 → Int32 → Int32 → Int32 → Int32 → Int32 → Mem → Option (Int32 × Mem)) (hK78 : ∀ (x1 : Int32) (x2 : Int32) (x3 : Int32) (x4 : Int32) (x5 : Int32) (x6 : Int32) (x8 : Int32) (x9 : Int32) (M : Mem), AW E lyM 10 (qI lyM) (K78 x1 x2 x3 x4 x5 x6 x8 x9 M) 78 [(0, .ref 0), (1, .int x1), (2, .int x2), (3, .int x3), (4, .int x4), (5, .int x5), (6, .int x6), (8, .int x8), (9, .int x9)] [] M) (x1 : Int32) (x2 : Int32) (x3 : Int32) (x4 : Int32) (x5 : Int32) (x6 : Int32) (x8 : Int32) (x9 : Int32) (s0 : Int32) (s1 : Int32) (M : Mem) : AW E lyM 10 (qI lyM) (X8_who_95 K78 x1 x2 x3 x4 x5 x6 x8 x9 s0 s1 M) 95 [(0, .ref 0), (1, .int x1), (2, .int x2), (3, .int x3), (4, .int x4), (5, .int x5), (6, .int x6), (8, .int x8), (9, .int x9)] [.int s0, .int s1] M := by
  unfold X8_who_95
  refine aw_icmp_ge C (tgt := 162) dX8_who_95 (by decide) ?_ ?_
  · refine aw_aload_n C dX8_who_98 rfl ?_
    refine aw_cVV C [] [] (m_X8_layTried M) v_X8_layTried km_X8_222 (by decide) lo_M_0 rfl rfl rfl (Nat.le_of_ble_eq_true rfl) dX8_who_99 (fun M1 => ?_)
    refine aw_aload_n C dX8_who_102 rfl ?_
    refine aw_getR C (r := 1) clX8 lo_M_0 0 rfl (by decide) kf_X8_7 dX8_who_103 ?_
    refine aw_sipush C (1053 : Int32) dX8_who_106 (by decide) ?_
    refine aw_iload_n C dX8_who_109 rfl ?_
    refine aw_if_ne C (tgt := 117) dX8_who_110 (by decide) ?_ ?_
    · refine aw_iconst C (3 : Int32) dX8_who_113 (by decide) ?_
      refine aw_goto C (tgt := 119) dX8_who_114 (by decide) ?_
      exact m_X8_who_119 C hr K78 hK78 x1 x2 x3 x4 x5 x6 x8 x9 (3 : Int32) (1053 : Int32) M1
    · refine aw_bipush C (9 : Int32) dX8_who_117 (by decide) ?_
      exact m_X8_who_119 C hr K78 hK78 x1 x2 x3 x4 x5 x6 x8 x9 (9 : Int32) (1053 : Int32) M1
  · refine aw_aload_n C dX8_who_162 rfl ?_
    refine aw_iload C dX8_who_163 rfl ?_
    refine aw_cVI C [.int x8] [] (m_X8_well x8 M) v_X8_well km_X8_63 (by decide) lo_M_0 rfl rfl rfl (Nat.le_of_ble_eq_true rfl) dX8_who_165 (fun u3 => ?_)
    exact aw_iret C hr dX8_who_168
theorem m_X8_who_78 {E : amE} (C : amC E 7 cX8_who 10 RX8) (hr : (eH E).sig.returnType = (some .int))  : ∀ (f : Nat) (x1 : Int32) (x2 : Int32) (x3 : Int32) (x4 : Int32) (x5 : Int32) (x6 : Int32) (x8 : Int32) (x9 : Int32) (M : Mem), AW E lyM 10 (qI lyM) (X8_who_78 f x1 x2 x3 x4 x5 x6 x8 x9 M) 78 [(0, .ref 0), (1, .int x1), (2, .int x2), (3, .int x3), (4, .int x4), (5, .int x5), (6, .int x6), (8, .int x8), (9, .int x9)] [] M := by
  intro f
  induction f with
  | zero => exact (fun _ _ _ _ _ _ _ _ _ => aw_none)
  | succ f ih =>
    intro x1 x2 x3 x4 x5 x6 x8 x9 M
    rw [X8_who_78]
    refine aw_iload C dX8_who_78 rfl ?_
    refine aw_iload_n C dX8_who_80 rfl ?_
    refine aw_if_ne C (tgt := 89) dX8_who_81 (by decide) ?_ ?_
    · refine aw_bipush C (6 : Int32) dX8_who_84 (by decide) ?_
      refine aw_goto C (tgt := 95) dX8_who_86 (by decide) ?_
      exact m_X8_who_95 C hr (X8_who_78  f) ih x1 x2 x3 x4 x5 x6 x8 x9 (6 : Int32) x9 M
    · refine aw_aload_n C dX8_who_89 rfl ?_
      refine aw_getR C (r := 1) clX8 lo_M_0 0 rfl (by decide) kf_X8_7 dX8_who_90 ?_
      refine aw_iconst C (0 : Int32) dX8_who_93 (by decide) ?_
      refine aw_iald C la_M_1 dX8_who_94 ?_
      exact m_X8_who_95 C hr (X8_who_78  f) ih x1 x2 x3 x4 x5 x6 x8 x9 (M 1 (0 : Int32).toNatClampNeg) x9 M
theorem m_X8_who   (x1 : Int32) (x2 : Int32) (x3 : Int32) (x4 : Int32) (x5 : Int32) (x6 : Int32) (M : Mem) : AMet 7 yX8_who cX8_who 10 (some .int) lyM [.ref 0, .int x1, .int x2, .int x3, .int x4, .int x5, .int x6] M (qI lyM) (X8_who x1 x2 x3 x4 x5 x6 M) := by
  refine am_ent pn_X8 (Nat.le_of_ble_eq_true rfl) (fun E C hr => ?_)
  refine aw_lv (lv' := [(0, .ref 0), (1, .int x1), (2, .int x2), (3, .int x3), (4, .int x4), (5, .int x5), (6, .int x6)]) rfl ?_
  unfold X8_who
  refine aw_aload_n C dX8_who_0 rfl ?_
  refine aw_iload_n C dX8_who_1 rfl ?_
  refine aw_cVIp C [.int x1] [] (m_X8_isOne M x1) v_X8_isOne km_X8_193 (by decide) lo_M_0 rfl rfl rfl (Nat.le_of_ble_eq_true rfl) dX8_who_2 (fun r1 => ?_)
  refine aw_if_eq C (tgt := 47) dX8_who_5 (by decide) ?_ ?_
  · refine aw_ldc C kc_X8_58 dX8_who_47 ?_
    exact aw_iret C hr dX8_who_49
  · refine aw_iload_n C dX8_who_8 rfl ?_
    refine aw_i2l C dX8_who_9 ?_
    refine aw_lconst C (0 : Int64) dX8_who_10 (by decide) ?_
    refine aw_lconst C (1 : Int64) dX8_who_11 (by decide) ?_
    refine aw_cSIp C [.long x2.toInt64, .long (0 : Int64), .long (1 : Int64)] [] (m_X8_in M x2.toInt64 (0 : Int64) (1 : Int64)) t_X8_in km_X8_48 (by decide) rfl rfl (Nat.le_of_ble_eq_true rfl) dX8_who_12 (fun r2 => ?_)
    refine aw_if_eq C (tgt := 47) dX8_who_15 (by decide) ?_ ?_
    · refine aw_ldc C kc_X8_58 dX8_who_47 ?_
      exact aw_iret C hr dX8_who_49
    · refine aw_aload_n C dX8_who_18 rfl ?_
      refine aw_iload_n C dX8_who_19 rfl ?_
      refine aw_cVIp C [.int x3] [] (m_X8_isOne M x3) v_X8_isOne km_X8_193 (by decide) lo_M_0 rfl rfl rfl (Nat.le_of_ble_eq_true rfl) dX8_who_20 (fun r3 => ?_)
      refine aw_if_eq C (tgt := 47) dX8_who_23 (by decide) ?_ ?_
      · refine aw_ldc C kc_X8_58 dX8_who_47 ?_
        exact aw_iret C hr dX8_who_49
      · refine aw_iload C dX8_who_26 rfl ?_
        refine aw_cSIp C [.int x4] [] (m_X8_isRow M x4) t_X8_isRow km_X8_52 (by decide) rfl rfl (Nat.le_of_ble_eq_true rfl) dX8_who_28 (fun r4 => ?_)
        refine aw_if_eq C (tgt := 47) dX8_who_31 (by decide) ?_ ?_
        · refine aw_ldc C kc_X8_58 dX8_who_47 ?_
          exact aw_iret C hr dX8_who_49
        · refine aw_iload C dX8_who_34 rfl ?_
          refine aw_i2l C dX8_who_36 ?_
          refine aw_lconst C (1 : Int64) dX8_who_37 (by decide) ?_
          refine aw_ldc2 C kd_X8_249 dX8_who_38 ?_
          refine aw_cSIp C [.long x6.toInt64, .long (1 : Int64), .long (12 : Int64)] [] (m_X8_in M x6.toInt64 (1 : Int64) (12 : Int64)) t_X8_in km_X8_48 (by decide) rfl rfl (Nat.le_of_ble_eq_true rfl) dX8_who_41 (fun r5 => ?_)
          refine aw_if_ne C (tgt := 50) dX8_who_44 (by decide) ?_ ?_
          · refine aw_ldc C kc_X8_58 dX8_who_47 ?_
            exact aw_iret C hr dX8_who_49
          · refine aw_aload_n C dX8_who_50 rfl ?_
            refine aw_iload C dX8_who_51 rfl ?_
            refine aw_iload C dX8_who_53 rfl ?_
            refine aw_iload C dX8_who_55 rfl ?_
            refine aw_cVI C [.int x4, .int x5, .int x6] [] (m_X8_refusal x4 x5 x6 M) v_X8_refusal km_X8_251 (by decide) lo_M_0 rfl rfl rfl (Nat.le_of_ble_eq_true rfl) dX8_who_57 (fun u6 => ?_)
            refine aw_istore C [(7, .int u6.1), (0, .ref 0), (1, .int x1), (2, .int x2), (3, .int x3), (4, .int x4), (5, .int x5), (6, .int x6)] dX8_who_60 (by decide) rfl ?_
            refine aw_iload C dX8_who_62 rfl ?_
            refine aw_if_eq C (tgt := 70) dX8_who_64 (by decide) ?_ ?_
            · refine aw_iconst C (0 : Int32) dX8_who_70 (by decide) ?_
              refine aw_istore C [(8, .int (0 : Int32)), (7, .int u6.1), (0, .ref 0), (1, .int x1), (2, .int x2), (3, .int x3), (4, .int x4), (5, .int x5), (6, .int x6)] dX8_who_71 (by decide) rfl ?_
              refine aw_iconst C (1 : Int32) dX8_who_73 (by decide) ?_
              refine aw_iload_n C dX8_who_74 rfl ?_
              refine aw_isub C dX8_who_75 ?_
              refine aw_istore C [(9, .int ((1 : Int32) - x2)), (8, .int (0 : Int32)), (7, .int u6.1), (0, .ref 0), (1, .int x1), (2, .int x2), (3, .int x3), (4, .int x4), (5, .int x5), (6, .int x6)] dX8_who_76 (by decide) rfl ?_
              refine aw_sub [3, 4, 5, 6, 7, 8, 9, 1, 0] rfl ?_
              exact m_X8_who_78 C hr am_fuel x1 x2 x3 x4 x5 x6 (0 : Int32) ((1 : Int32) - x2) u6.2
            · refine aw_iload C dX8_who_67 rfl ?_
              exact aw_iret C hr dX8_who_69
def X8_colours_55  : Nat → Int32 → Int32 → Int32 → Int32 → Int32 → Int32 → Mem → Option (Int32 × Mem)
  | 0, _, _, _, _, _, _, _ => none
  | f + 1, x1, x2, x3, x4, x6, x7, M =>
    if x7 < (4 : Int32) then
      Option.bind (X8_layTried M) fun M1 =>
      if am_in ((1080 : Int32) + x1) 1092 = true then
        am_let (mset M1 1 (upd (M1 1) ((1080 : Int32) + x1).toNatClampNeg x7)) fun M2 =>
        Option.bind (X8_isSo x1 (((40 : Int32) * x2) + x3) x4 M2) fun u3 =>
        if u3.1 = 0 then
          X8_colours_55  f x1 x2 x3 x4 (x6 ||| (0 : Int32)) (x7 + (1 : Int32)) u3.2
        else
          X8_colours_55  f x1 x2 x3 x4 (x6 ||| ((1 : Int32) <<< (x7 &&& 31))) (x7 + (1 : Int32)) u3.2
      else none
    else
      Option.bind (X8_well x6 M) fun u4 =>
      some (u4.1, u4.2)
def X8_colours  (x1 : Int32) (x2 : Int32) (x3 : Int32) (x4 : Int32) (M : Mem) : Option (Int32 × Mem) :=
  Option.bind (X8_isOne M x1) fun r1 =>
  if r1 = 0 then
    some ((-1000001 : Int32), M)
  else
    Option.bind (X8_isRow x2) fun r2 =>
    if r2 = 0 then
      some ((-1000001 : Int32), M)
    else
      Option.bind (X8_in x4.toInt64 (1 : Int64) (12 : Int64)) fun r3 =>
      if r3 = 0 then
        some ((-1000001 : Int32), M)
      else
        Option.bind (X8_refusal x2 x3 x4 M) fun u4 =>
        if u4.1 = 0 then
          X8_colours_55 am_fuel x1 x2 x3 x4 (0 : Int32) (0 : Int32) u4.2
        else
          some (u4.1, u4.2)
theorem m_X8_colours_55 {E : amE} (C : amC E 7 cX8_colours 8 RX8) (hr : (eH E).sig.returnType = (some .int))  : ∀ (f : Nat) (x1 : Int32) (x2 : Int32) (x3 : Int32) (x4 : Int32) (x6 : Int32) (x7 : Int32) (M : Mem), AW E lyM 8 (qI lyM) (X8_colours_55 f x1 x2 x3 x4 x6 x7 M) 55 [(0, .ref 0), (1, .int x1), (2, .int x2), (3, .int x3), (4, .int x4), (6, .int x6), (7, .int x7)] [] M := by
  intro f
  induction f with
  | zero => exact (fun _ _ _ _ _ _ _ => aw_none)
  | succ f ih =>
    intro x1 x2 x3 x4 x6 x7 M
    rw [X8_colours_55]
    refine aw_iload C dX8_colours_55 rfl ?_
    refine aw_iconst C (4 : Int32) dX8_colours_57 (by decide) ?_
    refine aw_icmp_ge C (tgt := 112) dX8_colours_58 (by decide) ?_ ?_
    · refine aw_aload_n C dX8_colours_61 rfl ?_
      refine aw_cVV C [] [] (m_X8_layTried M) v_X8_layTried km_X8_222 (by decide) lo_M_0 rfl rfl rfl (Nat.le_of_ble_eq_true rfl) dX8_colours_62 (fun M1 => ?_)
      refine aw_aload_n C dX8_colours_65 rfl ?_
      refine aw_getR C (r := 1) clX8 lo_M_0 0 rfl (by decide) kf_X8_7 dX8_colours_66 ?_
      refine aw_sipush C (1080 : Int32) dX8_colours_69 (by decide) ?_
      refine aw_iload_n C dX8_colours_72 rfl ?_
      refine aw_iadd C dX8_colours_73 ?_
      refine aw_iload C dX8_colours_74 rfl ?_
      refine aw_iast C la_M_1 dX8_colours_76 ?_
      refine aw_mlet (fun M2 => ?_)
      refine aw_iload C dX8_colours_77 rfl ?_
      refine aw_aload_n C dX8_colours_79 rfl ?_
      refine aw_iload_n C dX8_colours_80 rfl ?_
      refine aw_bipush C (40 : Int32) dX8_colours_81 (by decide) ?_
      refine aw_iload_n C dX8_colours_83 rfl ?_
      refine aw_imul C dX8_colours_84 ?_
      refine aw_iload_n C dX8_colours_85 rfl ?_
      refine aw_iadd C dX8_colours_86 ?_
      refine aw_iload C dX8_colours_87 rfl ?_
      refine aw_cVI C [.int x1, .int (((40 : Int32) * x2) + x3), .int x4] [.int x6] (m_X8_isSo x1 (((40 : Int32) * x2) + x3) x4 M2) v_X8_isSo km_X8_254 (by decide) lo_M_0 rfl rfl rfl (Nat.le_of_ble_eq_true rfl) dX8_colours_89 (fun u3 => ?_)
      refine aw_if_eq C (tgt := 102) dX8_colours_92 (by decide) ?_ ?_
      · refine aw_iconst C (0 : Int32) dX8_colours_102 (by decide) ?_
        refine aw_ior C dX8_colours_103 ?_
        refine aw_istore C [(6, .int (x6 ||| (0 : Int32))), (0, .ref 0), (1, .int x1), (2, .int x2), (3, .int x3), (4, .int x4), (7, .int x7)] dX8_colours_104 (by decide) rfl ?_
        refine aw_iinc C (v := (1 : Int32)) [(7, .int (x7 + (1 : Int32))), (6, .int (x6 ||| (0 : Int32))), (0, .ref 0), (1, .int x1), (2, .int x2), (3, .int x3), (4, .int x4)] dX8_colours_106 rfl (by decide) (by decide) rfl ?_
        refine aw_goto C (tgt := 55) dX8_colours_109 (by decide) ?_
        refine aw_sub [2, 3, 4, 5, 6, 1, 0] rfl ?_
        exact ih x1 x2 x3 x4 (x6 ||| (0 : Int32)) (x7 + (1 : Int32)) u3.2
      · refine aw_iconst C (1 : Int32) dX8_colours_95 (by decide) ?_
        refine aw_iload C dX8_colours_96 rfl ?_
        refine aw_ishl C dX8_colours_98 ?_
        refine aw_goto C (tgt := 103) dX8_colours_99 (by decide) ?_
        refine aw_ior C dX8_colours_103 ?_
        refine aw_istore C [(6, .int (x6 ||| ((1 : Int32) <<< (x7 &&& 31)))), (0, .ref 0), (1, .int x1), (2, .int x2), (3, .int x3), (4, .int x4), (7, .int x7)] dX8_colours_104 (by decide) rfl ?_
        refine aw_iinc C (v := (1 : Int32)) [(7, .int (x7 + (1 : Int32))), (6, .int (x6 ||| ((1 : Int32) <<< (x7 &&& 31)))), (0, .ref 0), (1, .int x1), (2, .int x2), (3, .int x3), (4, .int x4)] dX8_colours_106 rfl (by decide) (by decide) rfl ?_
        refine aw_goto C (tgt := 55) dX8_colours_109 (by decide) ?_
        refine aw_sub [2, 3, 4, 5, 6, 1, 0] rfl ?_
        exact ih x1 x2 x3 x4 (x6 ||| ((1 : Int32) <<< (x7 &&& 31))) (x7 + (1 : Int32)) u3.2
    · refine aw_aload_n C dX8_colours_112 rfl ?_
      refine aw_iload C dX8_colours_113 rfl ?_
      refine aw_cVI C [.int x6] [] (m_X8_well x6 M) v_X8_well km_X8_63 (by decide) lo_M_0 rfl rfl rfl (Nat.le_of_ble_eq_true rfl) dX8_colours_115 (fun u4 => ?_)
      exact aw_iret C hr dX8_colours_118
theorem m_X8_colours   (x1 : Int32) (x2 : Int32) (x3 : Int32) (x4 : Int32) (M : Mem) : AMet 7 yX8_colours cX8_colours 8 (some .int) lyM [.ref 0, .int x1, .int x2, .int x3, .int x4] M (qI lyM) (X8_colours x1 x2 x3 x4 M) := by
  refine am_ent pn_X8 (Nat.le_of_ble_eq_true rfl) (fun E C hr => ?_)
  refine aw_lv (lv' := [(0, .ref 0), (1, .int x1), (2, .int x2), (3, .int x3), (4, .int x4)]) rfl ?_
  unfold X8_colours
  refine aw_aload_n C dX8_colours_0 rfl ?_
  refine aw_iload_n C dX8_colours_1 rfl ?_
  refine aw_cVIp C [.int x1] [] (m_X8_isOne M x1) v_X8_isOne km_X8_193 (by decide) lo_M_0 rfl rfl rfl (Nat.le_of_ble_eq_true rfl) dX8_colours_2 (fun r1 => ?_)
  refine aw_if_eq C (tgt := 28) dX8_colours_5 (by decide) ?_ ?_
  · refine aw_ldc C kc_X8_58 dX8_colours_28 ?_
    exact aw_iret C hr dX8_colours_30
  · refine aw_iload_n C dX8_colours_8 rfl ?_
    refine aw_cSIp C [.int x2] [] (m_X8_isRow M x2) t_X8_isRow km_X8_52 (by decide) rfl rfl (Nat.le_of_ble_eq_true rfl) dX8_colours_9 (fun r2 => ?_)
    refine aw_if_eq C (tgt := 28) dX8_colours_12 (by decide) ?_ ?_
    · refine aw_ldc C kc_X8_58 dX8_colours_28 ?_
      exact aw_iret C hr dX8_colours_30
    · refine aw_iload C dX8_colours_15 rfl ?_
      refine aw_i2l C dX8_colours_17 ?_
      refine aw_lconst C (1 : Int64) dX8_colours_18 (by decide) ?_
      refine aw_ldc2 C kd_X8_249 dX8_colours_19 ?_
      refine aw_cSIp C [.long x4.toInt64, .long (1 : Int64), .long (12 : Int64)] [] (m_X8_in M x4.toInt64 (1 : Int64) (12 : Int64)) t_X8_in km_X8_48 (by decide) rfl rfl (Nat.le_of_ble_eq_true rfl) dX8_colours_22 (fun r3 => ?_)
      refine aw_if_ne C (tgt := 31) dX8_colours_25 (by decide) ?_ ?_
      · refine aw_ldc C kc_X8_58 dX8_colours_28 ?_
        exact aw_iret C hr dX8_colours_30
      · refine aw_aload_n C dX8_colours_31 rfl ?_
        refine aw_iload_n C dX8_colours_32 rfl ?_
        refine aw_iload_n C dX8_colours_33 rfl ?_
        refine aw_iload C dX8_colours_34 rfl ?_
        refine aw_cVI C [.int x2, .int x3, .int x4] [] (m_X8_refusal x2 x3 x4 M) v_X8_refusal km_X8_251 (by decide) lo_M_0 rfl rfl rfl (Nat.le_of_ble_eq_true rfl) dX8_colours_36 (fun u4 => ?_)
        refine aw_istore C [(5, .int u4.1), (0, .ref 0), (1, .int x1), (2, .int x2), (3, .int x3), (4, .int x4)] dX8_colours_39 (by decide) rfl ?_
        refine aw_iload C dX8_colours_41 rfl ?_
        refine aw_if_eq C (tgt := 49) dX8_colours_43 (by decide) ?_ ?_
        · refine aw_iconst C (0 : Int32) dX8_colours_49 (by decide) ?_
          refine aw_istore C [(6, .int (0 : Int32)), (5, .int u4.1), (0, .ref 0), (1, .int x1), (2, .int x2), (3, .int x3), (4, .int x4)] dX8_colours_50 (by decide) rfl ?_
          refine aw_iconst C (0 : Int32) dX8_colours_52 (by decide) ?_
          refine aw_istore C [(7, .int (0 : Int32)), (6, .int (0 : Int32)), (5, .int u4.1), (0, .ref 0), (1, .int x1), (2, .int x2), (3, .int x3), (4, .int x4)] dX8_colours_53 (by decide) rfl ?_
          refine aw_sub [3, 4, 5, 6, 7, 1, 0] rfl ?_
          exact m_X8_colours_55 C hr am_fuel x1 x2 x3 x4 (0 : Int32) (0 : Int32) u4.2
        · refine aw_iload C dX8_colours_46 rfl ?_
          exact aw_iret C hr dX8_colours_48
def X8_sleep_225  : Nat → Int32 → Int64 → Int64 → Int64 → Int64 → Mem → Option (Int64 × Mem)
  | 0, _, _, _, _, _, _ => none
  | f + 1, x4, x6, x8, x10, x12, M =>
    if (lg_cmp x12 (0 : Int64)) = 0 then
      if x4 = 0 then
        if x10 = 0 then none else
        some (x6 / x10, M)
      else
        if x10 = 0 then none else
        some (x8 / x10, M)
    else
      if x12 = 0 then none else
      X8_sleep_225  f x4 x6 x8 x12 (x10 - x10 / x12 * x12) M
def X8_sleep_99 (K76 : Int32 → Int32 → Int32 → Int32 → Int32 → Int64 → Int64 → Int32 → Mem → Option (Int64 × Mem)) : Nat → Int32 → Int32 → Int32 → Int32 → Int32 → Int64 → Int64 → Int32 → Int64 → Int32 → Mem → Option (Int64 × Mem)
  | 0, _, _, _, _, _, _, _, _, _, _, _ => none
  | f + 1, x1, x2, x3, x4, x5, x6, x8, x10, x11, x13, M =>
    if am_in (1 : Int32) 1092 = true then
      if x13 < (M 1 (1 : Int32).toNatClampNeg) then
        Option.bind (X8_has x5 x13) fun r1 =>
        if r1 = 0 then
          X8_sleep_99 K76 f x1 x2 x3 x4 x5 x6 x8 x10 (x11 * (1 : Int64)) (x13 + (1 : Int32)) M
        else
          Option.bind (X8_has x10 x13) fun r2 =>
          if r2 = 0 then
            X8_sleep_99 K76 f x1 x2 x3 x4 x5 x6 x8 x10 (x11 * (((10 : Int32) - x3).toInt64)) (x13 + (1 : Int32)) M
          else
            X8_sleep_99 K76 f x1 x2 x3 x4 x5 x6 x8 x10 (x11 * x3.toInt64) (x13 + (1 : Int32)) M
      else
        Option.bind (X8_layTried M) fun M3 =>
        am_let (mset M3 0 (upd (M3 0) 16 x10)) fun M4 =>
        Option.bind (X8_ticksOf (1053 : Int32) x2 M4) fun M5 =>
        am_let (mset M5 0 (upd (M5 0) 16 (0 : Int32))) fun M6 =>
        if am_in ((1086 : Int32) + x1) 1092 = true then
          if (M6 1 ((1086 : Int32) + x1).toNatClampNeg) < (20 : Int32) then
            K76 x1 x2 x3 x4 x5 (x6 + x11) (x8 + x11) (x10 + (1 : Int32)) M6
          else
            K76 x1 x2 x3 x4 x5 (x6 + (0 : Int64)) (x8 + x11) (x10 + (1 : Int32)) M6
        else none
    else none
def X8_sleep_76  : Nat → Int32 → Int32 → Int32 → Int32 → Int32 → Int64 → Int64 → Int32 → Mem → Option (Int64 × Mem)
  | 0, _, _, _, _, _, _, _, _, _ => none
  | f + 1, x1, x2, x3, x4, x5, x6, x8, x10, M =>
    if x5 < x10 then
      X8_sleep_225 am_fuel x4 x6 x8 x6 x8 M
    else
      if (x10 &&& (x5 ^^^ (-1 : Int32))) = 0 then
        X8_sleep_99 (X8_sleep_76  f) am_fuel x1 x2 x3 x4 x5 x6 x8 x10 (1 : Int64) (0 : Int32) M
      else
        X8_sleep_76  f x1 x2 x3 x4 x5 x6 x8 (x10 + (1 : Int32)) M
def X8_sleep  (x1 : Int32) (x2 : Int32) (x3 : Int32) (x4 : Int32) (M : Mem) : Option (Int64 × Mem) :=
  Option.bind (X8_isOne M x1) fun r1 =>
  if r1 = 0 then
    some ((-1000001 : Int64), M)
  else
    Option.bind (X8_in x2.toInt64 (0 : Int64) (60 : Int64)) fun r2 =>
    if r2 = 0 then
      some ((-1000001 : Int64), M)
    else
      Option.bind (X8_in x3.toInt64 (0 : Int64) (10 : Int64)) fun r3 =>
      if r3 = 0 then
        some ((-1000001 : Int64), M)
      else
        Option.bind (X8_in x4.toInt64 (0 : Int64) (1 : Int64)) fun r4 =>
        if r4 = 0 then
          some ((-1000001 : Int64), M)
        else
          if am_in (1 : Int32) 1092 = true then
            Option.bind (X8_goneOnes M (0 : Int32)) fun r5 =>
            am_let ((((1 : Int32) <<< ((M 1 (1 : Int32).toNatClampNeg) &&& 31)) - (1 : Int32)) &&& (r5 ^^^ (-1 : Int32))) fun v6 =>
            X8_sleep_76 am_fuel x1 x2 x3 x4 v6 (0 : Int64) (0 : Int64) (0 : Int32) M
          else none
theorem m_X8_sleep_225 {E : amE} (C : amC E 6 cX8_sleep 16 RX8) (hr : (eH E).sig.returnType = (some .long))  : ∀ (f : Nat) (x4 : Int32) (x6 : Int64) (x8 : Int64) (x10 : Int64) (x12 : Int64) (M : Mem), AW E lyM 16 (qL lyM) (X8_sleep_225 f x4 x6 x8 x10 x12 M) 225 [(4, .int x4), (6, .long x6), (8, .long x8), (10, .long x10), (12, .long x12)] [] M := by
  intro f
  induction f with
  | zero => exact (fun _ _ _ _ _ _ => aw_none)
  | succ f ih =>
    intro x4 x6 x8 x10 x12 M
    rw [X8_sleep_225]
    refine aw_lload C dX8_sleep_225 rfl ?_
    refine aw_lconst C (0 : Int64) dX8_sleep_227 (by decide) ?_
    refine aw_lcmp C dX8_sleep_228 ?_
    refine aw_if_eq C (tgt := 250) dX8_sleep_229 (by decide) ?_ ?_
    · refine aw_iload C dX8_sleep_250 rfl ?_
      refine aw_if_ne C (tgt := 263) dX8_sleep_252 (by decide) ?_ ?_
      · refine aw_lload C dX8_sleep_255 rfl ?_
        refine aw_lload C dX8_sleep_257 rfl ?_
        refine aw_ldiv C dX8_sleep_259 ?_
        refine aw_goto C (tgt := 268) dX8_sleep_260 (by decide) ?_
        exact aw_lret C hr dX8_sleep_268
      · refine aw_lload C dX8_sleep_263 rfl ?_
        refine aw_lload C dX8_sleep_265 rfl ?_
        refine aw_ldiv C dX8_sleep_267 ?_
        exact aw_lret C hr dX8_sleep_268
    · refine aw_lload C dX8_sleep_232 rfl ?_
      refine aw_lload C dX8_sleep_234 rfl ?_
      refine aw_lrem C dX8_sleep_236 ?_
      refine aw_lstore C [(14, .long (x10 - x10 / x12 * x12)), (4, .int x4), (6, .long x6), (8, .long x8), (10, .long x10), (12, .long x12)] dX8_sleep_237 (by decide) rfl ?_
      refine aw_lload C dX8_sleep_239 rfl ?_
      refine aw_lstore C [(10, .long x12), (14, .long (x10 - x10 / x12 * x12)), (4, .int x4), (6, .long x6), (8, .long x8), (12, .long x12)] dX8_sleep_241 (by decide) rfl ?_
      refine aw_lload C dX8_sleep_243 rfl ?_
      refine aw_lstore C [(12, .long (x10 - x10 / x12 * x12)), (10, .long x12), (14, .long (x10 - x10 / x12 * x12)), (4, .int x4), (6, .long x6), (8, .long x8)] dX8_sleep_245 (by decide) rfl ?_
      refine aw_goto C (tgt := 225) dX8_sleep_247 (by decide) ?_
      refine aw_sub [3, 4, 5, 1, 0] rfl ?_
      exact ih x4 x6 x8 x12 (x10 - x10 / x12 * x12) M
theorem m_X8_sleep_99 {E : amE} (C : amC E 6 cX8_sleep 16 RX8) (hr : (eH E).sig.returnType = (some .long)) (K76 : Int32 → Int32 → Int32 → Int32 → Int32 → Int64 → Int64 → Int32 → Mem → Option (Int64 × Mem)) (hK76 : ∀ (x1 : Int32) (x2 : Int32) (x3 : Int32) (x4 : Int32) (x5 : Int32) (x6 : Int64) (x8 : Int64) (x10 : Int32) (M : Mem), AW E lyM 16 (qL lyM) (K76 x1 x2 x3 x4 x5 x6 x8 x10 M) 76 [(0, .ref 0), (1, .int x1), (2, .int x2), (3, .int x3), (4, .int x4), (5, .int x5), (6, .long x6), (8, .long x8), (10, .int x10)] [] M) : ∀ (f : Nat) (x1 : Int32) (x2 : Int32) (x3 : Int32) (x4 : Int32) (x5 : Int32) (x6 : Int64) (x8 : Int64) (x10 : Int32) (x11 : Int64) (x13 : Int32) (M : Mem), AW E lyM 16 (qL lyM) (X8_sleep_99 K76 f x1 x2 x3 x4 x5 x6 x8 x10 x11 x13 M) 99 [(0, .ref 0), (1, .int x1), (2, .int x2), (3, .int x3), (4, .int x4), (5, .int x5), (6, .long x6), (8, .long x8), (10, .int x10), (11, .long x11), (13, .int x13)] [] M := by
  intro f
  induction f with
  | zero => exact (fun _ _ _ _ _ _ _ _ _ _ _ => aw_none)
  | succ f ih =>
    intro x1 x2 x3 x4 x5 x6 x8 x10 x11 x13 M
    rw [X8_sleep_99]
    refine aw_iload C dX8_sleep_99 rfl ?_
    refine aw_aload_n C dX8_sleep_101 rfl ?_
    refine aw_getR C (r := 1) clX8 lo_M_0 0 rfl (by decide) kf_X8_7 dX8_sleep_102 ?_
    refine aw_iconst C (1 : Int32) dX8_sleep_105 (by decide) ?_
    refine aw_iald C la_M_1 dX8_sleep_106 ?_
    refine aw_icmp_ge C (tgt := 155) dX8_sleep_107 (by decide) ?_ ?_
    · refine aw_lload C dX8_sleep_110 rfl ?_
      refine aw_iload C dX8_sleep_112 rfl ?_
      refine aw_iload C dX8_sleep_114 rfl ?_
      refine aw_cSIp C [.int x5, .int x13] [.long x11] (m_X8_has M x5 x13) t_X8_has km_X8_150 (by decide) rfl rfl (Nat.le_of_ble_eq_true rfl) dX8_sleep_116 (fun r1 => ?_)
      refine aw_if_ne C (tgt := 126) dX8_sleep_119 (by decide) ?_ ?_
      · refine aw_lconst C (1 : Int64) dX8_sleep_122 (by decide) ?_
        refine aw_goto C (tgt := 146) dX8_sleep_123 (by decide) ?_
        refine aw_lmul C dX8_sleep_146 ?_
        refine aw_lstore C [(11, .long (x11 * (1 : Int64))), (0, .ref 0), (1, .int x1), (2, .int x2), (3, .int x3), (4, .int x4), (5, .int x5), (6, .long x6), (8, .long x8), (10, .int x10), (13, .int x13)] dX8_sleep_147 (by decide) rfl ?_
        refine aw_iinc C (v := (1 : Int32)) [(13, .int (x13 + (1 : Int32))), (11, .long (x11 * (1 : Int64))), (0, .ref 0), (1, .int x1), (2, .int x2), (3, .int x3), (4, .int x4), (5, .int x5), (6, .long x6), (8, .long x8), (10, .int x10)] dX8_sleep_149 rfl (by decide) (by decide) rfl ?_
        refine aw_goto C (tgt := 99) dX8_sleep_152 (by decide) ?_
        refine aw_sub [2, 3, 4, 5, 6, 7, 8, 9, 10, 1, 0] rfl ?_
        exact ih x1 x2 x3 x4 x5 x6 x8 x10 (x11 * (1 : Int64)) (x13 + (1 : Int32)) M
      · refine aw_iload C dX8_sleep_126 rfl ?_
        refine aw_iload C dX8_sleep_128 rfl ?_
        refine aw_cSIp C [.int x10, .int x13] [.long x11] (m_X8_has M x10 x13) t_X8_has km_X8_150 (by decide) rfl rfl (Nat.le_of_ble_eq_true rfl) dX8_sleep_130 (fun r2 => ?_)
        refine aw_if_eq C (tgt := 141) dX8_sleep_133 (by decide) ?_ ?_
        · refine aw_bipush C (10 : Int32) dX8_sleep_141 (by decide) ?_
          refine aw_iload_n C dX8_sleep_143 rfl ?_
          refine aw_isub C dX8_sleep_144 ?_
          refine aw_i2l C dX8_sleep_145 ?_
          refine aw_lmul C dX8_sleep_146 ?_
          refine aw_lstore C [(11, .long (x11 * (((10 : Int32) - x3).toInt64))), (0, .ref 0), (1, .int x1), (2, .int x2), (3, .int x3), (4, .int x4), (5, .int x5), (6, .long x6), (8, .long x8), (10, .int x10), (13, .int x13)] dX8_sleep_147 (by decide) rfl ?_
          refine aw_iinc C (v := (1 : Int32)) [(13, .int (x13 + (1 : Int32))), (11, .long (x11 * (((10 : Int32) - x3).toInt64))), (0, .ref 0), (1, .int x1), (2, .int x2), (3, .int x3), (4, .int x4), (5, .int x5), (6, .long x6), (8, .long x8), (10, .int x10)] dX8_sleep_149 rfl (by decide) (by decide) rfl ?_
          refine aw_goto C (tgt := 99) dX8_sleep_152 (by decide) ?_
          refine aw_sub [2, 3, 4, 5, 6, 7, 8, 9, 10, 1, 0] rfl ?_
          exact ih x1 x2 x3 x4 x5 x6 x8 x10 (x11 * (((10 : Int32) - x3).toInt64)) (x13 + (1 : Int32)) M
        · refine aw_iload_n C dX8_sleep_136 rfl ?_
          refine aw_i2l C dX8_sleep_137 ?_
          refine aw_goto C (tgt := 146) dX8_sleep_138 (by decide) ?_
          refine aw_lmul C dX8_sleep_146 ?_
          refine aw_lstore C [(11, .long (x11 * x3.toInt64)), (0, .ref 0), (1, .int x1), (2, .int x2), (3, .int x3), (4, .int x4), (5, .int x5), (6, .long x6), (8, .long x8), (10, .int x10), (13, .int x13)] dX8_sleep_147 (by decide) rfl ?_
          refine aw_iinc C (v := (1 : Int32)) [(13, .int (x13 + (1 : Int32))), (11, .long (x11 * x3.toInt64)), (0, .ref 0), (1, .int x1), (2, .int x2), (3, .int x3), (4, .int x4), (5, .int x5), (6, .long x6), (8, .long x8), (10, .int x10)] dX8_sleep_149 rfl (by decide) (by decide) rfl ?_
          refine aw_goto C (tgt := 99) dX8_sleep_152 (by decide) ?_
          refine aw_sub [2, 3, 4, 5, 6, 7, 8, 9, 10, 1, 0] rfl ?_
          exact ih x1 x2 x3 x4 x5 x6 x8 x10 (x11 * x3.toInt64) (x13 + (1 : Int32)) M
    · refine aw_aload_n C dX8_sleep_155 rfl ?_
      refine aw_cVV C [] [] (m_X8_layTried M) v_X8_layTried km_X8_222 (by decide) lo_M_0 rfl rfl rfl (Nat.le_of_ble_eq_true rfl) dX8_sleep_156 (fun M3 => ?_)
      refine aw_aload_n C dX8_sleep_159 rfl ?_
      refine aw_iload C dX8_sleep_160 rfl ?_
      refine aw_putI C clX8 lo_M_0 16 rfl (by decide) rfl rfl kf_X8_147 dX8_sleep_162 ?_
      refine aw_mlet (fun M4 => ?_)
      refine aw_aload_n C dX8_sleep_165 rfl ?_
      refine aw_sipush C (1053 : Int32) dX8_sleep_166 (by decide) ?_
      refine aw_iload_n C dX8_sleep_169 rfl ?_
      refine aw_cVV C [.int (1053 : Int32), .int x2] [] (m_X8_ticksOf (1053 : Int32) x2 M4) v_X8_ticksOf km_X8_187 (by decide) lo_M_0 rfl rfl rfl (Nat.le_of_ble_eq_true rfl) dX8_sleep_170 (fun M5 => ?_)
      refine aw_aload_n C dX8_sleep_173 rfl ?_
      refine aw_iconst C (0 : Int32) dX8_sleep_174 (by decide) ?_
      refine aw_putI C clX8 lo_M_0 16 rfl (by decide) rfl rfl kf_X8_147 dX8_sleep_175 ?_
      refine aw_mlet (fun M6 => ?_)
      refine aw_lload C dX8_sleep_178 rfl ?_
      refine aw_aload_n C dX8_sleep_180 rfl ?_
      refine aw_getR C (r := 1) clX8 lo_M_0 0 rfl (by decide) kf_X8_7 dX8_sleep_181 ?_
      refine aw_sipush C (1086 : Int32) dX8_sleep_184 (by decide) ?_
      refine aw_iload_n C dX8_sleep_187 rfl ?_
      refine aw_iadd C dX8_sleep_188 ?_
      refine aw_iald C la_M_1 dX8_sleep_189 ?_
      refine aw_bipush C (20 : Int32) dX8_sleep_190 (by decide) ?_
      refine aw_icmp_ge C (tgt := 200) dX8_sleep_192 (by decide) ?_ ?_
      · refine aw_lload C dX8_sleep_195 rfl ?_
        refine aw_goto C (tgt := 201) dX8_sleep_197 (by decide) ?_
        refine aw_ladd C dX8_sleep_201 ?_
        refine aw_lstore C [(6, .long (x6 + x11)), (0, .ref 0), (1, .int x1), (2, .int x2), (3, .int x3), (4, .int x4), (5, .int x5), (8, .long x8), (10, .int x10), (11, .long x11), (13, .int x13)] dX8_sleep_202 (by decide) rfl ?_
        refine aw_lload C dX8_sleep_204 rfl ?_
        refine aw_lload C dX8_sleep_206 rfl ?_
        refine aw_ladd C dX8_sleep_208 ?_
        refine aw_lstore C [(8, .long (x8 + x11)), (6, .long (x6 + x11)), (0, .ref 0), (1, .int x1), (2, .int x2), (3, .int x3), (4, .int x4), (5, .int x5), (10, .int x10), (11, .long x11), (13, .int x13)] dX8_sleep_209 (by decide) rfl ?_
        refine aw_iinc C (v := (1 : Int32)) [(10, .int (x10 + (1 : Int32))), (8, .long (x8 + x11)), (6, .long (x6 + x11)), (0, .ref 0), (1, .int x1), (2, .int x2), (3, .int x3), (4, .int x4), (5, .int x5), (11, .long x11), (13, .int x13)] dX8_sleep_211 rfl (by decide) (by decide) rfl ?_
        refine aw_goto C (tgt := 76) dX8_sleep_214 (by decide) ?_
        refine aw_sub [3, 4, 5, 6, 7, 8, 2, 1, 0] rfl ?_
        exact hK76 x1 x2 x3 x4 x5 (x6 + x11) (x8 + x11) (x10 + (1 : Int32)) M6
      · refine aw_lconst C (0 : Int64) dX8_sleep_200 (by decide) ?_
        refine aw_ladd C dX8_sleep_201 ?_
        refine aw_lstore C [(6, .long (x6 + (0 : Int64))), (0, .ref 0), (1, .int x1), (2, .int x2), (3, .int x3), (4, .int x4), (5, .int x5), (8, .long x8), (10, .int x10), (11, .long x11), (13, .int x13)] dX8_sleep_202 (by decide) rfl ?_
        refine aw_lload C dX8_sleep_204 rfl ?_
        refine aw_lload C dX8_sleep_206 rfl ?_
        refine aw_ladd C dX8_sleep_208 ?_
        refine aw_lstore C [(8, .long (x8 + x11)), (6, .long (x6 + (0 : Int64))), (0, .ref 0), (1, .int x1), (2, .int x2), (3, .int x3), (4, .int x4), (5, .int x5), (10, .int x10), (11, .long x11), (13, .int x13)] dX8_sleep_209 (by decide) rfl ?_
        refine aw_iinc C (v := (1 : Int32)) [(10, .int (x10 + (1 : Int32))), (8, .long (x8 + x11)), (6, .long (x6 + (0 : Int64))), (0, .ref 0), (1, .int x1), (2, .int x2), (3, .int x3), (4, .int x4), (5, .int x5), (11, .long x11), (13, .int x13)] dX8_sleep_211 rfl (by decide) (by decide) rfl ?_
        refine aw_goto C (tgt := 76) dX8_sleep_214 (by decide) ?_
        refine aw_sub [3, 4, 5, 6, 7, 8, 2, 1, 0] rfl ?_
        exact hK76 x1 x2 x3 x4 x5 (x6 + (0 : Int64)) (x8 + x11) (x10 + (1 : Int32)) M6
theorem m_X8_sleep_76 {E : amE} (C : amC E 6 cX8_sleep 16 RX8) (hr : (eH E).sig.returnType = (some .long))  : ∀ (f : Nat) (x1 : Int32) (x2 : Int32) (x3 : Int32) (x4 : Int32) (x5 : Int32) (x6 : Int64) (x8 : Int64) (x10 : Int32) (M : Mem), AW E lyM 16 (qL lyM) (X8_sleep_76 f x1 x2 x3 x4 x5 x6 x8 x10 M) 76 [(0, .ref 0), (1, .int x1), (2, .int x2), (3, .int x3), (4, .int x4), (5, .int x5), (6, .long x6), (8, .long x8), (10, .int x10)] [] M := by
  intro f
  induction f with
  | zero => exact (fun _ _ _ _ _ _ _ _ _ => aw_none)
  | succ f ih =>
    intro x1 x2 x3 x4 x5 x6 x8 x10 M
    rw [X8_sleep_76]
    refine aw_iload C dX8_sleep_76 rfl ?_
    refine aw_iload C dX8_sleep_78 rfl ?_
    refine aw_icmp_gt C (tgt := 217) dX8_sleep_80 (by decide) ?_ ?_
    · refine aw_lload C dX8_sleep_217 rfl ?_
      refine aw_lstore C [(10, .long x6), (0, .ref 0), (1, .int x1), (2, .int x2), (3, .int x3), (4, .int x4), (5, .int x5), (6, .long x6), (8, .long x8)] dX8_sleep_219 (by decide) rfl ?_
      refine aw_lload C dX8_sleep_221 rfl ?_
      refine aw_lstore C [(12, .long x8), (10, .long x6), (0, .ref 0), (1, .int x1), (2, .int x2), (3, .int x3), (4, .int x4), (5, .int x5), (6, .long x6), (8, .long x8)] dX8_sleep_223 (by decide) rfl ?_
      refine aw_sub [6, 8, 9, 1, 0] rfl ?_
      exact m_X8_sleep_225 C hr am_fuel x4 x6 x8 x6 x8 M
    · refine aw_iload C dX8_sleep_83 rfl ?_
      refine aw_iload C dX8_sleep_85 rfl ?_
      refine aw_iconst C (-1 : Int32) dX8_sleep_87 (by decide) ?_
      refine aw_ixor C dX8_sleep_88 ?_
      refine aw_iand C dX8_sleep_89 ?_
      refine aw_if_ne C (tgt := 211) dX8_sleep_90 (by decide) ?_ ?_
      · refine aw_lconst C (1 : Int64) dX8_sleep_93 (by decide) ?_
        refine aw_lstore C [(11, .long (1 : Int64)), (0, .ref 0), (1, .int x1), (2, .int x2), (3, .int x3), (4, .int x4), (5, .int x5), (6, .long x6), (8, .long x8), (10, .int x10)] dX8_sleep_94 (by decide) rfl ?_
        refine aw_iconst C (0 : Int32) dX8_sleep_96 (by decide) ?_
        refine aw_istore C [(13, .int (0 : Int32)), (11, .long (1 : Int64)), (0, .ref 0), (1, .int x1), (2, .int x2), (3, .int x3), (4, .int x4), (5, .int x5), (6, .long x6), (8, .long x8), (10, .int x10)] dX8_sleep_97 (by decide) rfl ?_
        refine aw_sub [2, 3, 4, 5, 6, 7, 8, 9, 10, 1, 0] rfl ?_
        exact m_X8_sleep_99 C hr (X8_sleep_76  f) ih am_fuel x1 x2 x3 x4 x5 x6 x8 x10 (1 : Int64) (0 : Int32) M
      · refine aw_iinc C (v := (1 : Int32)) [(10, .int (x10 + (1 : Int32))), (0, .ref 0), (1, .int x1), (2, .int x2), (3, .int x3), (4, .int x4), (5, .int x5), (6, .long x6), (8, .long x8)] dX8_sleep_211 rfl (by decide) (by decide) rfl ?_
        refine aw_goto C (tgt := 76) dX8_sleep_214 (by decide) ?_
        refine aw_sub [1, 2, 3, 4, 5, 6, 7, 8, 0] rfl ?_
        exact ih x1 x2 x3 x4 x5 x6 x8 (x10 + (1 : Int32)) M
theorem m_X8_sleep   (x1 : Int32) (x2 : Int32) (x3 : Int32) (x4 : Int32) (M : Mem) : AMet 6 yX8_sleep cX8_sleep 16 (some .long) lyM [.ref 0, .int x1, .int x2, .int x3, .int x4] M (qL lyM) (X8_sleep x1 x2 x3 x4 M) := by
  refine am_ent pn_X8 (Nat.le_of_ble_eq_true rfl) (fun E C hr => ?_)
  refine aw_lv (lv' := [(0, .ref 0), (1, .int x1), (2, .int x2), (3, .int x3), (4, .int x4)]) rfl ?_
  unfold X8_sleep
  refine aw_aload_n C dX8_sleep_0 rfl ?_
  refine aw_iload_n C dX8_sleep_1 rfl ?_
  refine aw_cVIp C [.int x1] [] (m_X8_isOne M x1) v_X8_isOne km_X8_193 (by decide) lo_M_0 rfl rfl rfl (Nat.le_of_ble_eq_true rfl) dX8_sleep_2 (fun r1 => ?_)
  refine aw_if_eq C (tgt := 43) dX8_sleep_5 (by decide) ?_ ?_
  · refine aw_ldc2 C kd_X8_259 dX8_sleep_43 ?_
    exact aw_lret C hr dX8_sleep_46
  · refine aw_iload_n C dX8_sleep_8 rfl ?_
    refine aw_i2l C dX8_sleep_9 ?_
    refine aw_lconst C (0 : Int64) dX8_sleep_10 (by decide) ?_
    refine aw_ldc2 C kd_X8_220 dX8_sleep_11 ?_
    refine aw_cSIp C [.long x2.toInt64, .long (0 : Int64), .long (60 : Int64)] [] (m_X8_in M x2.toInt64 (0 : Int64) (60 : Int64)) t_X8_in km_X8_48 (by decide) rfl rfl (Nat.le_of_ble_eq_true rfl) dX8_sleep_14 (fun r2 => ?_)
    refine aw_if_eq C (tgt := 43) dX8_sleep_17 (by decide) ?_ ?_
    · refine aw_ldc2 C kd_X8_259 dX8_sleep_43 ?_
      exact aw_lret C hr dX8_sleep_46
    · refine aw_iload_n C dX8_sleep_20 rfl ?_
      refine aw_i2l C dX8_sleep_21 ?_
      refine aw_lconst C (0 : Int64) dX8_sleep_22 (by decide) ?_
      refine aw_ldc2 C kd_X8_257 dX8_sleep_23 ?_
      refine aw_cSIp C [.long x3.toInt64, .long (0 : Int64), .long (10 : Int64)] [] (m_X8_in M x3.toInt64 (0 : Int64) (10 : Int64)) t_X8_in km_X8_48 (by decide) rfl rfl (Nat.le_of_ble_eq_true rfl) dX8_sleep_26 (fun r3 => ?_)
      refine aw_if_eq C (tgt := 43) dX8_sleep_29 (by decide) ?_ ?_
      · refine aw_ldc2 C kd_X8_259 dX8_sleep_43 ?_
        exact aw_lret C hr dX8_sleep_46
      · refine aw_iload C dX8_sleep_32 rfl ?_
        refine aw_i2l C dX8_sleep_34 ?_
        refine aw_lconst C (0 : Int64) dX8_sleep_35 (by decide) ?_
        refine aw_lconst C (1 : Int64) dX8_sleep_36 (by decide) ?_
        refine aw_cSIp C [.long x4.toInt64, .long (0 : Int64), .long (1 : Int64)] [] (m_X8_in M x4.toInt64 (0 : Int64) (1 : Int64)) t_X8_in km_X8_48 (by decide) rfl rfl (Nat.le_of_ble_eq_true rfl) dX8_sleep_37 (fun r4 => ?_)
        refine aw_if_ne C (tgt := 47) dX8_sleep_40 (by decide) ?_ ?_
        · refine aw_ldc2 C kd_X8_259 dX8_sleep_43 ?_
          exact aw_lret C hr dX8_sleep_46
        · refine aw_iconst C (1 : Int32) dX8_sleep_47 (by decide) ?_
          refine aw_aload_n C dX8_sleep_48 rfl ?_
          refine aw_getR C (r := 1) clX8 lo_M_0 0 rfl (by decide) kf_X8_7 dX8_sleep_49 ?_
          refine aw_iconst C (1 : Int32) dX8_sleep_52 (by decide) ?_
          refine aw_iald C la_M_1 dX8_sleep_53 ?_
          refine aw_ishl C dX8_sleep_54 ?_
          refine aw_iconst C (1 : Int32) dX8_sleep_55 (by decide) ?_
          refine aw_isub C dX8_sleep_56 ?_
          refine aw_aload_n C dX8_sleep_57 rfl ?_
          refine aw_iconst C (0 : Int32) dX8_sleep_58 (by decide) ?_
          refine aw_cVIp C [.int (0 : Int32)] [.int (((1 : Int32) <<< ((M 1 (1 : Int32).toNatClampNeg) &&& 31)) - (1 : Int32))] (m_X8_goneOnes M (0 : Int32)) v_X8_goneOnes km_X8_190 (by decide) lo_M_0 rfl rfl rfl (Nat.le_of_ble_eq_true rfl) dX8_sleep_59 (fun r5 => ?_)
          refine aw_iconst C (-1 : Int32) dX8_sleep_62 (by decide) ?_
          refine aw_ixor C dX8_sleep_63 ?_
          refine aw_iand C dX8_sleep_64 ?_
          refine aw_ilet (fun v6 => ?_)
          refine aw_istore C [(5, .int v6), (0, .ref 0), (1, .int x1), (2, .int x2), (3, .int x3), (4, .int x4)] dX8_sleep_65 (by decide) rfl ?_
          refine aw_lconst C (0 : Int64) dX8_sleep_67 (by decide) ?_
          refine aw_lstore C [(6, .long (0 : Int64)), (5, .int v6), (0, .ref 0), (1, .int x1), (2, .int x2), (3, .int x3), (4, .int x4)] dX8_sleep_68 (by decide) rfl ?_
          refine aw_lconst C (0 : Int64) dX8_sleep_70 (by decide) ?_
          refine aw_lstore C [(8, .long (0 : Int64)), (6, .long (0 : Int64)), (5, .int v6), (0, .ref 0), (1, .int x1), (2, .int x2), (3, .int x3), (4, .int x4)] dX8_sleep_71 (by decide) rfl ?_
          refine aw_iconst C (0 : Int32) dX8_sleep_73 (by decide) ?_
          refine aw_istore C [(10, .int (0 : Int32)), (8, .long (0 : Int64)), (6, .long (0 : Int64)), (5, .int v6), (0, .ref 0), (1, .int x1), (2, .int x2), (3, .int x3), (4, .int x4)] dX8_sleep_74 (by decide) rfl ?_
          refine aw_sub [4, 5, 6, 7, 8, 3, 2, 1, 0] rfl ?_
          exact m_X8_sleep_76 C hr am_fuel x1 x2 x3 x4 v6 (0 : Int64) (0 : Int64) (0 : Int32) M
