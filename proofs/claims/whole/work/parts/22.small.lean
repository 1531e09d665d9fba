def X5_isNumber  (x1 : Int32)  : Option (Int32) :=
  if x1 < 0 then
    some (0 : Int32)
  else
    if x1 < (8 : Int32) then
      some (1 : Int32)
    else
      some (0 : Int32)
theorem m_X5_isNumber  (M : Mem) (x1 : Int32)  : AMet 1 yX5_isNumber cX5_isNumber 2 (some .boolean) lyX [.ref 1, .int x1] M (qIp lyX M) (X5_isNumber x1) := by
  refine am_ent pn_X5 (Nat.le_of_ble_eq_true rfl) (fun E C hr => ?_)
  refine aw_lv (lv' := [(0, .ref 1), (1, .int x1)]) rfl ?_
  unfold X5_isNumber
  refine aw_iload_n C dX5_isNumber_0 rfl ?_
  refine aw_if_lt C (tgt := 14) dX5_isNumber_1 (by decide) ?_ ?_
  · refine aw_iconst C (0 : Int32) dX5_isNumber_14 (by decide) ?_
    exact aw_zretp C (Or.inl rfl) hr dX5_isNumber_15
  · refine aw_iload_n C dX5_isNumber_4 rfl ?_
    refine aw_bipush C (8 : Int32) dX5_isNumber_5 (by decide) ?_
    refine aw_icmp_ge C (tgt := 14) dX5_isNumber_7 (by decide) ?_ ?_
    · refine aw_iconst C (1 : Int32) dX5_isNumber_10 (by decide) ?_
      refine aw_goto C (tgt := 15) dX5_isNumber_11 (by decide) ?_
      exact aw_zretp C (Or.inr rfl) hr dX5_isNumber_15
    · refine aw_iconst C (0 : Int32) dX5_isNumber_14 (by decide) ?_
      exact aw_zretp C (Or.inl rfl) hr dX5_isNumber_15
def X5_lay  (x1 : Int32) (x2 : Int32) (x3 : Int32) (M : Mem) : Option (Mem) :=
  Option.bind (X5_isNumber x1) fun r1 =>
  if r1 = 0 then
    some M
  else
    if x3 < 0 then
      some M
    else
      if (40 : Int32) < x3 then
        some M
      else
        if am_in x1 8 = true then
          am_let (mset M 2 (upd (M 2) x1.toNatClampNeg x2)) fun M2 =>
          if am_in x1 8 = true then
            am_let (mset M2 3 (upd (M2 3) x1.toNatClampNeg x3)) fun M3 =>
            if am_in x1 8 = true then
              Option.bind (J7_fill_53178 (5 + x1.toNatClampNeg) 40 (0 : Int32) M3) fun M5 =>
              some M5
            else none
          else none
        else none
theorem m_X5_lay   (x1 : Int32) (x2 : Int32) (x3 : Int32) (M : Mem) : AMet 2 yX5_lay cX5_lay 4 none lyX [.ref 1, .int x1, .int x2, .int x3] M (qV lyX) (X5_lay x1 x2 x3 M) := by
  refine am_ent pn_X5 (Nat.le_of_ble_eq_true rfl) (fun E C hr => ?_)
  refine aw_lv (lv' := [(0, .ref 1), (1, .int x1), (2, .int x2), (3, .int x3)]) rfl ?_
  unfold X5_lay
  refine aw_aload_n C dX5_lay_0 rfl ?_
  refine aw_iload_n C dX5_lay_1 rfl ?_
  refine aw_cVIp C [.int x1] [] (m_X5_isNumber M x1) v_X5_isNumber km_X5_27 (by decide) lo_X_1 rfl rfl rfl (Nat.le_of_ble_eq_true rfl) dX5_lay_2 (fun r1 => ?_)
  refine aw_if_eq C (tgt := 42) dX5_lay_5 (by decide) ?_ ?_
  · exact aw_vret C hr dX5_lay_42
  · refine aw_iload_n C dX5_lay_8 rfl ?_
    refine aw_if_lt C (tgt := 42) dX5_lay_9 (by decide) ?_ ?_
    · exact aw_vret C hr dX5_lay_42
    · refine aw_iload_n C dX5_lay_12 rfl ?_
      refine aw_bipush C (40 : Int32) dX5_lay_13 (by decide) ?_
      refine aw_icmp_gt C (tgt := 42) dX5_lay_15 (by decide) ?_ ?_
      · exact aw_vret C hr dX5_lay_42
      · refine aw_aload_n C dX5_lay_18 rfl ?_
        refine aw_getR C (r := 2) clX5 lo_X_1 0 rfl (by decide) kf_X5_9 dX5_lay_19 ?_
        refine aw_iload_n C dX5_lay_22 rfl ?_
        refine aw_iload_n C dX5_lay_23 rfl ?_
        refine aw_iast C la_X_2 dX5_lay_24 ?_
        refine aw_mlet (fun M2 => ?_)
        refine aw_aload_n C dX5_lay_25 rfl ?_
        refine aw_getR C (r := 3) clX5 lo_X_1 1 rfl (by decide) kf_X5_13 dX5_lay_26 ?_
        refine aw_iload_n C dX5_lay_29 rfl ?_
        refine aw_iload_n C dX5_lay_30 rfl ?_
        refine aw_iast C la_X_3 dX5_lay_31 ?_
        refine aw_mlet (fun M3 => ?_)
        refine aw_aload_n C dX5_lay_32 rfl ?_
        refine aw_getR C (r := 4) clX5 lo_X_1 2 rfl (by decide) kf_X5_18 dX5_lay_33 ?_
        refine aw_iload_n C dX5_lay_36 rfl ?_
        refine aw_ite (fun h4 => ?_) (fun _ => aw_none)
        refine aw_aald8 C la_X_4 h4 dX5_lay_37 ?_
        refine aw_iconst C (0 : Int32) dX5_lay_38 (by decide) ?_
        refine aw_cSV C [.ref (5 + x1.toNatClampNeg), .int (0 : Int32)] [] (m_J7_fill_53178 (5 + x1.toNatClampNeg) 40 (ly_row h4) (0 : Int32) M3) t_J7_fill_53178 km_X5_21 (by decide) rfl rfl (Nat.le_of_ble_eq_true rfl) dX5_lay_39 (fun M5 => ?_)
        exact aw_vret C hr dX5_lay_42
def X5_isMissing (M : Mem) (x1 : Int32)  : Option (Int32) :=
  Option.bind (X5_isNumber x1) fun r1 =>
  if r1 = 0 then
    some (1 : Int32)
  else
    if am_in x1 8 = true then
      if (M 2 x1.toNatClampNeg) = (-1 : Int32) then
        some (1 : Int32)
      else
        some (0 : Int32)
    else none
theorem m_X5_isMissing  (M : Mem) (x1 : Int32)  : AMet 2 yX5_isMissing cX5_isMissing 2 (some .boolean) lyX [.ref 1, .int x1] M (qIp lyX M) (X5_isMissing M x1) := by
  refine am_ent pn_X5 (Nat.le_of_ble_eq_true rfl) (fun E C hr => ?_)
  refine aw_lv (lv' := [(0, .ref 1), (1, .int x1)]) rfl ?_
  unfold X5_isMissing
  refine aw_aload_n C dX5_isMissing_0 rfl ?_
  refine aw_iload_n C dX5_isMissing_1 rfl ?_
  refine aw_cVIp C [.int x1] [] (m_X5_isNumber M x1) v_X5_isNumber km_X5_27 (by decide) lo_X_1 rfl rfl rfl (Nat.le_of_ble_eq_true rfl) dX5_isMissing_2 (fun r1 => ?_)
  refine aw_if_eq C (tgt := 18) dX5_isMissing_5 (by decide) ?_ ?_
  · refine aw_iconst C (1 : Int32) dX5_isMissing_18 (by decide) ?_
    refine aw_goto C (tgt := 23) dX5_isMissing_19 (by decide) ?_
    exact aw_zretp C (Or.inr rfl) hr dX5_isMissing_23
  · refine aw_aload_n C dX5_isMissing_8 rfl ?_
    refine aw_getR C (r := 2) clX5 lo_X_1 0 rfl (by decide) kf_X5_9 dX5_isMissing_9 ?_
    refine aw_iload_n C dX5_isMissing_12 rfl ?_
    refine aw_iald C la_X_2 dX5_isMissing_13 ?_
    refine aw_iconst C (-1 : Int32) dX5_isMissing_14 (by decide) ?_
    refine aw_icmp_ne C (tgt := 22) dX5_isMissing_15 (by decide) ?_ ?_
    · refine aw_iconst C (1 : Int32) dX5_isMissing_18 (by decide) ?_
      refine aw_goto C (tgt := 23) dX5_isMissing_19 (by decide) ?_
      exact aw_zretp C (Or.inr rfl) hr dX5_isMissing_23
    · refine aw_iconst C (0 : Int32) dX5_isMissing_22 (by decide) ?_
      exact aw_zretp C (Or.inl rfl) hr dX5_isMissing_23
def X5_reaches (M : Mem) (x1 : Int32) (x2 : Int32) (x3 : Int32)  : Option (Int32) :=
  Option.bind (X5_isMissing M x1) fun r1 =>
  if r1 = 0 then
    if x2 < 0 then
      some (0 : Int32)
    else
      if x3 < 0 then
        some (0 : Int32)
      else
        if am_in x1 8 = true then
          if (M 3 x1.toNatClampNeg) < x2 then
            some (0 : Int32)
          else
            if am_in x1 8 = true then
              if ((M 3 x1.toNatClampNeg) - x2) < x3 then
                some (0 : Int32)
              else
                some (1 : Int32)
            else none
        else none
  else
    some (0 : Int32)
theorem m_X5_reaches  (M : Mem) (x1 : Int32) (x2 : Int32) (x3 : Int32)  : AMet 3 yX5_reaches cX5_reaches 4 (some .boolean) lyX [.ref 1, .int x1, .int x2, .int x3] M (qIp lyX M) (X5_reaches M x1 x2 x3) := by
  refine am_ent pn_X5 (Nat.le_of_ble_eq_true rfl) (fun E C hr => ?_)
  refine aw_lv (lv' := [(0, .ref 1), (1, .int x1), (2, .int x2), (3, .int x3)]) rfl ?_
  unfold X5_reaches
  refine aw_aload_n C dX5_reaches_0 rfl ?_
  refine aw_iload_n C dX5_reaches_1 rfl ?_
  refine aw_cVIp C [.int x1] [] (m_X5_isMissing M x1) v_X5_isMissing km_X5_31 (by decide) lo_X_1 rfl rfl rfl (Nat.le_of_ble_eq_true rfl) dX5_reaches_2 (fun r1 => ?_)
  refine aw_if_ne C (tgt := 42) dX5_reaches_5 (by decide) ?_ ?_
  · refine aw_iload_n C dX5_reaches_8 rfl ?_
    refine aw_if_lt C (tgt := 42) dX5_reaches_9 (by decide) ?_ ?_
    · refine aw_iconst C (0 : Int32) dX5_reaches_42 (by decide) ?_
      exact aw_zretp C (Or.inl rfl) hr dX5_reaches_43
    · refine aw_iload_n C dX5_reaches_12 rfl ?_
      refine aw_if_lt C (tgt := 42) dX5_reaches_13 (by decide) ?_ ?_
      · refine aw_iconst C (0 : Int32) dX5_reaches_42 (by decide) ?_
        exact aw_zretp C (Or.inl rfl) hr dX5_reaches_43
      · refine aw_iload_n C dX5_reaches_16 rfl ?_
        refine aw_aload_n C dX5_reaches_17 rfl ?_
        refine aw_getR C (r := 3) clX5 lo_X_1 1 rfl (by decide) kf_X5_13 dX5_reaches_18 ?_
        refine aw_iload_n C dX5_reaches_21 rfl ?_
        refine aw_iald C la_X_3 dX5_reaches_22 ?_
        refine aw_icmp_gt C (tgt := 42) dX5_reaches_23 (by decide) ?_ ?_
        · refine aw_iconst C (0 : Int32) dX5_reaches_42 (by decide) ?_
          exact aw_zretp C (Or.inl rfl) hr dX5_reaches_43
        · refine aw_iload_n C dX5_reaches_26 rfl ?_
          refine aw_aload_n C dX5_reaches_27 rfl ?_
          refine aw_getR C (r := 3) clX5 lo_X_1 1 rfl (by decide) kf_X5_13 dX5_reaches_28 ?_
          refine aw_iload_n C dX5_reaches_31 rfl ?_
          refine aw_iald C la_X_3 dX5_reaches_32 ?_
          refine aw_iload_n C dX5_reaches_33 rfl ?_
          refine aw_isub C dX5_reaches_34 ?_
          refine aw_icmp_gt C (tgt := 42) dX5_reaches_35 (by decide) ?_ ?_
          · refine aw_iconst C (0 : Int32) dX5_reaches_42 (by decide) ?_
            exact aw_zretp C (Or.inl rfl) hr dX5_reaches_43
          · refine aw_iconst C (1 : Int32) dX5_reaches_38 (by decide) ?_
            refine aw_goto C (tgt := 43) dX5_reaches_39 (by decide) ?_
            exact aw_zretp C (Or.inr rfl) hr dX5_reaches_43
  · refine aw_iconst C (0 : Int32) dX5_reaches_42 (by decide) ?_
    exact aw_zretp C (Or.inl rfl) hr dX5_reaches_43
def X5_cutTo  (x0 : Int32) (x1 : Int32)  : Option (Int32) :=
  if x0 = 0 then
    some x1.toInt8.toInt32
  else
    if x0 = (1 : Int32) then
      some x1.toInt16.toInt32
    else
      some x1
theorem m_X5_cutTo  (M : Mem) (x0 : Int32) (x1 : Int32)  : AMet 1 yX5_cutTo cX5_cutTo 2 (some .int) lyX [.int x0, .int x1] M (qIp lyX M) (X5_cutTo x0 x1) := by
  refine am_ent pn_X5 (Nat.le_of_ble_eq_true rfl) (fun E C hr => ?_)
  refine aw_lv (lv' := [(0, .int x0), (1, .int x1)]) rfl ?_
  unfold X5_cutTo
  refine aw_iload_n C dX5_cutTo_0 rfl ?_
  refine aw_if_ne C (tgt := 7) dX5_cutTo_1 (by decide) ?_ ?_
  · refine aw_iload_n C dX5_cutTo_4 rfl ?_
    refine aw_i2b C dX5_cutTo_5 ?_
    exact aw_iretp C hr dX5_cutTo_6
  · refine aw_iload_n C dX5_cutTo_7 rfl ?_
    refine aw_iconst C (1 : Int32) dX5_cutTo_8 (by decide) ?_
    refine aw_icmp_ne C (tgt := 17) dX5_cutTo_9 (by decide) ?_ ?_
    · refine aw_iload_n C dX5_cutTo_12 rfl ?_
      refine aw_i2s C dX5_cutTo_13 ?_
      refine aw_goto C (tgt := 18) dX5_cutTo_14 (by decide) ?_
      exact aw_iretp C hr dX5_cutTo_18
    · refine aw_iload_n C dX5_cutTo_17 rfl ?_
      exact aw_iretp C hr dX5_cutTo_18
def X5_put  (x1 : Int32) (x2 : Int32) (x3 : Int32) (M : Mem) : Option (Int32 × Mem) :=
  Option.bind (X5_reaches M x1 x2 (1 : Int32)) fun r1 =>
  if r1 = 0 then
    some ((0 : Int32), M)
  else
    if am_in x1 8 = true then
      if am_in x1 8 = true then
        Option.bind (X5_cutTo (M 2 x1.toNatClampNeg) x3) fun r3 =>
        if am_in x2 40 = true then
          am_let (mset M (5 + x1.toNatClampNeg) (upd (M (5 + x1.toNatClampNeg)) x2.toNatClampNeg r3)) fun M4 =>
          if am_in x1 8 = true then
            if am_in x2 40 = true then
              some (M4 (5 + x1.toNatClampNeg) x2.toNatClampNeg, M4)
            else none
          else none
        else none
      else none
    else none
theorem m_X5_put   (x1 : Int32) (x2 : Int32) (x3 : Int32) (M : Mem) : AMet 4 yX5_put cX5_put 4 (some .int) lyX [.ref 1, .int x1, .int x2, .int x3] M (qI lyX) (X5_put x1 x2 x3 M) := by
  refine am_ent pn_X5 (Nat.le_of_ble_eq_true rfl) (fun E C hr => ?_)
  refine aw_lv (lv' := [(0, .ref 1), (1, .int x1), (2, .int x2), (3, .int x3)]) rfl ?_
  unfold X5_put
  refine aw_aload_n C dX5_put_0 rfl ?_
  refine aw_iload_n C dX5_put_1 rfl ?_
  refine aw_iload_n C dX5_put_2 rfl ?_
  refine aw_iconst C (1 : Int32) dX5_put_3 (by decide) ?_
  refine aw_cVIp C [.int x1, .int x2, .int (1 : Int32)] [] (m_X5_reaches M x1 x2 (1 : Int32)) v_X5_reaches km_X5_34 (by decide) lo_X_1 rfl rfl rfl (Nat.le_of_ble_eq_true rfl) dX5_put_4 (fun r1 => ?_)
  refine aw_if_ne C (tgt := 12) dX5_put_7 (by decide) ?_ ?_
  · refine aw_iconst C (0 : Int32) dX5_put_10 (by decide) ?_
    exact aw_iret C hr dX5_put_11
  · refine aw_aload_n C dX5_put_12 rfl ?_
    refine aw_getR C (r := 4) clX5 lo_X_1 2 rfl (by decide) kf_X5_18 dX5_put_13 ?_
    refine aw_iload_n C dX5_put_16 rfl ?_
    refine aw_ite (fun h2 => ?_) (fun _ => aw_none)
    refine aw_aald8 C la_X_4 h2 dX5_put_17 ?_
    refine aw_iload_n C dX5_put_18 rfl ?_
    refine aw_aload_n C dX5_put_19 rfl ?_
    refine aw_getR C (r := 2) clX5 lo_X_1 0 rfl (by decide) kf_X5_9 dX5_put_20 ?_
    refine aw_iload_n C dX5_put_23 rfl ?_
    refine aw_iald C la_X_2 dX5_put_24 ?_
    refine aw_iload_n C dX5_put_25 rfl ?_
    refine aw_cSIp C [.int (M 2 x1.toNatClampNeg), .int x3] [.int x2, .ref (5 + x1.toNatClampNeg)] (m_X5_cutTo M (M 2 x1.toNatClampNeg) x3) t_X5_cutTo km_X5_38 (by decide) rfl rfl (Nat.le_of_ble_eq_true rfl) dX5_put_26 (fun r3 => ?_)
    refine aw_iast C (ly_row h2) dX5_put_29 ?_
    refine aw_mlet (fun M4 => ?_)
    refine aw_aload_n C dX5_put_30 rfl ?_
    refine aw_getR C (r := 4) clX5 lo_X_1 2 rfl (by decide) kf_X5_18 dX5_put_31 ?_
    refine aw_iload_n C dX5_put_34 rfl ?_
    refine aw_ite (fun h5 => ?_) (fun _ => aw_none)
    refine aw_aald8 C la_X_4 h5 dX5_put_35 ?_
    refine aw_iload_n C dX5_put_36 rfl ?_
    refine aw_iald C (ly_row h5) dX5_put_37 ?_
    exact aw_iret C hr dX5_put_38
def X5_laneOf (M : Mem) (x1 : Int32)  : Option (Int32) :=
  Option.bind (X5_isNumber x1) fun r1 =>
  if r1 = 0 then
    some (-1 : Int32)
  else
    if am_in x1 8 = true then
      some (M 2 x1.toNatClampNeg)
    else none
theorem m_X5_laneOf  (M : Mem) (x1 : Int32)  : AMet 2 yX5_laneOf cX5_laneOf 2 (some .int) lyX [.ref 1, .int x1] M (qIp lyX M) (X5_laneOf M x1) := by
  refine am_ent pn_X5 (Nat.le_of_ble_eq_true rfl) (fun E C hr => ?_)
  refine aw_lv (lv' := [(0, .ref 1), (1, .int x1)]) rfl ?_
  unfold X5_laneOf
  refine aw_aload_n C dX5_laneOf_0 rfl ?_
  refine aw_iload_n C dX5_laneOf_1 rfl ?_
  refine aw_cVIp C [.int x1] [] (m_X5_isNumber M x1) v_X5_isNumber km_X5_27 (by decide) lo_X_1 rfl rfl rfl (Nat.le_of_ble_eq_true rfl) dX5_laneOf_2 (fun r1 => ?_)
  refine aw_if_eq C (tgt := 17) dX5_laneOf_5 (by decide) ?_ ?_
  · refine aw_iconst C (-1 : Int32) dX5_laneOf_17 (by decide) ?_
    exact aw_iretp C hr dX5_laneOf_18
  · refine aw_aload_n C dX5_laneOf_8 rfl ?_
    refine aw_getR C (r := 2) clX5 lo_X_1 0 rfl (by decide) kf_X5_9 dX5_laneOf_9 ?_
    refine aw_iload_n C dX5_laneOf_12 rfl ?_
    refine aw_iald C la_X_2 dX5_laneOf_13 ?_
    refine aw_goto C (tgt := 18) dX5_laneOf_14 (by decide) ?_
    exact aw_iretp C hr dX5_laneOf_18
def X5_carry  (x1 : Int32) (x2 : Int32) (x3 : Int32) (x4 : Int32) (x5 : Int32) (M : Mem) : Option (Mem) :=
  Option.bind (X5_reaches M x1 x2 x5) fun r1 =>
  if r1 = 0 then
    some M
  else
    Option.bind (X5_reaches M x3 x4 x5) fun r2 =>
    if r2 = 0 then
      some M
    else
      if am_in x1 8 = true then
        if am_in x3 8 = true then
          if am_cp x2 x4 x5 40 40 = true then
            am_let (mset M (5 + x3.toNatClampNeg) (va_cpy (M (5 + x1.toNatClampNeg)) (M (5 + x3.toNatClampNeg)) x2.toNatClampNeg x4.toNatClampNeg x5.toNatClampNeg)) fun M5 =>
            some M5
          else none
        else none
      else none
theorem m_X5_carry   (x1 : Int32) (x2 : Int32) (x3 : Int32) (x4 : Int32) (x5 : Int32) (M : Mem) : AMet 4 yX5_carry cX5_carry 6 none lyX [.ref 1, .int x1, .int x2, .int x3, .int x4, .int x5] M (qV lyX) (X5_carry x1 x2 x3 x4 x5 M) := by
  refine am_ent pn_X5 (Nat.le_of_ble_eq_true rfl) (fun E C hr => ?_)
  refine aw_lv (lv' := [(0, .ref 1), (1, .int x1), (2, .int x2), (3, .int x3), (4, .int x4), (5, .int x5)]) rfl ?_
  unfold X5_carry
  refine aw_aload_n C dX5_carry_0 rfl ?_
  refine aw_iload_n C dX5_carry_1 rfl ?_
  refine aw_iload_n C dX5_carry_2 rfl ?_
  refine aw_iload C dX5_carry_3 rfl ?_
  refine aw_cVIp C [.int x1, .int x2, .int x5] [] (m_X5_reaches M x1 x2 x5) v_X5_reaches km_X5_34 (by decide) lo_X_1 rfl rfl rfl (Nat.le_of_ble_eq_true rfl) dX5_carry_5 (fun r1 => ?_)
  refine aw_if_eq C (tgt := 43) dX5_carry_8 (by decide) ?_ ?_
  · exact aw_vret C hr dX5_carry_43
  · refine aw_aload_n C dX5_carry_11 rfl ?_
    refine aw_iload_n C dX5_carry_12 rfl ?_
    refine aw_iload C dX5_carry_13 rfl ?_
    refine aw_iload C dX5_carry_15 rfl ?_
    refine aw_cVIp C [.int x3, .int x4, .int x5] [] (m_X5_reaches M x3 x4 x5) v_X5_reaches km_X5_34 (by decide) lo_X_1 rfl rfl rfl (Nat.le_of_ble_eq_true rfl) dX5_carry_17 (fun r2 => ?_)
    refine aw_if_eq C (tgt := 43) dX5_carry_20 (by decide) ?_ ?_
    · exact aw_vret C hr dX5_carry_43
    · refine aw_aload_n C dX5_carry_23 rfl ?_
      refine aw_getR C (r := 4) clX5 lo_X_1 2 rfl (by decide) kf_X5_18 dX5_carry_24 ?_
      refine aw_iload_n C dX5_carry_27 rfl ?_
      refine aw_ite (fun h3 => ?_) (fun _ => aw_none)
      refine aw_aald8 C la_X_4 h3 dX5_carry_28 ?_
      refine aw_iload_n C dX5_carry_29 rfl ?_
      refine aw_aload_n C dX5_carry_30 rfl ?_
      refine aw_getR C (r := 4) clX5 lo_X_1 2 rfl (by decide) kf_X5_18 dX5_carry_31 ?_
      refine aw_iload_n C dX5_carry_34 rfl ?_
      refine aw_ite (fun h4 => ?_) (fun _ => aw_none)
      refine aw_aald8 C la_X_4 h4 dX5_carry_35 ?_
      refine aw_iload C dX5_carry_36 rfl ?_
      refine aw_iload C dX5_carry_38 rfl ?_
      refine aw_copy C (ly_row h3) (ly_row h4) km_X5_42 k_cp_nat k_cp_st k_cp_ini (by decide) (Nat.le_of_ble_eq_true rfl) dX5_carry_40 ?_
      refine aw_mlet (fun M5 => ?_)
      exact aw_vret C hr dX5_carry_43
def X5_remove  (x1 : Int32) (M : Mem) : Option (Int32 × Mem) :=
  Option.bind (X5_isMissing M x1) fun r1 =>
  if r1 = 0 then
    if am_in x1 8 = true then
      am_let (mset M 2 (upd (M 2) x1.toNatClampNeg (-1 : Int32))) fun M2 =>
      if am_in x1 8 = true then
        some (M2 3 x1.toNatClampNeg, M2)
      else none
    else none
  else
    some ((0 : Int32), M)
theorem m_X5_remove   (x1 : Int32) (M : Mem) : AMet 3 yX5_remove cX5_remove 2 (some .int) lyX [.ref 1, .int x1] M (qI lyX) (X5_remove x1 M) := by
  refine am_ent pn_X5 (Nat.le_of_ble_eq_true rfl) (fun E C hr => ?_)
  refine aw_lv (lv' := [(0, .ref 1), (1, .int x1)]) rfl ?_
  unfold X5_remove
  refine aw_aload_n C dX5_remove_0 rfl ?_
  refine aw_iload_n C dX5_remove_1 rfl ?_
  refine aw_cVIp C [.int x1] [] (m_X5_isMissing M x1) v_X5_isMissing km_X5_31 (by decide) lo_X_1 rfl rfl rfl (Nat.le_of_ble_eq_true rfl) dX5_remove_2 (fun r1 => ?_)
  refine aw_if_eq C (tgt := 10) dX5_remove_5 (by decide) ?_ ?_
  · refine aw_aload_n C dX5_remove_10 rfl ?_
    refine aw_getR C (r := 2) clX5 lo_X_1 0 rfl (by decide) kf_X5_9 dX5_remove_11 ?_
    refine aw_iload_n C dX5_remove_14 rfl ?_
    refine aw_iconst C (-1 : Int32) dX5_remove_15 (by decide) ?_
    refine aw_iast C la_X_2 dX5_remove_16 ?_
    refine aw_mlet (fun M2 => ?_)
    refine aw_aload_n C dX5_remove_17 rfl ?_
    refine aw_getR C (r := 3) clX5 lo_X_1 1 rfl (by decide) kf_X5_13 dX5_remove_18 ?_
    refine aw_iload_n C dX5_remove_21 rfl ?_
    refine aw_iald C la_X_3 dX5_remove_22 ?_
    exact aw_iret C hr dX5_remove_23
  · refine aw_iconst C (0 : Int32) dX5_remove_8 (by decide) ?_
    exact aw_iret C hr dX5_remove_9
def X6_isFull (M : Mem)   : Option (Int32) :=
  if (M 13 1) < (110 : Int32) then
    some (0 : Int32)
  else
    some (1 : Int32)
theorem m_X6_isFull  (M : Mem)   : AMet 1 yX6_isFull cX6_isFull 1 (some .boolean) lyX [.ref 13] M (qIp lyX M) (X6_isFull M) := by
  refine am_ent pn_X6 (Nat.le_of_ble_eq_true rfl) (fun E C hr => ?_)
  refine aw_lv (lv' := [(0, .ref 13)]) rfl ?_
  unfold X6_isFull
  refine aw_aload_n C dX6_isFull_0 rfl ?_
  refine aw_getI C clX6 lo_X_13 1 rfl (by decide) kf_X6_15 dX6_isFull_1 ?_
  refine aw_bipush C (110 : Int32) dX6_isFull_4 (by decide) ?_
  refine aw_icmp_lt C (tgt := 13) dX6_isFull_6 (by decide) ?_ ?_
  · refine aw_iconst C (0 : Int32) dX6_isFull_13 (by decide) ?_
    exact aw_zretp C (Or.inl rfl) hr dX6_isFull_14
  · refine aw_iconst C (1 : Int32) dX6_isFull_9 (by decide) ?_
    refine aw_goto C (tgt := 14) dX6_isFull_10 (by decide) ?_
    exact aw_zretp C (Or.inr rfl) hr dX6_isFull_14
def X6_add  (x1 : Int32) (M : Mem) : Option (Int32 × Mem) :=
  Option.bind (X6_isFull M) fun r1 =>
  if r1 = 0 then
    if am_in (M 13 1) 110 = true then
      am_let (mset M 14 (upd (M 14) (M 13 1).toNatClampNeg x1)) fun M2 =>
      am_let (mset M2 13 (upd (M2 13) 1 ((M2 13 1) + (1 : Int32)))) fun M3 =>
      some (M3 13 1, M3)
    else none
  else
    some (M 13 1, M)
theorem m_X6_add   (x1 : Int32) (M : Mem) : AMet 2 yX6_add cX6_add 2 (some .int) lyX [.ref 13, .int x1] M (qI lyX) (X6_add x1 M) := by
  refine am_ent pn_X6 (Nat.le_of_ble_eq_true rfl) (fun E C hr => ?_)
  refine aw_lv (lv' := [(0, .ref 13), (1, .int x1)]) rfl ?_
  unfold X6_add
  refine aw_aload_n C dX6_add_0 rfl ?_
  refine aw_cVIp C [] [] (m_X6_isFull M) v_X6_isFull km_X6_19 (by decide) lo_X_13 rfl rfl rfl (Nat.le_of_ble_eq_true rfl) dX6_add_1 (fun r1 => ?_)
  refine aw_if_ne C (tgt := 27) dX6_add_4 (by decide) ?_ ?_
  · refine aw_aload_n C dX6_add_7 rfl ?_
    refine aw_getR C (r := 14) clX6 lo_X_13 0 rfl (by decide) kf_X6_11 dX6_add_8 ?_
    refine aw_aload_n C dX6_add_11 rfl ?_
    refine aw_getI C clX6 lo_X_13 1 rfl (by decide) kf_X6_15 dX6_add_12 ?_
    refine aw_iload_n C dX6_add_15 rfl ?_
    refine aw_iast C la_X_14 dX6_add_16 ?_
    refine aw_mlet (fun M2 => ?_)
    refine aw_aload_n C dX6_add_17 rfl ?_
    refine aw_dup C dX6_add_18 rfl ?_
    refine aw_getI C clX6 lo_X_13 1 rfl (by decide) kf_X6_15 dX6_add_19 ?_
    refine aw_iconst C (1 : Int32) dX6_add_22 (by decide) ?_
    refine aw_iadd C dX6_add_23 ?_
    refine aw_putI C clX6 lo_X_13 1 rfl (by decide) rfl rfl kf_X6_15 dX6_add_24 ?_
    refine aw_mlet (fun M3 => ?_)
    refine aw_aload_n C dX6_add_27 rfl ?_
    refine aw_getI C clX6 lo_X_13 1 rfl (by decide) kf_X6_15 dX6_add_28 ?_
    exact aw_iret C hr dX6_add_31
  · refine aw_aload_n C dX6_add_27 rfl ?_
    refine aw_getI C clX6 lo_X_13 1 rfl (by decide) kf_X6_15 dX6_add_28 ?_
    exact aw_iret C hr dX6_add_31
def X6_byteAt (M : Mem) (x1 : Int32)  : Option (Int32) :=
  if x1 < 0 then
    some (-1 : Int32)
  else
    if x1 < (M 13 1) then
      if am_in x1 110 = true then
        some (M 14 x1.toNatClampNeg)
      else none
    else
      some (-1 : Int32)
theorem m_X6_byteAt  (M : Mem) (x1 : Int32)  : AMet 1 yX6_byteAt cX6_byteAt 2 (some .int) lyX [.ref 13, .int x1] M (qIp lyX M) (X6_byteAt M x1) := by
  refine am_ent pn_X6 (Nat.le_of_ble_eq_true rfl) (fun E C hr => ?_)
  refine aw_lv (lv' := [(0, .ref 13), (1, .int x1)]) rfl ?_
  unfold X6_byteAt
  refine aw_iload_n C dX6_byteAt_0 rfl ?_
  refine aw_if_lt C (tgt := 21) dX6_byteAt_1 (by decide) ?_ ?_
  · refine aw_iconst C (-1 : Int32) dX6_byteAt_21 (by decide) ?_
    exact aw_iretp C hr dX6_byteAt_22
  · refine aw_iload_n C dX6_byteAt_4 rfl ?_
    refine aw_aload_n C dX6_byteAt_5 rfl ?_
    refine aw_getI C clX6 lo_X_13 1 rfl (by decide) kf_X6_15 dX6_byteAt_6 ?_
    refine aw_icmp_ge C (tgt := 21) dX6_byteAt_9 (by decide) ?_ ?_
    · refine aw_aload_n C dX6_byteAt_12 rfl ?_
      refine aw_getR C (r := 14) clX6 lo_X_13 0 rfl (by decide) kf_X6_11 dX6_byteAt_13 ?_
      refine aw_iload_n C dX6_byteAt_16 rfl ?_
      refine aw_iald C la_X_14 dX6_byteAt_17 ?_
      refine aw_goto C (tgt := 22) dX6_byteAt_18 (by decide) ?_
      exact aw_iretp C hr dX6_byteAt_22
    · refine aw_iconst C (-1 : Int32) dX6_byteAt_21 (by decide) ?_
      exact aw_iretp C hr dX6_byteAt_22
def X6_isFigure  (x0 : Int32)  : Option (Int32) :=
  if x0 < (48 : Int32) then
    some (0 : Int32)
  else
    if (57 : Int32) < x0 then
      some (0 : Int32)
    else
      some (1 : Int32)
theorem m_X6_isFigure  (M : Mem) (x0 : Int32)  : AMet 1 yX6_isFigure cX6_isFigure 1 (some .boolean) lyX [.int x0] M (qIp lyX M) (X6_isFigure x0) := by
  refine am_ent pn_X6 (Nat.le_of_ble_eq_true rfl) (fun E C hr => ?_)
  refine aw_lv (lv' := [(0, .int x0)]) rfl ?_
  unfold X6_isFigure
  refine aw_iload_n C dX6_isFigure_0 rfl ?_
  refine aw_bipush C (48 : Int32) dX6_isFigure_1 (by decide) ?_
  refine aw_icmp_lt C (tgt := 16) dX6_isFigure_3 (by decide) ?_ ?_
  · refine aw_iconst C (0 : Int32) dX6_isFigure_16 (by decide) ?_
    exact aw_zretp C (Or.inl rfl) hr dX6_isFigure_17
  · refine aw_iload_n C dX6_isFigure_6 rfl ?_
    refine aw_bipush C (57 : Int32) dX6_isFigure_7 (by decide) ?_
    refine aw_icmp_gt C (tgt := 16) dX6_isFigure_9 (by decide) ?_ ?_
    · refine aw_iconst C (0 : Int32) dX6_isFigure_16 (by decide) ?_
      exact aw_zretp C (Or.inl rfl) hr dX6_isFigure_17
    · refine aw_iconst C (1 : Int32) dX6_isFigure_12 (by decide) ?_
      refine aw_goto C (tgt := 17) dX6_isFigure_13 (by decide) ?_
      exact aw_zretp C (Or.inr rfl) hr dX6_isFigure_17
def X6_readFigures_57  (x1 : Int32) (M : Mem) : Option (Mem) :=
  if (2 : Int32) < (x1 - (M 13 3)) then
    am_let (mset M 13 (upd (M 13) 2 (2 : Int32))) fun M1 =>
    am_let (mset M1 13 (upd (M1 13) 4 x1)) fun M2 =>
    some M2
  else
    am_let (mset M 13 (upd (M 13) 2 (1 : Int32))) fun M3 =>
    am_let (mset M3 13 (upd (M3 13) 4 x1)) fun M4 =>
    some M4
def X6_readFigures_10  : Nat → Int32 → Mem → Option (Mem)
  | 0, _, _ => none
  | f + 1, x1, M =>
    if x1 < ((M 13 3) + (3 : Int32)) then
      Option.bind (X6_byteAt M x1) fun r1 =>
      Option.bind (X6_isFigure r1) fun r2 =>
      if r2 = 0 then
        X6_readFigures_57 x1 M
      else
        Option.bind (X6_byteAt M x1) fun r5 =>
        am_let (mset M 13 (upd (M 13) 5 ((((M 13 5) * (10 : Int32)) + r5) - (48 : Int32)))) fun M6 =>
        X6_readFigures_10  f (x1 + (1 : Int32)) M6
    else
      X6_readFigures_57 x1 M
def X6_readFigures   (M : Mem) : Option (Mem) :=
  am_let (mset M 13 (upd (M 13) 5 (0 : Int32))) fun M1 =>
  X6_readFigures_10 am_fuel (M 13 3) M1
theorem m_X6_readFigures_57 {E : amE} (C : amC E 2 cX6_readFigures 2 RX6) (hr : (eH E).sig.returnType = none)  (x1 : Int32) (M : Mem) : AW E lyX 2 (qV lyX) (X6_readFigures_57 x1 M) 57 [(0, .ref 13), (1, .int x1)] [] M := by
  unfold X6_readFigures_57
  refine aw_aload_n C dX6_readFigures_57 rfl ?_
  refine aw_iload_n C dX6_readFigures_58 rfl ?_
  refine aw_aload_n C dX6_readFigures_59 rfl ?_
  refine aw_getI C clX6 lo_X_13 3 rfl (by decide) kf_X6_23 dX6_readFigures_60 ?_
  refine aw_isub C dX6_readFigures_63 ?_
  refine aw_iconst C (2 : Int32) dX6_readFigures_64 (by decide) ?_
  refine aw_icmp_le C (tgt := 72) dX6_readFigures_65 (by decide) ?_ ?_
  · refine aw_iconst C (2 : Int32) dX6_readFigures_68 (by decide) ?_
    refine aw_goto C (tgt := 73) dX6_readFigures_69 (by decide) ?_
    refine aw_putI C clX6 lo_X_13 2 rfl (by decide) rfl rfl kf_X6_36 dX6_readFigures_73 ?_
    refine aw_mlet (fun M1 => ?_)
    refine aw_aload_n C dX6_readFigures_76 rfl ?_
    refine aw_iload_n C dX6_readFigures_77 rfl ?_
    refine aw_putI C clX6 lo_X_13 4 rfl (by decide) rfl rfl kf_X6_26 dX6_readFigures_78 ?_
    refine aw_mlet (fun M2 => ?_)
    exact aw_vret C hr dX6_readFigures_81
  · refine aw_iconst C (1 : Int32) dX6_readFigures_72 (by decide) ?_
    refine aw_putI C clX6 lo_X_13 2 rfl (by decide) rfl rfl kf_X6_36 dX6_readFigures_73 ?_
    refine aw_mlet (fun M3 => ?_)
    refine aw_aload_n C dX6_readFigures_76 rfl ?_
    refine aw_iload_n C dX6_readFigures_77 rfl ?_
    refine aw_putI C clX6 lo_X_13 4 rfl (by decide) rfl rfl kf_X6_26 dX6_readFigures_78 ?_
    refine aw_mlet (fun M4 => ?_)
    exact aw_vret C hr dX6_readFigures_81
theorem m_X6_readFigures_10 {E : amE} (C : amC E 2 cX6_readFigures 2 RX6) (hr : (eH E).sig.returnType = none)  : ∀ (f : Nat) (x1 : Int32) (M : Mem), AW E lyX 2 (qV lyX) (X6_readFigures_10 f x1 M) 10 [(0, .ref 13), (1, .int x1)] [] M := by
  intro f
  induction f with
  | zero => exact (fun _ _ => aw_none)
  | succ f ih =>
    intro x1 M
    rw [X6_readFigures_10]
    refine aw_iload_n C dX6_readFigures_10 rfl ?_
    refine aw_aload_n C dX6_readFigures_11 rfl ?_
    refine aw_getI C clX6 lo_X_13 3 rfl (by decide) kf_X6_23 dX6_readFigures_12 ?_
    refine aw_iconst C (3 : Int32) dX6_readFigures_15 (by decide) ?_
    refine aw_iadd C dX6_readFigures_16 ?_
    refine aw_icmp_ge C (tgt := 57) dX6_readFigures_17 (by decide) ?_ ?_
    · refine aw_aload_n C dX6_readFigures_20 rfl ?_
      refine aw_iload_n C dX6_readFigures_21 rfl ?_
      refine aw_cVIp C [.int x1] [] (m_X6_byteAt M x1) v_X6_byteAt km_X6_76 (by decide) lo_X_13 rfl rfl rfl (Nat.le_of_ble_eq_true rfl) dX6_readFigures_22 (fun r1 => ?_)
      refine aw_cSIp C [.int r1] [] (m_X6_isFigure M r1) t_X6_isFigure km_X6_79 (by decide) rfl rfl (Nat.le_of_ble_eq_true rfl) dX6_readFigures_25 (fun r2 => ?_)
      refine aw_if_eq C (tgt := 57) dX6_readFigures_28 (by decide) ?_ ?_
      · exact m_X6_readFigures_57 C hr x1 M
      · refine aw_aload_n C dX6_readFigures_31 rfl ?_
        refine aw_aload_n C dX6_readFigures_32 rfl ?_
        refine aw_getI C clX6 lo_X_13 5 rfl (by decide) kf_X6_50 dX6_readFigures_33 ?_
        refine aw_bipush C (10 : Int32) dX6_readFigures_36 (by decide) ?_
        refine aw_imul C dX6_readFigures_38 ?_
        refine aw_aload_n C dX6_readFigures_39 rfl ?_
        refine aw_iload_n C dX6_readFigures_40 rfl ?_
        refine aw_cVIp C [.int x1] [.int ((M 13 5) * (10 : Int32)), .ref 13] (m_X6_byteAt M x1) v_X6_byteAt km_X6_76 (by decide) lo_X_13 rfl rfl rfl (Nat.le_of_ble_eq_true rfl) dX6_readFigures_41 (fun r5 => ?_)
        refine aw_iadd C dX6_readFigures_44 ?_
        refine aw_bipush C (48 : Int32) dX6_readFigures_45 (by decide) ?_
        refine aw_isub C dX6_readFigures_47 ?_
        refine aw_putI C clX6 lo_X_13 5 rfl (by decide) rfl rfl kf_X6_50 dX6_readFigures_48 ?_
        refine aw_mlet (fun M6 => ?_)
        refine aw_iinc C (v := (1 : Int32)) [(1, .int (x1 + (1 : Int32))), (0, .ref 13)] dX6_readFigures_51 rfl (by decide) (by decide) rfl ?_
        refine aw_goto C (tgt := 10) dX6_readFigures_54 (by decide) ?_
        refine aw_sub [1, 0] rfl ?_
        exact ih (x1 + (1 : Int32)) M6
    · exact m_X6_readFigures_57 C hr x1 M
theorem m_X6_readFigures    (M : Mem) : AMet 2 yX6_readFigures cX6_readFigures 2 none lyX [.ref 13] M (qV lyX) (X6_readFigures M) := by
  refine am_ent pn_X6 (Nat.le_of_ble_eq_true rfl) (fun E C hr => ?_)
  refine aw_lv (lv' := [(0, .ref 13)]) rfl ?_
  unfold X6_readFigures
  refine aw_aload_n C dX6_readFigures_0 rfl ?_
  refine aw_getI C clX6 lo_X_13 3 rfl (by decide) kf_X6_23 dX6_readFigures_1 ?_
  refine aw_istore_n C [(1, .int (M 13 3)), (0, .ref 13)] dX6_readFigures_4 (by decide) rfl ?_
  refine aw_aload_n C dX6_readFigures_5 rfl ?_
  refine aw_iconst C (0 : Int32) dX6_readFigures_6 (by decide) ?_
  refine aw_putI C clX6 lo_X_13 5 rfl (by decide) rfl rfl kf_X6_50 dX6_readFigures_7 ?_
  refine aw_mlet (fun M1 => ?_)
  refine aw_sub [1, 0] rfl ?_
  exact m_X6_readFigures_10 C hr am_fuel (M 13 3) M1
def X6_nextToken_79  (x1 : Int32) (s0 : Int32) (M : Mem) : Option (Mem) :=
  if s0 = 0 then
    am_let (mset M 13 (upd (M 13) 2 (2 : Int32))) fun M1 =>
    am_let (mset M1 13 (upd (M1 13) 4 ((M1 13 3) + (1 : Int32)))) fun M2 =>
    some M2
  else
    am_let (mset M 13 (upd (M 13) 2 x1)) fun M3 =>
    am_let (mset M3 13 (upd (M3 13) 4 ((M3 13 3) + (1 : Int32)))) fun M4 =>
    some M4
def X6_nextToken   (M : Mem) : Option (Mem) :=
  am_let (mset M 13 (upd (M 13) 3 (M 13 4))) fun M1 =>
  Option.bind (X6_byteAt M1 (M1 13 3)) fun r2 =>
  if (M1 13 3) < (M1 13 1) then
    Option.bind (X6_isFigure r2) fun r3 =>
    if r3 = 0 then
      if r2 < (97 : Int32) then
        if r2 = (44 : Int32) then
          X6_nextToken_79 r2 (1 : Int32) M1
        else
          if r2 = (59 : Int32) then
            X6_nextToken_79 r2 (1 : Int32) M1
          else
            X6_nextToken_79 r2 (0 : Int32) M1
      else
        if (122 : Int32) < r2 then
          if r2 = (44 : Int32) then
            X6_nextToken_79 r2 (1 : Int32) M1
          else
            if r2 = (59 : Int32) then
              X6_nextToken_79 r2 (1 : Int32) M1
            else
              X6_nextToken_79 r2 (0 : Int32) M1
        else
          X6_nextToken_79 r2 (1 : Int32) M1
    else
      Option.bind (X6_readFigures M1) fun M5 =>
      some M5
  else
    am_let (mset M1 13 (upd (M1 13) 2 (0 : Int32))) fun M6 =>
    some M6
theorem m_X6_nextToken_79 {E : amE} (C : amC E 3 cX6_nextToken 3 RX6) (hr : (eH E).sig.returnType = none)  (x1 : Int32) (s0 : Int32) (M : Mem) : AW E lyX 3 (qV lyX) (X6_nextToken_79 x1 s0 M) 79 [(0, .ref 13), (1, .int x1)] [.int s0] M := by
  unfold X6_nextToken_79
  refine aw_istore_n C [(2, .int s0), (0, .ref 13), (1, .int x1)] dX6_nextToken_79 (by decide) rfl ?_
  refine aw_aload_n C dX6_nextToken_80 rfl ?_
  refine aw_iload_n C dX6_nextToken_81 rfl ?_
  refine aw_if_eq C (tgt := 89) dX6_nextToken_82 (by decide) ?_ ?_
  · refine aw_iconst C (2 : Int32) dX6_nextToken_89 (by decide) ?_
    refine aw_putI C clX6 lo_X_13 2 rfl (by decide) rfl rfl kf_X6_36 dX6_nextToken_90 ?_
    refine aw_mlet (fun M1 => ?_)
    refine aw_aload_n C dX6_nextToken_93 rfl ?_
    refine aw_aload_n C dX6_nextToken_94 rfl ?_
    refine aw_getI C clX6 lo_X_13 3 rfl (by decide) kf_X6_23 dX6_nextToken_95 ?_
    refine aw_iconst C (1 : Int32) dX6_nextToken_98 (by decide) ?_
    refine aw_iadd C dX6_nextToken_99 ?_
    refine aw_putI C clX6 lo_X_13 4 rfl (by decide) rfl rfl kf_X6_26 dX6_nextToken_100 ?_
    refine aw_mlet (fun M2 => ?_)
    exact aw_vret C hr dX6_nextToken_103
  · refine aw_iload_n C dX6_nextToken_85 rfl ?_
    refine aw_goto C (tgt := 90) dX6_nextToken_86 (by decide) ?_
    refine aw_putI C clX6 lo_X_13 2 rfl (by decide) rfl rfl kf_X6_36 dX6_nextToken_90 ?_
    refine aw_mlet (fun M3 => ?_)
    refine aw_aload_n C dX6_nextToken_93 rfl ?_
    refine aw_aload_n C dX6_nextToken_94 rfl ?_
    refine aw_getI C clX6 lo_X_13 3 rfl (by decide) kf_X6_23 dX6_nextToken_95 ?_
    refine aw_iconst C (1 : Int32) dX6_nextToken_98 (by decide) ?_
    refine aw_iadd C dX6_nextToken_99 ?_
    refine aw_putI C clX6 lo_X_13 4 rfl (by decide) rfl rfl kf_X6_26 dX6_nextToken_100 ?_
    refine aw_mlet (fun M4 => ?_)
    exact aw_vret C hr dX6_nextToken_103
theorem m_X6_nextToken    (M : Mem) : AMet 3 yX6_nextToken cX6_nextToken 3 none lyX [.ref 13] M (qV lyX) (X6_nextToken M) := by
  refine am_ent pn_X6 (Nat.le_of_ble_eq_true rfl) (fun E C hr => ?_)
  refine aw_lv (lv' := [(0, .ref 13)]) rfl ?_
  unfold X6_nextToken
  refine aw_aload_n C dX6_nextToken_0 rfl ?_
  refine aw_aload_n C dX6_nextToken_1 rfl ?_
  refine aw_getI C clX6 lo_X_13 4 rfl (by decide) kf_X6_26 dX6_nextToken_2 ?_
  refine aw_putI C clX6 lo_X_13 3 rfl (by decide) rfl rfl kf_X6_23 dX6_nextToken_5 ?_
  refine aw_mlet (fun M1 => ?_)
  refine aw_aload_n C dX6_nextToken_8 rfl ?_
  refine aw_aload_n C dX6_nextToken_9 rfl ?_
  refine aw_getI C clX6 lo_X_13 3 rfl (by decide) kf_X6_23 dX6_nextToken_10 ?_
  refine aw_cVIp C [.int (M1 13 3)] [] (m_X6_byteAt M1 (M1 13 3)) v_X6_byteAt km_X6_76 (by decide) lo_X_13 rfl rfl rfl (Nat.le_of_ble_eq_true rfl) dX6_nextToken_13 (fun r2 => ?_)
  refine aw_istore_n C [(1, .int r2), (0, .ref 13)] dX6_nextToken_16 (by decide) rfl ?_
  refine aw_aload_n C dX6_nextToken_17 rfl ?_
  refine aw_getI C clX6 lo_X_13 3 rfl (by decide) kf_X6_23 dX6_nextToken_18 ?_
  refine aw_aload_n C dX6_nextToken_21 rfl ?_
  refine aw_getI C clX6 lo_X_13 1 rfl (by decide) kf_X6_15 dX6_nextToken_22 ?_
  refine aw_icmp_lt C (tgt := 36) dX6_nextToken_25 (by decide) ?_ ?_
  · refine aw_iload_n C dX6_nextToken_36 rfl ?_
    refine aw_cSIp C [.int r2] [] (m_X6_isFigure M1 r2) t_X6_isFigure km_X6_79 (by decide) rfl rfl (Nat.le_of_ble_eq_true rfl) dX6_nextToken_37 (fun r3 => ?_)
    refine aw_if_eq C (tgt := 50) dX6_nextToken_40 (by decide) ?_ ?_
    · refine aw_iload_n C dX6_nextToken_50 rfl ?_
      refine aw_bipush C (97 : Int32) dX6_nextToken_51 (by decide) ?_
      refine aw_icmp_lt C (tgt := 62) dX6_nextToken_53 (by decide) ?_ ?_
      · refine aw_iload_n C dX6_nextToken_62 rfl ?_
        refine aw_bipush C (44 : Int32) dX6_nextToken_63 (by decide) ?_
        refine aw_icmp_eq C (tgt := 74) dX6_nextToken_65 (by decide) ?_ ?_
        · refine aw_iconst C (1 : Int32) dX6_nextToken_74 (by decide) ?_
          refine aw_goto C (tgt := 79) dX6_nextToken_75 (by decide) ?_
          refine aw_sub [1, 0] rfl ?_
          exact m_X6_nextToken_79 C hr r2 (1 : Int32) M1
        · refine aw_iload_n C dX6_nextToken_68 rfl ?_
          refine aw_bipush C (59 : Int32) dX6_nextToken_69 (by decide) ?_
          refine aw_icmp_ne C (tgt := 78) dX6_nextToken_71 (by decide) ?_ ?_
          · refine aw_iconst C (1 : Int32) dX6_nextToken_74 (by decide) ?_
            refine aw_goto C (tgt := 79) dX6_nextToken_75 (by decide) ?_
            refine aw_sub [1, 0] rfl ?_
            exact m_X6_nextToken_79 C hr r2 (1 : Int32) M1
          · refine aw_iconst C (0 : Int32) dX6_nextToken_78 (by decide) ?_
            refine aw_sub [1, 0] rfl ?_
            exact m_X6_nextToken_79 C hr r2 (0 : Int32) M1
      · refine aw_iload_n C dX6_nextToken_56 rfl ?_
        refine aw_bipush C (122 : Int32) dX6_nextToken_57 (by decide) ?_
        refine aw_icmp_le C (tgt := 74) dX6_nextToken_59 (by decide) ?_ ?_
        · refine aw_iload_n C dX6_nextToken_62 rfl ?_
          refine aw_bipush C (44 : Int32) dX6_nextToken_63 (by decide) ?_
          refine aw_icmp_eq C (tgt := 74) dX6_nextToken_65 (by decide) ?_ ?_
          · refine aw_iconst C (1 : Int32) dX6_nextToken_74 (by decide) ?_
            refine aw_goto C (tgt := 79) dX6_nextToken_75 (by decide) ?_
            refine aw_sub [1, 0] rfl ?_
            exact m_X6_nextToken_79 C hr r2 (1 : Int32) M1
          · refine aw_iload_n C dX6_nextToken_68 rfl ?_
            refine aw_bipush C (59 : Int32) dX6_nextToken_69 (by decide) ?_
            refine aw_icmp_ne C (tgt := 78) dX6_nextToken_71 (by decide) ?_ ?_
            · refine aw_iconst C (1 : Int32) dX6_nextToken_74 (by decide) ?_
              refine aw_goto C (tgt := 79) dX6_nextToken_75 (by decide) ?_
              refine aw_sub [1, 0] rfl ?_
              exact m_X6_nextToken_79 C hr r2 (1 : Int32) M1
            · refine aw_iconst C (0 : Int32) dX6_nextToken_78 (by decide) ?_
              refine aw_sub [1, 0] rfl ?_
              exact m_X6_nextToken_79 C hr r2 (0 : Int32) M1
        · refine aw_iconst C (1 : Int32) dX6_nextToken_74 (by decide) ?_
          refine aw_goto C (tgt := 79) dX6_nextToken_75 (by decide) ?_
          refine aw_sub [1, 0] rfl ?_
          exact m_X6_nextToken_79 C hr r2 (1 : Int32) M1
    · refine aw_aload_n C dX6_nextToken_43 rfl ?_
      refine aw_cVV C [] [] (m_X6_readFigures M1) v_X6_readFigures km_X6_83 (by decide) lo_X_13 rfl rfl rfl (Nat.le_of_ble_eq_true rfl) dX6_nextToken_44 (fun M5 => ?_)
      refine aw_goto C (tgt := 103) dX6_nextToken_47 (by decide) ?_
      exact aw_vret C hr dX6_nextToken_103
  · refine aw_aload_n C dX6_nextToken_28 rfl ?_
    refine aw_iconst C (0 : Int32) dX6_nextToken_29 (by decide) ?_
    refine aw_putI C clX6 lo_X_13 2 rfl (by decide) rfl rfl kf_X6_36 dX6_nextToken_30 ?_
    refine aw_mlet (fun M6 => ?_)
    refine aw_goto C (tgt := 103) dX6_nextToken_33 (by decide) ?_
    exact aw_vret C hr dX6_nextToken_103
def X6_readSign  (x1 : Int32) (M : Mem) : Option (Int32 × Mem) :=
  if (M 13 2) = x1 then
    Option.bind (X6_nextToken M) fun M1 =>
    some ((0 : Int32), M1)
  else
    some ((1 : Int32), M)
theorem m_X6_readSign   (x1 : Int32) (M : Mem) : AMet 4 yX6_readSign cX6_readSign 2 (some .int) lyX [.ref 13, .int x1] M (qI lyX) (X6_readSign x1 M) := by
  refine am_ent pn_X6 (Nat.le_of_ble_eq_true rfl) (fun E C hr => ?_)
  refine aw_lv (lv' := [(0, .ref 13), (1, .int x1)]) rfl ?_
  unfold X6_readSign
  refine aw_aload_n C dX6_readSign_0 rfl ?_
  refine aw_getI C clX6 lo_X_13 2 rfl (by decide) kf_X6_36 dX6_readSign_1 ?_
  refine aw_iload_n C dX6_readSign_4 rfl ?_
  refine aw_icmp_eq C (tgt := 10) dX6_readSign_5 (by decide) ?_ ?_
  · refine aw_aload_n C dX6_readSign_10 rfl ?_
    refine aw_cVV C [] [] (m_X6_nextToken M) v_X6_nextToken km_X6_29 (by decide) lo_X_13 rfl rfl rfl (Nat.le_of_ble_eq_true rfl) dX6_readSign_11 (fun M1 => ?_)
    refine aw_iconst C (0 : Int32) dX6_readSign_14 (by decide) ?_
    exact aw_iret C hr dX6_readSign_15
  · refine aw_iconst C (1 : Int32) dX6_readSign_8 (by decide) ?_
    exact aw_iret C hr dX6_readSign_9
def X6_readNumber  (x1 : Int32) (x2 : Int32) (M : Mem) : Option (Int32 × Mem) :=
  if (M 13 2) = (1 : Int32) then
    if (M 13 5) < x1 then
      some ((2 : Int32), M)
    else
      if x2 < (M 13 5) then
        some ((2 : Int32), M)
      else
        Option.bind (X6_nextToken M) fun M1 =>
        am_let (mset M1 13 (upd (M1 13) 5 (M 13 5))) fun M2 =>
        some ((0 : Int32), M2)
  else
    some ((1 : Int32), M)
theorem m_X6_readNumber   (x1 : Int32) (x2 : Int32) (M : Mem) : AMet 4 yX6_readNumber cX6_readNumber 4 (some .int) lyX [.ref 13, .int x1, .int x2] M (qI lyX) (X6_readNumber x1 x2 M) := by
  refine am_ent pn_X6 (Nat.le_of_ble_eq_true rfl) (fun E C hr => ?_)
  refine aw_lv (lv' := [(0, .ref 13), (1, .int x1), (2, .int x2)]) rfl ?_
  unfold X6_readNumber
  refine aw_aload_n C dX6_readNumber_0 rfl ?_
  refine aw_getI C clX6 lo_X_13 2 rfl (by decide) kf_X6_36 dX6_readNumber_1 ?_
  refine aw_iconst C (1 : Int32) dX6_readNumber_4 (by decide) ?_
  refine aw_icmp_eq C (tgt := 10) dX6_readNumber_5 (by decide) ?_ ?_
  · refine aw_aload_n C dX6_readNumber_10 rfl ?_
    refine aw_getI C clX6 lo_X_13 5 rfl (by decide) kf_X6_50 dX6_readNumber_11 ?_
    refine aw_istore_n C [(3, .int (M 13 5)), (0, .ref 13), (1, .int x1), (2, .int x2)] dX6_readNumber_14 (by decide) rfl ?_
    refine aw_iload_n C dX6_readNumber_15 rfl ?_
    refine aw_iload_n C dX6_readNumber_16 rfl ?_
    refine aw_icmp_lt C (tgt := 25) dX6_readNumber_17 (by decide) ?_ ?_
    · refine aw_iconst C (2 : Int32) dX6_readNumber_25 (by decide) ?_
      exact aw_iret C hr dX6_readNumber_26
    · refine aw_iload_n C dX6_readNumber_20 rfl ?_
      refine aw_iload_n C dX6_readNumber_21 rfl ?_
      refine aw_icmp_le C (tgt := 27) dX6_readNumber_22 (by decide) ?_ ?_
      · refine aw_iconst C (2 : Int32) dX6_readNumber_25 (by decide) ?_
        exact aw_iret C hr dX6_readNumber_26
      · refine aw_aload_n C dX6_readNumber_27 rfl ?_
        refine aw_cVV C [] [] (m_X6_nextToken M) v_X6_nextToken km_X6_29 (by decide) lo_X_13 rfl rfl rfl (Nat.le_of_ble_eq_true rfl) dX6_readNumber_28 (fun M1 => ?_)
        refine aw_aload_n C dX6_readNumber_31 rfl ?_
        refine aw_iload_n C dX6_readNumber_32 rfl ?_
        refine aw_putI C clX6 lo_X_13 5 rfl (by decide) rfl rfl kf_X6_50 dX6_readNumber_33 ?_
        refine aw_mlet (fun M2 => ?_)
        refine aw_iconst C (0 : Int32) dX6_readNumber_36 (by decide) ?_
        exact aw_iret C hr dX6_readNumber_37
  · refine aw_iconst C (1 : Int32) dX6_readNumber_8 (by decide) ?_
    exact aw_iret C hr dX6_readNumber_9
def X6_readLaw (h1 : Nat)  (M : Mem) : Option (Int32 × Mem) :=
  Option.bind (X6_readSign (98 : Int32) M) fun u1 =>
  if u1.1 = 0 then
    Option.bind (X6_readNumber (4 : Int32) (12 : Int32) u1.2) fun u2 =>
    if u2.1 = 0 then
      Option.bind (X3_begin h1 (u2.2 13 5) u2.2) fun M3 =>
      Option.bind (X6_readSign (59 : Int32) M3) fun u4 =>
      some (u4.1, u4.2)
    else
      some (u2.1, u2.2)
  else
    if u1.1 = 0 then
      Option.bind (X3_begin h1 (u1.2 13 5) u1.2) fun M5 =>
      Option.bind (X6_readSign (59 : Int32) M5) fun u6 =>
      some (u6.1, u6.2)
    else
      some (u1.1, u1.2)
theorem m_X6_readLaw  (h1 : Nat) (hh1 : isHl h1)  (M : Mem) : AMet 5 yX6_readLaw cX6_readLaw 3 (some .int) lyX [.ref 13, .ref h1] M (qI lyX) (X6_readLaw h1 M) := by
  refine am_ent pn_X6 (Nat.le_of_ble_eq_true rfl) (fun E C hr => ?_)
  refine aw_lv (lv' := [(0, .ref 13), (1, .ref h1)]) rfl ?_
  unfold X6_readLaw
  refine aw_aload_n C dX6_readLaw_0 rfl ?_
  refine aw_bipush C (98 : Int32) dX6_readLaw_1 (by decide) ?_
  refine aw_cVI C [.int (98 : Int32)] [] (m_X6_readSign (98 : Int32) M) v_X6_readSign km_X6_42 (by decide) lo_X_13 rfl rfl rfl (Nat.le_of_ble_eq_true rfl) dX6_readLaw_3 (fun u1 => ?_)
  refine aw_istore_n C [(2, .int u1.1), (0, .ref 13), (1, .ref h1)] dX6_readLaw_6 (by decide) rfl ?_
  refine aw_iload_n C dX6_readLaw_7 rfl ?_
  refine aw_if_ne C (tgt := 19) dX6_readLaw_8 (by decide) ?_ ?_
  · refine aw_aload_n C dX6_readLaw_11 rfl ?_
    refine aw_iconst C (4 : Int32) dX6_readLaw_12 (by decide) ?_
    refine aw_bipush C (12 : Int32) dX6_readLaw_13 (by decide) ?_
    refine aw_cVI C [.int (4 : Int32), .int (12 : Int32)] [] (m_X6_readNumber (4 : Int32) (12 : Int32) u1.2) v_X6_readNumber km_X6_46 (by decide) lo_X_13 rfl rfl rfl (Nat.le_of_ble_eq_true rfl) dX6_readLaw_15 (fun u2 => ?_)
    refine aw_istore_n C [(2, .int u2.1), (0, .ref 13), (1, .ref h1)] dX6_readLaw_18 (by decide) rfl ?_
    refine aw_iload_n C dX6_readLaw_19 rfl ?_
    refine aw_if_ne C (tgt := 38) dX6_readLaw_20 (by decide) ?_ ?_
    · refine aw_aload_n C dX6_readLaw_23 rfl ?_
      refine aw_aload_n C dX6_readLaw_24 rfl ?_
      refine aw_getI C clX6 lo_X_13 5 rfl (by decide) kf_X6_50 dX6_readLaw_25 ?_
      refine aw_cVV C [.int (u2.2 13 5)] [] (m_X3_begin h1 hh1 (u2.2 13 5) u2.2) v_X3_begin km_X6_53 (by decide) (hl_o hh1) rfl rfl rfl (Nat.le_of_ble_eq_true rfl) dX6_readLaw_28 (fun M3 => ?_)
      refine aw_aload_n C dX6_readLaw_31 rfl ?_
      refine aw_bipush C (59 : Int32) dX6_readLaw_32 (by decide) ?_
      refine aw_cVI C [.int (59 : Int32)] [] (m_X6_readSign (59 : Int32) M3) v_X6_readSign km_X6_42 (by decide) lo_X_13 rfl rfl rfl (Nat.le_of_ble_eq_true rfl) dX6_readLaw_34 (fun u4 => ?_)
      refine aw_istore_n C [(2, .int u4.1), (0, .ref 13), (1, .ref h1)] dX6_readLaw_37 (by decide) rfl ?_
      refine aw_iload_n C dX6_readLaw_38 rfl ?_
      exact aw_iret C hr dX6_readLaw_39
    · refine aw_iload_n C dX6_readLaw_38 rfl ?_
      exact aw_iret C hr dX6_readLaw_39
  · refine aw_iload_n C dX6_readLaw_19 rfl ?_
    refine aw_if_ne C (tgt := 38) dX6_readLaw_20 (by decide) ?_ ?_
    · refine aw_aload_n C dX6_readLaw_23 rfl ?_
      refine aw_aload_n C dX6_readLaw_24 rfl ?_
      refine aw_getI C clX6 lo_X_13 5 rfl (by decide) kf_X6_50 dX6_readLaw_25 ?_
      refine aw_cVV C [.int (u1.2 13 5)] [] (m_X3_begin h1 hh1 (u1.2 13 5) u1.2) v_X3_begin km_X6_53 (by decide) (hl_o hh1) rfl rfl rfl (Nat.le_of_ble_eq_true rfl) dX6_readLaw_28 (fun M5 => ?_)
      refine aw_aload_n C dX6_readLaw_31 rfl ?_
      refine aw_bipush C (59 : Int32) dX6_readLaw_32 (by decide) ?_
      refine aw_cVI C [.int (59 : Int32)] [] (m_X6_readSign (59 : Int32) M5) v_X6_readSign km_X6_42 (by decide) lo_X_13 rfl rfl rfl (Nat.le_of_ble_eq_true rfl) dX6_readLaw_34 (fun u6 => ?_)
      refine aw_istore_n C [(2, .int u6.1), (0, .ref 13), (1, .ref h1)] dX6_readLaw_37 (by decide) rfl ?_
      refine aw_iload_n C dX6_readLaw_38 rfl ?_
      exact aw_iret C hr dX6_readLaw_39
    · refine aw_iload_n C dX6_readLaw_38 rfl ?_
      exact aw_iret C hr dX6_readLaw_39
def X6_readTraveller_84 (h1 : Nat) (x2 : Int32) (x3 : Int32) (x4 : Int32) (M : Mem) : Option (Int32 × Mem) :=
  if x3 = 0 then
    Option.bind (X6_readSign (59 : Int32) M) fun u1 =>
    if u1.1 = 0 then
      Option.bind (X3_join h1 (x2 + (1 : Int32)) x4 (M 13 5) u1.2) fun M2 =>
      some (u1.1, M2)
    else
      some (u1.1, u1.2)
  else
    if x3 = 0 then
      Option.bind (X3_join h1 (x2 + (1 : Int32)) x4 (M 13 5) M) fun M3 =>
      some (x3, M3)
    else
      some (x3, M)
def X6_readTraveller_22 (h1 : Nat) (s0 : Int32) (M : Mem) : Option (Int32 × Mem) :=
  if s0 < 0 then
    some ((1 : Int32), M)
  else
    if (M h1 1) < (6 : Int32) then
      Option.bind (X6_nextToken M) fun M1 =>
      Option.bind (X6_readNumber (0 : Int32) ((M1 h1 0) - (1 : Int32)) M1) fun u2 =>
      if u2.1 = 0 then
        Option.bind (X6_readSign (44 : Int32) u2.2) fun u3 =>
        if u3.1 = 0 then
          Option.bind (X6_readNumber (0 : Int32) (3 : Int32) u3.2) fun u4 =>
          X6_readTraveller_84 h1 s0 u4.1 (u2.2 13 5) u4.2
        else
          X6_readTraveller_84 h1 s0 u3.1 (u2.2 13 5) u3.2
      else
        if u2.1 = 0 then
          Option.bind (X6_readNumber (0 : Int32) (3 : Int32) u2.2) fun u4 =>
          X6_readTraveller_84 h1 s0 u4.1 (u2.2 13 5) u4.2
        else
          X6_readTraveller_84 h1 s0 u2.1 (u2.2 13 5) u2.2
    else
      some ((3 : Int32), M)
def X6_readTraveller (h1 : Nat)  (M : Mem) : Option (Int32 × Mem) :=
  if (2 : Int32) < (M 13 2) then
    Option.bind (J0_indexOf_0f7a4 M (((M 13 2).toUInt32 % 65536).toInt32)) fun r1 =>
    X6_readTraveller_22 h1 r1 M
  else
    X6_readTraveller_22 h1 (-1 : Int32) M
theorem m_X6_readTraveller_84 {E : amE} (C : amC E 5 cX6_readTraveller 6 RX6) (hr : (eH E).sig.returnType = (some .int)) (h1 : Nat) (hh1 : isHl h1) (x2 : Int32) (x3 : Int32) (x4 : Int32) (M : Mem) : AW E lyX 6 (qI lyX) (X6_readTraveller_84 h1 x2 x3 x4 M) 84 [(0, .ref 13), (1, .ref h1), (2, .int x2), (3, .int x3), (4, .int x4)] [] M := by
  unfold X6_readTraveller_84
  refine aw_aload_n C dX6_readTraveller_84 rfl ?_
  refine aw_getI C clX6 lo_X_13 5 rfl (by decide) kf_X6_50 dX6_readTraveller_85 ?_
  refine aw_istore C [(5, .int (M 13 5)), (0, .ref 13), (1, .ref h1), (2, .int x2), (3, .int x3), (4, .int x4)] dX6_readTraveller_88 (by decide) rfl ?_
  refine aw_iload_n C dX6_readTraveller_90 rfl ?_
  refine aw_if_ne C (tgt := 101) dX6_readTraveller_91 (by decide) ?_ ?_
  · refine aw_aload_n C dX6_readTraveller_94 rfl ?_
    refine aw_bipush C (59 : Int32) dX6_readTraveller_95 (by decide) ?_
    refine aw_cVI C [.int (59 : Int32)] [] (m_X6_readSign (59 : Int32) M) v_X6_readSign km_X6_42 (by decide) lo_X_13 rfl rfl rfl (Nat.le_of_ble_eq_true rfl) dX6_readTraveller_97 (fun u1 => ?_)
    refine aw_istore_n C [(3, .int u1.1), (5, .int (M 13 5)), (0, .ref 13), (1, .ref h1), (2, .int x2), (4, .int x4)] dX6_readTraveller_100 (by decide) rfl ?_
    refine aw_iload_n C dX6_readTraveller_101 rfl ?_
    refine aw_if_ne C (tgt := 116) dX6_readTraveller_102 (by decide) ?_ ?_
    · refine aw_aload_n C dX6_readTraveller_105 rfl ?_
      refine aw_iload_n C dX6_readTraveller_106 rfl ?_
      refine aw_iconst C (1 : Int32) dX6_readTraveller_107 (by decide) ?_
      refine aw_iadd C dX6_readTraveller_108 ?_
      refine aw_iload C dX6_readTraveller_109 rfl ?_
      refine aw_iload C dX6_readTraveller_111 rfl ?_
      refine aw_cVV C [.int (x2 + (1 : Int32)), .int x4, .int (M 13 5)] [] (m_X3_join h1 hh1 (x2 + (1 : Int32)) x4 (M 13 5) u1.2) v_X3_join km_X6_72 (by decide) (hl_o hh1) rfl rfl rfl (Nat.le_of_ble_eq_true rfl) dX6_readTraveller_113 (fun M2 => ?_)
      refine aw_iload_n C dX6_readTraveller_116 rfl ?_
      exact aw_iret C hr dX6_readTraveller_117
    · refine aw_iload_n C dX6_readTraveller_116 rfl ?_
      exact aw_iret C hr dX6_readTraveller_117
  · refine aw_iload_n C dX6_readTraveller_101 rfl ?_
    refine aw_if_ne C (tgt := 116) dX6_readTraveller_102 (by decide) ?_ ?_
    · refine aw_aload_n C dX6_readTraveller_105 rfl ?_
      refine aw_iload_n C dX6_readTraveller_106 rfl ?_
      refine aw_iconst C (1 : Int32) dX6_readTraveller_107 (by decide) ?_
      refine aw_iadd C dX6_readTraveller_108 ?_
      refine aw_iload C dX6_readTraveller_109 rfl ?_
      refine aw_iload C dX6_readTraveller_111 rfl ?_
      refine aw_cVV C [.int (x2 + (1 : Int32)), .int x4, .int (M 13 5)] [] (m_X3_join h1 hh1 (x2 + (1 : Int32)) x4 (M 13 5) M) v_X3_join km_X6_72 (by decide) (hl_o hh1) rfl rfl rfl (Nat.le_of_ble_eq_true rfl) dX6_readTraveller_113 (fun M3 => ?_)
      refine aw_iload_n C dX6_readTraveller_116 rfl ?_
      exact aw_iret C hr dX6_readTraveller_117
    · refine aw_iload_n C dX6_readTraveller_116 rfl ?_
      exact aw_iret C hr dX6_readTraveller_117
theorem m_X6_readTraveller_22 {E : amE} (C : amC E 5 cX6_readTraveller 6 RX6) (hr : (eH E).sig.returnType = (some .int)) (h1 : Nat) (hh1 : isHl h1) (s0 : Int32) (M : Mem) : AW E lyX 6 (qI lyX) (X6_readTraveller_22 h1 s0 M) 22 [(0, .ref 13), (1, .ref h1)] [.int s0] M := by
  unfold X6_readTraveller_22
  refine aw_istore_n C [(2, .int s0), (0, .ref 13), (1, .ref h1)] dX6_readTraveller_22 (by decide) rfl ?_
  refine aw_iload_n C dX6_readTraveller_23 rfl ?_
  refine aw_if_ge C (tgt := 29) dX6_readTraveller_24 (by decide) ?_ ?_
  · refine aw_iconst C (1 : Int32) dX6_readTraveller_27 (by decide) ?_
    exact aw_iret C hr dX6_readTraveller_28
  · refine aw_aload_n C dX6_readTraveller_29 rfl ?_
    refine aw_getI C clX3 (hl_o hh1) 1 rfl (by decide) kf_X6_66 dX6_readTraveller_30 ?_
    refine aw_bipush C (6 : Int32) dX6_readTraveller_33 (by decide) ?_
    refine aw_icmp_lt C (tgt := 40) dX6_readTraveller_35 (by decide) ?_ ?_
    · refine aw_aload_n C dX6_readTraveller_40 rfl ?_
      refine aw_cVV C [] [] (m_X6_nextToken M) v_X6_nextToken km_X6_29 (by decide) lo_X_13 rfl rfl rfl (Nat.le_of_ble_eq_true rfl) dX6_readTraveller_41 (fun M1 => ?_)
      refine aw_aload_n C dX6_readTraveller_44 rfl ?_
      refine aw_iconst C (0 : Int32) dX6_readTraveller_45 (by decide) ?_
      refine aw_aload_n C dX6_readTraveller_46 rfl ?_
      refine aw_getI C clX3 (hl_o hh1) 0 rfl (by decide) kf_X6_69 dX6_readTraveller_47 ?_
      refine aw_iconst C (1 : Int32) dX6_readTraveller_50 (by decide) ?_
      refine aw_isub C dX6_readTraveller_51 ?_
      refine aw_cVI C [.int (0 : Int32), .int ((M1 h1 0) - (1 : Int32))] [] (m_X6_readNumber (0 : Int32) ((M1 h1 0) - (1 : Int32)) M1) v_X6_readNumber km_X6_46 (by decide) lo_X_13 rfl rfl rfl (Nat.le_of_ble_eq_true rfl) dX6_readTraveller_52 (fun u2 => ?_)
      refine aw_istore_n C [(3, .int u2.1), (2, .int s0), (0, .ref 13), (1, .ref h1)] dX6_readTraveller_55 (by decide) rfl ?_
      refine aw_aload_n C dX6_readTraveller_56 rfl ?_
      refine aw_getI C clX6 lo_X_13 5 rfl (by decide) kf_X6_50 dX6_readTraveller_57 ?_
      refine aw_istore C [(4, .int (u2.2 13 5)), (3, .int u2.1), (2, .int s0), (0, .ref 13), (1, .ref h1)] dX6_readTraveller_60 (by decide) rfl ?_
      refine aw_iload_n C dX6_readTraveller_62 rfl ?_
      refine aw_if_ne C (tgt := 73) dX6_readTraveller_63 (by decide) ?_ ?_
      · refine aw_aload_n C dX6_readTraveller_66 rfl ?_
        refine aw_bipush C (44 : Int32) dX6_readTraveller_67 (by decide) ?_
        refine aw_cVI C [.int (44 : Int32)] [] (m_X6_readSign (44 : Int32) u2.2) v_X6_readSign km_X6_42 (by decide) lo_X_13 rfl rfl rfl (Nat.le_of_ble_eq_true rfl) dX6_readTraveller_69 (fun u3 => ?_)
        refine aw_istore_n C [(3, .int u3.1), (4, .int (u2.2 13 5)), (2, .int s0), (0, .ref 13), (1, .ref h1)] dX6_readTraveller_72 (by decide) rfl ?_
        refine aw_iload_n C dX6_readTraveller_73 rfl ?_
        refine aw_if_ne C (tgt := 84) dX6_readTraveller_74 (by decide) ?_ ?_
        · refine aw_aload_n C dX6_readTraveller_77 rfl ?_
          refine aw_iconst C (0 : Int32) dX6_readTraveller_78 (by decide) ?_
          refine aw_iconst C (3 : Int32) dX6_readTraveller_79 (by decide) ?_
          refine aw_cVI C [.int (0 : Int32), .int (3 : Int32)] [] (m_X6_readNumber (0 : Int32) (3 : Int32) u3.2) v_X6_readNumber km_X6_46 (by decide) lo_X_13 rfl rfl rfl (Nat.le_of_ble_eq_true rfl) dX6_readTraveller_80 (fun u4 => ?_)
          refine aw_istore_n C [(3, .int u4.1), (4, .int (u2.2 13 5)), (2, .int s0), (0, .ref 13), (1, .ref h1)] dX6_readTraveller_83 (by decide) rfl ?_
          refine aw_sub [3, 4, 2, 0, 1] rfl ?_
          exact m_X6_readTraveller_84 C hr h1 hh1 s0 u4.1 (u2.2 13 5) u4.2
        · refine aw_sub [3, 4, 2, 0, 1] rfl ?_
          exact m_X6_readTraveller_84 C hr h1 hh1 s0 u3.1 (u2.2 13 5) u3.2
      · refine aw_iload_n C dX6_readTraveller_73 rfl ?_
        refine aw_if_ne C (tgt := 84) dX6_readTraveller_74 (by decide) ?_ ?_
        · refine aw_aload_n C dX6_readTraveller_77 rfl ?_
          refine aw_iconst C (0 : Int32) dX6_readTraveller_78 (by decide) ?_
          refine aw_iconst C (3 : Int32) dX6_readTraveller_79 (by decide) ?_
          refine aw_cVI C [.int (0 : Int32), .int (3 : Int32)] [] (m_X6_readNumber (0 : Int32) (3 : Int32) u2.2) v_X6_readNumber km_X6_46 (by decide) lo_X_13 rfl rfl rfl (Nat.le_of_ble_eq_true rfl) dX6_readTraveller_80 (fun u4 => ?_)
          refine aw_istore_n C [(3, .int u4.1), (4, .int (u2.2 13 5)), (2, .int s0), (0, .ref 13), (1, .ref h1)] dX6_readTraveller_83 (by decide) rfl ?_
          refine aw_sub [3, 4, 2, 0, 1] rfl ?_
          exact m_X6_readTraveller_84 C hr h1 hh1 s0 u4.1 (u2.2 13 5) u4.2
        · refine aw_sub [3, 4, 2, 1, 0] rfl ?_
          exact m_X6_readTraveller_84 C hr h1 hh1 s0 u2.1 (u2.2 13 5) u2.2
    · refine aw_iconst C (3 : Int32) dX6_readTraveller_38 (by decide) ?_
      exact aw_iret C hr dX6_readTraveller_39
theorem m_X6_readTraveller  (h1 : Nat) (hh1 : isHl h1)  (M : Mem) : AMet 5 yX6_readTraveller cX6_readTraveller 6 (some .int) lyX [.ref 13, .ref h1] M (qI lyX) (X6_readTraveller h1 M) := by
  refine am_ent pn_X6 (Nat.le_of_ble_eq_true rfl) (fun E C hr => ?_)
  refine aw_lv (lv' := [(0, .ref 13), (1, .ref h1)]) rfl ?_
  unfold X6_readTraveller
  refine aw_aload_n C dX6_readTraveller_0 rfl ?_
  refine aw_getI C clX6 lo_X_13 2 rfl (by decide) kf_X6_36 dX6_readTraveller_1 ?_
  refine aw_iconst C (2 : Int32) dX6_readTraveller_4 (by decide) ?_
  refine aw_icmp_le C (tgt := 21) dX6_readTraveller_5 (by decide) ?_ ?_
  · refine aw_ldcS C dX6_readTraveller_8 ?_
    refine aw_aload_n C dX6_readTraveller_10 rfl ?_
    refine aw_getI C clX6 lo_X_13 2 rfl (by decide) kf_X6_36 dX6_readTraveller_11 ?_
    refine aw_i2c C dX6_readTraveller_14 ?_
    refine aw_cUIp C [.int (((M 13 2).toUInt32 % 65536).toInt32)] [] (m_J0_indexOf_0f7a4 M (((M 13 2).toUInt32 % 65536).toInt32)) v_J0_indexOf_0f7a4 km_X6_61 (by decide) rfl rfl (Nat.le_of_ble_eq_true rfl) dX6_readTraveller_15 (fun r1 => ?_)
    refine aw_goto C (tgt := 22) dX6_readTraveller_18 (by decide) ?_
    exact m_X6_readTraveller_22 C hr h1 hh1 r1 M
  · refine aw_iconst C (-1 : Int32) dX6_readTraveller_21 (by decide) ?_
    exact m_X6_readTraveller_22 C hr h1 hh1 (-1 : Int32) M
def X6_readInto_17 (h1 : Nat) : Nat → Int32 → Int32 → Mem → Option (Int32 × Mem)
  | 0, _, _, _ => none
  | f + 1, x2, x3, M =>
    if (6 : Int32) < x3 then
      some (x2, M)
    else
      if x2 = 0 then
        if 0 < x3 then
          if (M 13 2) = 0 then
            some ((0 : Int32), M)
          else
            Option.bind (X6_readTraveller h1 M) fun u1 =>
            X6_readInto_17 h1 f u1.1 (x3 + (1 : Int32)) u1.2
        else
          Option.bind (X6_readTraveller h1 M) fun u2 =>
          X6_readInto_17 h1 f u2.1 (x3 + (1 : Int32)) u2.2
      else
        some (x2, M)
def X6_readInto (h1 : Nat)  (M : Mem) : Option (Int32 × Mem) :=
  am_let (mset M 13 (upd (M 13) 4 (0 : Int32))) fun M1 =>
  Option.bind (X6_nextToken M1) fun M2 =>
  Option.bind (X6_readLaw h1 M2) fun u3 =>
  X6_readInto_17 h1 am_fuel u3.1 (0 : Int32) u3.2
theorem m_X6_readInto_17 {E : amE} (C : amC E 6 cX6_readInto 4 RX6) (hr : (eH E).sig.returnType = (some .int)) (h1 : Nat) (hh1 : isHl h1) : ∀ (f : Nat) (x2 : Int32) (x3 : Int32) (M : Mem), AW E lyX 4 (qI lyX) (X6_readInto_17 h1 f x2 x3 M) 17 [(0, .ref 13), (1, .ref h1), (2, .int x2), (3, .int x3)] [] M := by
  intro f
  induction f with
  | zero => exact (fun _ _ _ => aw_none)
  | succ f ih =>
    intro x2 x3 M
    rw [X6_readInto_17]
    refine aw_iload_n C dX6_readInto_17 rfl ?_
    refine aw_bipush C (6 : Int32) dX6_readInto_18 (by decide) ?_
    refine aw_icmp_gt C (tgt := 52) dX6_readInto_20 (by decide) ?_ ?_
    · refine aw_iload_n C dX6_readInto_52 rfl ?_
      exact aw_iret C hr dX6_readInto_53
    · refine aw_iload_n C dX6_readInto_23 rfl ?_
      refine aw_if_ne C (tgt := 52) dX6_readInto_24 (by decide) ?_ ?_
      · refine aw_iload_n C dX6_readInto_27 rfl ?_
        refine aw_if_le C (tgt := 40) dX6_readInto_28 (by decide) ?_ ?_
        · refine aw_aload_n C dX6_readInto_31 rfl ?_
          refine aw_getI C clX6 lo_X_13 2 rfl (by decide) kf_X6_36 dX6_readInto_32 ?_
          refine aw_if_ne C (tgt := 40) dX6_readInto_35 (by decide) ?_ ?_
          · refine aw_iconst C (0 : Int32) dX6_readInto_38 (by decide) ?_
            exact aw_iret C hr dX6_readInto_39
          · refine aw_aload_n C dX6_readInto_40 rfl ?_
            refine aw_aload_n C dX6_readInto_41 rfl ?_
            refine aw_cVI C [.ref h1] [] (m_X6_readTraveller h1 hh1 M) v_X6_readTraveller km_X6_39 (by decide) lo_X_13 rfl rfl rfl (Nat.le_of_ble_eq_true rfl) dX6_readInto_42 (fun u1 => ?_)
            refine aw_istore_n C [(2, .int u1.1), (0, .ref 13), (1, .ref h1), (3, .int x3)] dX6_readInto_45 (by decide) rfl ?_
            refine aw_iinc C (v := (1 : Int32)) [(3, .int (x3 + (1 : Int32))), (2, .int u1.1), (0, .ref 13), (1, .ref h1)] dX6_readInto_46 rfl (by decide) (by decide) rfl ?_
            refine aw_goto C (tgt := 17) dX6_readInto_49 (by decide) ?_
            refine aw_sub [2, 3, 1, 0] rfl ?_
            exact ih u1.1 (x3 + (1 : Int32)) u1.2
        · refine aw_aload_n C dX6_readInto_40 rfl ?_
          refine aw_aload_n C dX6_readInto_41 rfl ?_
          refine aw_cVI C [.ref h1] [] (m_X6_readTraveller h1 hh1 M) v_X6_readTraveller km_X6_39 (by decide) lo_X_13 rfl rfl rfl (Nat.le_of_ble_eq_true rfl) dX6_readInto_42 (fun u2 => ?_)
          refine aw_istore_n C [(2, .int u2.1), (0, .ref 13), (1, .ref h1), (3, .int x3)] dX6_readInto_45 (by decide) rfl ?_
          refine aw_iinc C (v := (1 : Int32)) [(3, .int (x3 + (1 : Int32))), (2, .int u2.1), (0, .ref 13), (1, .ref h1)] dX6_readInto_46 rfl (by decide) (by decide) rfl ?_
          refine aw_goto C (tgt := 17) dX6_readInto_49 (by decide) ?_
          refine aw_sub [2, 3, 1, 0] rfl ?_
          exact ih u2.1 (x3 + (1 : Int32)) u2.2
      · refine aw_iload_n C dX6_readInto_52 rfl ?_
        exact aw_iret C hr dX6_readInto_53
theorem m_X6_readInto  (h1 : Nat) (hh1 : isHl h1)  (M : Mem) : AMet 6 yX6_readInto cX6_readInto 4 (some .int) lyX [.ref 13, .ref h1] M (qI lyX) (X6_readInto h1 M) := by
  refine am_ent pn_X6 (Nat.le_of_ble_eq_true rfl) (fun E C hr => ?_)
  refine aw_lv (lv' := [(0, .ref 13), (1, .ref h1)]) rfl ?_
  unfold X6_readInto
  refine aw_aload_n C dX6_readInto_0 rfl ?_
  refine aw_iconst C (0 : Int32) dX6_readInto_1 (by decide) ?_
  refine aw_putI C clX6 lo_X_13 4 rfl (by decide) rfl rfl kf_X6_26 dX6_readInto_2 ?_
  refine aw_mlet (fun M1 => ?_)
  refine aw_aload_n C dX6_readInto_5 rfl ?_
  refine aw_cVV C [] [] (m_X6_nextToken M1) v_X6_nextToken km_X6_29 (by decide) lo_X_13 rfl rfl rfl (Nat.le_of_ble_eq_true rfl) dX6_readInto_6 (fun M2 => ?_)
  refine aw_aload_n C dX6_readInto_9 rfl ?_
  refine aw_aload_n C dX6_readInto_10 rfl ?_
  refine aw_cVI C [.ref h1] [] (m_X6_readLaw h1 hh1 M2) v_X6_readLaw km_X6_32 (by decide) lo_X_13 rfl rfl rfl (Nat.le_of_ble_eq_true rfl) dX6_readInto_11 (fun u3 => ?_)
  refine aw_istore_n C [(2, .int u3.1), (0, .ref 13), (1, .ref h1)] dX6_readInto_14 (by decide) rfl ?_
  refine aw_iconst C (0 : Int32) dX6_readInto_15 (by decide) ?_
  refine aw_istore_n C [(3, .int (0 : Int32)), (2, .int u3.1), (0, .ref 13), (1, .ref h1)] dX6_readInto_16 (by decide) rfl ?_
  refine aw_sub [2, 3, 1, 0] rfl ?_
  exact m_X6_readInto_17 C hr h1 hh1 am_fuel u3.1 (0 : Int32) u3.2
def X6_clear   (M : Mem) : Option (Mem) :=
  am_let (mset M 13 (upd (M 13) 1 (0 : Int32))) fun M1 =>
  some M1
theorem m_X6_clear    (M : Mem) : AMet 1 yX6_clear cX6_clear 1 none lyX [.ref 13] M (qV lyX) (X6_clear M) := by
  refine am_ent pn_X6 (Nat.le_of_ble_eq_true rfl) (fun E C hr => ?_)
  refine aw_lv (lv' := [(0, .ref 13)]) rfl ?_
  unfold X6_clear
  refine aw_aload_n C dX6_clear_0 rfl ?_
  refine aw_iconst C (0 : Int32) dX6_clear_1 (by decide) ?_
  refine aw_putI C clX6 lo_X_13 1 rfl (by decide) rfl rfl kf_X6_15 dX6_clear_2 ?_
  refine aw_mlet (fun M1 => ?_)
  exact aw_vret C hr dX6_clear_5
def X6_faultPlace (M : Mem)   : Option (Int32) :=
  some (M 13 3)
theorem m_X6_faultPlace  (M : Mem)   : AMet 1 yX6_faultPlace cX6_faultPlace 1 (some .int) lyX [.ref 13] M (qIp lyX M) (X6_faultPlace M) := by
  refine am_ent pn_X6 (Nat.le_of_ble_eq_true rfl) (fun E C hr => ?_)
  refine aw_lv (lv' := [(0, .ref 13)]) rfl ?_
  unfold X6_faultPlace
  refine aw_aload_n C dX6_faultPlace_0 rfl ?_
  refine aw_getI C clX6 lo_X_13 3 rfl (by decide) kf_X6_23 dX6_faultPlace_1 ?_
  exact aw_iretp C hr dX6_faultPlace_4
def X0_clear   (M : Mem) : Option (Mem) :=
  am_let (mset M 31 (upd (M 31) 2 (0 : Int32))) fun M1 =>
  some M1
theorem m_X0_clear    (M : Mem) : AMet 1 yX0_clear cX0_clear 1 none lyX [.ref 31] M (qV lyX) (X0_clear M) := by
  refine am_ent pn_X0 (Nat.le_of_ble_eq_true rfl) (fun E C hr => ?_)
  refine aw_lv (lv' := [(0, .ref 31)]) rfl ?_
  unfold X0_clear
  refine aw_aload_n C dX0_clear_0 rfl ?_
  refine aw_iconst C (0 : Int32) dX0_clear_1 (by decide) ?_
  refine aw_putI C clX0 lo_X_31 2 rfl (by decide) rfl rfl kf_X0_15 dX0_clear_2 ?_
  refine aw_mlet (fun M1 => ?_)
  exact aw_vret C hr dX0_clear_5
def X0_undoIn (h1 : Nat)  (M : Mem) : Option (Int32 × Mem) :=
  if (M 31 2) = 0 then
    some ((0 : Int32), M)
  else
    am_let (mset M 31 (upd (M 31) 2 ((M 31 2) - (1 : Int32)))) fun M1 =>
    if 0 < (M1 31 1) then
      am_let (mset M1 31 (upd (M1 31) 1 ((M1 31 1) - (1 : Int32)))) fun M2 =>
      Option.bind (X3_loadFrom h1 32 960 ((M2 31 1) * (40 : Int32)) M2) fun M3 =>
      some ((1 : Int32), M3)
    else
      am_let (mset M1 31 (upd (M1 31) 1 (23 : Int32))) fun M4 =>
      Option.bind (X3_loadFrom h1 32 960 ((M4 31 1) * (40 : Int32)) M4) fun M5 =>
      some ((1 : Int32), M5)
theorem m_X0_undoIn  (h1 : Nat) (hh1 : isHl h1)  (M : Mem) : AMet 4 yX0_undoIn cX0_undoIn 2 (some .boolean) lyX [.ref 31, .ref h1] M (qI lyX) (X0_undoIn h1 M) := by
  refine am_ent pn_X0 (Nat.le_of_ble_eq_true rfl) (fun E C hr => ?_)
  refine aw_lv (lv' := [(0, .ref 31), (1, .ref h1)]) rfl ?_
  unfold X0_undoIn
  refine aw_aload_n C dX0_undoIn_0 rfl ?_
  refine aw_getI C clX0 lo_X_31 2 rfl (by decide) kf_X0_15 dX0_undoIn_1 ?_
  refine aw_if_ne C (tgt := 9) dX0_undoIn_4 (by decide) ?_ ?_
  · refine aw_iconst C (0 : Int32) dX0_undoIn_7 (by decide) ?_
    exact aw_zret C (Or.inl rfl) hr dX0_undoIn_8
  · refine aw_aload_n C dX0_undoIn_9 rfl ?_
    refine aw_dup C dX0_undoIn_10 rfl ?_
    refine aw_getI C clX0 lo_X_31 2 rfl (by decide) kf_X0_15 dX0_undoIn_11 ?_
    refine aw_iconst C (1 : Int32) dX0_undoIn_14 (by decide) ?_
    refine aw_isub C dX0_undoIn_15 ?_
    refine aw_putI C clX0 lo_X_31 2 rfl (by decide) rfl rfl kf_X0_15 dX0_undoIn_16 ?_
    refine aw_mlet (fun M1 => ?_)
    refine aw_aload_n C dX0_undoIn_19 rfl ?_
    refine aw_aload_n C dX0_undoIn_20 rfl ?_
    refine aw_getI C clX0 lo_X_31 1 rfl (by decide) kf_X0_19 dX0_undoIn_21 ?_
    refine aw_if_le C (tgt := 36) dX0_undoIn_24 (by decide) ?_ ?_
    · refine aw_aload_n C dX0_undoIn_27 rfl ?_
      refine aw_getI C clX0 lo_X_31 1 rfl (by decide) kf_X0_19 dX0_undoIn_28 ?_
      refine aw_iconst C (1 : Int32) dX0_undoIn_31 (by decide) ?_
      refine aw_isub C dX0_undoIn_32 ?_
      refine aw_goto C (tgt := 38) dX0_undoIn_33 (by decide) ?_
      refine aw_putI C clX0 lo_X_31 1 rfl (by decide) rfl rfl kf_X0_19 dX0_undoIn_38 ?_
      refine aw_mlet (fun M2 => ?_)
      refine aw_aload_n C dX0_undoIn_41 rfl ?_
      refine aw_aload_n C dX0_undoIn_42 rfl ?_
      refine aw_getR C (r := 32) clX0 lo_X_31 0 rfl (by decide) kf_X0_11 dX0_undoIn_43 ?_
      refine aw_aload_n C dX0_undoIn_46 rfl ?_
      refine aw_getI C clX0 lo_X_31 1 rfl (by decide) kf_X0_19 dX0_undoIn_47 ?_
      refine aw_bipush C (40 : Int32) dX0_undoIn_50 (by decide) ?_
      refine aw_imul C dX0_undoIn_52 ?_
      refine aw_cVV C [.ref 32, .int ((M2 31 1) * (40 : Int32))] [] (m_X3_loadFrom h1 hh1 32 960 la_X_32 ((M2 31 1) * (40 : Int32)) M2) v_X3_loadFrom km_X0_32 (by decide) (hl_o hh1) rfl rfl rfl (Nat.le_of_ble_eq_true rfl) dX0_undoIn_53 (fun M3 => ?_)
      refine aw_iconst C (1 : Int32) dX0_undoIn_56 (by decide) ?_
      exact aw_zret C (Or.inr rfl) hr dX0_undoIn_57
    · refine aw_bipush C (23 : Int32) dX0_undoIn_36 (by decide) ?_
      refine aw_putI C clX0 lo_X_31 1 rfl (by decide) rfl rfl kf_X0_19 dX0_undoIn_38 ?_
      refine aw_mlet (fun M4 => ?_)
      refine aw_aload_n C dX0_undoIn_41 rfl ?_
      refine aw_aload_n C dX0_undoIn_42 rfl ?_
      refine aw_getR C (r := 32) clX0 lo_X_31 0 rfl (by decide) kf_X0_11 dX0_undoIn_43 ?_
      refine aw_aload_n C dX0_undoIn_46 rfl ?_
      refine aw_getI C clX0 lo_X_31 1 rfl (by decide) kf_X0_19 dX0_undoIn_47 ?_
      refine aw_bipush C (40 : Int32) dX0_undoIn_50 (by decide) ?_
      refine aw_imul C dX0_undoIn_52 ?_
      refine aw_cVV C [.ref 32, .int ((M4 31 1) * (40 : Int32))] [] (m_X3_loadFrom h1 hh1 32 960 la_X_32 ((M4 31 1) * (40 : Int32)) M4) v_X3_loadFrom km_X0_32 (by decide) (hl_o hh1) rfl rfl rfl (Nat.le_of_ble_eq_true rfl) dX0_undoIn_53 (fun M5 => ?_)
      refine aw_iconst C (1 : Int32) dX0_undoIn_56 (by decide) ?_
      exact aw_zret C (Or.inr rfl) hr dX0_undoIn_57
def X0_kept (M : Mem)   : Option (Int32) :=
  some (M 31 2)
theorem m_X0_kept  (M : Mem)   : AMet 1 yX0_kept cX0_kept 1 (some .int) lyX [.ref 31] M (qIp lyX M) (X0_kept M) := by
  refine am_ent pn_X0 (Nat.le_of_ble_eq_true rfl) (fun E C hr => ?_)
  refine aw_lv (lv' := [(0, .ref 31)]) rfl ?_
  unfold X0_kept
  refine aw_aload_n C dX0_kept_0 rfl ?_
  refine aw_getI C clX0 lo_X_31 2 rfl (by decide) kf_X0_15 dX0_kept_1 ?_
  exact aw_iretp C hr dX0_kept_4
def X0_keep (h1 : Nat)  (M : Mem) : Option (Mem) :=
  Option.bind (X3_saveTo h1 32 960 ((M 31 1) * (40 : Int32)) M) fun M1 =>
  if ((M1 31 1) + (1 : Int32)) < (24 : Int32) then
    am_let (mset M1 31 (upd (M1 31) 1 ((M1 31 1) + (1 : Int32)))) fun M2 =>
    am_let (mset M2 31 (upd (M2 31) 2 (if (24 : Int32) < ((M2 31 2) + (1 : Int32)) then (24 : Int32) else ((M2 31 2) + (1 : Int32))))) fun M3 =>
    some M3
  else
    am_let (mset M1 31 (upd (M1 31) 1 (0 : Int32))) fun M4 =>
    am_let (mset M4 31 (upd (M4 31) 2 (if (24 : Int32) < ((M4 31 2) + (1 : Int32)) then (24 : Int32) else ((M4 31 2) + (1 : Int32))))) fun M5 =>
    some M5
theorem m_X0_keep  (h1 : Nat) (hh1 : isHl h1)  (M : Mem) : AMet 3 yX0_keep cX0_keep 2 none lyX [.ref 31, .ref h1] M (qV lyX) (X0_keep h1 M) := by
  refine am_ent pn_X0 (Nat.le_of_ble_eq_true rfl) (fun E C hr => ?_)
  refine aw_lv (lv' := [(0, .ref 31), (1, .ref h1)]) rfl ?_
  unfold X0_keep
  refine aw_aload_n C dX0_keep_0 rfl ?_
  refine aw_aload_n C dX0_keep_1 rfl ?_
  refine aw_getR C (r := 32) clX0 lo_X_31 0 rfl (by decide) kf_X0_11 dX0_keep_2 ?_
  refine aw_aload_n C dX0_keep_5 rfl ?_
  refine aw_getI C clX0 lo_X_31 1 rfl (by decide) kf_X0_19 dX0_keep_6 ?_
  refine aw_bipush C (40 : Int32) dX0_keep_9 (by decide) ?_
  refine aw_imul C dX0_keep_11 ?_
  refine aw_cVV C [.ref 32, .int ((M 31 1) * (40 : Int32))] [] (m_X3_saveTo h1 hh1 32 960 la_X_32 ((M 31 1) * (40 : Int32)) M) v_X3_saveTo km_X0_22 (by decide) (hl_o hh1) rfl rfl rfl (Nat.le_of_ble_eq_true rfl) dX0_keep_12 (fun M1 => ?_)
  refine aw_aload_n C dX0_keep_15 rfl ?_
  refine aw_aload_n C dX0_keep_16 rfl ?_
  refine aw_getI C clX0 lo_X_31 1 rfl (by decide) kf_X0_19 dX0_keep_17 ?_
  refine aw_iconst C (1 : Int32) dX0_keep_20 (by decide) ?_
  refine aw_iadd C dX0_keep_21 ?_
  refine aw_bipush C (24 : Int32) dX0_keep_22 (by decide) ?_
  refine aw_icmp_ge C (tgt := 36) dX0_keep_24 (by decide) ?_ ?_
  · refine aw_aload_n C dX0_keep_27 rfl ?_
    refine aw_getI C clX0 lo_X_31 1 rfl (by decide) kf_X0_19 dX0_keep_28 ?_
    refine aw_iconst C (1 : Int32) dX0_keep_31 (by decide) ?_
    refine aw_iadd C dX0_keep_32 ?_
    refine aw_goto C (tgt := 37) dX0_keep_33 (by decide) ?_
    refine aw_putI C clX0 lo_X_31 1 rfl (by decide) rfl rfl kf_X0_19 dX0_keep_37 ?_
    refine aw_mlet (fun M2 => ?_)
    refine aw_aload_n C dX0_keep_40 rfl ?_
    refine aw_aload_n C dX0_keep_41 rfl ?_
    refine aw_getI C clX0 lo_X_31 2 rfl (by decide) kf_X0_15 dX0_keep_42 ?_
    refine aw_iconst C (1 : Int32) dX0_keep_45 (by decide) ?_
    refine aw_iadd C dX0_keep_46 ?_
    refine aw_bipush C (24 : Int32) dX0_keep_47 (by decide) ?_
    refine aw_mmin C km_X0_26 k_min_st k_m_ini k_min_code (by decide) (Nat.le_of_ble_eq_true rfl) dX0_keep_49 ?_
    refine aw_putI C clX0 lo_X_31 2 rfl (by decide) rfl rfl kf_X0_15 dX0_keep_52 ?_
    refine aw_mlet (fun M3 => ?_)
    exact aw_vret C hr dX0_keep_55
  · refine aw_iconst C (0 : Int32) dX0_keep_36 (by decide) ?_
    refine aw_putI C clX0 lo_X_31 1 rfl (by decide) rfl rfl kf_X0_19 dX0_keep_37 ?_
    refine aw_mlet (fun M4 => ?_)
    refine aw_aload_n C dX0_keep_40 rfl ?_
    refine aw_aload_n C dX0_keep_41 rfl ?_
    refine aw_getI C clX0 lo_X_31 2 rfl (by decide) kf_X0_15 dX0_keep_42 ?_
    refine aw_iconst C (1 : Int32) dX0_keep_45 (by decide) ?_
    refine aw_iadd C dX0_keep_46 ?_
    refine aw_bipush C (24 : Int32) dX0_keep_47 (by decide) ?_
    refine aw_mmin C km_X0_26 k_min_st k_m_ini k_min_code (by decide) (Nat.le_of_ble_eq_true rfl) dX0_keep_49 ?_
    refine aw_putI C clX0 lo_X_31 2 rfl (by decide) rfl rfl kf_X0_15 dX0_keep_52 ?_
    refine aw_mlet (fun M5 => ?_)
    exact aw_vret C hr dX0_keep_55
def X5_itemsOf (M : Mem) (x1 : Int32)  : Option (Nat) :=
  Option.bind (X5_isNumber x1) fun r1 =>
  if r1 = 0 then
    if am_in (0 : Int32) 8 = true then
      some (5 + (0 : Int32).toNatClampNeg)
    else none
  else
    if am_in x1 8 = true then
      some (5 + x1.toNatClampNeg)
    else none
theorem m_X5_itemsOf  (M : Mem) (x1 : Int32)  : AMet 2 yX5_itemsOf cX5_itemsOf 2 (some (.array .int)) lyX [.ref 1, .int x1] M (qRp lyX M) (X5_itemsOf M x1) := by
  refine am_ent pn_X5 (Nat.le_of_ble_eq_true rfl) (fun E C hr => ?_)
  refine aw_lv (lv' := [(0, .ref 1), (1, .int x1)]) rfl ?_
  unfold X5_itemsOf
  refine aw_aload_n C dX5_itemsOf_0 rfl ?_
  refine aw_getR C (r := 4) clX5 lo_X_1 2 rfl (by decide) kf_X5_18 dX5_itemsOf_1 ?_
  refine aw_aload_n C dX5_itemsOf_4 rfl ?_
  refine aw_iload_n C dX5_itemsOf_5 rfl ?_
  refine aw_cVIp C [.int x1] [.ref 4] (m_X5_isNumber M x1) v_X5_isNumber km_X5_27 (by decide) lo_X_1 rfl rfl rfl (Nat.le_of_ble_eq_true rfl) dX5_itemsOf_6 (fun r1 => ?_)
  refine aw_if_eq C (tgt := 16) dX5_itemsOf_9 (by decide) ?_ ?_
  · refine aw_iconst C (0 : Int32) dX5_itemsOf_16 (by decide) ?_
    refine aw_ite (fun h2 => ?_) (fun _ => aw_none)
    refine aw_aald8 C la_X_4 h2 dX5_itemsOf_17 ?_
    exact aw_aretp C hr (Or.inr ⟨_, rfl⟩) dX5_itemsOf_18
  · refine aw_iload_n C dX5_itemsOf_12 rfl ?_
    refine aw_goto C (tgt := 17) dX5_itemsOf_13 (by decide) ?_
    refine aw_ite (fun h3 => ?_) (fun _ => aw_none)
    refine aw_aald8 C la_X_4 h3 dX5_itemsOf_17 ?_
    exact aw_aretp C hr (Or.inr ⟨_, rfl⟩) dX5_itemsOf_18
def X1_kindAbove  (x0 : Int32)  : Option (Int32) :=
  if x0 < 0 then
    some (-1 : Int32)
  else
    if x0 < (6 : Int32) then
      if am_in x0 6 = true then
        some (am_tab 1000 x0.toNatClampNeg)
      else none
    else
      some (-1 : Int32)
theorem m_X1_kindAbove  (M : Mem) (x0 : Int32)  : AMet 1 yX1_kindAbove cX1_kindAbove 1 (some .int) lyX [.int x0] M (qIp lyX M) (X1_kindAbove x0) := by
  refine am_ent pn_X1 (Nat.le_of_ble_eq_true rfl) (fun E C hr => ?_)
  refine aw_lv (lv' := [(0, .int x0)]) rfl ?_
  unfold X1_kindAbove
  refine aw_iload_n C dX1_kindAbove_0 rfl ?_
  refine aw_if_lt C (tgt := 20) dX1_kindAbove_1 (by decide) ?_ ?_
  · refine aw_iconst C (-1 : Int32) dX1_kindAbove_20 (by decide) ?_
    exact aw_iretp C hr dX1_kindAbove_21
  · refine aw_iload_n C dX1_kindAbove_4 rfl ?_
    refine aw_gets1000 C kf_X1_23 dX1_kindAbove_5 ?_
    refine aw_tlen C isTb_1000 dX1_kindAbove_8 ?_
    refine aw_icmp_ge C (tgt := 20) dX1_kindAbove_9 (by decide) ?_ ?_
    · refine aw_gets1000 C kf_X1_23 dX1_kindAbove_12 ?_
      refine aw_iload_n C dX1_kindAbove_15 rfl ?_
      refine aw_tald C isTb_1000 dX1_kindAbove_16 ?_
      refine aw_goto C (tgt := 21) dX1_kindAbove_17 (by decide) ?_
      exact aw_iretp C hr dX1_kindAbove_21
    · refine aw_iconst C (-1 : Int32) dX1_kindAbove_20 (by decide) ?_
      exact aw_iretp C hr dX1_kindAbove_21
def X1_isOfKind_4  : Nat → Int32 → Int32 → Int32 → Option (Int32)
  | 0, _, _, _ => none
  | f + 1, x1, x2, x3 =>
    if (5 : Int32) < x3 then
      if x2 = x1 then
        some (1 : Int32)
      else
        some (0 : Int32)
    else
      if x2 = x1 then
        if x2 = x1 then
          some (1 : Int32)
        else
          some (0 : Int32)
      else
        Option.bind (X1_kindAbove x2) fun r1 =>
        X1_isOfKind_4  f x1 r1 (x3 + (1 : Int32))
def X1_isOfKind  (x0 : Int32) (x1 : Int32)  : Option (Int32) :=
  X1_isOfKind_4 am_fuel x1 x0 (0 : Int32)
theorem m_X1_isOfKind_4 {E : amE} (C : amC E 2 cX1_isOfKind 4 RX1) (hr : (eH E).sig.returnType = (some .boolean)) (M : Mem) : ∀ (f : Nat) (x1 : Int32) (x2 : Int32) (x3 : Int32), AW E lyX 4 (qIp lyX M) (X1_isOfKind_4 f x1 x2 x3) 4 [(1, .int x1), (2, .int x2), (3, .int x3)] [] M := by
  intro f
  induction f with
  | zero => exact (fun _ _ _ => aw_none)
  | succ f ih =>
    intro x1 x2 x3
    rw [X1_isOfKind_4]
    refine aw_iload_n C dX1_isOfKind_4 rfl ?_
    refine aw_iconst C (5 : Int32) dX1_isOfKind_5 (by decide) ?_
    refine aw_icmp_gt C (tgt := 25) dX1_isOfKind_6 (by decide) ?_ ?_
    · refine aw_iload_n C dX1_isOfKind_25 rfl ?_
      refine aw_iload_n C dX1_isOfKind_26 rfl ?_
      refine aw_icmp_ne C (tgt := 34) dX1_isOfKind_27 (by decide) ?_ ?_
      · refine aw_iconst C (1 : Int32) dX1_isOfKind_30 (by decide) ?_
        refine aw_goto C (tgt := 35) dX1_isOfKind_31 (by decide) ?_
        exact aw_zretp C (Or.inr rfl) hr dX1_isOfKind_35
      · refine aw_iconst C (0 : Int32) dX1_isOfKind_34 (by decide) ?_
        exact aw_zretp C (Or.inl rfl) hr dX1_isOfKind_35
    · refine aw_iload_n C dX1_isOfKind_9 rfl ?_
      refine aw_iload_n C dX1_isOfKind_10 rfl ?_
      refine aw_icmp_eq C (tgt := 25) dX1_isOfKind_11 (by decide) ?_ ?_
      · refine aw_iload_n C dX1_isOfKind_25 rfl ?_
        refine aw_iload_n C dX1_isOfKind_26 rfl ?_
        refine aw_icmp_ne C (tgt := 34) dX1_isOfKind_27 (by decide) ?_ ?_
        · refine aw_iconst C (1 : Int32) dX1_isOfKind_30 (by decide) ?_
          refine aw_goto C (tgt := 35) dX1_isOfKind_31 (by decide) ?_
          exact aw_zretp C (Or.inr rfl) hr dX1_isOfKind_35
        · refine aw_iconst C (0 : Int32) dX1_isOfKind_34 (by decide) ?_
          exact aw_zretp C (Or.inl rfl) hr dX1_isOfKind_35
      · refine aw_iload_n C dX1_isOfKind_14 rfl ?_
        refine aw_cSIp C [.int x2] [] (m_X1_kindAbove M x2) t_X1_kindAbove km_X1_19 (by decide) rfl rfl (Nat.le_of_ble_eq_true rfl) dX1_isOfKind_15 (fun r1 => ?_)
        refine aw_istore_n C [(2, .int r1), (1, .int x1), (3, .int x3)] dX1_isOfKind_18 (by decide) rfl ?_
        refine aw_iinc C (v := (1 : Int32)) [(3, .int (x3 + (1 : Int32))), (2, .int r1), (1, .int x1)] dX1_isOfKind_19 rfl (by decide) (by decide) rfl ?_
        refine aw_goto C (tgt := 4) dX1_isOfKind_22 (by decide) ?_
        refine aw_sub [2, 1, 0] rfl ?_
        exact ih x1 r1 (x3 + (1 : Int32))
theorem m_X1_isOfKind  (M : Mem) (x0 : Int32) (x1 : Int32)  : AMet 2 yX1_isOfKind cX1_isOfKind 4 (some .boolean) lyX [.int x0, .int x1] M (qIp lyX M) (X1_isOfKind x0 x1) := by
  refine am_ent pn_X1 (Nat.le_of_ble_eq_true rfl) (fun E C hr => ?_)
  refine aw_lv (lv' := [(0, .int x0), (1, .int x1)]) rfl ?_
  unfold X1_isOfKind
  refine aw_iload_n C dX1_isOfKind_0 rfl ?_
  refine aw_istore_n C [(2, .int x0), (0, .int x0), (1, .int x1)] dX1_isOfKind_1 (by decide) rfl ?_
  refine aw_iconst C (0 : Int32) dX1_isOfKind_2 (by decide) ?_
  refine aw_istore_n C [(3, .int (0 : Int32)), (2, .int x0), (0, .int x0), (1, .int x1)] dX1_isOfKind_3 (by decide) rfl ?_
  refine aw_sub [3, 1, 0] rfl ?_
  exact m_X1_isOfKind_4 C hr M am_fuel x1 x0 (0 : Int32)
def X1_leave  (x1 : Int32) (M : Mem) : Option (Mem) :=
  if (M 40 2) < (16 : Int32) then
    if am_in (M 40 2) 16 = true then
      am_let (mset M 41 (upd (M 41) (M 40 2).toNatClampNeg x1)) fun M1 =>
      am_let (mset M1 40 (upd (M1 40) 2 ((M1 40 2) + (1 : Int32)))) fun M2 =>
      some M2
    else none
  else
    some M
theorem m_X1_leave   (x1 : Int32) (M : Mem) : AMet 1 yX1_leave cX1_leave 2 none lyX [.ref 40, .int x1] M (qV lyX) (X1_leave x1 M) := by
  refine am_ent pn_X1 (Nat.le_of_ble_eq_true rfl) (fun E C hr => ?_)
  refine aw_lv (lv' := [(0, .ref 40), (1, .int x1)]) rfl ?_
  unfold X1_leave
  refine aw_aload_n C dX1_leave_0 rfl ?_
  refine aw_getI C clX1 lo_X_40 2 rfl (by decide) kf_X1_26 dX1_leave_1 ?_
  refine aw_bipush C (16 : Int32) dX1_leave_4 (by decide) ?_
  refine aw_icmp_ge C (tgt := 29) dX1_leave_6 (by decide) ?_ ?_
  · refine aw_aload_n C dX1_leave_9 rfl ?_
    refine aw_getR C (r := 41) clX1 lo_X_40 1 rfl (by decide) kf_X1_11 dX1_leave_10 ?_
    refine aw_aload_n C dX1_leave_13 rfl ?_
    refine aw_getI C clX1 lo_X_40 2 rfl (by decide) kf_X1_26 dX1_leave_14 ?_
    refine aw_iload_n C dX1_leave_17 rfl ?_
    refine aw_iast C la_X_41 dX1_leave_18 ?_
    refine aw_mlet (fun M1 => ?_)
    refine aw_aload_n C dX1_leave_19 rfl ?_
    refine aw_dup C dX1_leave_20 rfl ?_
    refine aw_getI C clX1 lo_X_40 2 rfl (by decide) kf_X1_26 dX1_leave_21 ?_
    refine aw_iconst C (1 : Int32) dX1_leave_24 (by decide) ?_
    refine aw_iadd C dX1_leave_25 ?_
    refine aw_putI C clX1 lo_X_40 2 rfl (by decide) rfl rfl kf_X1_26 dX1_leave_26 ?_
    refine aw_mlet (fun M2 => ?_)
    exact aw_vret C hr dX1_leave_29
  · exact aw_vret C hr dX1_leave_29
def X1_asked_b_29 (g_X1_asked : Int32 → Int32 → Int32 → Mem → Option (Int32 × Mem)) (g_X1_given : Int32 → Int32 → Int32 → Mem → Option (Int32 × Mem)) : Nat → Int32 → Int32 → Nat → Int32 → Int32 → Mem → Option (Int32 × Mem)
  | 0, _, _, _, _, _, _ => none
  | f + 1, x1, x3, t4, x5, x6, M =>
    if (5 : Int32) < x6 then
      some ((-1000000 : Int32), M)
    else
      if x5 < 0 then
        some ((-1000000 : Int32), M)
      else
        if x5 < (6 : Int32) then
          if am_in x5 6 = true then
            if (am_tab t4 x5.toNatClampNeg) = (-1000000 : Int32) then
              Option.bind (X1_kindAbove x5) fun r1 =>
              X1_asked_b_29 g_X1_asked g_X1_given f x1 x3 t4 r1 (x6 + (1 : Int32)) M
            else
              if am_in x5 6 = true then
                Option.bind (g_X1_given x1 (am_tab t4 x5.toNatClampNeg) (x3 + (1 : Int32)) M) fun u2 =>
                some (u2.1, u2.2)
              else none
          else none
        else
          some ((-1000000 : Int32), M)
def X1_asked_b (g_X1_asked : Int32 → Int32 → Int32 → Mem → Option (Int32 × Mem)) (g_X1_given : Int32 → Int32 → Int32 → Mem → Option (Int32 × Mem)) (x1 : Int32) (x2 : Int32) (x3 : Int32) (M : Mem) : Option (Int32 × Mem) :=
  if x2 = 0 then
    if am_in x1 6 = true then
      X1_asked_b_29 g_X1_asked g_X1_given am_fuel x1 x3 1001 (M 16 x1.toNatClampNeg) (0 : Int32) M
    else none
  else
    if am_in x1 6 = true then
      X1_asked_b_29 g_X1_asked g_X1_given am_fuel x1 x3 1002 (M 16 x1.toNatClampNeg) (0 : Int32) M
    else none
def X1_given_b (g_X1_asked : Int32 → Int32 → Int32 → Mem → Option (Int32 × Mem)) (g_X1_given : Int32 → Int32 → Int32 → Mem → Option (Int32 × Mem)) (x1 : Int32) (x2 : Int32) (x3 : Int32) (M : Mem) : Option (Int32 × Mem) :=
  if (20 : Int32) < x3 then
    some ((-1000000 : Int32), M)
  else
    Option.bind (X1_leave x2 M) fun M1 =>
    if x2 = (10 : Int32) then
      if am_in x1 6 = true then
        some (M1 17 x1.toNatClampNeg, M1)
      else none
    else
    if x2 = (11 : Int32) then
      Option.bind (g_X1_given x1 (10 : Int32) (x3 + (1 : Int32)) M1) fun u3 =>
      Option.bind (g_X1_asked x1 (1 : Int32) (x3 + (1 : Int32)) u3.2) fun u4 =>
      some (u3.1 + u4.1, u4.2)
    else
    if x2 = (12 : Int32) then
      Option.bind (g_X1_given x1 (11 : Int32) (x3 + (1 : Int32)) M1) fun u6 =>
      some (-u6.1, u6.2)
    else
    if x2 = (13 : Int32) then
      Option.bind (g_X1_given x1 (10 : Int32) (x3 + (1 : Int32)) M1) fun u8 =>
      some (u8.1 - (100 : Int32), u8.2)
    else
    if x2 = (14 : Int32) then
      Option.bind (g_X1_given x1 (13 : Int32) (x3 + (1 : Int32)) M1) fun u10 =>
      some ((2 : Int32) * u10.1, u10.2)
    else
    if x2 = (15 : Int32) then
      some ((-1000000 : Int32), M1)
    else
    if x2 = (16 : Int32) then
      some ((-1000000 : Int32), M1)
    else
    if x2 = (17 : Int32) then
      some ((-1000000 : Int32), M1)
    else
    if x2 = (18 : Int32) then
      some ((-1000000 : Int32), M1)
    else
    if x2 = (19 : Int32) then
      some ((-1000000 : Int32), M1)
    else
    if x2 = (20 : Int32) then
      some (x1, M1)
    else
    if x2 = (21 : Int32) then
      Option.bind (g_X1_given x1 (20 : Int32) (x3 + (1 : Int32)) M1) fun u18 =>
      if am_in x1 6 = true then
        some (u18.1 + (u18.2 18 x1.toNatClampNeg), u18.2)
      else none
    else
    if x2 = (22 : Int32) then
      Option.bind (g_X1_given x1 (21 : Int32) (x3 + (1 : Int32)) M1) fun u20 =>
      some (u20.1 - (1000 : Int32), u20.2)
    else
    if x2 = (23 : Int32) then
      Option.bind (g_X1_given x1 (20 : Int32) (x3 + (1 : Int32)) M1) fun u22 =>
      Option.bind (g_X1_asked x1 (0 : Int32) (x3 + (1 : Int32)) u22.2) fun u23 =>
      some (u22.1 - u23.1, u23.2)
    else
    if x2 = (24 : Int32) then
      Option.bind (g_X1_given x1 (21 : Int32) (x3 + (1 : Int32)) M1) fun u25 =>
      some ((2 : Int32) * u25.1, u25.2)
    else
    some ((-1000000 : Int32), M1)
def X1_rec : Nat → (Int32 → Int32 → Int32 → Mem → Option (Int32 × Mem)) × (Int32 → Int32 → Int32 → Mem → Option (Int32 × Mem))
  | 0 => (fun _ _ _ _ => none, fun _ _ _ _ => none)
  | f + 1 => (X1_asked_b (X1_rec f).1 (X1_rec f).2, X1_given_b (X1_rec f).1 (X1_rec f).2)
def X1_asked (f : Nat) : Int32 → Int32 → Int32 → Mem → Option (Int32 × Mem) := (X1_rec f).1
def X1_given (f : Nat) : Int32 → Int32 → Int32 → Mem → Option (Int32 × Mem) := (X1_rec f).2
theorem m_X1_asked_b_29 {E : amE} {d dc : Nat} (C : amC E d cX1_asked 7 RX1) (hr : (eH E).sig.returnType = (some .int)) (hdc : dc + 1 ≤ d) (hB : 2 ≤ d) (g_X1_asked : Int32 → Int32 → Int32 → Mem → Option (Int32 × Mem)) (hg_X1_asked : ∀ (a0 : Int32) (a1 : Int32) (a2 : Int32) (M : Mem), AMet dc yX1_asked cX1_asked 7 (some .int) lyX [.ref 40, .int a0, .int a1, .int a2] M (qI lyX) (g_X1_asked a0 a1 a2 M)) (g_X1_given : Int32 → Int32 → Int32 → Mem → Option (Int32 × Mem)) (hg_X1_given : ∀ (a0 : Int32) (a1 : Int32) (a2 : Int32) (M : Mem), AMet dc yX1_given cX1_given 5 (some .int) lyX [.ref 40, .int a0, .int a1, .int a2] M (qI lyX) (g_X1_given a0 a1 a2 M)) : ∀ (f : Nat) (x1 : Int32) (x3 : Int32) (t4 : Nat) (ht4 : isTb t4) (x5 : Int32) (x6 : Int32) (M : Mem), AW E lyX 7 (qI lyX) (X1_asked_b_29 g_X1_asked g_X1_given f x1 x3 t4 x5 x6 M) 29 [(0, .ref 40), (1, .int x1), (3, .int x3), (4, .ref t4), (5, .int x5), (6, .int x6)] [] M := by
  intro f
  induction f with
  | zero => exact (fun _ _ _ _ _ _ _ => aw_none)
  | succ f ih =>
    intro x1 x3 t4 ht4 x5 x6 M
    rw [X1_asked_b_29]
    refine aw_iload C dX1_asked_29 rfl ?_
    refine aw_iconst C (5 : Int32) dX1_asked_31 (by decide) ?_
    refine aw_icmp_gt C (tgt := 88) dX1_asked_32 (by decide) ?_ ?_
    · refine aw_ldc C kc_X1_30 dX1_asked_88 ?_
      exact aw_iret C hr dX1_asked_90
    · refine aw_iload C dX1_asked_35 rfl ?_
      refine aw_if_lt C (tgt := 48) dX1_asked_37 (by decide) ?_ ?_
      · refine aw_ldc C kc_X1_30 dX1_asked_48 ?_
        exact aw_iret C hr dX1_asked_50
      · refine aw_iload C dX1_asked_40 rfl ?_
        refine aw_aload C dX1_asked_42 rfl ?_
        refine aw_tlen C ht4 dX1_asked_44 ?_
        refine aw_icmp_lt C (tgt := 51) dX1_asked_45 (by decide) ?_ ?_
        · refine aw_aload C dX1_asked_51 rfl ?_
          refine aw_iload C dX1_asked_53 rfl ?_
          refine aw_tald C ht4 dX1_asked_55 ?_
          refine aw_ldc C kc_X1_30 dX1_asked_56 ?_
          refine aw_icmp_eq C (tgt := 75) dX1_asked_58 (by decide) ?_ ?_
          · refine aw_iload C dX1_asked_75 rfl ?_
            refine aw_cSIp C [.int x5] [] (m_X1_kindAbove M x5) t_X1_kindAbove km_X1_19 (Nat.le_trans (by decide) hB) rfl rfl (Nat.le_of_ble_eq_true rfl) dX1_asked_77 (fun r1 => ?_)
            refine aw_istore C [(5, .int r1), (0, .ref 40), (1, .int x1), (3, .int x3), (4, .ref t4), (6, .int x6)] dX1_asked_80 (by decide) rfl ?_
            refine aw_iinc C (v := (1 : Int32)) [(6, .int (x6 + (1 : Int32))), (5, .int r1), (0, .ref 40), (1, .int x1), (3, .int x3), (4, .ref t4)] dX1_asked_82 rfl (by decide) (by decide) rfl ?_
            refine aw_goto C (tgt := 29) dX1_asked_85 (by decide) ?_
            refine aw_sub [2, 3, 4, 5, 1, 0] rfl ?_
            exact ih x1 x3 t4 ht4 r1 (x6 + (1 : Int32)) M
          · refine aw_aload_n C dX1_asked_61 rfl ?_
            refine aw_iload_n C dX1_asked_62 rfl ?_
            refine aw_aload C dX1_asked_63 rfl ?_
            refine aw_iload C dX1_asked_65 rfl ?_
            refine aw_tald C ht4 dX1_asked_67 ?_
            refine aw_iload_n C dX1_asked_68 rfl ?_
            refine aw_iconst C (1 : Int32) dX1_asked_69 (by decide) ?_
            refine aw_iadd C dX1_asked_70 ?_
            refine aw_cVI C [.int x1, .int (am_tab t4 x5.toNatClampNeg), .int (x3 + (1 : Int32))] [] (hg_X1_given x1 (am_tab t4 x5.toNatClampNeg) (x3 + (1 : Int32)) M) v_X1_given km_X1_46 hdc lo_X_40 rfl rfl rfl (Nat.le_of_ble_eq_true rfl) dX1_asked_71 (fun u2 => ?_)
            exact aw_iret C hr dX1_asked_74
        · refine aw_ldc C kc_X1_30 dX1_asked_48 ?_
          exact aw_iret C hr dX1_asked_50
theorem m_X1_asked_b {d dc : Nat} (hdc : dc + 1 ≤ d) (hB : 2 ≤ d) (g_X1_asked : Int32 → Int32 → Int32 → Mem → Option (Int32 × Mem)) (hg_X1_asked : ∀ (a0 : Int32) (a1 : Int32) (a2 : Int32) (M : Mem), AMet dc yX1_asked cX1_asked 7 (some .int) lyX [.ref 40, .int a0, .int a1, .int a2] M (qI lyX) (g_X1_asked a0 a1 a2 M)) (g_X1_given : Int32 → Int32 → Int32 → Mem → Option (Int32 × Mem)) (hg_X1_given : ∀ (a0 : Int32) (a1 : Int32) (a2 : Int32) (M : Mem), AMet dc yX1_given cX1_given 5 (some .int) lyX [.ref 40, .int a0, .int a1, .int a2] M (qI lyX) (g_X1_given a0 a1 a2 M)) (x1 : Int32) (x2 : Int32) (x3 : Int32) (M : Mem) : AMet d yX1_asked cX1_asked 7 (some .int) lyX [.ref 40, .int x1, .int x2, .int x3] M (qI lyX) (X1_asked_b g_X1_asked g_X1_given x1 x2 x3 M) := by
  refine am_ent pn_X1 (Nat.le_of_ble_eq_true rfl) (fun E C hr => ?_)
  refine aw_lv (lv' := [(0, .ref 40), (1, .int x1), (2, .int x2), (3, .int x3)]) rfl ?_
  unfold X1_asked_b
  refine aw_iload_n C dX1_asked_0 rfl ?_
  refine aw_if_ne C (tgt := 10) dX1_asked_1 (by decide) ?_ ?_
  · refine aw_gets1001 C kf_X1_35 dX1_asked_4 ?_
    refine aw_goto C (tgt := 13) dX1_asked_7 (by decide) ?_
    refine aw_astore C [(4, .ref 1001), (0, .ref 40), (1, .int x1), (2, .int x2), (3, .int x3)] dX1_asked_13 (by decide) rfl ?_
    refine aw_aload_n C dX1_asked_15 rfl ?_
    refine aw_getR C (r := 15) clX1 lo_X_40 0 rfl (by decide) kf_X1_15 dX1_asked_16 ?_
    refine aw_getR C (r := 16) clX3 (hl_o isHl_15) 6 rfl (by decide) kf_X1_41 dX1_asked_19 ?_
    refine aw_iload_n C dX1_asked_22 rfl ?_
    refine aw_iald C (hl_1 isHl_15) dX1_asked_23 ?_
    refine aw_istore C [(5, .int (M 16 x1.toNatClampNeg)), (4, .ref 1001), (0, .ref 40), (1, .int x1), (2, .int x2), (3, .int x3)] dX1_asked_24 (by decide) rfl ?_
    refine aw_iconst C (0 : Int32) dX1_asked_26 (by decide) ?_
    refine aw_istore C [(6, .int (0 : Int32)), (5, .int (M 16 x1.toNatClampNeg)), (4, .ref 1001), (0, .ref 40), (1, .int x1), (2, .int x2), (3, .int x3)] dX1_asked_27 (by decide) rfl ?_
    refine aw_sub [3, 4, 6, 2, 1, 0] rfl ?_
    exact m_X1_asked_b_29 C hr hdc hB g_X1_asked hg_X1_asked g_X1_given hg_X1_given am_fuel x1 x3 1001 isTb_1001 (M 16 x1.toNatClampNeg) (0 : Int32) M
  · refine aw_gets1002 C kf_X1_38 dX1_asked_10 ?_
    refine aw_astore C [(4, .ref 1002), (0, .ref 40), (1, .int x1), (2, .int x2), (3, .int x3)] dX1_asked_13 (by decide) rfl ?_
    refine aw_aload_n C dX1_asked_15 rfl ?_
    refine aw_getR C (r := 15) clX1 lo_X_40 0 rfl (by decide) kf_X1_15 dX1_asked_16 ?_
    refine aw_getR C (r := 16) clX3 (hl_o isHl_15) 6 rfl (by decide) kf_X1_41 dX1_asked_19 ?_
    refine aw_iload_n C dX1_asked_22 rfl ?_
    refine aw_iald C (hl_1 isHl_15) dX1_asked_23 ?_
    refine aw_istore C [(5, .int (M 16 x1.toNatClampNeg)), (4, .ref 1002), (0, .ref 40), (1, .int x1), (2, .int x2), (3, .int x3)] dX1_asked_24 (by decide) rfl ?_
    refine aw_iconst C (0 : Int32) dX1_asked_26 (by decide) ?_
    refine aw_istore C [(6, .int (0 : Int32)), (5, .int (M 16 x1.toNatClampNeg)), (4, .ref 1002), (0, .ref 40), (1, .int x1), (2, .int x2), (3, .int x3)] dX1_asked_27 (by decide) rfl ?_
    refine aw_sub [3, 4, 6, 2, 1, 0] rfl ?_
    exact m_X1_asked_b_29 C hr hdc hB g_X1_asked hg_X1_asked g_X1_given hg_X1_given am_fuel x1 x3 1002 isTb_1002 (M 16 x1.toNatClampNeg) (0 : Int32) M
theorem m_X1_given_b {d dc : Nat} (hdc : dc + 1 ≤ d) (hB : 2 ≤ d) (g_X1_asked : Int32 → Int32 → Int32 → Mem → Option (Int32 × Mem)) (hg_X1_asked : ∀ (a0 : Int32) (a1 : Int32) (a2 : Int32) (M : Mem), AMet dc yX1_asked cX1_asked 7 (some .int) lyX [.ref 40, .int a0, .int a1, .int a2] M (qI lyX) (g_X1_asked a0 a1 a2 M)) (g_X1_given : Int32 → Int32 → Int32 → Mem → Option (Int32 × Mem)) (hg_X1_given : ∀ (a0 : Int32) (a1 : Int32) (a2 : Int32) (M : Mem), AMet dc yX1_given cX1_given 5 (some .int) lyX [.ref 40, .int a0, .int a1, .int a2] M (qI lyX) (g_X1_given a0 a1 a2 M)) (x1 : Int32) (x2 : Int32) (x3 : Int32) (M : Mem) : AMet d yX1_given cX1_given 5 (some .int) lyX [.ref 40, .int x1, .int x2, .int x3] M (qI lyX) (X1_given_b g_X1_asked g_X1_given x1 x2 x3 M) := by
  refine am_ent pn_X1 (Nat.le_of_ble_eq_true rfl) (fun E C hr => ?_)
  refine aw_lv (lv' := [(0, .ref 40), (1, .int x1), (2, .int x2), (3, .int x3)]) rfl ?_
  unfold X1_given_b
  refine aw_iload_n C dX1_given_0 rfl ?_
  refine aw_bipush C (20 : Int32) dX1_given_1 (by decide) ?_
  refine aw_icmp_le C (tgt := 9) dX1_given_3 (by decide) ?_ ?_
  · refine aw_ldc C kc_X1_30 dX1_given_6 ?_
    exact aw_iret C hr dX1_given_8
  · refine aw_aload_n C dX1_given_9 rfl ?_
    refine aw_iload_n C dX1_given_10 rfl ?_
    refine aw_cVV C [.int x2] [] (m_X1_leave x2 M) v_X1_leave km_X1_49 (Nat.le_trans (by decide) hB) lo_X_40 rfl rfl rfl (Nat.le_of_ble_eq_true rfl) dX1_given_11 (fun M1 => ?_)
    refine aw_iload_n C dX1_given_14 rfl ?_
    refine aw_iconst C (1 : Int32) dX1_given_15 (by decide) ?_
    refine aw_iadd C dX1_given_16 ?_
    refine aw_istore C [(4, .int (x3 + (1 : Int32))), (0, .ref 40), (1, .int x1), (2, .int x2), (3, .int x3)] dX1_given_17 (by decide) rfl ?_
    refine aw_iload_n C dX1_given_19 rfl ?_
    refine aw_ite (fun h2 => ?_) (fun h2 => ?_)
    · refine aw_tswIn C (tgt := 96) (10 : Int32) h2 dX1_given_20 (by decide) (by decide) rfl (by decide) ?_
      refine aw_aload_n C dX1_given_96 rfl ?_
      refine aw_getR C (r := 15) clX1 lo_X_40 0 rfl (by decide) kf_X1_15 dX1_given_97 ?_
      refine aw_getR C (r := 17) clX3 (hl_o isHl_15) 7 rfl (by decide) kf_X1_53 dX1_given_100 ?_
      refine aw_iload_n C dX1_given_103 rfl ?_
      refine aw_iald C (hl_2 isHl_15) dX1_given_104 ?_
      exact aw_iret C hr dX1_given_105
    refine aw_ite (fun h5 => ?_) (fun h5 => ?_)
    · refine aw_tswIn C (tgt := 106) (11 : Int32) h5 dX1_given_20 (by decide) (by decide) rfl (by decide) ?_
      refine aw_aload_n C dX1_given_106 rfl ?_
      refine aw_iload_n C dX1_given_107 rfl ?_
      refine aw_bipush C (10 : Int32) dX1_given_108 (by decide) ?_
      refine aw_iload C dX1_given_110 rfl ?_
      refine aw_cVI C [.int x1, .int (10 : Int32), .int (x3 + (1 : Int32))] [] (hg_X1_given x1 (10 : Int32) (x3 + (1 : Int32)) M1) v_X1_given km_X1_46 hdc lo_X_40 rfl rfl rfl (Nat.le_of_ble_eq_true rfl) dX1_given_112 (fun u3 => ?_)
      refine aw_aload_n C dX1_given_115 rfl ?_
      refine aw_iload_n C dX1_given_116 rfl ?_
      refine aw_iconst C (1 : Int32) dX1_given_117 (by decide) ?_
      refine aw_iload C dX1_given_118 rfl ?_
      refine aw_cVI C [.int x1, .int (1 : Int32), .int (x3 + (1 : Int32))] [.int u3.1] (hg_X1_asked x1 (1 : Int32) (x3 + (1 : Int32)) u3.2) v_X1_asked km_X1_31 hdc lo_X_40 rfl rfl rfl (Nat.le_of_ble_eq_true rfl) dX1_given_120 (fun u4 => ?_)
      refine aw_iadd C dX1_given_123 ?_
      exact aw_iret C hr dX1_given_124
    refine aw_ite (fun h7 => ?_) (fun h7 => ?_)
    · refine aw_tswIn C (tgt := 125) (12 : Int32) h7 dX1_given_20 (by decide) (by decide) rfl (by decide) ?_
      refine aw_aload_n C dX1_given_125 rfl ?_
      refine aw_iload_n C dX1_given_126 rfl ?_
      refine aw_bipush C (11 : Int32) dX1_given_127 (by decide) ?_
      refine aw_iload C dX1_given_129 rfl ?_
      refine aw_cVI C [.int x1, .int (11 : Int32), .int (x3 + (1 : Int32))] [] (hg_X1_given x1 (11 : Int32) (x3 + (1 : Int32)) M1) v_X1_given km_X1_46 hdc lo_X_40 rfl rfl rfl (Nat.le_of_ble_eq_true rfl) dX1_given_131 (fun u6 => ?_)
      refine aw_ineg C dX1_given_134 ?_
      exact aw_iret C hr dX1_given_135
    refine aw_ite (fun h9 => ?_) (fun h9 => ?_)
    · refine aw_tswIn C (tgt := 136) (13 : Int32) h9 dX1_given_20 (by decide) (by decide) rfl (by decide) ?_
      refine aw_aload_n C dX1_given_136 rfl ?_
      refine aw_iload_n C dX1_given_137 rfl ?_
      refine aw_bipush C (10 : Int32) dX1_given_138 (by decide) ?_
      refine aw_iload C dX1_given_140 rfl ?_
      refine aw_cVI C [.int x1, .int (10 : Int32), .int (x3 + (1 : Int32))] [] (hg_X1_given x1 (10 : Int32) (x3 + (1 : Int32)) M1) v_X1_given km_X1_46 hdc lo_X_40 rfl rfl rfl (Nat.le_of_ble_eq_true rfl) dX1_given_142 (fun u8 => ?_)
      refine aw_bipush C (100 : Int32) dX1_given_145 (by decide) ?_
      refine aw_isub C dX1_given_147 ?_
      exact aw_iret C hr dX1_given_148
    refine aw_ite (fun h11 => ?_) (fun h11 => ?_)
    · refine aw_tswIn C (tgt := 149) (14 : Int32) h11 dX1_given_20 (by decide) (by decide) rfl (by decide) ?_
      refine aw_iconst C (2 : Int32) dX1_given_149 (by decide) ?_
      refine aw_aload_n C dX1_given_150 rfl ?_
      refine aw_iload_n C dX1_given_151 rfl ?_
      refine aw_bipush C (13 : Int32) dX1_given_152 (by decide) ?_
      refine aw_iload C dX1_given_154 rfl ?_
      refine aw_cVI C [.int x1, .int (13 : Int32), .int (x3 + (1 : Int32))] [.int (2 : Int32)] (hg_X1_given x1 (13 : Int32) (x3 + (1 : Int32)) M1) v_X1_given km_X1_46 hdc lo_X_40 rfl rfl rfl (Nat.le_of_ble_eq_true rfl) dX1_given_156 (fun u10 => ?_)
      refine aw_imul C dX1_given_159 ?_
      exact aw_iret C hr dX1_given_160
    refine aw_ite (fun h12 => ?_) (fun h12 => ?_)
    · refine aw_tswIn C (tgt := 228) (15 : Int32) h12 dX1_given_20 (by decide) (by decide) rfl (by decide) ?_
      refine aw_ldc C kc_X1_30 dX1_given_228 ?_
      exact aw_iret C hr dX1_given_230
    refine aw_ite (fun h13 => ?_) (fun h13 => ?_)
    · refine aw_tswIn C (tgt := 228) (16 : Int32) h13 dX1_given_20 (by decide) (by decide) rfl (by decide) ?_
      refine aw_ldc C kc_X1_30 dX1_given_228 ?_
      exact aw_iret C hr dX1_given_230
    refine aw_ite (fun h14 => ?_) (fun h14 => ?_)
    · refine aw_tswIn C (tgt := 228) (17 : Int32) h14 dX1_given_20 (by decide) (by decide) rfl (by decide) ?_
      refine aw_ldc C kc_X1_30 dX1_given_228 ?_
      exact aw_iret C hr dX1_given_230
    refine aw_ite (fun h15 => ?_) (fun h15 => ?_)
    · refine aw_tswIn C (tgt := 228) (18 : Int32) h15 dX1_given_20 (by decide) (by decide) rfl (by decide) ?_
      refine aw_ldc C kc_X1_30 dX1_given_228 ?_
      exact aw_iret C hr dX1_given_230
    refine aw_ite (fun h16 => ?_) (fun h16 => ?_)
    · refine aw_tswIn C (tgt := 228) (19 : Int32) h16 dX1_given_20 (by decide) (by decide) rfl (by decide) ?_
      refine aw_ldc C kc_X1_30 dX1_given_228 ?_
      exact aw_iret C hr dX1_given_230
    refine aw_ite (fun h17 => ?_) (fun h17 => ?_)
    · refine aw_tswIn C (tgt := 161) (20 : Int32) h17 dX1_given_20 (by decide) (by decide) rfl (by decide) ?_
      refine aw_iload_n C dX1_given_161 rfl ?_
      exact aw_iret C hr dX1_given_162
    refine aw_ite (fun h19 => ?_) (fun h19 => ?_)
    · refine aw_tswIn C (tgt := 163) (21 : Int32) h19 dX1_given_20 (by decide) (by decide) rfl (by decide) ?_
      refine aw_aload_n C dX1_given_163 rfl ?_
      refine aw_iload_n C dX1_given_164 rfl ?_
      refine aw_bipush C (20 : Int32) dX1_given_165 (by decide) ?_
      refine aw_iload C dX1_given_167 rfl ?_
      refine aw_cVI C [.int x1, .int (20 : Int32), .int (x3 + (1 : Int32))] [] (hg_X1_given x1 (20 : Int32) (x3 + (1 : Int32)) M1) v_X1_given km_X1_46 hdc lo_X_40 rfl rfl rfl (Nat.le_of_ble_eq_true rfl) dX1_given_169 (fun u18 => ?_)
      refine aw_aload_n C dX1_given_172 rfl ?_
      refine aw_getR C (r := 15) clX1 lo_X_40 0 rfl (by decide) kf_X1_15 dX1_given_173 ?_
      refine aw_getR C (r := 18) clX3 (hl_o isHl_15) 8 rfl (by decide) kf_X1_56 dX1_given_176 ?_
      refine aw_iload_n C dX1_given_179 rfl ?_
      refine aw_iald C (hl_3 isHl_15) dX1_given_180 ?_
      refine aw_iadd C dX1_given_181 ?_
      exact aw_iret C hr dX1_given_182
    refine aw_ite (fun h21 => ?_) (fun h21 => ?_)
    · refine aw_tswIn C (tgt := 183) (22 : Int32) h21 dX1_given_20 (by decide) (by decide) rfl (by decide) ?_
      refine aw_aload_n C dX1_given_183 rfl ?_
      refine aw_iload_n C dX1_given_184 rfl ?_
      refine aw_bipush C (21 : Int32) dX1_given_185 (by decide) ?_
      refine aw_iload C dX1_given_187 rfl ?_
      refine aw_cVI C [.int x1, .int (21 : Int32), .int (x3 + (1 : Int32))] [] (hg_X1_given x1 (21 : Int32) (x3 + (1 : Int32)) M1) v_X1_given km_X1_46 hdc lo_X_40 rfl rfl rfl (Nat.le_of_ble_eq_true rfl) dX1_given_189 (fun u20 => ?_)
      refine aw_sipush C (1000 : Int32) dX1_given_192 (by decide) ?_
      refine aw_isub C dX1_given_195 ?_
      exact aw_iret C hr dX1_given_196
    refine aw_ite (fun h24 => ?_) (fun h24 => ?_)
    · refine aw_tswIn C (tgt := 197) (23 : Int32) h24 dX1_given_20 (by decide) (by decide) rfl (by decide) ?_
      refine aw_aload_n C dX1_given_197 rfl ?_
      refine aw_iload_n C dX1_given_198 rfl ?_
      refine aw_bipush C (20 : Int32) dX1_given_199 (by decide) ?_
      refine aw_iload C dX1_given_201 rfl ?_
      refine aw_cVI C [.int x1, .int (20 : Int32), .int (x3 + (1 : Int32))] [] (hg_X1_given x1 (20 : Int32) (x3 + (1 : Int32)) M1) v_X1_given km_X1_46 hdc lo_X_40 rfl rfl rfl (Nat.le_of_ble_eq_true rfl) dX1_given_203 (fun u22 => ?_)
      refine aw_aload_n C dX1_given_206 rfl ?_
      refine aw_iload_n C dX1_given_207 rfl ?_
      refine aw_iconst C (0 : Int32) dX1_given_208 (by decide) ?_
      refine aw_iload C dX1_given_209 rfl ?_
      refine aw_cVI C [.int x1, .int (0 : Int32), .int (x3 + (1 : Int32))] [.int u22.1] (hg_X1_asked x1 (0 : Int32) (x3 + (1 : Int32)) u22.2) v_X1_asked km_X1_31 hdc lo_X_40 rfl rfl rfl (Nat.le_of_ble_eq_true rfl) dX1_given_211 (fun u23 => ?_)
      refine aw_isub C dX1_given_214 ?_
      exact aw_iret C hr dX1_given_215
    refine aw_ite (fun h26 => ?_) (fun h26 => ?_)
    · refine aw_tswIn C (tgt := 216) (24 : Int32) h26 dX1_given_20 (by decide) (by decide) rfl (by decide) ?_
      refine aw_iconst C (2 : Int32) dX1_given_216 (by decide) ?_
      refine aw_aload_n C dX1_given_217 rfl ?_
      refine aw_iload_n C dX1_given_218 rfl ?_
      refine aw_bipush C (21 : Int32) dX1_given_219 (by decide) ?_
      refine aw_iload C dX1_given_221 rfl ?_
      refine aw_cVI C [.int x1, .int (21 : Int32), .int (x3 + (1 : Int32))] [.int (2 : Int32)] (hg_X1_given x1 (21 : Int32) (x3 + (1 : Int32)) M1) v_X1_given km_X1_46 hdc lo_X_40 rfl rfl rfl (Nat.le_of_ble_eq_true rfl) dX1_given_223 (fun u25 => ?_)
      refine aw_imul C dX1_given_226 ?_
      exact aw_iret C hr dX1_given_227
    have q_h2 := lv_neT h2 (a := 10) (by decide)
    have q_h5 := lv_neT h5 (a := 11) (by decide)
    have q_h7 := lv_neT h7 (a := 12) (by decide)
    have q_h9 := lv_neT h9 (a := 13) (by decide)
    have q_h11 := lv_neT h11 (a := 14) (by decide)
    have q_h12 := lv_neT h12 (a := 15) (by decide)
    have q_h13 := lv_neT h13 (a := 16) (by decide)
    have q_h14 := lv_neT h14 (a := 17) (by decide)
    have q_h15 := lv_neT h15 (a := 18) (by decide)
    have q_h16 := lv_neT h16 (a := 19) (by decide)
    have q_h17 := lv_neT h17 (a := 20) (by decide)
    have q_h19 := lv_neT h19 (a := 21) (by decide)
    have q_h21 := lv_neT h21 (a := 22) (by decide)
    have q_h24 := lv_neT h24 (a := 23) (by decide)
    have q_h26 := lv_neT h26 (a := 24) (by decide)
    refine aw_tswOut C (tgt := 228) dX1_given_20 (by omega) (by decide) ?_
    refine aw_ldc C kc_X1_30 dX1_given_228 ?_
    exact aw_iret C hr dX1_given_230
theorem m_X1_rec : ∀ f : Nat, (∀ (a0 : Int32) (a1 : Int32) (a2 : Int32) (M : Mem), AMet (2 + f) yX1_asked cX1_asked 7 (some .int) lyX [.ref 40, .int a0, .int a1, .int a2] M (qI lyX) (X1_asked f a0 a1 a2 M)) ∧ (∀ (a0 : Int32) (a1 : Int32) (a2 : Int32) (M : Mem), AMet (2 + f) yX1_given cX1_given 5 (some .int) lyX [.ref 40, .int a0, .int a1, .int a2] M (qI lyX) (X1_given f a0 a1 a2 M))
  | 0 => ⟨(fun _ _ _ _ => amet_none), (fun _ _ _ _ => amet_none)⟩
  | f + 1 => by
    have ih := m_X1_rec f
    exact ⟨(fun a0 a1 a2 M => m_X1_asked_b (d := 2 + (f + 1)) (dc := 2 + f) (Nat.le_refl _) (Nat.le_add_right _ _) _ ih.1 _ ih.2 a0 a1 a2 M), (fun a0 a1 a2 M => m_X1_given_b (d := 2 + (f + 1)) (dc := 2 + f) (Nat.le_refl _) (Nat.le_add_right _ _) _ ih.1 _ ih.2 a0 a1 a2 M)⟩
theorem m_X1_asked (a0 : Int32) (a1 : Int32) (a2 : Int32) (M : Mem) : AMet (2 + 60) yX1_asked cX1_asked 7 (some .int) lyX [.ref 40, .int a0, .int a1, .int a2] M (qI lyX) (X1_asked 60 a0 a1 a2 M) := (m_X1_rec 60).1 a0 a1 a2 M
theorem m_X1_given (a0 : Int32) (a1 : Int32) (a2 : Int32) (M : Mem) : AMet (2 + 60) yX1_given cX1_given 5 (some .int) lyX [.ref 40, .int a0, .int a1, .int a2] M (qI lyX) (X1_given 60 a0 a1 a2 M) := (m_X1_rec 60).2 a0 a1 a2 M
def X1_begin  (x1 : Int32) (x2 : Int32) (M : Mem) : Option (Int32 × Mem) :=
  am_let (mset M 40 (upd (M 40) 2 (0 : Int32))) fun M1 =>
  Option.bind (X1_asked 60 x1 x2 (0 : Int32) M1) fun u2 =>
  some (u2.1, u2.2)
theorem m_X1_begin   (x1 : Int32) (x2 : Int32) (M : Mem) : AMet 63 yX1_begin cX1_begin 3 (some .int) lyX [.ref 40, .int x1, .int x2] M (qI lyX) (X1_begin x1 x2 M) := by
  refine am_ent pn_X1 (Nat.le_of_ble_eq_true rfl) (fun E C hr => ?_)
  refine aw_lv (lv' := [(0, .ref 40), (1, .int x1), (2, .int x2)]) rfl ?_
  unfold X1_begin
  refine aw_aload_n C dX1_begin_0 rfl ?_
  refine aw_iconst C (0 : Int32) dX1_begin_1 (by decide) ?_
  refine aw_putI C clX1 lo_X_40 2 rfl (by decide) rfl rfl kf_X1_26 dX1_begin_2 ?_
  refine aw_mlet (fun M1 => ?_)
  refine aw_aload_n C dX1_begin_5 rfl ?_
  refine aw_iload_n C dX1_begin_6 rfl ?_
  refine aw_iload_n C dX1_begin_7 rfl ?_
  refine aw_iconst C (0 : Int32) dX1_begin_8 (by decide) ?_
  refine aw_cVI C [.int x1, .int x2, .int (0 : Int32)] [] (m_X1_asked x1 x2 (0 : Int32) M1) v_X1_asked km_X1_31 (by decide) lo_X_40 rfl rfl rfl (Nat.le_of_ble_eq_true rfl) dX1_begin_9 (fun u2 => ?_)
  exact aw_iret C hr dX1_begin_12
def X1_bodyInTrace (M : Mem) (x1 : Int32)  : Option (Int32) :=
  if x1 < 0 then
    some (-1000000 : Int32)
  else
    if x1 < (M 40 2) then
      if am_in x1 16 = true then
        some (M 41 x1.toNatClampNeg)
      else none
    else
      some (-1000000 : Int32)
theorem m_X1_bodyInTrace  (M : Mem) (x1 : Int32)  : AMet 1 yX1_bodyInTrace cX1_bodyInTrace 2 (some .int) lyX [.ref 40, .int x1] M (qIp lyX M) (X1_bodyInTrace M x1) := by
  refine am_ent pn_X1 (Nat.le_of_ble_eq_true rfl) (fun E C hr => ?_)
  refine aw_lv (lv' := [(0, .ref 40), (1, .int x1)]) rfl ?_
  unfold X1_bodyInTrace
  refine aw_iload_n C dX1_bodyInTrace_0 rfl ?_
  refine aw_if_lt C (tgt := 21) dX1_bodyInTrace_1 (by decide) ?_ ?_
  · refine aw_ldc C kc_X1_30 dX1_bodyInTrace_21 ?_
    exact aw_iretp C hr dX1_bodyInTrace_23
  · refine aw_iload_n C dX1_bodyInTrace_4 rfl ?_
    refine aw_aload_n C dX1_bodyInTrace_5 rfl ?_
    refine aw_getI C clX1 lo_X_40 2 rfl (by decide) kf_X1_26 dX1_bodyInTrace_6 ?_
    refine aw_icmp_ge C (tgt := 21) dX1_bodyInTrace_9 (by decide) ?_ ?_
    · refine aw_aload_n C dX1_bodyInTrace_12 rfl ?_
      refine aw_getR C (r := 41) clX1 lo_X_40 1 rfl (by decide) kf_X1_11 dX1_bodyInTrace_13 ?_
      refine aw_iload_n C dX1_bodyInTrace_16 rfl ?_
      refine aw_iald C la_X_41 dX1_bodyInTrace_17 ?_
      refine aw_goto C (tgt := 23) dX1_bodyInTrace_18 (by decide) ?_
      exact aw_iretp C hr dX1_bodyInTrace_23
    · refine aw_ldc C kc_X1_30 dX1_bodyInTrace_21 ?_
      exact aw_iretp C hr dX1_bodyInTrace_23
def X5_howMany_4 (M : Mem) : Nat → Int32 → Int32 → Option (Int32)
  | 0, _, _ => none
  | f + 1, x1, x2 =>
    if x2 < (8 : Int32) then
      Option.bind (X5_isMissing M x2) fun r1 =>
      if r1 = 0 then
        X5_howMany_4 M f (x1 + (1 : Int32)) (x2 + (1 : Int32))
      else
        X5_howMany_4 M f (x1 + (0 : Int32)) (x2 + (1 : Int32))
    else
      some x1
def X5_howMany (M : Mem)   : Option (Int32) :=
  X5_howMany_4 M am_fuel (0 : Int32) (0 : Int32)
theorem m_X5_howMany_4 {E : amE} (C : amC E 3 cX5_howMany 3 RX5) (hr : (eH E).sig.returnType = (some .int)) (M : Mem) : ∀ (f : Nat) (x1 : Int32) (x2 : Int32), AW E lyX 3 (qIp lyX M) (X5_howMany_4 M f x1 x2) 4 [(0, .ref 1), (1, .int x1), (2, .int x2)] [] M := by
  intro f
  induction f with
  | zero => exact (fun _ _ => aw_none)
  | succ f ih =>
    intro x1 x2
    rw [X5_howMany_4]
    refine aw_iload_n C dX5_howMany_4 rfl ?_
    refine aw_bipush C (8 : Int32) dX5_howMany_5 (by decide) ?_
    refine aw_icmp_ge C (tgt := 32) dX5_howMany_7 (by decide) ?_ ?_
    · refine aw_iload_n C dX5_howMany_10 rfl ?_
      refine aw_aload_n C dX5_howMany_11 rfl ?_
      refine aw_iload_n C dX5_howMany_12 rfl ?_
      refine aw_cVIp C [.int x2] [.int x1] (m_X5_isMissing M x2) v_X5_isMissing km_X5_31 (by decide) lo_X_1 rfl rfl rfl (Nat.le_of_ble_eq_true rfl) dX5_howMany_13 (fun r1 => ?_)
      refine aw_if_eq C (tgt := 23) dX5_howMany_16 (by decide) ?_ ?_
      · refine aw_iconst C (1 : Int32) dX5_howMany_23 (by decide) ?_
        refine aw_iadd C dX5_howMany_24 ?_
        refine aw_istore_n C [(1, .int (x1 + (1 : Int32))), (0, .ref 1), (2, .int x2)] dX5_howMany_25 (by decide) rfl ?_
        refine aw_iinc C (v := (1 : Int32)) [(2, .int (x2 + (1 : Int32))), (1, .int (x1 + (1 : Int32))), (0, .ref 1)] dX5_howMany_26 rfl (by decide) (by decide) rfl ?_
        refine aw_goto C (tgt := 4) dX5_howMany_29 (by decide) ?_
        refine aw_sub [2, 1, 0] rfl ?_
        exact ih (x1 + (1 : Int32)) (x2 + (1 : Int32))
      · refine aw_iconst C (0 : Int32) dX5_howMany_19 (by decide) ?_
        refine aw_goto C (tgt := 24) dX5_howMany_20 (by decide) ?_
        refine aw_iadd C dX5_howMany_24 ?_
        refine aw_istore_n C [(1, .int (x1 + (0 : Int32))), (0, .ref 1), (2, .int x2)] dX5_howMany_25 (by decide) rfl ?_
        refine aw_iinc C (v := (1 : Int32)) [(2, .int (x2 + (1 : Int32))), (1, .int (x1 + (0 : Int32))), (0, .ref 1)] dX5_howMany_26 rfl (by decide) (by decide) rfl ?_
        refine aw_goto C (tgt := 4) dX5_howMany_29 (by decide) ?_
        refine aw_sub [2, 1, 0] rfl ?_
        exact ih (x1 + (0 : Int32)) (x2 + (1 : Int32))
    · refine aw_iload_n C dX5_howMany_32 rfl ?_
      exact aw_iretp C hr dX5_howMany_33
theorem m_X5_howMany  (M : Mem)   : AMet 3 yX5_howMany cX5_howMany 3 (some .int) lyX [.ref 1] M (qIp lyX M) (X5_howMany M) := by
  refine am_ent pn_X5 (Nat.le_of_ble_eq_true rfl) (fun E C hr => ?_)
  refine aw_lv (lv' := [(0, .ref 1)]) rfl ?_
  unfold X5_howMany
  refine aw_iconst C (0 : Int32) dX5_howMany_0 (by decide) ?_
  refine aw_istore_n C [(1, .int (0 : Int32)), (0, .ref 1)] dX5_howMany_1 (by decide) rfl ?_
  refine aw_iconst C (0 : Int32) dX5_howMany_2 (by decide) ?_
  refine aw_istore_n C [(2, .int (0 : Int32)), (1, .int (0 : Int32)), (0, .ref 1)] dX5_howMany_3 (by decide) rfl ?_
  refine aw_sub [2, 1, 0] rfl ?_
  exact m_X5_howMany_4 C hr M am_fuel (0 : Int32) (0 : Int32)
def X6_size (M : Mem)   : Option (Int32) :=
  some (M 13 1)
theorem m_X6_size  (M : Mem)   : AMet 1 yX6_size cX6_size 1 (some .int) lyX [.ref 13] M (qIp lyX M) (X6_size M) := by
  refine am_ent pn_X6 (Nat.le_of_ble_eq_true rfl) (fun E C hr => ?_)
  refine aw_lv (lv' := [(0, .ref 13)]) rfl ?_
  unfold X6_size
  refine aw_aload_n C dX6_size_0 rfl ?_
  refine aw_getI C clX6 lo_X_13 1 rfl (by decide) kf_X6_15 dX6_size_1 ?_
  exact aw_iretp C hr dX6_size_4
