def X7_found  (x1 : Int32) (M : Mem) : Option (Int32 × Mem) :=
  am_let (mset M 0 (upd (M 0) 11 x1)) fun M1 =>
  some ((-1000010 : Int32) - x1, M1)
theorem m_X7_found   (x1 : Int32) (M : Mem) : AMet 1 yX7_found cX7_found 2 (some .int) lyX [.ref 0, .int x1] M (qI lyX) (X7_found x1 M) := by
  refine am_ent pn_X7 (Nat.le_of_ble_eq_true rfl) (fun E C hr => ?_)
  refine aw_lv (lv' := [(0, .ref 0), (1, .int x1)]) rfl ?_
  unfold X7_found
  refine aw_aload_n C dX7_found_0 rfl ?_
  refine aw_iload_n C dX7_found_1 rfl ?_
  refine aw_putI C clX7 lo_X_0 11 rfl (by decide) rfl rfl kf_X7_106 dX7_found_2 ?_
  refine aw_mlet (fun M1 => ?_)
  refine aw_ldc C kc_X7_110 dX7_found_5 ?_
  refine aw_iload_n C dX7_found_7 rfl ?_
  refine aw_isub C dX7_found_8 ?_
  exact aw_iret C hr dX7_found_9
def X7_fine  (x1 : Int32) (M : Mem) : Option (Int32 × Mem) :=
  am_let (mset M 0 (upd (M 0) 11 (0 : Int32))) fun M1 =>
  some (x1, M1)
theorem m_X7_fine   (x1 : Int32) (M : Mem) : AMet 1 yX7_fine cX7_fine 2 (some .int) lyX [.ref 0, .int x1] M (qI lyX) (X7_fine x1 M) := by
  refine am_ent pn_X7 (Nat.le_of_ble_eq_true rfl) (fun E C hr => ?_)
  refine aw_lv (lv' := [(0, .ref 0), (1, .int x1)]) rfl ?_
  unfold X7_fine
  refine aw_aload_n C dX7_fine_0 rfl ?_
  refine aw_iconst C (0 : Int32) dX7_fine_1 (by decide) ?_
  refine aw_putI C clX7 lo_X_0 11 rfl (by decide) rfl rfl kf_X7_106 dX7_fine_2 ?_
  refine aw_mlet (fun M1 => ?_)
  refine aw_iload_n C dX7_fine_5 rfl ?_
  exact aw_iret C hr dX7_fine_6
def X7_row  (x1 : Int32) (x2 : Int32) (x3 : Int32) (M : Mem) : Option (Int32 × Mem) :=
  Option.bind (X5_isNumber x1) fun r1 =>
  if r1 = 0 then
    some ((-1000001 : Int32), M)
  else
    if x2 < 0 then
      some ((-1000001 : Int32), M)
    else
      if x2 < (3 : Int32) then
        if (40 : Int32) < x3 then
          some ((-1000001 : Int32), M)
        else
          if x3 < 0 then
            Option.bind (X7_found (4 : Int32) M) fun u2 =>
            some (u2.1, u2.2)
          else
            Option.bind (X5_lay x1 x2 x3 M) fun M3 =>
            Option.bind (X7_fine x3 M3) fun u4 =>
            some (u4.1, u4.2)
      else
        some ((-1000001 : Int32), M)
theorem m_X7_row   (x1 : Int32) (x2 : Int32) (x3 : Int32) (M : Mem) : AMet 3 yX7_row cX7_row 4 (some .int) lyX [.ref 0, .int x1, .int x2, .int x3] M (qI lyX) (X7_row x1 x2 x3 M) := by
  refine am_ent pn_X7 (Nat.le_of_ble_eq_true rfl) (fun E C hr => ?_)
  refine aw_lv (lv' := [(0, .ref 0), (1, .int x1), (2, .int x2), (3, .int x3)]) rfl ?_
  unfold X7_row
  refine aw_aload_n C dX7_row_0 rfl ?_
  refine aw_getR C (r := 1) clX7 lo_X_0 0 rfl (by decide) kf_X7_10 dX7_row_1 ?_
  refine aw_iload_n C dX7_row_4 rfl ?_
  refine aw_cVIp C [.int x1] [] (m_X5_isNumber M x1) v_X5_isNumber km_X7_69 (by decide) lo_X_1 rfl rfl rfl (Nat.le_of_ble_eq_true rfl) dX7_row_5 (fun r1 => ?_)
  refine aw_if_eq C (tgt := 26) dX7_row_8 (by decide) ?_ ?_
  · refine aw_ldc C kc_X7_73 dX7_row_26 ?_
    exact aw_iret C hr dX7_row_28
  · refine aw_iload_n C dX7_row_11 rfl ?_
    refine aw_if_lt C (tgt := 26) dX7_row_12 (by decide) ?_ ?_
    · refine aw_ldc C kc_X7_73 dX7_row_26 ?_
      exact aw_iret C hr dX7_row_28
    · refine aw_iload_n C dX7_row_15 rfl ?_
      refine aw_iconst C (3 : Int32) dX7_row_16 (by decide) ?_
      refine aw_icmp_ge C (tgt := 26) dX7_row_17 (by decide) ?_ ?_
      · refine aw_iload_n C dX7_row_20 rfl ?_
        refine aw_bipush C (40 : Int32) dX7_row_21 (by decide) ?_
        refine aw_icmp_le C (tgt := 29) dX7_row_23 (by decide) ?_ ?_
        · refine aw_ldc C kc_X7_73 dX7_row_26 ?_
          exact aw_iret C hr dX7_row_28
        · refine aw_iload_n C dX7_row_29 rfl ?_
          refine aw_if_ge C (tgt := 39) dX7_row_30 (by decide) ?_ ?_
          · refine aw_aload_n C dX7_row_33 rfl ?_
            refine aw_iconst C (4 : Int32) dX7_row_34 (by decide) ?_
            refine aw_cVI C [.int (4 : Int32)] [] (m_X7_found (4 : Int32) M) v_X7_found km_X7_74 (by decide) lo_X_0 rfl rfl rfl (Nat.le_of_ble_eq_true rfl) dX7_row_35 (fun u2 => ?_)
            exact aw_iret C hr dX7_row_38
          · refine aw_aload_n C dX7_row_39 rfl ?_
            refine aw_getR C (r := 1) clX7 lo_X_0 0 rfl (by decide) kf_X7_10 dX7_row_40 ?_
            refine aw_iload_n C dX7_row_43 rfl ?_
            refine aw_iload_n C dX7_row_44 rfl ?_
            refine aw_iload_n C dX7_row_45 rfl ?_
            refine aw_cVV C [.int x1, .int x2, .int x3] [] (m_X5_lay x1 x2 x3 M) v_X5_lay km_X7_78 (by decide) lo_X_1 rfl rfl rfl (Nat.le_of_ble_eq_true rfl) dX7_row_46 (fun M3 => ?_)
            refine aw_aload_n C dX7_row_49 rfl ?_
            refine aw_iload_n C dX7_row_50 rfl ?_
            refine aw_cVI C [.int x3] [] (m_X7_fine x3 M3) v_X7_fine km_X7_82 (by decide) lo_X_0 rfl rfl rfl (Nat.le_of_ble_eq_true rfl) dX7_row_51 (fun u4 => ?_)
            exact aw_iret C hr dX7_row_54
      · refine aw_ldc C kc_X7_73 dX7_row_26 ?_
        exact aw_iret C hr dX7_row_28
def X7_set  (x1 : Int32) (x2 : Int32) (x3 : Int32) (M : Mem) : Option (Int32 × Mem) :=
  Option.bind (X5_isNumber x1) fun r1 =>
  if r1 = 0 then
    some ((-1000001 : Int32), M)
  else
    Option.bind (X5_isMissing M x1) fun r2 =>
    if r2 = 0 then
      Option.bind (X5_reaches M x1 x2 (1 : Int32)) fun r3 =>
      if r3 = 0 then
        Option.bind (X7_found (2 : Int32) M) fun u4 =>
        some (u4.1, u4.2)
      else
        Option.bind (X5_put x1 x2 x3 M) fun u5 =>
        Option.bind (X7_fine u5.1 u5.2) fun u6 =>
        some (u6.1, u6.2)
    else
      Option.bind (X7_found (1 : Int32) M) fun u7 =>
      some (u7.1, u7.2)
theorem m_X7_set   (x1 : Int32) (x2 : Int32) (x3 : Int32) (M : Mem) : AMet 5 yX7_set cX7_set 4 (some .int) lyX [.ref 0, .int x1, .int x2, .int x3] M (qI lyX) (X7_set x1 x2 x3 M) := by
  refine am_ent pn_X7 (Nat.le_of_ble_eq_true rfl) (fun E C hr => ?_)
  refine aw_lv (lv' := [(0, .ref 0), (1, .int x1), (2, .int x2), (3, .int x3)]) rfl ?_
  unfold X7_set
  refine aw_aload_n C dX7_set_0 rfl ?_
  refine aw_getR C (r := 1) clX7 lo_X_0 0 rfl (by decide) kf_X7_10 dX7_set_1 ?_
  refine aw_iload_n C dX7_set_4 rfl ?_
  refine aw_cVIp C [.int x1] [] (m_X5_isNumber M x1) v_X5_isNumber km_X7_69 (by decide) lo_X_1 rfl rfl rfl (Nat.le_of_ble_eq_true rfl) dX7_set_5 (fun r1 => ?_)
  refine aw_if_ne C (tgt := 14) dX7_set_8 (by decide) ?_ ?_
  · refine aw_ldc C kc_X7_73 dX7_set_11 ?_
    exact aw_iret C hr dX7_set_13
  · refine aw_aload_n C dX7_set_14 rfl ?_
    refine aw_getR C (r := 1) clX7 lo_X_0 0 rfl (by decide) kf_X7_10 dX7_set_15 ?_
    refine aw_iload_n C dX7_set_18 rfl ?_
    refine aw_cVIp C [.int x1] [] (m_X5_isMissing M x1) v_X5_isMissing km_X7_85 (by decide) lo_X_1 rfl rfl rfl (Nat.le_of_ble_eq_true rfl) dX7_set_19 (fun r2 => ?_)
    refine aw_if_eq C (tgt := 31) dX7_set_22 (by decide) ?_ ?_
    · refine aw_aload_n C dX7_set_31 rfl ?_
      refine aw_getR C (r := 1) clX7 lo_X_0 0 rfl (by decide) kf_X7_10 dX7_set_32 ?_
      refine aw_iload_n C dX7_set_35 rfl ?_
      refine aw_iload_n C dX7_set_36 rfl ?_
      refine aw_iconst C (1 : Int32) dX7_set_37 (by decide) ?_
      refine aw_cVIp C [.int x1, .int x2, .int (1 : Int32)] [] (m_X5_reaches M x1 x2 (1 : Int32)) v_X5_reaches km_X7_88 (by decide) lo_X_1 rfl rfl rfl (Nat.le_of_ble_eq_true rfl) dX7_set_38 (fun r3 => ?_)
      refine aw_if_ne C (tgt := 50) dX7_set_41 (by decide) ?_ ?_
      · refine aw_aload_n C dX7_set_44 rfl ?_
        refine aw_iconst C (2 : Int32) dX7_set_45 (by decide) ?_
        refine aw_cVI C [.int (2 : Int32)] [] (m_X7_found (2 : Int32) M) v_X7_found km_X7_74 (by decide) lo_X_0 rfl rfl rfl (Nat.le_of_ble_eq_true rfl) dX7_set_46 (fun u4 => ?_)
        exact aw_iret C hr dX7_set_49
      · refine aw_aload_n C dX7_set_50 rfl ?_
        refine aw_aload_n C dX7_set_51 rfl ?_
        refine aw_getR C (r := 1) clX7 lo_X_0 0 rfl (by decide) kf_X7_10 dX7_set_52 ?_
        refine aw_iload_n C dX7_set_55 rfl ?_
        refine aw_iload_n C dX7_set_56 rfl ?_
        refine aw_iload_n C dX7_set_57 rfl ?_
        refine aw_cVI C [.int x1, .int x2, .int x3] [.ref 0] (m_X5_put x1 x2 x3 M) v_X5_put km_X7_92 (by decide) lo_X_1 rfl rfl rfl (Nat.le_of_ble_eq_true rfl) dX7_set_58 (fun u5 => ?_)
        refine aw_cVI C [.int u5.1] [] (m_X7_fine u5.1 u5.2) v_X7_fine km_X7_82 (by decide) lo_X_0 rfl rfl rfl (Nat.le_of_ble_eq_true rfl) dX7_set_61 (fun u6 => ?_)
        exact aw_iret C hr dX7_set_64
    · refine aw_aload_n C dX7_set_25 rfl ?_
      refine aw_iconst C (1 : Int32) dX7_set_26 (by decide) ?_
      refine aw_cVI C [.int (1 : Int32)] [] (m_X7_found (1 : Int32) M) v_X7_found km_X7_74 (by decide) lo_X_0 rfl rfl rfl (Nat.le_of_ble_eq_true rfl) dX7_set_27 (fun u7 => ?_)
      exact aw_iret C hr dX7_set_30
def X7_copy  (x1 : Int32) (x2 : Int32) (x3 : Int32) (x4 : Int32) (x5 : Int32) (M : Mem) : Option (Int32 × Mem) :=
  Option.bind (X5_isNumber x1) fun r1 =>
  if r1 = 0 then
    some ((-1000001 : Int32), M)
  else
    Option.bind (X5_isNumber x3) fun r2 =>
    if r2 = 0 then
      some ((-1000001 : Int32), M)
    else
      Option.bind (X5_isMissing M x1) fun r3 =>
      if r3 = 0 then
        Option.bind (X5_isMissing M x3) fun r4 =>
        if r4 = 0 then
          Option.bind (X5_laneOf M x1) fun r5 =>
          Option.bind (X5_laneOf M x3) fun r6 =>
          if r5 = r6 then
            Option.bind (X5_reaches M x1 x2 x5) fun r7 =>
            if r7 = 0 then
              Option.bind (X7_found (2 : Int32) M) fun u8 =>
              some (u8.1, u8.2)
            else
              Option.bind (X5_reaches M x3 x4 x5) fun r9 =>
              if r9 = 0 then
                Option.bind (X7_found (2 : Int32) M) fun u10 =>
                some (u10.1, u10.2)
              else
                Option.bind (X5_carry x1 x2 x3 x4 x5 M) fun M11 =>
                Option.bind (X7_fine x5 M11) fun u12 =>
                some (u12.1, u12.2)
          else
            Option.bind (X7_found (5 : Int32) M) fun u13 =>
            some (u13.1, u13.2)
        else
          Option.bind (X7_found (1 : Int32) M) fun u14 =>
          some (u14.1, u14.2)
      else
        Option.bind (X7_found (1 : Int32) M) fun u15 =>
        some (u15.1, u15.2)
theorem m_X7_copy   (x1 : Int32) (x2 : Int32) (x3 : Int32) (x4 : Int32) (x5 : Int32) (M : Mem) : AMet 5 yX7_copy cX7_copy 6 (some .int) lyX [.ref 0, .int x1, .int x2, .int x3, .int x4, .int x5] M (qI lyX) (X7_copy x1 x2 x3 x4 x5 M) := by
  refine am_ent pn_X7 (Nat.le_of_ble_eq_true rfl) (fun E C hr => ?_)
  refine aw_lv (lv' := [(0, .ref 0), (1, .int x1), (2, .int x2), (3, .int x3), (4, .int x4), (5, .int x5)]) rfl ?_
  unfold X7_copy
  refine aw_aload_n C dX7_copy_0 rfl ?_
  refine aw_getR C (r := 1) clX7 lo_X_0 0 rfl (by decide) kf_X7_10 dX7_copy_1 ?_
  refine aw_iload_n C dX7_copy_4 rfl ?_
  refine aw_cVIp C [.int x1] [] (m_X5_isNumber M x1) v_X5_isNumber km_X7_69 (by decide) lo_X_1 rfl rfl rfl (Nat.le_of_ble_eq_true rfl) dX7_copy_5 (fun r1 => ?_)
  refine aw_if_eq C (tgt := 22) dX7_copy_8 (by decide) ?_ ?_
  · refine aw_ldc C kc_X7_73 dX7_copy_22 ?_
    exact aw_iret C hr dX7_copy_24
  · refine aw_aload_n C dX7_copy_11 rfl ?_
    refine aw_getR C (r := 1) clX7 lo_X_0 0 rfl (by decide) kf_X7_10 dX7_copy_12 ?_
    refine aw_iload_n C dX7_copy_15 rfl ?_
    refine aw_cVIp C [.int x3] [] (m_X5_isNumber M x3) v_X5_isNumber km_X7_69 (by decide) lo_X_1 rfl rfl rfl (Nat.le_of_ble_eq_true rfl) dX7_copy_16 (fun r2 => ?_)
    refine aw_if_ne C (tgt := 25) dX7_copy_19 (by decide) ?_ ?_
    · refine aw_ldc C kc_X7_73 dX7_copy_22 ?_
      exact aw_iret C hr dX7_copy_24
    · refine aw_aload_n C dX7_copy_25 rfl ?_
      refine aw_getR C (r := 1) clX7 lo_X_0 0 rfl (by decide) kf_X7_10 dX7_copy_26 ?_
      refine aw_iload_n C dX7_copy_29 rfl ?_
      refine aw_cVIp C [.int x1] [] (m_X5_isMissing M x1) v_X5_isMissing km_X7_85 (by decide) lo_X_1 rfl rfl rfl (Nat.le_of_ble_eq_true rfl) dX7_copy_30 (fun r3 => ?_)
      refine aw_if_ne C (tgt := 47) dX7_copy_33 (by decide) ?_ ?_
      · refine aw_aload_n C dX7_copy_36 rfl ?_
        refine aw_getR C (r := 1) clX7 lo_X_0 0 rfl (by decide) kf_X7_10 dX7_copy_37 ?_
        refine aw_iload_n C dX7_copy_40 rfl ?_
        refine aw_cVIp C [.int x3] [] (m_X5_isMissing M x3) v_X5_isMissing km_X7_85 (by decide) lo_X_1 rfl rfl rfl (Nat.le_of_ble_eq_true rfl) dX7_copy_41 (fun r4 => ?_)
        refine aw_if_eq C (tgt := 53) dX7_copy_44 (by decide) ?_ ?_
        · refine aw_aload_n C dX7_copy_53 rfl ?_
          refine aw_getR C (r := 1) clX7 lo_X_0 0 rfl (by decide) kf_X7_10 dX7_copy_54 ?_
          refine aw_iload_n C dX7_copy_57 rfl ?_
          refine aw_cVIp C [.int x1] [] (m_X5_laneOf M x1) v_X5_laneOf km_X7_96 (by decide) lo_X_1 rfl rfl rfl (Nat.le_of_ble_eq_true rfl) dX7_copy_58 (fun r5 => ?_)
          refine aw_aload_n C dX7_copy_61 rfl ?_
          refine aw_getR C (r := 1) clX7 lo_X_0 0 rfl (by decide) kf_X7_10 dX7_copy_62 ?_
          refine aw_iload_n C dX7_copy_65 rfl ?_
          refine aw_cVIp C [.int x3] [.int r5] (m_X5_laneOf M x3) v_X5_laneOf km_X7_96 (by decide) lo_X_1 rfl rfl rfl (Nat.le_of_ble_eq_true rfl) dX7_copy_66 (fun r6 => ?_)
          refine aw_icmp_eq C (tgt := 78) dX7_copy_69 (by decide) ?_ ?_
          · refine aw_aload_n C dX7_copy_78 rfl ?_
            refine aw_getR C (r := 1) clX7 lo_X_0 0 rfl (by decide) kf_X7_10 dX7_copy_79 ?_
            refine aw_iload_n C dX7_copy_82 rfl ?_
            refine aw_iload_n C dX7_copy_83 rfl ?_
            refine aw_iload C dX7_copy_84 rfl ?_
            refine aw_cVIp C [.int x1, .int x2, .int x5] [] (m_X5_reaches M x1 x2 x5) v_X5_reaches km_X7_88 (by decide) lo_X_1 rfl rfl rfl (Nat.le_of_ble_eq_true rfl) dX7_copy_86 (fun r7 => ?_)
            refine aw_if_eq C (tgt := 107) dX7_copy_89 (by decide) ?_ ?_
            · refine aw_aload_n C dX7_copy_107 rfl ?_
              refine aw_iconst C (2 : Int32) dX7_copy_108 (by decide) ?_
              refine aw_cVI C [.int (2 : Int32)] [] (m_X7_found (2 : Int32) M) v_X7_found km_X7_74 (by decide) lo_X_0 rfl rfl rfl (Nat.le_of_ble_eq_true rfl) dX7_copy_109 (fun u8 => ?_)
              exact aw_iret C hr dX7_copy_112
            · refine aw_aload_n C dX7_copy_92 rfl ?_
              refine aw_getR C (r := 1) clX7 lo_X_0 0 rfl (by decide) kf_X7_10 dX7_copy_93 ?_
              refine aw_iload_n C dX7_copy_96 rfl ?_
              refine aw_iload C dX7_copy_97 rfl ?_
              refine aw_iload C dX7_copy_99 rfl ?_
              refine aw_cVIp C [.int x3, .int x4, .int x5] [] (m_X5_reaches M x3 x4 x5) v_X5_reaches km_X7_88 (by decide) lo_X_1 rfl rfl rfl (Nat.le_of_ble_eq_true rfl) dX7_copy_101 (fun r9 => ?_)
              refine aw_if_ne C (tgt := 113) dX7_copy_104 (by decide) ?_ ?_
              · refine aw_aload_n C dX7_copy_107 rfl ?_
                refine aw_iconst C (2 : Int32) dX7_copy_108 (by decide) ?_
                refine aw_cVI C [.int (2 : Int32)] [] (m_X7_found (2 : Int32) M) v_X7_found km_X7_74 (by decide) lo_X_0 rfl rfl rfl (Nat.le_of_ble_eq_true rfl) dX7_copy_109 (fun u10 => ?_)
                exact aw_iret C hr dX7_copy_112
              · refine aw_aload_n C dX7_copy_113 rfl ?_
                refine aw_getR C (r := 1) clX7 lo_X_0 0 rfl (by decide) kf_X7_10 dX7_copy_114 ?_
                refine aw_iload_n C dX7_copy_117 rfl ?_
                refine aw_iload_n C dX7_copy_118 rfl ?_
                refine aw_iload_n C dX7_copy_119 rfl ?_
                refine aw_iload C dX7_copy_120 rfl ?_
                refine aw_iload C dX7_copy_122 rfl ?_
                refine aw_cVV C [.int x1, .int x2, .int x3, .int x4, .int x5] [] (m_X5_carry x1 x2 x3 x4 x5 M) v_X5_carry km_X7_99 (by decide) lo_X_1 rfl rfl rfl (Nat.le_of_ble_eq_true rfl) dX7_copy_124 (fun M11 => ?_)
                refine aw_aload_n C dX7_copy_127 rfl ?_
                refine aw_iload C dX7_copy_128 rfl ?_
                refine aw_cVI C [.int x5] [] (m_X7_fine x5 M11) v_X7_fine km_X7_82 (by decide) lo_X_0 rfl rfl rfl (Nat.le_of_ble_eq_true rfl) dX7_copy_130 (fun u12 => ?_)
                exact aw_iret C hr dX7_copy_133
          · refine aw_aload_n C dX7_copy_72 rfl ?_
            refine aw_iconst C (5 : Int32) dX7_copy_73 (by decide) ?_
            refine aw_cVI C [.int (5 : Int32)] [] (m_X7_found (5 : Int32) M) v_X7_found km_X7_74 (by decide) lo_X_0 rfl rfl rfl (Nat.le_of_ble_eq_true rfl) dX7_copy_74 (fun u13 => ?_)
            exact aw_iret C hr dX7_copy_77
        · refine aw_aload_n C dX7_copy_47 rfl ?_
          refine aw_iconst C (1 : Int32) dX7_copy_48 (by decide) ?_
          refine aw_cVI C [.int (1 : Int32)] [] (m_X7_found (1 : Int32) M) v_X7_found km_X7_74 (by decide) lo_X_0 rfl rfl rfl (Nat.le_of_ble_eq_true rfl) dX7_copy_49 (fun u14 => ?_)
          exact aw_iret C hr dX7_copy_52
      · refine aw_aload_n C dX7_copy_47 rfl ?_
        refine aw_iconst C (1 : Int32) dX7_copy_48 (by decide) ?_
        refine aw_cVI C [.int (1 : Int32)] [] (m_X7_found (1 : Int32) M) v_X7_found km_X7_74 (by decide) lo_X_0 rfl rfl rfl (Nat.le_of_ble_eq_true rfl) dX7_copy_49 (fun u15 => ?_)
        exact aw_iret C hr dX7_copy_52
def X7_drop  (x1 : Int32) (M : Mem) : Option (Int32 × Mem) :=
  Option.bind (X5_isNumber x1) fun r1 =>
  if r1 = 0 then
    some ((-1000001 : Int32), M)
  else
    Option.bind (X5_isMissing M x1) fun r2 =>
    if r2 = 0 then
      Option.bind (X5_remove x1 M) fun u3 =>
      Option.bind (X7_fine u3.1 u3.2) fun u4 =>
      some (u4.1, u4.2)
    else
      Option.bind (X7_found (1 : Int32) M) fun u5 =>
      some (u5.1, u5.2)
theorem m_X7_drop   (x1 : Int32) (M : Mem) : AMet 4 yX7_drop cX7_drop 2 (some .int) lyX [.ref 0, .int x1] M (qI lyX) (X7_drop x1 M) := by
  refine am_ent pn_X7 (Nat.le_of_ble_eq_true rfl) (fun E C hr => ?_)
  refine aw_lv (lv' := [(0, .ref 0), (1, .int x1)]) rfl ?_
  unfold X7_drop
  refine aw_aload_n C dX7_drop_0 rfl ?_
  refine aw_getR C (r := 1) clX7 lo_X_0 0 rfl (by decide) kf_X7_10 dX7_drop_1 ?_
  refine aw_iload_n C dX7_drop_4 rfl ?_
  refine aw_cVIp C [.int x1] [] (m_X5_isNumber M x1) v_X5_isNumber km_X7_69 (by decide) lo_X_1 rfl rfl rfl (Nat.le_of_ble_eq_true rfl) dX7_drop_5 (fun r1 => ?_)
  refine aw_if_ne C (tgt := 14) dX7_drop_8 (by decide) ?_ ?_
  · refine aw_ldc C kc_X7_73 dX7_drop_11 ?_
    exact aw_iret C hr dX7_drop_13
  · refine aw_aload_n C dX7_drop_14 rfl ?_
    refine aw_getR C (r := 1) clX7 lo_X_0 0 rfl (by decide) kf_X7_10 dX7_drop_15 ?_
    refine aw_iload_n C dX7_drop_18 rfl ?_
    refine aw_cVIp C [.int x1] [] (m_X5_isMissing M x1) v_X5_isMissing km_X7_85 (by decide) lo_X_1 rfl rfl rfl (Nat.le_of_ble_eq_true rfl) dX7_drop_19 (fun r2 => ?_)
    refine aw_if_eq C (tgt := 31) dX7_drop_22 (by decide) ?_ ?_
    · refine aw_aload_n C dX7_drop_31 rfl ?_
      refine aw_aload_n C dX7_drop_32 rfl ?_
      refine aw_getR C (r := 1) clX7 lo_X_0 0 rfl (by decide) kf_X7_10 dX7_drop_33 ?_
      refine aw_iload_n C dX7_drop_36 rfl ?_
      refine aw_cVI C [.int x1] [.ref 0] (m_X5_remove x1 M) v_X5_remove km_X7_103 (by decide) lo_X_1 rfl rfl rfl (Nat.le_of_ble_eq_true rfl) dX7_drop_37 (fun u3 => ?_)
      refine aw_cVI C [.int u3.1] [] (m_X7_fine u3.1 u3.2) v_X7_fine km_X7_82 (by decide) lo_X_0 rfl rfl rfl (Nat.le_of_ble_eq_true rfl) dX7_drop_40 (fun u4 => ?_)
      exact aw_iret C hr dX7_drop_43
    · refine aw_aload_n C dX7_drop_25 rfl ?_
      refine aw_iconst C (1 : Int32) dX7_drop_26 (by decide) ?_
      refine aw_cVI C [.int (1 : Int32)] [] (m_X7_found (1 : Int32) M) v_X7_found km_X7_74 (by decide) lo_X_0 rfl rfl rfl (Nat.le_of_ble_eq_true rfl) dX7_drop_27 (fun u5 => ?_)
      exact aw_iret C hr dX7_drop_30
def X7_feed  (x1 : Int32) (M : Mem) : Option (Int32 × Mem) :=
  if x1 < 0 then
    some ((-1000001 : Int32), M)
  else
    if (255 : Int32) < x1 then
      some ((-1000001 : Int32), M)
    else
      Option.bind (X6_isFull M) fun r1 =>
      if r1 = 0 then
        Option.bind (X6_add x1 M) fun u2 =>
        some (u2.1, u2.2)
      else
        some ((-1000003 : Int32), M)
theorem m_X7_feed   (x1 : Int32) (M : Mem) : AMet 3 yX7_feed cX7_feed 2 (some .int) lyX [.ref 0, .int x1] M (qI lyX) (X7_feed x1 M) := by
  refine am_ent pn_X7 (Nat.le_of_ble_eq_true rfl) (fun E C hr => ?_)
  refine aw_lv (lv' := [(0, .ref 0), (1, .int x1)]) rfl ?_
  unfold X7_feed
  refine aw_iload_n C dX7_feed_0 rfl ?_
  refine aw_if_lt C (tgt := 11) dX7_feed_1 (by decide) ?_ ?_
  · refine aw_ldc C kc_X7_73 dX7_feed_11 ?_
    exact aw_iret C hr dX7_feed_13
  · refine aw_iload_n C dX7_feed_4 rfl ?_
    refine aw_sipush C (255 : Int32) dX7_feed_5 (by decide) ?_
    refine aw_icmp_le C (tgt := 14) dX7_feed_8 (by decide) ?_ ?_
    · refine aw_ldc C kc_X7_73 dX7_feed_11 ?_
      exact aw_iret C hr dX7_feed_13
    · refine aw_aload_n C dX7_feed_14 rfl ?_
      refine aw_getR C (r := 13) clX7 lo_X_0 1 rfl (by decide) kf_X7_19 dX7_feed_15 ?_
      refine aw_cVIp C [] [] (m_X6_isFull M) v_X6_isFull km_X7_111 (by decide) lo_X_13 rfl rfl rfl (Nat.le_of_ble_eq_true rfl) dX7_feed_18 (fun r1 => ?_)
      refine aw_if_eq C (tgt := 27) dX7_feed_21 (by decide) ?_ ?_
      · refine aw_aload_n C dX7_feed_27 rfl ?_
        refine aw_getR C (r := 13) clX7 lo_X_0 1 rfl (by decide) kf_X7_19 dX7_feed_28 ?_
        refine aw_iload_n C dX7_feed_31 rfl ?_
        refine aw_cVI C [.int x1] [] (m_X6_add x1 M) v_X6_add km_X7_116 (by decide) lo_X_13 rfl rfl rfl (Nat.le_of_ble_eq_true rfl) dX7_feed_32 (fun u2 => ?_)
        exact aw_iret C hr dX7_feed_35
      · refine aw_ldc C kc_X7_115 dX7_feed_24 ?_
        exact aw_iret C hr dX7_feed_26
def X7_hall   (M : Mem) : Option (Int32 × Mem) :=
  Option.bind (X6_readInto 23 M) fun u1 =>
  Option.bind (X6_clear u1.2) fun M2 =>
  if u1.1 = 0 then
    Option.bind (X3_become 15 23 M2) fun M3 =>
    Option.bind (X0_clear M3) fun M4 =>
    some (M4 15 1, M4)
  else
    am_let (mset M2 0 (upd (M2 0) 10 u1.1)) fun M5 =>
    Option.bind (X6_faultPlace M5) fun r6 =>
    some ((-1000100 : Int32) - r6, M5)
theorem m_X7_hall    (M : Mem) : AMet 7 yX7_hall cX7_hall 2 (some .int) lyX [.ref 0] M (qI lyX) (X7_hall M) := by
  refine am_ent pn_X7 (Nat.le_of_ble_eq_true rfl) (fun E C hr => ?_)
  refine aw_lv (lv' := [(0, .ref 0)]) rfl ?_
  unfold X7_hall
  refine aw_aload_n C dX7_hall_0 rfl ?_
  refine aw_getR C (r := 13) clX7 lo_X_0 1 rfl (by decide) kf_X7_19 dX7_hall_1 ?_
  refine aw_aload_n C dX7_hall_4 rfl ?_
  refine aw_getR C (r := 23) clX7 lo_X_0 3 rfl (by decide) kf_X7_30 dX7_hall_5 ?_
  refine aw_cVI C [.ref 23] [] (m_X6_readInto 23 isHl_23 M) v_X6_readInto km_X7_119 (by decide) lo_X_13 rfl rfl rfl (Nat.le_of_ble_eq_true rfl) dX7_hall_8 (fun u1 => ?_)
  refine aw_istore_n C [(1, .int u1.1), (0, .ref 0)] dX7_hall_11 (by decide) rfl ?_
  refine aw_aload_n C dX7_hall_12 rfl ?_
  refine aw_getR C (r := 13) clX7 lo_X_0 1 rfl (by decide) kf_X7_19 dX7_hall_13 ?_
  refine aw_cVV C [] [] (m_X6_clear u1.2) v_X6_clear km_X7_123 (by decide) lo_X_13 rfl rfl rfl (Nat.le_of_ble_eq_true rfl) dX7_hall_16 (fun M2 => ?_)
  refine aw_iload_n C dX7_hall_19 rfl ?_
  refine aw_if_eq C (tgt := 39) dX7_hall_20 (by decide) ?_ ?_
  · refine aw_aload_n C dX7_hall_39 rfl ?_
    refine aw_getR C (r := 15) clX7 lo_X_0 2 rfl (by decide) kf_X7_26 dX7_hall_40 ?_
    refine aw_aload_n C dX7_hall_43 rfl ?_
    refine aw_getR C (r := 23) clX7 lo_X_0 3 rfl (by decide) kf_X7_30 dX7_hall_44 ?_
    refine aw_cVV C [.ref 23] [] (m_X3_become 15 isHl_15 23 isHl_23 M2) v_X3_become km_X7_134 (by decide) (hl_o isHl_15) rfl rfl rfl (Nat.le_of_ble_eq_true rfl) dX7_hall_47 (fun M3 => ?_)
    refine aw_aload_n C dX7_hall_50 rfl ?_
    refine aw_getR C (r := 31) clX7 lo_X_0 4 rfl (by decide) kf_X7_36 dX7_hall_51 ?_
    refine aw_cVV C [] [] (m_X0_clear M3) v_X0_clear km_X7_137 (by decide) lo_X_31 rfl rfl rfl (Nat.le_of_ble_eq_true rfl) dX7_hall_54 (fun M4 => ?_)
    refine aw_aload_n C dX7_hall_57 rfl ?_
    refine aw_getR C (r := 15) clX7 lo_X_0 2 rfl (by decide) kf_X7_26 dX7_hall_58 ?_
    refine aw_getI C clX3 (hl_o isHl_15) 1 rfl (by decide) kf_X7_138 dX7_hall_61 ?_
    exact aw_iret C hr dX7_hall_64
  · refine aw_aload_n C dX7_hall_23 rfl ?_
    refine aw_iload_n C dX7_hall_24 rfl ?_
    refine aw_putI C clX7 lo_X_0 10 rfl (by decide) rfl rfl kf_X7_126 dX7_hall_25 ?_
    refine aw_mlet (fun M5 => ?_)
    refine aw_ldc C kc_X7_129 dX7_hall_28 ?_
    refine aw_aload_n C dX7_hall_30 rfl ?_
    refine aw_getR C (r := 13) clX7 lo_X_0 1 rfl (by decide) kf_X7_19 dX7_hall_31 ?_
    refine aw_cVIp C [] [.int (-1000100 : Int32)] (m_X6_faultPlace M5) v_X6_faultPlace km_X7_130 (by decide) lo_X_13 rfl rfl rfl (Nat.le_of_ble_eq_true rfl) dX7_hall_34 (fun r6 => ?_)
    refine aw_isub C dX7_hall_37 ?_
    exact aw_iret C hr dX7_hall_38
def X7_fault (M : Mem)   : Option (Int32) :=
  some (M 0 10)
theorem m_X7_fault  (M : Mem)   : AMet 1 yX7_fault cX7_fault 1 (some .int) lyX [.ref 0] M (qIp lyX M) (X7_fault M) := by
  refine am_ent pn_X7 (Nat.le_of_ble_eq_true rfl) (fun E C hr => ?_)
  refine aw_lv (lv' := [(0, .ref 0)]) rfl ?_
  unfold X7_fault
  refine aw_aload_n C dX7_fault_0 rfl ?_
  refine aw_getI C clX7 lo_X_0 10 rfl (by decide) kf_X7_126 dX7_fault_1 ?_
  exact aw_iretp C hr dX7_fault_4
def X7_undo   (M : Mem) : Option (Int32 × Mem) :=
  Option.bind (X0_undoIn 15 M) fun u1 =>
  if u1.1 = 0 then
    some ((-1000002 : Int32), u1.2)
  else
    Option.bind (X0_kept u1.2) fun r2 =>
    some (r2, u1.2)
theorem m_X7_undo    (M : Mem) : AMet 5 yX7_undo cX7_undo 1 (some .int) lyX [.ref 0] M (qI lyX) (X7_undo M) := by
  refine am_ent pn_X7 (Nat.le_of_ble_eq_true rfl) (fun E C hr => ?_)
  refine aw_lv (lv' := [(0, .ref 0)]) rfl ?_
  unfold X7_undo
  refine aw_aload_n C dX7_undo_0 rfl ?_
  refine aw_getR C (r := 31) clX7 lo_X_0 4 rfl (by decide) kf_X7_36 dX7_undo_1 ?_
  refine aw_aload_n C dX7_undo_4 rfl ?_
  refine aw_getR C (r := 15) clX7 lo_X_0 2 rfl (by decide) kf_X7_26 dX7_undo_5 ?_
  refine aw_cVI C [.ref 15] [] (m_X0_undoIn 15 isHl_15 M) v_X0_undoIn km_X7_141 (by decide) lo_X_31 rfl rfl rfl (Nat.le_of_ble_eq_true rfl) dX7_undo_8 (fun u1 => ?_)
  refine aw_if_eq C (tgt := 24) dX7_undo_11 (by decide) ?_ ?_
  · refine aw_ldc C kc_X7_148 dX7_undo_24 ?_
    exact aw_iret C hr dX7_undo_26
  · refine aw_aload_n C dX7_undo_14 rfl ?_
    refine aw_getR C (r := 31) clX7 lo_X_0 4 rfl (by decide) kf_X7_36 dX7_undo_15 ?_
    refine aw_cVIp C [] [] (m_X0_kept u1.2) v_X0_kept km_X7_145 (by decide) lo_X_31 rfl rfl rfl (Nat.le_of_ble_eq_true rfl) dX7_undo_18 (fun r2 => ?_)
    refine aw_goto C (tgt := 26) dX7_undo_21 (by decide) ?_
    exact aw_iret C hr dX7_undo_26
def X7_noHall (M : Mem)   : Option (Int32) :=
  if (M 15 1) = 0 then
    some (1 : Int32)
  else
    some (0 : Int32)
theorem m_X7_noHall  (M : Mem)   : AMet 1 yX7_noHall cX7_noHall 1 (some .boolean) lyX [.ref 0] M (qIp lyX M) (X7_noHall M) := by
  refine am_ent pn_X7 (Nat.le_of_ble_eq_true rfl) (fun E C hr => ?_)
  refine aw_lv (lv' := [(0, .ref 0)]) rfl ?_
  unfold X7_noHall
  refine aw_aload_n C dX7_noHall_0 rfl ?_
  refine aw_getR C (r := 15) clX7 lo_X_0 2 rfl (by decide) kf_X7_26 dX7_noHall_1 ?_
  refine aw_getI C clX3 (hl_o isHl_15) 1 rfl (by decide) kf_X7_138 dX7_noHall_4 ?_
  refine aw_if_ne C (tgt := 14) dX7_noHall_7 (by decide) ?_ ?_
  · refine aw_iconst C (1 : Int32) dX7_noHall_10 (by decide) ?_
    refine aw_goto C (tgt := 15) dX7_noHall_11 (by decide) ?_
    exact aw_zretp C (Or.inr rfl) hr dX7_noHall_15
  · refine aw_iconst C (0 : Int32) dX7_noHall_14 (by decide) ?_
    exact aw_zretp C (Or.inl rfl) hr dX7_noHall_15
def X7_ticks_44  : Nat → Int32 → Int32 → Mem → Option (Int32 × Mem)
  | 0, _, _, _ => none
  | f + 1, x1, x2, M =>
    if x2 < x1 then
      Option.bind (X0_keep 15 M) fun M1 =>
      Option.bind (X3_tickOnce 15 M1) fun M2 =>
      X7_ticks_44  f x1 (x2 + (1 : Int32)) M2
    else
      Option.bind (X3_setOf 15 M (7 : Int32)) fun r3 =>
      some (r3, M)
def X7_ticks  (x1 : Int32) (M : Mem) : Option (Int32 × Mem) :=
  Option.bind (X7_noHall M) fun r1 =>
  if r1 = 0 then
    if x1 < (1 : Int32) then
      some ((-1000001 : Int32), M)
    else
      if (24 : Int32) < x1 then
        some ((-1000001 : Int32), M)
      else
        if (999 : Int32) < ((M 15 2) + x1) then
          some ((-1000003 : Int32), M)
        else
          X7_ticks_44 am_fuel x1 (0 : Int32) M
  else
    some ((-1000002 : Int32), M)
theorem m_X7_ticks_44 {E : amE} (C : amC E 6 cX7_ticks 3 RX7) (hr : (eH E).sig.returnType = (some .int))  : ∀ (f : Nat) (x1 : Int32) (x2 : Int32) (M : Mem), AW E lyX 3 (qI lyX) (X7_ticks_44 f x1 x2 M) 44 [(0, .ref 0), (1, .int x1), (2, .int x2)] [] M := by
  intro f
  induction f with
  | zero => exact (fun _ _ _ => aw_none)
  | succ f ih =>
    intro x1 x2 M
    rw [X7_ticks_44]
    refine aw_iload_n C dX7_ticks_44 rfl ?_
    refine aw_iload_n C dX7_ticks_45 rfl ?_
    refine aw_icmp_ge C (tgt := 73) dX7_ticks_46 (by decide) ?_ ?_
    · refine aw_aload_n C dX7_ticks_49 rfl ?_
      refine aw_getR C (r := 31) clX7 lo_X_0 4 rfl (by decide) kf_X7_36 dX7_ticks_50 ?_
      refine aw_aload_n C dX7_ticks_53 rfl ?_
      refine aw_getR C (r := 15) clX7 lo_X_0 2 rfl (by decide) kf_X7_26 dX7_ticks_54 ?_
      refine aw_cVV C [.ref 15] [] (m_X0_keep 15 isHl_15 M) v_X0_keep km_X7_155 (by decide) lo_X_31 rfl rfl rfl (Nat.le_of_ble_eq_true rfl) dX7_ticks_57 (fun M1 => ?_)
      refine aw_aload_n C dX7_ticks_60 rfl ?_
      refine aw_getR C (r := 15) clX7 lo_X_0 2 rfl (by decide) kf_X7_26 dX7_ticks_61 ?_
      refine aw_cVV C [] [] (m_X3_tickOnce 15 isHl_15 M1) v_X3_tickOnce km_X7_158 (by decide) (hl_o isHl_15) rfl rfl rfl (Nat.le_of_ble_eq_true rfl) dX7_ticks_64 (fun M2 => ?_)
      refine aw_iinc C (v := (1 : Int32)) [(2, .int (x2 + (1 : Int32))), (0, .ref 0), (1, .int x1)] dX7_ticks_67 rfl (by decide) (by decide) rfl ?_
      refine aw_goto C (tgt := 44) dX7_ticks_70 (by decide) ?_
      refine aw_sub [1, 2, 0] rfl ?_
      exact ih x1 (x2 + (1 : Int32)) M2
    · refine aw_aload_n C dX7_ticks_73 rfl ?_
      refine aw_getR C (r := 15) clX7 lo_X_0 2 rfl (by decide) kf_X7_26 dX7_ticks_74 ?_
      refine aw_bipush C (7 : Int32) dX7_ticks_77 (by decide) ?_
      refine aw_cVIp C [.int (7 : Int32)] [] (m_X3_setOf 15 isHl_15 M (7 : Int32)) v_X3_setOf km_X7_161 (by decide) (hl_o isHl_15) rfl rfl rfl (Nat.le_of_ble_eq_true rfl) dX7_ticks_79 (fun r3 => ?_)
      exact aw_iret C hr dX7_ticks_82
theorem m_X7_ticks   (x1 : Int32) (M : Mem) : AMet 6 yX7_ticks cX7_ticks 3 (some .int) lyX [.ref 0, .int x1] M (qI lyX) (X7_ticks x1 M) := by
  refine am_ent pn_X7 (Nat.le_of_ble_eq_true rfl) (fun E C hr => ?_)
  refine aw_lv (lv' := [(0, .ref 0), (1, .int x1)]) rfl ?_
  unfold X7_ticks
  refine aw_aload_n C dX7_ticks_0 rfl ?_
  refine aw_cVIp C [] [] (m_X7_noHall M) v_X7_noHall km_X7_149 (by decide) lo_X_0 rfl rfl rfl (Nat.le_of_ble_eq_true rfl) dX7_ticks_1 (fun r1 => ?_)
  refine aw_if_eq C (tgt := 10) dX7_ticks_4 (by decide) ?_ ?_
  · refine aw_iload_n C dX7_ticks_10 rfl ?_
    refine aw_iconst C (1 : Int32) dX7_ticks_11 (by decide) ?_
    refine aw_icmp_lt C (tgt := 21) dX7_ticks_12 (by decide) ?_ ?_
    · refine aw_ldc C kc_X7_73 dX7_ticks_21 ?_
      exact aw_iret C hr dX7_ticks_23
    · refine aw_iload_n C dX7_ticks_15 rfl ?_
      refine aw_bipush C (24 : Int32) dX7_ticks_16 (by decide) ?_
      refine aw_icmp_le C (tgt := 24) dX7_ticks_18 (by decide) ?_ ?_
      · refine aw_ldc C kc_X7_73 dX7_ticks_21 ?_
        exact aw_iret C hr dX7_ticks_23
      · refine aw_aload_n C dX7_ticks_24 rfl ?_
        refine aw_getR C (r := 15) clX7 lo_X_0 2 rfl (by decide) kf_X7_26 dX7_ticks_25 ?_
        refine aw_getI C clX3 (hl_o isHl_15) 2 rfl (by decide) kf_X7_152 dX7_ticks_28 ?_
        refine aw_iload_n C dX7_ticks_31 rfl ?_
        refine aw_iadd C dX7_ticks_32 ?_
        refine aw_sipush C (999 : Int32) dX7_ticks_33 (by decide) ?_
        refine aw_icmp_le C (tgt := 42) dX7_ticks_36 (by decide) ?_ ?_
        · refine aw_ldc C kc_X7_115 dX7_ticks_39 ?_
          exact aw_iret C hr dX7_ticks_41
        · refine aw_iconst C (0 : Int32) dX7_ticks_42 (by decide) ?_
          refine aw_istore_n C [(2, .int (0 : Int32)), (0, .ref 0), (1, .int x1)] dX7_ticks_43 (by decide) rfl ?_
          refine aw_sub [1, 2, 0] rfl ?_
          exact m_X7_ticks_44 C hr am_fuel x1 (0 : Int32) M
  · refine aw_ldc C kc_X7_148 dX7_ticks_7 ?_
    exact aw_iret C hr dX7_ticks_9
def X7_move  (x1 : Int32) (x2 : Int32) (M : Mem) : Option (Int32 × Mem) :=
  Option.bind (X3_has 15 M x1) fun r1 =>
  if r1 = 0 then
    some ((-1000001 : Int32), M)
  else
    Option.bind (X3_hasPlace 15 M x2) fun r2 =>
    if r2 = 0 then
      some ((-1000001 : Int32), M)
    else
      if am_in x1 6 = true then
        Option.bind (X3_waits 15 M x1) fun r3 =>
        if r3 = 0 then
          some ((-1000002 : Int32), M)
        else
          if (M 17 x1.toNatClampNeg) = x2 then
            some ((-1000002 : Int32), M)
          else
            Option.bind (X0_keep 15 M) fun M4 =>
            if am_in x1 6 = true then
              am_let (mset M4 17 (upd (M4 17) x1.toNatClampNeg x2)) fun M5 =>
              some (M 17 x1.toNatClampNeg, M5)
            else none
      else none
theorem m_X7_move   (x1 : Int32) (x2 : Int32) (M : Mem) : AMet 4 yX7_move cX7_move 4 (some .int) lyX [.ref 0, .int x1, .int x2] M (qI lyX) (X7_move x1 x2 M) := by
  refine am_ent pn_X7 (Nat.le_of_ble_eq_true rfl) (fun E C hr => ?_)
  refine aw_lv (lv' := [(0, .ref 0), (1, .int x1), (2, .int x2)]) rfl ?_
  unfold X7_move
  refine aw_aload_n C dX7_move_0 rfl ?_
  refine aw_getR C (r := 15) clX7 lo_X_0 2 rfl (by decide) kf_X7_26 dX7_move_1 ?_
  refine aw_iload_n C dX7_move_4 rfl ?_
  refine aw_cVIp C [.int x1] [] (m_X3_has 15 isHl_15 M x1) v_X3_has km_X7_164 (by decide) (hl_o isHl_15) rfl rfl rfl (Nat.le_of_ble_eq_true rfl) dX7_move_5 (fun r1 => ?_)
  refine aw_if_eq C (tgt := 22) dX7_move_8 (by decide) ?_ ?_
  · refine aw_ldc C kc_X7_73 dX7_move_22 ?_
    exact aw_iret C hr dX7_move_24
  · refine aw_aload_n C dX7_move_11 rfl ?_
    refine aw_getR C (r := 15) clX7 lo_X_0 2 rfl (by decide) kf_X7_26 dX7_move_12 ?_
    refine aw_iload_n C dX7_move_15 rfl ?_
    refine aw_cVIp C [.int x2] [] (m_X3_hasPlace 15 isHl_15 M x2) v_X3_hasPlace km_X7_167 (by decide) (hl_o isHl_15) rfl rfl rfl (Nat.le_of_ble_eq_true rfl) dX7_move_16 (fun r2 => ?_)
    refine aw_if_ne C (tgt := 25) dX7_move_19 (by decide) ?_ ?_
    · refine aw_ldc C kc_X7_73 dX7_move_22 ?_
      exact aw_iret C hr dX7_move_24
    · refine aw_aload_n C dX7_move_25 rfl ?_
      refine aw_getR C (r := 15) clX7 lo_X_0 2 rfl (by decide) kf_X7_26 dX7_move_26 ?_
      refine aw_getR C (r := 17) clX3 (hl_o isHl_15) 7 rfl (by decide) kf_X7_170 dX7_move_29 ?_
      refine aw_iload_n C dX7_move_32 rfl ?_
      refine aw_iald C (hl_2 isHl_15) dX7_move_33 ?_
      refine aw_istore_n C [(3, .int (M 17 x1.toNatClampNeg)), (0, .ref 0), (1, .int x1), (2, .int x2)] dX7_move_34 (by decide) rfl ?_
      refine aw_aload_n C dX7_move_35 rfl ?_
      refine aw_getR C (r := 15) clX7 lo_X_0 2 rfl (by decide) kf_X7_26 dX7_move_36 ?_
      refine aw_iload_n C dX7_move_39 rfl ?_
      refine aw_cVIp C [.int x1] [] (m_X3_waits 15 isHl_15 M x1) v_X3_waits km_X7_173 (by decide) (hl_o isHl_15) rfl rfl rfl (Nat.le_of_ble_eq_true rfl) dX7_move_40 (fun r3 => ?_)
      refine aw_if_eq C (tgt := 51) dX7_move_43 (by decide) ?_ ?_
      · refine aw_ldc C kc_X7_148 dX7_move_51 ?_
        exact aw_iret C hr dX7_move_53
      · refine aw_iload_n C dX7_move_46 rfl ?_
        refine aw_iload_n C dX7_move_47 rfl ?_
        refine aw_icmp_ne C (tgt := 54) dX7_move_48 (by decide) ?_ ?_
        · refine aw_ldc C kc_X7_148 dX7_move_51 ?_
          exact aw_iret C hr dX7_move_53
        · refine aw_aload_n C dX7_move_54 rfl ?_
          refine aw_getR C (r := 31) clX7 lo_X_0 4 rfl (by decide) kf_X7_36 dX7_move_55 ?_
          refine aw_aload_n C dX7_move_58 rfl ?_
          refine aw_getR C (r := 15) clX7 lo_X_0 2 rfl (by decide) kf_X7_26 dX7_move_59 ?_
          refine aw_cVV C [.ref 15] [] (m_X0_keep 15 isHl_15 M) v_X0_keep km_X7_155 (by decide) lo_X_31 rfl rfl rfl (Nat.le_of_ble_eq_true rfl) dX7_move_62 (fun M4 => ?_)
          refine aw_aload_n C dX7_move_65 rfl ?_
          refine aw_getR C (r := 15) clX7 lo_X_0 2 rfl (by decide) kf_X7_26 dX7_move_66 ?_
          refine aw_getR C (r := 17) clX3 (hl_o isHl_15) 7 rfl (by decide) kf_X7_170 dX7_move_69 ?_
          refine aw_iload_n C dX7_move_72 rfl ?_
          refine aw_iload_n C dX7_move_73 rfl ?_
          refine aw_iast C (hl_2 isHl_15) dX7_move_74 ?_
          refine aw_mlet (fun M5 => ?_)
          refine aw_iload_n C dX7_move_75 rfl ?_
          exact aw_iret C hr dX7_move_76
def X7_paint  (x1 : Int32) (x2 : Int32) (M : Mem) : Option (Int32 × Mem) :=
  Option.bind (X3_has 15 M x1) fun r1 =>
  if r1 = 0 then
    some ((-1000001 : Int32), M)
  else
    if x2 < 0 then
      some ((-1000001 : Int32), M)
    else
      if x2 < (4 : Int32) then
        if am_in x1 6 = true then
          Option.bind (X0_keep 15 M) fun M2 =>
          if am_in x1 6 = true then
            am_let (mset M2 20 (upd (M2 20) x1.toNatClampNeg x2)) fun M3 =>
            some (M 20 x1.toNatClampNeg, M3)
          else none
        else none
      else
        some ((-1000001 : Int32), M)
theorem m_X7_paint   (x1 : Int32) (x2 : Int32) (M : Mem) : AMet 4 yX7_paint cX7_paint 4 (some .int) lyX [.ref 0, .int x1, .int x2] M (qI lyX) (X7_paint x1 x2 M) := by
  refine am_ent pn_X7 (Nat.le_of_ble_eq_true rfl) (fun E C hr => ?_)
  refine aw_lv (lv' := [(0, .ref 0), (1, .int x1), (2, .int x2)]) rfl ?_
  unfold X7_paint
  refine aw_aload_n C dX7_paint_0 rfl ?_
  refine aw_getR C (r := 15) clX7 lo_X_0 2 rfl (by decide) kf_X7_26 dX7_paint_1 ?_
  refine aw_iload_n C dX7_paint_4 rfl ?_
  refine aw_cVIp C [.int x1] [] (m_X3_has 15 isHl_15 M x1) v_X3_has km_X7_164 (by decide) (hl_o isHl_15) rfl rfl rfl (Nat.le_of_ble_eq_true rfl) dX7_paint_5 (fun r1 => ?_)
  refine aw_if_eq C (tgt := 20) dX7_paint_8 (by decide) ?_ ?_
  · refine aw_ldc C kc_X7_73 dX7_paint_20 ?_
    exact aw_iret C hr dX7_paint_22
  · refine aw_iload_n C dX7_paint_11 rfl ?_
    refine aw_if_lt C (tgt := 20) dX7_paint_12 (by decide) ?_ ?_
    · refine aw_ldc C kc_X7_73 dX7_paint_20 ?_
      exact aw_iret C hr dX7_paint_22
    · refine aw_iload_n C dX7_paint_15 rfl ?_
      refine aw_iconst C (4 : Int32) dX7_paint_16 (by decide) ?_
      refine aw_icmp_lt C (tgt := 23) dX7_paint_17 (by decide) ?_ ?_
      · refine aw_aload_n C dX7_paint_23 rfl ?_
        refine aw_getR C (r := 15) clX7 lo_X_0 2 rfl (by decide) kf_X7_26 dX7_paint_24 ?_
        refine aw_getR C (r := 20) clX3 (hl_o isHl_15) 10 rfl (by decide) kf_X7_176 dX7_paint_27 ?_
        refine aw_iload_n C dX7_paint_30 rfl ?_
        refine aw_iald C (hl_5 isHl_15) dX7_paint_31 ?_
        refine aw_istore_n C [(3, .int (M 20 x1.toNatClampNeg)), (0, .ref 0), (1, .int x1), (2, .int x2)] dX7_paint_32 (by decide) rfl ?_
        refine aw_aload_n C dX7_paint_33 rfl ?_
        refine aw_getR C (r := 31) clX7 lo_X_0 4 rfl (by decide) kf_X7_36 dX7_paint_34 ?_
        refine aw_aload_n C dX7_paint_37 rfl ?_
        refine aw_getR C (r := 15) clX7 lo_X_0 2 rfl (by decide) kf_X7_26 dX7_paint_38 ?_
        refine aw_cVV C [.ref 15] [] (m_X0_keep 15 isHl_15 M) v_X0_keep km_X7_155 (by decide) lo_X_31 rfl rfl rfl (Nat.le_of_ble_eq_true rfl) dX7_paint_41 (fun M2 => ?_)
        refine aw_aload_n C dX7_paint_44 rfl ?_
        refine aw_getR C (r := 15) clX7 lo_X_0 2 rfl (by decide) kf_X7_26 dX7_paint_45 ?_
        refine aw_getR C (r := 20) clX3 (hl_o isHl_15) 10 rfl (by decide) kf_X7_176 dX7_paint_48 ?_
        refine aw_iload_n C dX7_paint_51 rfl ?_
        refine aw_iload_n C dX7_paint_52 rfl ?_
        refine aw_iast C (hl_5 isHl_15) dX7_paint_53 ?_
        refine aw_mlet (fun M3 => ?_)
        refine aw_iload_n C dX7_paint_54 rfl ?_
        exact aw_iret C hr dX7_paint_55
      · refine aw_ldc C kc_X7_73 dX7_paint_20 ?_
        exact aw_iret C hr dX7_paint_22
def X7_back  (x1 : Int32) (M : Mem) : Option (Int32 × Mem) :=
  Option.bind (X3_has 15 M x1) fun r1 =>
  if r1 = 0 then
    some ((-1000001 : Int32), M)
  else
    Option.bind (X3_waits 15 M x1) fun r2 =>
    if r2 = 0 then
      if am_in x1 6 = true then
        Option.bind (X0_keep 15 M) fun M3 =>
        Option.bind (X3_comeBack 15 x1 M3) fun M4 =>
        some (M 19 x1.toNatClampNeg, M4)
      else none
    else
      some ((-1000002 : Int32), M)
theorem m_X7_back   (x1 : Int32) (M : Mem) : AMet 4 yX7_back cX7_back 3 (some .int) lyX [.ref 0, .int x1] M (qI lyX) (X7_back x1 M) := by
  refine am_ent pn_X7 (Nat.le_of_ble_eq_true rfl) (fun E C hr => ?_)
  refine aw_lv (lv' := [(0, .ref 0), (1, .int x1)]) rfl ?_
  unfold X7_back
  refine aw_aload_n C dX7_back_0 rfl ?_
  refine aw_getR C (r := 15) clX7 lo_X_0 2 rfl (by decide) kf_X7_26 dX7_back_1 ?_
  refine aw_iload_n C dX7_back_4 rfl ?_
  refine aw_cVIp C [.int x1] [] (m_X3_has 15 isHl_15 M x1) v_X3_has km_X7_164 (by decide) (hl_o isHl_15) rfl rfl rfl (Nat.le_of_ble_eq_true rfl) dX7_back_5 (fun r1 => ?_)
  refine aw_if_ne C (tgt := 14) dX7_back_8 (by decide) ?_ ?_
  · refine aw_ldc C kc_X7_73 dX7_back_11 ?_
    exact aw_iret C hr dX7_back_13
  · refine aw_aload_n C dX7_back_14 rfl ?_
    refine aw_getR C (r := 15) clX7 lo_X_0 2 rfl (by decide) kf_X7_26 dX7_back_15 ?_
    refine aw_iload_n C dX7_back_18 rfl ?_
    refine aw_cVIp C [.int x1] [] (m_X3_waits 15 isHl_15 M x1) v_X3_waits km_X7_173 (by decide) (hl_o isHl_15) rfl rfl rfl (Nat.le_of_ble_eq_true rfl) dX7_back_19 (fun r2 => ?_)
    refine aw_if_eq C (tgt := 28) dX7_back_22 (by decide) ?_ ?_
    · refine aw_aload_n C dX7_back_28 rfl ?_
      refine aw_getR C (r := 15) clX7 lo_X_0 2 rfl (by decide) kf_X7_26 dX7_back_29 ?_
      refine aw_getR C (r := 19) clX3 (hl_o isHl_15) 9 rfl (by decide) kf_X7_179 dX7_back_32 ?_
      refine aw_iload_n C dX7_back_35 rfl ?_
      refine aw_iald C (hl_4 isHl_15) dX7_back_36 ?_
      refine aw_istore_n C [(2, .int (M 19 x1.toNatClampNeg)), (0, .ref 0), (1, .int x1)] dX7_back_37 (by decide) rfl ?_
      refine aw_aload_n C dX7_back_38 rfl ?_
      refine aw_getR C (r := 31) clX7 lo_X_0 4 rfl (by decide) kf_X7_36 dX7_back_39 ?_
      refine aw_aload_n C dX7_back_42 rfl ?_
      refine aw_getR C (r := 15) clX7 lo_X_0 2 rfl (by decide) kf_X7_26 dX7_back_43 ?_
      refine aw_cVV C [.ref 15] [] (m_X0_keep 15 isHl_15 M) v_X0_keep km_X7_155 (by decide) lo_X_31 rfl rfl rfl (Nat.le_of_ble_eq_true rfl) dX7_back_46 (fun M3 => ?_)
      refine aw_aload_n C dX7_back_49 rfl ?_
      refine aw_getR C (r := 15) clX7 lo_X_0 2 rfl (by decide) kf_X7_26 dX7_back_50 ?_
      refine aw_iload_n C dX7_back_53 rfl ?_
      refine aw_cVV C [.int x1] [] (m_X3_comeBack 15 isHl_15 x1 M3) v_X3_comeBack km_X7_182 (by decide) (hl_o isHl_15) rfl rfl rfl (Nat.le_of_ble_eq_true rfl) dX7_back_54 (fun M4 => ?_)
      refine aw_iload_n C dX7_back_57 rfl ?_
      exact aw_iret C hr dX7_back_58
    · refine aw_ldc C kc_X7_148 dX7_back_25 ?_
      exact aw_iret C hr dX7_back_27
def X7_turn   (M : Mem) : Option (Int32 × Mem) :=
  Option.bind (X7_noHall M) fun r1 =>
  if r1 = 0 then
    Option.bind (X0_keep 15 M) fun M2 =>
    Option.bind (X3_turnBy 15 (1 : Int32) M2) fun M3 =>
    Option.bind (X3_setOf 15 M3 (2 : Int32)) fun r4 =>
    Option.bind (J6_bitCount_0f7a4 r4) fun r5 =>
    some (r5, M3)
  else
    some ((-1000002 : Int32), M)
theorem m_X7_turn    (M : Mem) : AMet 5 yX7_turn cX7_turn 1 (some .int) lyX [.ref 0] M (qI lyX) (X7_turn M) := by
  refine am_ent pn_X7 (Nat.le_of_ble_eq_true rfl) (fun E C hr => ?_)
  refine aw_lv (lv' := [(0, .ref 0)]) rfl ?_
  unfold X7_turn
  refine aw_aload_n C dX7_turn_0 rfl ?_
  refine aw_cVIp C [] [] (m_X7_noHall M) v_X7_noHall km_X7_149 (by decide) lo_X_0 rfl rfl rfl (Nat.le_of_ble_eq_true rfl) dX7_turn_1 (fun r1 => ?_)
  refine aw_if_eq C (tgt := 10) dX7_turn_4 (by decide) ?_ ?_
  · refine aw_aload_n C dX7_turn_10 rfl ?_
    refine aw_getR C (r := 31) clX7 lo_X_0 4 rfl (by decide) kf_X7_36 dX7_turn_11 ?_
    refine aw_aload_n C dX7_turn_14 rfl ?_
    refine aw_getR C (r := 15) clX7 lo_X_0 2 rfl (by decide) kf_X7_26 dX7_turn_15 ?_
    refine aw_cVV C [.ref 15] [] (m_X0_keep 15 isHl_15 M) v_X0_keep km_X7_155 (by decide) lo_X_31 rfl rfl rfl (Nat.le_of_ble_eq_true rfl) dX7_turn_18 (fun M2 => ?_)
    refine aw_aload_n C dX7_turn_21 rfl ?_
    refine aw_getR C (r := 15) clX7 lo_X_0 2 rfl (by decide) kf_X7_26 dX7_turn_22 ?_
    refine aw_iconst C (1 : Int32) dX7_turn_25 (by decide) ?_
    refine aw_cVV C [.int (1 : Int32)] [] (m_X3_turnBy 15 isHl_15 (1 : Int32) M2) v_X3_turnBy km_X7_186 (by decide) (hl_o isHl_15) rfl rfl rfl (Nat.le_of_ble_eq_true rfl) dX7_turn_26 (fun M3 => ?_)
    refine aw_aload_n C dX7_turn_29 rfl ?_
    refine aw_getR C (r := 15) clX7 lo_X_0 2 rfl (by decide) kf_X7_26 dX7_turn_30 ?_
    refine aw_iconst C (2 : Int32) dX7_turn_33 (by decide) ?_
    refine aw_cVIp C [.int (2 : Int32)] [] (m_X3_setOf 15 isHl_15 M3 (2 : Int32)) v_X3_setOf km_X7_161 (by decide) (hl_o isHl_15) rfl rfl rfl (Nat.le_of_ble_eq_true rfl) dX7_turn_34 (fun r4 => ?_)
    refine aw_cSIp C [.int r4] [] (m_J6_bitCount_0f7a4 M3 r4) t_J6_bitCount_0f7a4 km_X7_189 (by decide) rfl rfl (Nat.le_of_ble_eq_true rfl) dX7_turn_37 (fun r5 => ?_)
    exact aw_iret C hr dX7_turn_40
  · refine aw_ldc C kc_X7_148 dX7_turn_7 ?_
    exact aw_iret C hr dX7_turn_9
def X7_traveller (M : Mem) (x1 : Int32) (x2 : Int32)  : Option (Int32) :=
  Option.bind (X3_has 15 M x1) fun r1 =>
  if r1 = 0 then
    some (-1000001 : Int32)
  else
    if x2 = (0 : Int32) then
      if am_in x1 6 = true then
        some (M 17 x1.toNatClampNeg)
      else none
    else
    if x2 = (1 : Int32) then
      Option.bind (X3_waits 15 M x1) fun r3 =>
      if r3 = 0 then
        some (0 : Int32)
      else
        some (1 : Int32)
    else
    if x2 = (2 : Int32) then
      if am_in x1 6 = true then
        some (M 19 x1.toNatClampNeg)
      else none
    else
    if x2 = (3 : Int32) then
      if am_in x1 6 = true then
        some (M 18 x1.toNatClampNeg)
      else none
    else
    if x2 = (4 : Int32) then
      Option.bind (X3_isWrong 15 M x1) fun r7 =>
      if r7 = 0 then
        some (0 : Int32)
      else
        some (1 : Int32)
    else
    if x2 = (5 : Int32) then
      Option.bind (X3_isRobbed 15 M x1) fun r9 =>
      if r9 = 0 then
        some (0 : Int32)
      else
        some (1 : Int32)
    else
    some (-1000001 : Int32)
theorem m_X7_traveller  (M : Mem) (x1 : Int32) (x2 : Int32)  : AMet 3 yX7_traveller cX7_traveller 3 (some .int) lyX [.ref 0, .int x1, .int x2] M (qIp lyX M) (X7_traveller M x1 x2) := by
  refine am_ent pn_X7 (Nat.le_of_ble_eq_true rfl) (fun E C hr => ?_)
  refine aw_lv (lv' := [(0, .ref 0), (1, .int x1), (2, .int x2)]) rfl ?_
  unfold X7_traveller
  refine aw_aload_n C dX7_traveller_0 rfl ?_
  refine aw_getR C (r := 15) clX7 lo_X_0 2 rfl (by decide) kf_X7_26 dX7_traveller_1 ?_
  refine aw_iload_n C dX7_traveller_4 rfl ?_
  refine aw_cVIp C [.int x1] [] (m_X3_has 15 isHl_15 M x1) v_X3_has km_X7_164 (by decide) (hl_o isHl_15) rfl rfl rfl (Nat.le_of_ble_eq_true rfl) dX7_traveller_5 (fun r1 => ?_)
  refine aw_if_ne C (tgt := 14) dX7_traveller_8 (by decide) ?_ ?_
  · refine aw_ldc C kc_X7_73 dX7_traveller_11 ?_
    exact aw_iretp C hr dX7_traveller_13
  · refine aw_iload_n C dX7_traveller_14 rfl ?_
    refine aw_ite (fun h2 => ?_) (fun h2 => ?_)
    · refine aw_tswIn C (tgt := 52) (0 : Int32) h2 dX7_traveller_15 (by decide) (by decide) rfl (by decide) ?_
      refine aw_aload_n C dX7_traveller_52 rfl ?_
      refine aw_getR C (r := 15) clX7 lo_X_0 2 rfl (by decide) kf_X7_26 dX7_traveller_53 ?_
      refine aw_getR C (r := 17) clX3 (hl_o isHl_15) 7 rfl (by decide) kf_X7_170 dX7_traveller_56 ?_
      refine aw_iload_n C dX7_traveller_59 rfl ?_
      refine aw_iald C (hl_2 isHl_15) dX7_traveller_60 ?_
      exact aw_iretp C hr dX7_traveller_61
    refine aw_ite (fun h4 => ?_) (fun h4 => ?_)
    · refine aw_tswIn C (tgt := 62) (1 : Int32) h4 dX7_traveller_15 (by decide) (by decide) rfl (by decide) ?_
      refine aw_aload_n C dX7_traveller_62 rfl ?_
      refine aw_getR C (r := 15) clX7 lo_X_0 2 rfl (by decide) kf_X7_26 dX7_traveller_63 ?_
      refine aw_iload_n C dX7_traveller_66 rfl ?_
      refine aw_cVIp C [.int x1] [] (m_X3_waits 15 isHl_15 M x1) v_X3_waits km_X7_173 (by decide) (hl_o isHl_15) rfl rfl rfl (Nat.le_of_ble_eq_true rfl) dX7_traveller_67 (fun r3 => ?_)
      refine aw_if_eq C (tgt := 77) dX7_traveller_70 (by decide) ?_ ?_
      · refine aw_iconst C (0 : Int32) dX7_traveller_77 (by decide) ?_
        exact aw_iretp C hr dX7_traveller_78
      · refine aw_iconst C (1 : Int32) dX7_traveller_73 (by decide) ?_
        refine aw_goto C (tgt := 78) dX7_traveller_74 (by decide) ?_
        exact aw_iretp C hr dX7_traveller_78
    refine aw_ite (fun h5 => ?_) (fun h5 => ?_)
    · refine aw_tswIn C (tgt := 79) (2 : Int32) h5 dX7_traveller_15 (by decide) (by decide) rfl (by decide) ?_
      refine aw_aload_n C dX7_traveller_79 rfl ?_
      refine aw_getR C (r := 15) clX7 lo_X_0 2 rfl (by decide) kf_X7_26 dX7_traveller_80 ?_
      refine aw_getR C (r := 19) clX3 (hl_o isHl_15) 9 rfl (by decide) kf_X7_179 dX7_traveller_83 ?_
      refine aw_iload_n C dX7_traveller_86 rfl ?_
      refine aw_iald C (hl_4 isHl_15) dX7_traveller_87 ?_
      exact aw_iretp C hr dX7_traveller_88
    refine aw_ite (fun h6 => ?_) (fun h6 => ?_)
    · refine aw_tswIn C (tgt := 89) (3 : Int32) h6 dX7_traveller_15 (by decide) (by decide) rfl (by decide) ?_
      refine aw_aload_n C dX7_traveller_89 rfl ?_
      refine aw_getR C (r := 15) clX7 lo_X_0 2 rfl (by decide) kf_X7_26 dX7_traveller_90 ?_
      refine aw_getR C (r := 18) clX3 (hl_o isHl_15) 8 rfl (by decide) kf_X7_194 dX7_traveller_93 ?_
      refine aw_iload_n C dX7_traveller_96 rfl ?_
      refine aw_iald C (hl_3 isHl_15) dX7_traveller_97 ?_
      exact aw_iretp C hr dX7_traveller_98
    refine aw_ite (fun h8 => ?_) (fun h8 => ?_)
    · refine aw_tswIn C (tgt := 99) (4 : Int32) h8 dX7_traveller_15 (by decide) (by decide) rfl (by decide) ?_
      refine aw_aload_n C dX7_traveller_99 rfl ?_
      refine aw_getR C (r := 15) clX7 lo_X_0 2 rfl (by decide) kf_X7_26 dX7_traveller_100 ?_
      refine aw_iload_n C dX7_traveller_103 rfl ?_
      refine aw_cVIp C [.int x1] [] (m_X3_isWrong 15 isHl_15 M x1) v_X3_isWrong km_X7_197 (by decide) (hl_o isHl_15) rfl rfl rfl (Nat.le_of_ble_eq_true rfl) dX7_traveller_104 (fun r7 => ?_)
      refine aw_if_eq C (tgt := 114) dX7_traveller_107 (by decide) ?_ ?_
      · refine aw_iconst C (0 : Int32) dX7_traveller_114 (by decide) ?_
        exact aw_iretp C hr dX7_traveller_115
      · refine aw_iconst C (1 : Int32) dX7_traveller_110 (by decide) ?_
        refine aw_goto C (tgt := 115) dX7_traveller_111 (by decide) ?_
        exact aw_iretp C hr dX7_traveller_115
    refine aw_ite (fun h10 => ?_) (fun h10 => ?_)
    · refine aw_tswIn C (tgt := 116) (5 : Int32) h10 dX7_traveller_15 (by decide) (by decide) rfl (by decide) ?_
      refine aw_aload_n C dX7_traveller_116 rfl ?_
      refine aw_getR C (r := 15) clX7 lo_X_0 2 rfl (by decide) kf_X7_26 dX7_traveller_117 ?_
      refine aw_iload_n C dX7_traveller_120 rfl ?_
      refine aw_cVIp C [.int x1] [] (m_X3_isRobbed 15 isHl_15 M x1) v_X3_isRobbed km_X7_200 (by decide) (hl_o isHl_15) rfl rfl rfl (Nat.le_of_ble_eq_true rfl) dX7_traveller_121 (fun r9 => ?_)
      refine aw_if_eq C (tgt := 131) dX7_traveller_124 (by decide) ?_ ?_
      · refine aw_iconst C (0 : Int32) dX7_traveller_131 (by decide) ?_
        exact aw_iretp C hr dX7_traveller_132
      · refine aw_iconst C (1 : Int32) dX7_traveller_127 (by decide) ?_
        refine aw_goto C (tgt := 132) dX7_traveller_128 (by decide) ?_
        exact aw_iretp C hr dX7_traveller_132
    have q_h2 := lv_neT h2 (a := 0) (by decide)
    have q_h4 := lv_neT h4 (a := 1) (by decide)
    have q_h5 := lv_neT h5 (a := 2) (by decide)
    have q_h6 := lv_neT h6 (a := 3) (by decide)
    have q_h8 := lv_neT h8 (a := 4) (by decide)
    have q_h10 := lv_neT h10 (a := 5) (by decide)
    refine aw_tswOut C (tgt := 133) dX7_traveller_15 (by omega) (by decide) ?_
    refine aw_ldc C kc_X7_73 dX7_traveller_133 ?_
    exact aw_iretp C hr dX7_traveller_135
def X7_bag (M : Mem) (x1 : Int32) (x2 : Int32)  : Option (Int32) :=
  Option.bind (X3_has 15 M x1) fun r1 =>
  if r1 = 0 then
    some (-1000001 : Int32)
  else
    if x2 = (0 : Int32) then
      if am_in x1 6 = true then
        some (M 20 x1.toNatClampNeg)
      else none
    else
    if x2 = (1 : Int32) then
      Option.bind (X3_whereIs 15 M x1) fun r3 =>
      some r3
    else
    some (-1000001 : Int32)
theorem m_X7_bag  (M : Mem) (x1 : Int32) (x2 : Int32)  : AMet 3 yX7_bag cX7_bag 3 (some .int) lyX [.ref 0, .int x1, .int x2] M (qIp lyX M) (X7_bag M x1 x2) := by
  refine am_ent pn_X7 (Nat.le_of_ble_eq_true rfl) (fun E C hr => ?_)
  refine aw_lv (lv' := [(0, .ref 0), (1, .int x1), (2, .int x2)]) rfl ?_
  unfold X7_bag
  refine aw_aload_n C dX7_bag_0 rfl ?_
  refine aw_getR C (r := 15) clX7 lo_X_0 2 rfl (by decide) kf_X7_26 dX7_bag_1 ?_
  refine aw_iload_n C dX7_bag_4 rfl ?_
  refine aw_cVIp C [.int x1] [] (m_X3_has 15 isHl_15 M x1) v_X3_has km_X7_164 (by decide) (hl_o isHl_15) rfl rfl rfl (Nat.le_of_ble_eq_true rfl) dX7_bag_5 (fun r1 => ?_)
  refine aw_if_ne C (tgt := 14) dX7_bag_8 (by decide) ?_ ?_
  · refine aw_ldc C kc_X7_73 dX7_bag_11 ?_
    exact aw_iretp C hr dX7_bag_13
  · refine aw_iload_n C dX7_bag_14 rfl ?_
    refine aw_ite (fun h2 => ?_) (fun h2 => ?_)
    · refine aw_lsw C (off := 25) (tgt := 40) dX7_bag_15 (by decide) (by rw [h2]; try decide) (by decide) ?_
      refine aw_aload_n C dX7_bag_40 rfl ?_
      refine aw_getR C (r := 15) clX7 lo_X_0 2 rfl (by decide) kf_X7_26 dX7_bag_41 ?_
      refine aw_getR C (r := 20) clX3 (hl_o isHl_15) 10 rfl (by decide) kf_X7_176 dX7_bag_44 ?_
      refine aw_iload_n C dX7_bag_47 rfl ?_
      refine aw_iald C (hl_5 isHl_15) dX7_bag_48 ?_
      exact aw_iretp C hr dX7_bag_49
    refine aw_ite (fun h4 => ?_) (fun h4 => ?_)
    · refine aw_lsw C (off := 35) (tgt := 50) dX7_bag_15 (by decide) (by rw [h4]; try decide) (by decide) ?_
      refine aw_aload_n C dX7_bag_50 rfl ?_
      refine aw_getR C (r := 15) clX7 lo_X_0 2 rfl (by decide) kf_X7_26 dX7_bag_51 ?_
      refine aw_iload_n C dX7_bag_54 rfl ?_
      refine aw_cVIp C [.int x1] [] (m_X3_whereIs 15 isHl_15 M x1) v_X3_whereIs km_X7_203 (by decide) (hl_o isHl_15) rfl rfl rfl (Nat.le_of_ble_eq_true rfl) dX7_bag_55 (fun r3 => ?_)
      exact aw_iretp C hr dX7_bag_58
    refine aw_lsw C (off := 44) (tgt := 59) dX7_bag_15 (by decide) (by rw [lv_osw h2 (by decide), lv_osw h4 (by decide)]; try rfl) (by decide) ?_
    refine aw_ldc C kc_X7_73 dX7_bag_59 ?_
    exact aw_iretp C hr dX7_bag_61
def X7_stand (M : Mem) (x1 : Int32)  : Option (Int32) :=
  Option.bind (X7_noHall M) fun r1 =>
  if r1 = 0 then
    if x1 < 0 then
      some (-1000001 : Int32)
    else
      if (6 : Int32) < x1 then
        some (-1000001 : Int32)
      else
        if x1 = 0 then
          some (M 15 0)
        else
          Option.bind (X3_setOf 15 M x1) fun r2 =>
          some r2
  else
    some (-1000002 : Int32)
theorem m_X7_stand  (M : Mem) (x1 : Int32)  : AMet 5 yX7_stand cX7_stand 2 (some .int) lyX [.ref 0, .int x1] M (qIp lyX M) (X7_stand M x1) := by
  refine am_ent pn_X7 (Nat.le_of_ble_eq_true rfl) (fun E C hr => ?_)
  refine aw_lv (lv' := [(0, .ref 0), (1, .int x1)]) rfl ?_
  unfold X7_stand
  refine aw_aload_n C dX7_stand_0 rfl ?_
  refine aw_cVIp C [] [] (m_X7_noHall M) v_X7_noHall km_X7_149 (by decide) lo_X_0 rfl rfl rfl (Nat.le_of_ble_eq_true rfl) dX7_stand_1 (fun r1 => ?_)
  refine aw_if_eq C (tgt := 10) dX7_stand_4 (by decide) ?_ ?_
  · refine aw_iload_n C dX7_stand_10 rfl ?_
    refine aw_if_lt C (tgt := 20) dX7_stand_11 (by decide) ?_ ?_
    · refine aw_ldc C kc_X7_73 dX7_stand_20 ?_
      exact aw_iretp C hr dX7_stand_22
    · refine aw_iload_n C dX7_stand_14 rfl ?_
      refine aw_bipush C (6 : Int32) dX7_stand_15 (by decide) ?_
      refine aw_icmp_le C (tgt := 23) dX7_stand_17 (by decide) ?_ ?_
      · refine aw_ldc C kc_X7_73 dX7_stand_20 ?_
        exact aw_iretp C hr dX7_stand_22
      · refine aw_iload_n C dX7_stand_23 rfl ?_
        refine aw_if_ne C (tgt := 37) dX7_stand_24 (by decide) ?_ ?_
        · refine aw_aload_n C dX7_stand_27 rfl ?_
          refine aw_getR C (r := 15) clX7 lo_X_0 2 rfl (by decide) kf_X7_26 dX7_stand_28 ?_
          refine aw_getI C clX3 (hl_o isHl_15) 0 rfl (by decide) kf_X7_206 dX7_stand_31 ?_
          refine aw_goto C (tgt := 45) dX7_stand_34 (by decide) ?_
          exact aw_iretp C hr dX7_stand_45
        · refine aw_aload_n C dX7_stand_37 rfl ?_
          refine aw_getR C (r := 15) clX7 lo_X_0 2 rfl (by decide) kf_X7_26 dX7_stand_38 ?_
          refine aw_iload_n C dX7_stand_41 rfl ?_
          refine aw_cVIp C [.int x1] [] (m_X3_setOf 15 isHl_15 M x1) v_X3_setOf km_X7_161 (by decide) (hl_o isHl_15) rfl rfl rfl (Nat.le_of_ble_eq_true rfl) dX7_stand_42 (fun r2 => ?_)
          exact aw_iretp C hr dX7_stand_45
  · refine aw_ldc C kc_X7_148 dX7_stand_7 ?_
    exact aw_iretp C hr dX7_stand_9
def X7_place (M : Mem) (x1 : Int32)  : Option (Int32) :=
  Option.bind (X3_hasPlace 15 M x1) fun r1 =>
  if r1 = 0 then
    some (-1000001 : Int32)
  else
    Option.bind (X3_bagAt 15 M x1) fun r2 =>
    some r2
theorem m_X7_place  (M : Mem) (x1 : Int32)  : AMet 2 yX7_place cX7_place 2 (some .int) lyX [.ref 0, .int x1] M (qIp lyX M) (X7_place M x1) := by
  refine am_ent pn_X7 (Nat.le_of_ble_eq_true rfl) (fun E C hr => ?_)
  refine aw_lv (lv' := [(0, .ref 0), (1, .int x1)]) rfl ?_
  unfold X7_place
  refine aw_aload_n C dX7_place_0 rfl ?_
  refine aw_getR C (r := 15) clX7 lo_X_0 2 rfl (by decide) kf_X7_26 dX7_place_1 ?_
  refine aw_iload_n C dX7_place_4 rfl ?_
  refine aw_cVIp C [.int x1] [] (m_X3_hasPlace 15 isHl_15 M x1) v_X3_hasPlace km_X7_167 (by decide) (hl_o isHl_15) rfl rfl rfl (Nat.le_of_ble_eq_true rfl) dX7_place_5 (fun r1 => ?_)
  refine aw_if_eq C (tgt := 22) dX7_place_8 (by decide) ?_ ?_
  · refine aw_ldc C kc_X7_73 dX7_place_22 ?_
    exact aw_iretp C hr dX7_place_24
  · refine aw_aload_n C dX7_place_11 rfl ?_
    refine aw_getR C (r := 15) clX7 lo_X_0 2 rfl (by decide) kf_X7_26 dX7_place_12 ?_
    refine aw_iload_n C dX7_place_15 rfl ?_
    refine aw_cVIp C [.int x1] [] (m_X3_bagAt 15 isHl_15 M x1) v_X3_bagAt km_X7_209 (by decide) (hl_o isHl_15) rfl rfl rfl (Nat.le_of_ble_eq_true rfl) dX7_place_16 (fun r2 => ?_)
    refine aw_goto C (tgt := 24) dX7_place_19 (by decide) ?_
    exact aw_iretp C hr dX7_place_24
def X7_ahead  (x1 : Int32) (x2 : Int32) (M : Mem) : Option (Int32 × Mem) :=
  Option.bind (X3_has 15 M x1) fun r1 =>
  if r1 = 0 then
    some ((-1000001 : Int32), M)
  else
    if x2 < 0 then
      some ((-1000001 : Int32), M)
    else
      if (60 : Int32) < x2 then
        some ((-1000001 : Int32), M)
      else
        Option.bind (X2_behind x2 M) fun u2 =>
        if u2.1 = 23 then
          Option.bind (X3_whereIs 23 u2.2 x1) fun r4 =>
          some (r4, u2.2)
        else none
theorem m_X7_ahead   (x1 : Int32) (x2 : Int32) (M : Mem) : AMet 8 yX7_ahead cX7_ahead 3 (some .int) lyX [.ref 0, .int x1, .int x2] M (qI lyX) (X7_ahead x1 x2 M) := by
  refine am_ent pn_X7 (Nat.le_of_ble_eq_true rfl) (fun E C hr => ?_)
  refine aw_lv (lv' := [(0, .ref 0), (1, .int x1), (2, .int x2)]) rfl ?_
  unfold X7_ahead
  refine aw_aload_n C dX7_ahead_0 rfl ?_
  refine aw_getR C (r := 15) clX7 lo_X_0 2 rfl (by decide) kf_X7_26 dX7_ahead_1 ?_
  refine aw_iload_n C dX7_ahead_4 rfl ?_
  refine aw_cVIp C [.int x1] [] (m_X3_has 15 isHl_15 M x1) v_X3_has km_X7_164 (by decide) (hl_o isHl_15) rfl rfl rfl (Nat.le_of_ble_eq_true rfl) dX7_ahead_5 (fun r1 => ?_)
  refine aw_if_eq C (tgt := 21) dX7_ahead_8 (by decide) ?_ ?_
  · refine aw_ldc C kc_X7_73 dX7_ahead_21 ?_
    exact aw_iret C hr dX7_ahead_23
  · refine aw_iload_n C dX7_ahead_11 rfl ?_
    refine aw_if_lt C (tgt := 21) dX7_ahead_12 (by decide) ?_ ?_
    · refine aw_ldc C kc_X7_73 dX7_ahead_21 ?_
      exact aw_iret C hr dX7_ahead_23
    · refine aw_iload_n C dX7_ahead_15 rfl ?_
      refine aw_bipush C (60 : Int32) dX7_ahead_16 (by decide) ?_
      refine aw_icmp_le C (tgt := 24) dX7_ahead_18 (by decide) ?_ ?_
      · refine aw_ldc C kc_X7_73 dX7_ahead_21 ?_
        exact aw_iret C hr dX7_ahead_23
      · refine aw_aload_n C dX7_ahead_24 rfl ?_
        refine aw_getR C (r := 33) clX7 lo_X_0 5 rfl (by decide) kf_X7_45 dX7_ahead_25 ?_
        refine aw_iload_n C dX7_ahead_28 rfl ?_
        refine aw_cVR C [.int x2] [] (m_X2_behind x2 M) v_X2_behind km_X7_212 (by decide) lo_X_33 rfl rfl rfl (Nat.le_of_ble_eq_true rfl) dX7_ahead_29 (fun u2 => ?_)
        refine aw_ite (fun h3 => ?_) (fun _ => aw_none)
        refine aw_st (st' := [.ref 23]) (by rw [h3]) ?_
        refine aw_iload_n C dX7_ahead_32 rfl ?_
        refine aw_cVIp C [.int x1] [] (m_X3_whereIs 23 isHl_23 u2.2 x1) v_X3_whereIs km_X7_203 (by decide) (hl_o isHl_23) rfl rfl rfl (Nat.le_of_ble_eq_true rfl) dX7_ahead_33 (fun r4 => ?_)
        exact aw_iret C hr dX7_ahead_36
def X7_isChoice  (x0 : Int32) (x1 : Int32)  : Option (Int32) :=
  if x0 < 0 then
    some (0 : Int32)
  else
    if x0 < x1 then
      some (1 : Int32)
    else
      some (0 : Int32)
theorem m_X7_isChoice  (M : Mem) (x0 : Int32) (x1 : Int32)  : AMet 1 yX7_isChoice cX7_isChoice 2 (some .boolean) lyX [.int x0, .int x1] M (qIp lyX M) (X7_isChoice x0 x1) := by
  refine am_ent pn_X7 (Nat.le_of_ble_eq_true rfl) (fun E C hr => ?_)
  refine aw_lv (lv' := [(0, .int x0), (1, .int x1)]) rfl ?_
  unfold X7_isChoice
  refine aw_iload_n C dX7_isChoice_0 rfl ?_
  refine aw_if_lt C (tgt := 13) dX7_isChoice_1 (by decide) ?_ ?_
  · refine aw_iconst C (0 : Int32) dX7_isChoice_13 (by decide) ?_
    exact aw_zretp C (Or.inl rfl) hr dX7_isChoice_14
  · refine aw_iload_n C dX7_isChoice_4 rfl ?_
    refine aw_iload_n C dX7_isChoice_5 rfl ?_
    refine aw_icmp_ge C (tgt := 13) dX7_isChoice_6 (by decide) ?_ ?_
    · refine aw_iconst C (1 : Int32) dX7_isChoice_9 (by decide) ?_
      refine aw_goto C (tgt := 14) dX7_isChoice_10 (by decide) ?_
      exact aw_zretp C (Or.inr rfl) hr dX7_isChoice_14
    · refine aw_iconst C (0 : Int32) dX7_isChoice_13 (by decide) ?_
      exact aw_zretp C (Or.inl rfl) hr dX7_isChoice_14
def X7_with  (x1 : Int32) (x2 : Int32) (x3 : Int32) (M : Mem) : Option (Int32 × Mem) :=
  Option.bind (X3_has 15 M x1) fun r1 =>
  if r1 = 0 then
    some ((-1000001 : Int32), M)
  else
    if x2 < 0 then
      some ((-1000001 : Int32), M)
    else
      if (60 : Int32) < x2 then
        some ((-1000001 : Int32), M)
      else
        Option.bind (X7_isChoice x3 (2 : Int32)) fun r2 =>
        if r2 = 0 then
          some ((-1000001 : Int32), M)
        else
          Option.bind (X2_behind x2 M) fun u3 =>
          if u3.1 = 23 then
            if x3 = 0 then
              if am_in x1 6 = true then
                some (u3.2 27 x1.toNatClampNeg, u3.2)
              else none
            else
              if am_in x1 6 = true then
                some (u3.2 26 x1.toNatClampNeg, u3.2)
              else none
          else none
theorem m_X7_with   (x1 : Int32) (x2 : Int32) (x3 : Int32) (M : Mem) : AMet 8 yX7_with cX7_with 5 (some .int) lyX [.ref 0, .int x1, .int x2, .int x3] M (qI lyX) (X7_with x1 x2 x3 M) := by
  refine am_ent pn_X7 (Nat.le_of_ble_eq_true rfl) (fun E C hr => ?_)
  refine aw_lv (lv' := [(0, .ref 0), (1, .int x1), (2, .int x2), (3, .int x3)]) rfl ?_
  unfold X7_with
  refine aw_aload_n C dX7_with_0 rfl ?_
  refine aw_getR C (r := 15) clX7 lo_X_0 2 rfl (by decide) kf_X7_26 dX7_with_1 ?_
  refine aw_iload_n C dX7_with_4 rfl ?_
  refine aw_cVIp C [.int x1] [] (m_X3_has 15 isHl_15 M x1) v_X3_has km_X7_164 (by decide) (hl_o isHl_15) rfl rfl rfl (Nat.le_of_ble_eq_true rfl) dX7_with_5 (fun r1 => ?_)
  refine aw_if_eq C (tgt := 29) dX7_with_8 (by decide) ?_ ?_
  · refine aw_ldc C kc_X7_73 dX7_with_29 ?_
    exact aw_iret C hr dX7_with_31
  · refine aw_iload_n C dX7_with_11 rfl ?_
    refine aw_if_lt C (tgt := 29) dX7_with_12 (by decide) ?_ ?_
    · refine aw_ldc C kc_X7_73 dX7_with_29 ?_
      exact aw_iret C hr dX7_with_31
    · refine aw_iload_n C dX7_with_15 rfl ?_
      refine aw_bipush C (60 : Int32) dX7_with_16 (by decide) ?_
      refine aw_icmp_gt C (tgt := 29) dX7_with_18 (by decide) ?_ ?_
      · refine aw_ldc C kc_X7_73 dX7_with_29 ?_
        exact aw_iret C hr dX7_with_31
      · refine aw_iload_n C dX7_with_21 rfl ?_
        refine aw_iconst C (2 : Int32) dX7_with_22 (by decide) ?_
        refine aw_cSIp C [.int x3, .int (2 : Int32)] [] (m_X7_isChoice M x3 (2 : Int32)) t_X7_isChoice km_X7_216 (by decide) rfl rfl (Nat.le_of_ble_eq_true rfl) dX7_with_23 (fun r2 => ?_)
        refine aw_if_ne C (tgt := 32) dX7_with_26 (by decide) ?_ ?_
        · refine aw_ldc C kc_X7_73 dX7_with_29 ?_
          exact aw_iret C hr dX7_with_31
        · refine aw_aload_n C dX7_with_32 rfl ?_
          refine aw_getR C (r := 33) clX7 lo_X_0 5 rfl (by decide) kf_X7_45 dX7_with_33 ?_
          refine aw_iload_n C dX7_with_36 rfl ?_
          refine aw_cVR C [.int x2] [] (m_X2_behind x2 M) v_X2_behind km_X7_212 (by decide) lo_X_33 rfl rfl rfl (Nat.le_of_ble_eq_true rfl) dX7_with_37 (fun u3 => ?_)
          refine aw_ite (fun h4 => ?_) (fun _ => aw_none)
          refine aw_st (st' := [.ref 23]) (by rw [h4]) ?_
          refine aw_astore C [(4, .ref 23), (0, .ref 0), (1, .int x1), (2, .int x2), (3, .int x3)] dX7_with_40 (by decide) rfl ?_
          refine aw_iload_n C dX7_with_42 rfl ?_
          refine aw_if_ne C (tgt := 56) dX7_with_43 (by decide) ?_ ?_
          · refine aw_aload C dX7_with_46 rfl ?_
            refine aw_getR C (r := 27) clX3 (hl_o isHl_23) 9 rfl (by decide) kf_X7_179 dX7_with_48 ?_
            refine aw_iload_n C dX7_with_51 rfl ?_
            refine aw_iald C (hl_4 isHl_23) dX7_with_52 ?_
            refine aw_goto C (tgt := 63) dX7_with_53 (by decide) ?_
            exact aw_iret C hr dX7_with_63
          · refine aw_aload C dX7_with_56 rfl ?_
            refine aw_getR C (r := 26) clX3 (hl_o isHl_23) 8 rfl (by decide) kf_X7_194 dX7_with_58 ?_
            refine aw_iload_n C dX7_with_61 rfl ?_
            refine aw_iald C (hl_3 isHl_23) dX7_with_62 ?_
            exact aw_iret C hr dX7_with_63
def X7_all  (x1 : Int32) (x2 : Int32) (M : Mem) : Option (Int32 × Mem) :=
  Option.bind (X7_noHall M) fun r1 =>
  if r1 = 0 then
    if x1 < 0 then
      some ((-1000001 : Int32), M)
    else
      if (60 : Int32) < x1 then
        some ((-1000001 : Int32), M)
      else
        Option.bind (X7_isChoice x2 (3 : Int32)) fun r2 =>
        if r2 = 0 then
          some ((-1000001 : Int32), M)
        else
          Option.bind (X2_behind x1 M) fun u3 =>
          if u3.1 = 23 then
            if x2 = 0 then
              Option.bind (X3_setOf 23 u3.2 (7 : Int32)) fun r5 =>
              some (r5, u3.2)
            else
              if x2 = (1 : Int32) then
                Option.bind (X3_setOf 23 u3.2 (5 : Int32)) fun r6 =>
                some (r6, u3.2)
              else
                Option.bind (X3_setOf 23 u3.2 (6 : Int32)) fun r7 =>
                some (r7, u3.2)
          else none
  else
    some ((-1000002 : Int32), M)
theorem m_X7_all   (x1 : Int32) (x2 : Int32) (M : Mem) : AMet 8 yX7_all cX7_all 4 (some .int) lyX [.ref 0, .int x1, .int x2] M (qI lyX) (X7_all x1 x2 M) := by
  refine am_ent pn_X7 (Nat.le_of_ble_eq_true rfl) (fun E C hr => ?_)
  refine aw_lv (lv' := [(0, .ref 0), (1, .int x1), (2, .int x2)]) rfl ?_
  unfold X7_all
  refine aw_aload_n C dX7_all_0 rfl ?_
  refine aw_cVIp C [] [] (m_X7_noHall M) v_X7_noHall km_X7_149 (by decide) lo_X_0 rfl rfl rfl (Nat.le_of_ble_eq_true rfl) dX7_all_1 (fun r1 => ?_)
  refine aw_if_eq C (tgt := 10) dX7_all_4 (by decide) ?_ ?_
  · refine aw_iload_n C dX7_all_10 rfl ?_
    refine aw_if_lt C (tgt := 28) dX7_all_11 (by decide) ?_ ?_
    · refine aw_ldc C kc_X7_73 dX7_all_28 ?_
      exact aw_iret C hr dX7_all_30
    · refine aw_iload_n C dX7_all_14 rfl ?_
      refine aw_bipush C (60 : Int32) dX7_all_15 (by decide) ?_
      refine aw_icmp_gt C (tgt := 28) dX7_all_17 (by decide) ?_ ?_
      · refine aw_ldc C kc_X7_73 dX7_all_28 ?_
        exact aw_iret C hr dX7_all_30
      · refine aw_iload_n C dX7_all_20 rfl ?_
        refine aw_iconst C (3 : Int32) dX7_all_21 (by decide) ?_
        refine aw_cSIp C [.int x2, .int (3 : Int32)] [] (m_X7_isChoice M x2 (3 : Int32)) t_X7_isChoice km_X7_216 (by decide) rfl rfl (Nat.le_of_ble_eq_true rfl) dX7_all_22 (fun r2 => ?_)
        refine aw_if_ne C (tgt := 31) dX7_all_25 (by decide) ?_ ?_
        · refine aw_ldc C kc_X7_73 dX7_all_28 ?_
          exact aw_iret C hr dX7_all_30
        · refine aw_aload_n C dX7_all_31 rfl ?_
          refine aw_getR C (r := 33) clX7 lo_X_0 5 rfl (by decide) kf_X7_45 dX7_all_32 ?_
          refine aw_iload_n C dX7_all_35 rfl ?_
          refine aw_cVR C [.int x1] [] (m_X2_behind x1 M) v_X2_behind km_X7_212 (by decide) lo_X_33 rfl rfl rfl (Nat.le_of_ble_eq_true rfl) dX7_all_36 (fun u3 => ?_)
          refine aw_ite (fun h4 => ?_) (fun _ => aw_none)
          refine aw_st (st' := [.ref 23]) (by rw [h4]) ?_
          refine aw_astore_n C [(3, .ref 23), (0, .ref 0), (1, .int x1), (2, .int x2)] dX7_all_39 (by decide) rfl ?_
          refine aw_aload_n C dX7_all_40 rfl ?_
          refine aw_iload_n C dX7_all_41 rfl ?_
          refine aw_if_ne C (tgt := 50) dX7_all_42 (by decide) ?_ ?_
          · refine aw_bipush C (7 : Int32) dX7_all_45 (by decide) ?_
            refine aw_goto C (tgt := 61) dX7_all_47 (by decide) ?_
            refine aw_cVIp C [.int (7 : Int32)] [] (m_X3_setOf 23 isHl_23 u3.2 (7 : Int32)) v_X3_setOf km_X7_161 (by decide) (hl_o isHl_23) rfl rfl rfl (Nat.le_of_ble_eq_true rfl) dX7_all_61 (fun r5 => ?_)
            exact aw_iret C hr dX7_all_64
          · refine aw_iload_n C dX7_all_50 rfl ?_
            refine aw_iconst C (1 : Int32) dX7_all_51 (by decide) ?_
            refine aw_icmp_ne C (tgt := 59) dX7_all_52 (by decide) ?_ ?_
            · refine aw_iconst C (5 : Int32) dX7_all_55 (by decide) ?_
              refine aw_goto C (tgt := 61) dX7_all_56 (by decide) ?_
              refine aw_cVIp C [.int (5 : Int32)] [] (m_X3_setOf 23 isHl_23 u3.2 (5 : Int32)) v_X3_setOf km_X7_161 (by decide) (hl_o isHl_23) rfl rfl rfl (Nat.le_of_ble_eq_true rfl) dX7_all_61 (fun r6 => ?_)
              exact aw_iret C hr dX7_all_64
            · refine aw_bipush C (6 : Int32) dX7_all_59 (by decide) ?_
              refine aw_cVIp C [.int (6 : Int32)] [] (m_X3_setOf 23 isHl_23 u3.2 (6 : Int32)) v_X3_setOf km_X7_161 (by decide) (hl_o isHl_23) rfl rfl rfl (Nat.le_of_ble_eq_true rfl) dX7_all_61 (fun r7 => ?_)
              exact aw_iret C hr dX7_all_64
  · refine aw_ldc C kc_X7_148 dX7_all_7 ?_
    exact aw_iret C hr dX7_all_9
def X7_when  (x1 : Int32) (M : Mem) : Option (Int32 × Mem) :=
  Option.bind (X3_has 15 M x1) fun r1 =>
  if r1 = 0 then
    some ((-1000001 : Int32), M)
  else
    Option.bind (X2_whenGone x1 M) fun u2 =>
    some (u2.1, u2.2)
theorem m_X7_when   (x1 : Int32) (M : Mem) : AMet 7 yX7_when cX7_when 2 (some .int) lyX [.ref 0, .int x1] M (qI lyX) (X7_when x1 M) := by
  refine am_ent pn_X7 (Nat.le_of_ble_eq_true rfl) (fun E C hr => ?_)
  refine aw_lv (lv' := [(0, .ref 0), (1, .int x1)]) rfl ?_
  unfold X7_when
  refine aw_aload_n C dX7_when_0 rfl ?_
  refine aw_getR C (r := 15) clX7 lo_X_0 2 rfl (by decide) kf_X7_26 dX7_when_1 ?_
  refine aw_iload_n C dX7_when_4 rfl ?_
  refine aw_cVIp C [.int x1] [] (m_X3_has 15 isHl_15 M x1) v_X3_has km_X7_164 (by decide) (hl_o isHl_15) rfl rfl rfl (Nat.le_of_ble_eq_true rfl) dX7_when_5 (fun r1 => ?_)
  refine aw_if_eq C (tgt := 22) dX7_when_8 (by decide) ?_ ?_
  · refine aw_ldc C kc_X7_73 dX7_when_22 ?_
    exact aw_iret C hr dX7_when_24
  · refine aw_aload_n C dX7_when_11 rfl ?_
    refine aw_getR C (r := 33) clX7 lo_X_0 5 rfl (by decide) kf_X7_45 dX7_when_12 ?_
    refine aw_iload_n C dX7_when_15 rfl ?_
    refine aw_cVI C [.int x1] [] (m_X2_whenGone x1 M) v_X2_whenGone km_X7_220 (by decide) lo_X_33 rfl rfl rfl (Nat.le_of_ble_eq_true rfl) dX7_when_16 (fun u2 => ?_)
    refine aw_goto C (tgt := 24) dX7_when_19 (by decide) ?_
    exact aw_iret C hr dX7_when_24
def X7_empty   (M : Mem) : Option (Int32 × Mem) :=
  Option.bind (X7_noHall M) fun r1 =>
  if r1 = 0 then
    Option.bind (X2_whenEmpty M) fun u2 =>
    some (u2.1, u2.2)
  else
    some ((-1000002 : Int32), M)
theorem m_X7_empty    (M : Mem) : AMet 7 yX7_empty cX7_empty 1 (some .int) lyX [.ref 0] M (qI lyX) (X7_empty M) := by
  refine am_ent pn_X7 (Nat.le_of_ble_eq_true rfl) (fun E C hr => ?_)
  refine aw_lv (lv' := [(0, .ref 0)]) rfl ?_
  unfold X7_empty
  refine aw_aload_n C dX7_empty_0 rfl ?_
  refine aw_cVIp C [] [] (m_X7_noHall M) v_X7_noHall km_X7_149 (by decide) lo_X_0 rfl rfl rfl (Nat.le_of_ble_eq_true rfl) dX7_empty_1 (fun r1 => ?_)
  refine aw_if_eq C (tgt := 12) dX7_empty_4 (by decide) ?_ ?_
  · refine aw_aload_n C dX7_empty_12 rfl ?_
    refine aw_getR C (r := 33) clX7 lo_X_0 5 rfl (by decide) kf_X7_45 dX7_empty_13 ?_
    refine aw_cVI C [] [] (m_X2_whenEmpty M) v_X2_whenEmpty km_X7_223 (by decide) lo_X_33 rfl rfl rfl (Nat.le_of_ble_eq_true rfl) dX7_empty_16 (fun u2 => ?_)
    exact aw_iret C hr dX7_empty_19
  · refine aw_ldc C kc_X7_148 dX7_empty_7 ?_
    refine aw_goto C (tgt := 19) dX7_empty_9 (by decide) ?_
    exact aw_iret C hr dX7_empty_19
def X7_best  (x1 : Int32) (x2 : Int32) (x3 : Int32) (M : Mem) : Option (Int32 × Mem) :=
  Option.bind (X3_has 15 M x1) fun r1 =>
  if r1 = 0 then
    some ((-1000001 : Int32), M)
  else
    if x2 < (1 : Int32) then
      some ((-1000001 : Int32), M)
    else
      if (60 : Int32) < x2 then
        some ((-1000001 : Int32), M)
      else
        Option.bind (X7_isChoice x3 (2 : Int32)) fun r2 =>
        if r2 = 0 then
          some ((-1000001 : Int32), M)
        else
          Option.bind (X3_waits 15 M x1) fun r3 =>
          if r3 = 0 then
            some ((-1000002 : Int32), M)
          else
            Option.bind (X2_bestStand x1 x2 x3 M) fun u4 =>
            some (u4.1, u4.2)
theorem m_X7_best   (x1 : Int32) (x2 : Int32) (x3 : Int32) (M : Mem) : AMet 8 yX7_best cX7_best 4 (some .int) lyX [.ref 0, .int x1, .int x2, .int x3] M (qI lyX) (X7_best x1 x2 x3 M) := by
  refine am_ent pn_X7 (Nat.le_of_ble_eq_true rfl) (fun E C hr => ?_)
  refine aw_lv (lv' := [(0, .ref 0), (1, .int x1), (2, .int x2), (3, .int x3)]) rfl ?_
  unfold X7_best
  refine aw_aload_n C dX7_best_0 rfl ?_
  refine aw_getR C (r := 15) clX7 lo_X_0 2 rfl (by decide) kf_X7_26 dX7_best_1 ?_
  refine aw_iload_n C dX7_best_4 rfl ?_
  refine aw_cVIp C [.int x1] [] (m_X3_has 15 isHl_15 M x1) v_X3_has km_X7_164 (by decide) (hl_o isHl_15) rfl rfl rfl (Nat.le_of_ble_eq_true rfl) dX7_best_5 (fun r1 => ?_)
  refine aw_if_eq C (tgt := 30) dX7_best_8 (by decide) ?_ ?_
  · refine aw_ldc C kc_X7_73 dX7_best_30 ?_
    exact aw_iret C hr dX7_best_32
  · refine aw_iload_n C dX7_best_11 rfl ?_
    refine aw_iconst C (1 : Int32) dX7_best_12 (by decide) ?_
    refine aw_icmp_lt C (tgt := 30) dX7_best_13 (by decide) ?_ ?_
    · refine aw_ldc C kc_X7_73 dX7_best_30 ?_
      exact aw_iret C hr dX7_best_32
    · refine aw_iload_n C dX7_best_16 rfl ?_
      refine aw_bipush C (60 : Int32) dX7_best_17 (by decide) ?_
      refine aw_icmp_gt C (tgt := 30) dX7_best_19 (by decide) ?_ ?_
      · refine aw_ldc C kc_X7_73 dX7_best_30 ?_
        exact aw_iret C hr dX7_best_32
      · refine aw_iload_n C dX7_best_22 rfl ?_
        refine aw_iconst C (2 : Int32) dX7_best_23 (by decide) ?_
        refine aw_cSIp C [.int x3, .int (2 : Int32)] [] (m_X7_isChoice M x3 (2 : Int32)) t_X7_isChoice km_X7_216 (by decide) rfl rfl (Nat.le_of_ble_eq_true rfl) dX7_best_24 (fun r2 => ?_)
        refine aw_if_ne C (tgt := 33) dX7_best_27 (by decide) ?_ ?_
        · refine aw_ldc C kc_X7_73 dX7_best_30 ?_
          exact aw_iret C hr dX7_best_32
        · refine aw_aload_n C dX7_best_33 rfl ?_
          refine aw_getR C (r := 15) clX7 lo_X_0 2 rfl (by decide) kf_X7_26 dX7_best_34 ?_
          refine aw_iload_n C dX7_best_37 rfl ?_
          refine aw_cVIp C [.int x1] [] (m_X3_waits 15 isHl_15 M x1) v_X3_waits km_X7_173 (by decide) (hl_o isHl_15) rfl rfl rfl (Nat.le_of_ble_eq_true rfl) dX7_best_38 (fun r3 => ?_)
          refine aw_if_ne C (tgt := 47) dX7_best_41 (by decide) ?_ ?_
          · refine aw_ldc C kc_X7_148 dX7_best_44 ?_
            exact aw_iret C hr dX7_best_46
          · refine aw_aload_n C dX7_best_47 rfl ?_
            refine aw_getR C (r := 33) clX7 lo_X_0 5 rfl (by decide) kf_X7_45 dX7_best_48 ?_
            refine aw_iload_n C dX7_best_51 rfl ?_
            refine aw_iload_n C dX7_best_52 rfl ?_
            refine aw_iload_n C dX7_best_53 rfl ?_
            refine aw_cVI C [.int x1, .int x2, .int x3] [] (m_X2_bestStand x1 x2 x3 M) v_X2_bestStand km_X7_226 (by decide) lo_X_33 rfl rfl rfl (Nat.le_of_ble_eq_true rfl) dX7_best_54 (fun u4 => ?_)
            exact aw_iret C hr dX7_best_57
def X7_order  (x1 : Int32) (x2 : Int32) (M : Mem) : Option (Int32 × Mem) :=
  Option.bind (X7_noHall M) fun r1 =>
  if r1 = 0 then
    if x1 < (1 : Int32) then
      some ((-1000001 : Int32), M)
    else
      if (40 : Int32) < x1 then
        some ((-1000001 : Int32), M)
      else
        if x2 < (-1 : Int32) then
          some ((-1000001 : Int32), M)
        else
          if x2 < (M 15 1) then
            Option.bind (X4_search 15 x1 M) fun M2 =>
            if x2 < 0 then
              Option.bind (X4_mostOwn M2) fun r3 =>
              some (r3, M2)
            else
              Option.bind (X4_bagInOrder 15 M2 x2) fun r4 =>
              some (r4, M2)
          else
            some ((-1000000 : Int32), M)
  else
    some ((-1000002 : Int32), M)
theorem m_X7_order   (x1 : Int32) (x2 : Int32) (M : Mem) : AMet 37 yX7_order cX7_order 3 (some .int) lyX [.ref 0, .int x1, .int x2] M (qI lyX) (X7_order x1 x2 M) := by
  refine am_ent pn_X7 (Nat.le_of_ble_eq_true rfl) (fun E C hr => ?_)
  refine aw_lv (lv' := [(0, .ref 0), (1, .int x1), (2, .int x2)]) rfl ?_
  unfold X7_order
  refine aw_aload_n C dX7_order_0 rfl ?_
  refine aw_cVIp C [] [] (m_X7_noHall M) v_X7_noHall km_X7_149 (by decide) lo_X_0 rfl rfl rfl (Nat.le_of_ble_eq_true rfl) dX7_order_1 (fun r1 => ?_)
  refine aw_if_eq C (tgt := 10) dX7_order_4 (by decide) ?_ ?_
  · refine aw_iload_n C dX7_order_10 rfl ?_
    refine aw_iconst C (1 : Int32) dX7_order_11 (by decide) ?_
    refine aw_icmp_lt C (tgt := 26) dX7_order_12 (by decide) ?_ ?_
    · refine aw_ldc C kc_X7_73 dX7_order_26 ?_
      exact aw_iret C hr dX7_order_28
    · refine aw_iload_n C dX7_order_15 rfl ?_
      refine aw_bipush C (40 : Int32) dX7_order_16 (by decide) ?_
      refine aw_icmp_gt C (tgt := 26) dX7_order_18 (by decide) ?_ ?_
      · refine aw_ldc C kc_X7_73 dX7_order_26 ?_
        exact aw_iret C hr dX7_order_28
      · refine aw_iload_n C dX7_order_21 rfl ?_
        refine aw_iconst C (-1 : Int32) dX7_order_22 (by decide) ?_
        refine aw_icmp_ge C (tgt := 29) dX7_order_23 (by decide) ?_ ?_
        · refine aw_ldc C kc_X7_73 dX7_order_26 ?_
          exact aw_iret C hr dX7_order_28
        · refine aw_iload_n C dX7_order_29 rfl ?_
          refine aw_aload_n C dX7_order_30 rfl ?_
          refine aw_getR C (r := 15) clX7 lo_X_0 2 rfl (by decide) kf_X7_26 dX7_order_31 ?_
          refine aw_getI C clX3 (hl_o isHl_15) 1 rfl (by decide) kf_X7_138 dX7_order_34 ?_
          refine aw_icmp_lt C (tgt := 43) dX7_order_37 (by decide) ?_ ?_
          · refine aw_aload_n C dX7_order_43 rfl ?_
            refine aw_getR C (r := 34) clX7 lo_X_0 6 rfl (by decide) kf_X7_54 dX7_order_44 ?_
            refine aw_aload_n C dX7_order_47 rfl ?_
            refine aw_getR C (r := 15) clX7 lo_X_0 2 rfl (by decide) kf_X7_26 dX7_order_48 ?_
            refine aw_iload_n C dX7_order_51 rfl ?_
            refine aw_cVV C [.ref 15, .int x1] [] (m_X4_search 15 isHl_15 x1 M) v_X4_search km_X7_230 (by decide) lo_X_34 rfl rfl rfl (Nat.le_of_ble_eq_true rfl) dX7_order_52 (fun M2 => ?_)
            refine aw_iload_n C dX7_order_55 rfl ?_
            refine aw_if_ge C (tgt := 69) dX7_order_56 (by decide) ?_ ?_
            · refine aw_aload_n C dX7_order_59 rfl ?_
              refine aw_getR C (r := 34) clX7 lo_X_0 6 rfl (by decide) kf_X7_54 dX7_order_60 ?_
              refine aw_cVIp C [] [] (m_X4_mostOwn M2) v_X4_mostOwn km_X7_234 (by decide) lo_X_34 rfl rfl rfl (Nat.le_of_ble_eq_true rfl) dX7_order_63 (fun r3 => ?_)
              refine aw_goto C (tgt := 81) dX7_order_66 (by decide) ?_
              exact aw_iret C hr dX7_order_81
            · refine aw_aload_n C dX7_order_69 rfl ?_
              refine aw_getR C (r := 34) clX7 lo_X_0 6 rfl (by decide) kf_X7_54 dX7_order_70 ?_
              refine aw_aload_n C dX7_order_73 rfl ?_
              refine aw_getR C (r := 15) clX7 lo_X_0 2 rfl (by decide) kf_X7_26 dX7_order_74 ?_
              refine aw_iload_n C dX7_order_77 rfl ?_
              refine aw_cVIp C [.ref 15, .int x2] [] (m_X4_bagInOrder 15 isHl_15 M2 x2) v_X4_bagInOrder km_X7_237 (by decide) lo_X_34 rfl rfl rfl (Nat.le_of_ble_eq_true rfl) dX7_order_78 (fun r4 => ?_)
              exact aw_iret C hr dX7_order_81
          · refine aw_ldc C kc_X7_229 dX7_order_40 ?_
            exact aw_iret C hr dX7_order_42
  · refine aw_ldc C kc_X7_148 dX7_order_7 ?_
    exact aw_iret C hr dX7_order_9
def X7_marks  (x1 : Int32) (x2 : Int32) (M : Mem) : Option (Int32 × Mem) :=
  Option.bind (X7_noHall M) fun r1 =>
  if r1 = 0 then
    if x1 < (1 : Int32) then
      some ((-1000001 : Int32), M)
    else
      if (40 : Int32) < x1 then
        some ((-1000001 : Int32), M)
      else
        Option.bind (X7_isChoice x2 (2 : Int32)) fun r2 =>
        if r2 = 0 then
          some ((-1000001 : Int32), M)
        else
          Option.bind (X2_fewestMarks x1 M) fun u3 =>
          if x2 = 0 then
            Option.bind (J6_bitCount_0f7a4 u3.1) fun r4 =>
            some (r4, u3.2)
          else
            some (u3.1, u3.2)
  else
    some ((-1000002 : Int32), M)
theorem m_X7_marks   (x1 : Int32) (x2 : Int32) (M : Mem) : AMet 8 yX7_marks cX7_marks 4 (some .int) lyX [.ref 0, .int x1, .int x2] M (qI lyX) (X7_marks x1 x2 M) := by
  refine am_ent pn_X7 (Nat.le_of_ble_eq_true rfl) (fun E C hr => ?_)
  refine aw_lv (lv' := [(0, .ref 0), (1, .int x1), (2, .int x2)]) rfl ?_
  unfold X7_marks
  refine aw_aload_n C dX7_marks_0 rfl ?_
  refine aw_cVIp C [] [] (m_X7_noHall M) v_X7_noHall km_X7_149 (by decide) lo_X_0 rfl rfl rfl (Nat.le_of_ble_eq_true rfl) dX7_marks_1 (fun r1 => ?_)
  refine aw_if_eq C (tgt := 10) dX7_marks_4 (by decide) ?_ ?_
  · refine aw_iload_n C dX7_marks_10 rfl ?_
    refine aw_iconst C (1 : Int32) dX7_marks_11 (by decide) ?_
    refine aw_icmp_lt C (tgt := 29) dX7_marks_12 (by decide) ?_ ?_
    · refine aw_ldc C kc_X7_73 dX7_marks_29 ?_
      exact aw_iret C hr dX7_marks_31
    · refine aw_iload_n C dX7_marks_15 rfl ?_
      refine aw_bipush C (40 : Int32) dX7_marks_16 (by decide) ?_
      refine aw_icmp_gt C (tgt := 29) dX7_marks_18 (by decide) ?_ ?_
      · refine aw_ldc C kc_X7_73 dX7_marks_29 ?_
        exact aw_iret C hr dX7_marks_31
      · refine aw_iload_n C dX7_marks_21 rfl ?_
        refine aw_iconst C (2 : Int32) dX7_marks_22 (by decide) ?_
        refine aw_cSIp C [.int x2, .int (2 : Int32)] [] (m_X7_isChoice M x2 (2 : Int32)) t_X7_isChoice km_X7_216 (by decide) rfl rfl (Nat.le_of_ble_eq_true rfl) dX7_marks_23 (fun r2 => ?_)
        refine aw_if_ne C (tgt := 32) dX7_marks_26 (by decide) ?_ ?_
        · refine aw_ldc C kc_X7_73 dX7_marks_29 ?_
          exact aw_iret C hr dX7_marks_31
        · refine aw_aload_n C dX7_marks_32 rfl ?_
          refine aw_getR C (r := 33) clX7 lo_X_0 5 rfl (by decide) kf_X7_45 dX7_marks_33 ?_
          refine aw_iload_n C dX7_marks_36 rfl ?_
          refine aw_cVI C [.int x1] [] (m_X2_fewestMarks x1 M) v_X2_fewestMarks km_X7_241 (by decide) lo_X_33 rfl rfl rfl (Nat.le_of_ble_eq_true rfl) dX7_marks_37 (fun u3 => ?_)
          refine aw_istore_n C [(3, .int u3.1), (0, .ref 0), (1, .int x1), (2, .int x2)] dX7_marks_40 (by decide) rfl ?_
          refine aw_iload_n C dX7_marks_41 rfl ?_
          refine aw_if_ne C (tgt := 52) dX7_marks_42 (by decide) ?_ ?_
          · refine aw_iload_n C dX7_marks_45 rfl ?_
            refine aw_cSIp C [.int u3.1] [] (m_J6_bitCount_0f7a4 u3.2 u3.1) t_J6_bitCount_0f7a4 km_X7_189 (by decide) rfl rfl (Nat.le_of_ble_eq_true rfl) dX7_marks_46 (fun r4 => ?_)
            refine aw_goto C (tgt := 53) dX7_marks_49 (by decide) ?_
            exact aw_iret C hr dX7_marks_53
          · refine aw_iload_n C dX7_marks_52 rfl ?_
            exact aw_iret C hr dX7_marks_53
  · refine aw_ldc C kc_X7_148 dX7_marks_7 ?_
    exact aw_iret C hr dX7_marks_9
def X7_sets (M : Mem) (x1 : Int32) (x2 : Int32)  : Option (Int32) :=
  Option.bind (X7_noHall M) fun r1 =>
  if r1 = 0 then
    if x1 < 0 then
      some (-1000001 : Int32)
    else
      if (99 : Int32) < x1 then
        some (-1000001 : Int32)
      else
        Option.bind (X7_isChoice x2 (3 : Int32)) fun r2 =>
        if r2 = 0 then
          some (-1000001 : Int32)
        else
          Option.bind (X2_setsThatSaw M x1 x2) fun r3 =>
          some r3
  else
    some (-1000002 : Int32)
theorem m_X7_sets  (M : Mem) (x1 : Int32) (x2 : Int32)  : AMet 6 yX7_sets cX7_sets 3 (some .int) lyX [.ref 0, .int x1, .int x2] M (qIp lyX M) (X7_sets M x1 x2) := by
  refine am_ent pn_X7 (Nat.le_of_ble_eq_true rfl) (fun E C hr => ?_)
  refine aw_lv (lv' := [(0, .ref 0), (1, .int x1), (2, .int x2)]) rfl ?_
  unfold X7_sets
  refine aw_aload_n C dX7_sets_0 rfl ?_
  refine aw_cVIp C [] [] (m_X7_noHall M) v_X7_noHall km_X7_149 (by decide) lo_X_0 rfl rfl rfl (Nat.le_of_ble_eq_true rfl) dX7_sets_1 (fun r1 => ?_)
  refine aw_if_eq C (tgt := 10) dX7_sets_4 (by decide) ?_ ?_
  · refine aw_iload_n C dX7_sets_10 rfl ?_
    refine aw_if_lt C (tgt := 28) dX7_sets_11 (by decide) ?_ ?_
    · refine aw_ldc C kc_X7_73 dX7_sets_28 ?_
      exact aw_iretp C hr dX7_sets_30
    · refine aw_iload_n C dX7_sets_14 rfl ?_
      refine aw_bipush C (99 : Int32) dX7_sets_15 (by decide) ?_
      refine aw_icmp_gt C (tgt := 28) dX7_sets_17 (by decide) ?_ ?_
      · refine aw_ldc C kc_X7_73 dX7_sets_28 ?_
        exact aw_iretp C hr dX7_sets_30
      · refine aw_iload_n C dX7_sets_20 rfl ?_
        refine aw_iconst C (3 : Int32) dX7_sets_21 (by decide) ?_
        refine aw_cSIp C [.int x2, .int (3 : Int32)] [] (m_X7_isChoice M x2 (3 : Int32)) t_X7_isChoice km_X7_216 (by decide) rfl rfl (Nat.le_of_ble_eq_true rfl) dX7_sets_22 (fun r2 => ?_)
        refine aw_if_ne C (tgt := 31) dX7_sets_25 (by decide) ?_ ?_
        · refine aw_ldc C kc_X7_73 dX7_sets_28 ?_
          exact aw_iretp C hr dX7_sets_30
        · refine aw_aload_n C dX7_sets_31 rfl ?_
          refine aw_getR C (r := 33) clX7 lo_X_0 5 rfl (by decide) kf_X7_45 dX7_sets_32 ?_
          refine aw_iload_n C dX7_sets_35 rfl ?_
          refine aw_iload_n C dX7_sets_36 rfl ?_
          refine aw_cVIp C [.int x1, .int x2] [] (m_X2_setsThatSaw M x1 x2) v_X2_setsThatSaw km_X7_244 (by decide) lo_X_33 rfl rfl rfl (Nat.le_of_ble_eq_true rfl) dX7_sets_37 (fun r3 => ?_)
          exact aw_iretp C hr dX7_sets_40
  · refine aw_ldc C kc_X7_148 dX7_sets_7 ?_
    exact aw_iretp C hr dX7_sets_9
def X7_share (M : Mem) (x1 : Int32) (x2 : Int32)  : Option (Int32) :=
  Option.bind (X3_has 15 M x1) fun r1 =>
  if r1 = 0 then
    some (-1000001 : Int32)
  else
    if x2 < 0 then
      some (-1000001 : Int32)
    else
      if (999 : Int32) < x2 then
        some (-1000001 : Int32)
      else
        Option.bind (X3_shareOf 15 M x1 x2) fun r2 =>
        some r2
theorem m_X7_share  (M : Mem) (x1 : Int32) (x2 : Int32)  : AMet 3 yX7_share cX7_share 3 (some .int) lyX [.ref 0, .int x1, .int x2] M (qIp lyX M) (X7_share M x1 x2) := by
  refine am_ent pn_X7 (Nat.le_of_ble_eq_true rfl) (fun E C hr => ?_)
  refine aw_lv (lv' := [(0, .ref 0), (1, .int x1), (2, .int x2)]) rfl ?_
  unfold X7_share
  refine aw_aload_n C dX7_share_0 rfl ?_
  refine aw_getR C (r := 15) clX7 lo_X_0 2 rfl (by decide) kf_X7_26 dX7_share_1 ?_
  refine aw_iload_n C dX7_share_4 rfl ?_
  refine aw_cVIp C [.int x1] [] (m_X3_has 15 isHl_15 M x1) v_X3_has km_X7_164 (by decide) (hl_o isHl_15) rfl rfl rfl (Nat.le_of_ble_eq_true rfl) dX7_share_5 (fun r1 => ?_)
  refine aw_if_eq C (tgt := 22) dX7_share_8 (by decide) ?_ ?_
  · refine aw_ldc C kc_X7_73 dX7_share_22 ?_
    exact aw_iretp C hr dX7_share_24
  · refine aw_iload_n C dX7_share_11 rfl ?_
    refine aw_if_lt C (tgt := 22) dX7_share_12 (by decide) ?_ ?_
    · refine aw_ldc C kc_X7_73 dX7_share_22 ?_
      exact aw_iretp C hr dX7_share_24
    · refine aw_iload_n C dX7_share_15 rfl ?_
      refine aw_sipush C (999 : Int32) dX7_share_16 (by decide) ?_
      refine aw_icmp_le C (tgt := 25) dX7_share_19 (by decide) ?_ ?_
      · refine aw_ldc C kc_X7_73 dX7_share_22 ?_
        exact aw_iretp C hr dX7_share_24
      · refine aw_aload_n C dX7_share_25 rfl ?_
        refine aw_getR C (r := 15) clX7 lo_X_0 2 rfl (by decide) kf_X7_26 dX7_share_26 ?_
        refine aw_iload_n C dX7_share_29 rfl ?_
        refine aw_iload_n C dX7_share_30 rfl ?_
        refine aw_cVIp C [.int x1, .int x2] [] (m_X3_shareOf 15 isHl_15 M x1 x2) v_X3_shareOf km_X7_248 (by decide) (hl_o isHl_15) rfl rfl rfl (Nat.le_of_ble_eq_true rfl) dX7_share_31 (fun r2 => ?_)
        exact aw_iretp C hr dX7_share_34
def X7_byTurns  (x1 : Int32) (x2 : Int32) (M : Mem) : Option (Int32 × Mem) :=
  Option.bind (X7_noHall M) fun r1 =>
  if r1 = 0 then
    if x1 < 0 then
      some ((-1000001 : Int32), M)
    else
      if (4 : Int32) < x1 then
        some ((-1000001 : Int32), M)
      else
        if x2 < (1 : Int32) then
          some ((-1000001 : Int32), M)
        else
          if (20 : Int32) < x2 then
            some ((-1000001 : Int32), M)
          else
            Option.bind (X2_outcomeOfTurns x1 x2 M) fun u2 =>
            some (u2.1, u2.2)
  else
    some ((-1000002 : Int32), M)
theorem m_X7_byTurns   (x1 : Int32) (x2 : Int32) (M : Mem) : AMet 8 yX7_byTurns cX7_byTurns 3 (some .int) lyX [.ref 0, .int x1, .int x2] M (qI lyX) (X7_byTurns x1 x2 M) := by
  refine am_ent pn_X7 (Nat.le_of_ble_eq_true rfl) (fun E C hr => ?_)
  refine aw_lv (lv' := [(0, .ref 0), (1, .int x1), (2, .int x2)]) rfl ?_
  unfold X7_byTurns
  refine aw_aload_n C dX7_byTurns_0 rfl ?_
  refine aw_cVIp C [] [] (m_X7_noHall M) v_X7_noHall km_X7_149 (by decide) lo_X_0 rfl rfl rfl (Nat.le_of_ble_eq_true rfl) dX7_byTurns_1 (fun r1 => ?_)
  refine aw_if_eq C (tgt := 10) dX7_byTurns_4 (by decide) ?_ ?_
  · refine aw_iload_n C dX7_byTurns_10 rfl ?_
    refine aw_if_lt C (tgt := 30) dX7_byTurns_11 (by decide) ?_ ?_
    · refine aw_ldc C kc_X7_73 dX7_byTurns_30 ?_
      exact aw_iret C hr dX7_byTurns_32
    · refine aw_iload_n C dX7_byTurns_14 rfl ?_
      refine aw_iconst C (4 : Int32) dX7_byTurns_15 (by decide) ?_
      refine aw_icmp_gt C (tgt := 30) dX7_byTurns_16 (by decide) ?_ ?_
      · refine aw_ldc C kc_X7_73 dX7_byTurns_30 ?_
        exact aw_iret C hr dX7_byTurns_32
      · refine aw_iload_n C dX7_byTurns_19 rfl ?_
        refine aw_iconst C (1 : Int32) dX7_byTurns_20 (by decide) ?_
        refine aw_icmp_lt C (tgt := 30) dX7_byTurns_21 (by decide) ?_ ?_
        · refine aw_ldc C kc_X7_73 dX7_byTurns_30 ?_
          exact aw_iret C hr dX7_byTurns_32
        · refine aw_iload_n C dX7_byTurns_24 rfl ?_
          refine aw_bipush C (20 : Int32) dX7_byTurns_25 (by decide) ?_
          refine aw_icmp_le C (tgt := 33) dX7_byTurns_27 (by decide) ?_ ?_
          · refine aw_ldc C kc_X7_73 dX7_byTurns_30 ?_
            exact aw_iret C hr dX7_byTurns_32
          · refine aw_aload_n C dX7_byTurns_33 rfl ?_
            refine aw_getR C (r := 33) clX7 lo_X_0 5 rfl (by decide) kf_X7_45 dX7_byTurns_34 ?_
            refine aw_iload_n C dX7_byTurns_37 rfl ?_
            refine aw_iload_n C dX7_byTurns_38 rfl ?_
            refine aw_cVI C [.int x1, .int x2] [] (m_X2_outcomeOfTurns x1 x2 M) v_X2_outcomeOfTurns km_X7_251 (by decide) lo_X_33 rfl rfl rfl (Nat.le_of_ble_eq_true rfl) dX7_byTurns_39 (fun u2 => ?_)
            exact aw_iret C hr dX7_byTurns_42
  · refine aw_ldc C kc_X7_148 dX7_byTurns_7 ?_
    exact aw_iret C hr dX7_byTurns_9
def X7_isTold (M : Mem) (x1 : Int32) (x2 : Int32)  : Option (Int32) :=
  Option.bind (X5_isNumber x1) fun r1 =>
  if r1 = 0 then
    some (0 : Int32)
  else
    if x2 < (1 : Int32) then
      some (0 : Int32)
    else
      if (12 : Int32) < x2 then
        some (0 : Int32)
      else
        some (1 : Int32)
theorem m_X7_isTold  (M : Mem) (x1 : Int32) (x2 : Int32)  : AMet 2 yX7_isTold cX7_isTold 3 (some .boolean) lyX [.ref 0, .int x1, .int x2] M (qIp lyX M) (X7_isTold M x1 x2) := by
  refine am_ent pn_X7 (Nat.le_of_ble_eq_true rfl) (fun E C hr => ?_)
  refine aw_lv (lv' := [(0, .ref 0), (1, .int x1), (2, .int x2)]) rfl ?_
  unfold X7_isTold
  refine aw_aload_n C dX7_isTold_0 rfl ?_
  refine aw_getR C (r := 1) clX7 lo_X_0 0 rfl (by decide) kf_X7_10 dX7_isTold_1 ?_
  refine aw_iload_n C dX7_isTold_4 rfl ?_
  refine aw_cVIp C [.int x1] [] (m_X5_isNumber M x1) v_X5_isNumber km_X7_69 (by decide) lo_X_1 rfl rfl rfl (Nat.le_of_ble_eq_true rfl) dX7_isTold_5 (fun r1 => ?_)
  refine aw_if_eq C (tgt := 26) dX7_isTold_8 (by decide) ?_ ?_
  · refine aw_iconst C (0 : Int32) dX7_isTold_26 (by decide) ?_
    exact aw_zretp C (Or.inl rfl) hr dX7_isTold_27
  · refine aw_iload_n C dX7_isTold_11 rfl ?_
    refine aw_iconst C (1 : Int32) dX7_isTold_12 (by decide) ?_
    refine aw_icmp_lt C (tgt := 26) dX7_isTold_13 (by decide) ?_ ?_
    · refine aw_iconst C (0 : Int32) dX7_isTold_26 (by decide) ?_
      exact aw_zretp C (Or.inl rfl) hr dX7_isTold_27
    · refine aw_iload_n C dX7_isTold_16 rfl ?_
      refine aw_bipush C (12 : Int32) dX7_isTold_17 (by decide) ?_
      refine aw_icmp_gt C (tgt := 26) dX7_isTold_19 (by decide) ?_ ?_
      · refine aw_iconst C (0 : Int32) dX7_isTold_26 (by decide) ?_
        exact aw_zretp C (Or.inl rfl) hr dX7_isTold_27
      · refine aw_iconst C (1 : Int32) dX7_isTold_22 (by decide) ?_
        refine aw_goto C (tgt := 27) dX7_isTold_23 (by decide) ?_
        exact aw_zretp C (Or.inr rfl) hr dX7_isTold_27
def X7_findingOfItems (M : Mem) (x1 : Int32) (x2 : Int32) (x3 : Int32)  : Option (Int32) :=
  Option.bind (X5_isMissing M x1) fun r1 =>
  if r1 = 0 then
    Option.bind (X5_reaches M x1 x2 x3) fun r2 =>
    if r2 = 0 then
      some (2 : Int32)
    else
      some (0 : Int32)
  else
    some (1 : Int32)
theorem m_X7_findingOfItems  (M : Mem) (x1 : Int32) (x2 : Int32) (x3 : Int32)  : AMet 4 yX7_findingOfItems cX7_findingOfItems 4 (some .int) lyX [.ref 0, .int x1, .int x2, .int x3] M (qIp lyX M) (X7_findingOfItems M x1 x2 x3) := by
  refine am_ent pn_X7 (Nat.le_of_ble_eq_true rfl) (fun E C hr => ?_)
  refine aw_lv (lv' := [(0, .ref 0), (1, .int x1), (2, .int x2), (3, .int x3)]) rfl ?_
  unfold X7_findingOfItems
  refine aw_aload_n C dX7_findingOfItems_0 rfl ?_
  refine aw_getR C (r := 1) clX7 lo_X_0 0 rfl (by decide) kf_X7_10 dX7_findingOfItems_1 ?_
  refine aw_iload_n C dX7_findingOfItems_4 rfl ?_
  refine aw_cVIp C [.int x1] [] (m_X5_isMissing M x1) v_X5_isMissing km_X7_85 (by decide) lo_X_1 rfl rfl rfl (Nat.le_of_ble_eq_true rfl) dX7_findingOfItems_5 (fun r1 => ?_)
  refine aw_if_eq C (tgt := 13) dX7_findingOfItems_8 (by decide) ?_ ?_
  · refine aw_aload_n C dX7_findingOfItems_13 rfl ?_
    refine aw_getR C (r := 1) clX7 lo_X_0 0 rfl (by decide) kf_X7_10 dX7_findingOfItems_14 ?_
    refine aw_iload_n C dX7_findingOfItems_17 rfl ?_
    refine aw_iload_n C dX7_findingOfItems_18 rfl ?_
    refine aw_iload_n C dX7_findingOfItems_19 rfl ?_
    refine aw_cVIp C [.int x1, .int x2, .int x3] [] (m_X5_reaches M x1 x2 x3) v_X5_reaches km_X7_88 (by decide) lo_X_1 rfl rfl rfl (Nat.le_of_ble_eq_true rfl) dX7_findingOfItems_20 (fun r2 => ?_)
    refine aw_if_eq C (tgt := 30) dX7_findingOfItems_23 (by decide) ?_ ?_
    · refine aw_iconst C (2 : Int32) dX7_findingOfItems_30 (by decide) ?_
      exact aw_iretp C hr dX7_findingOfItems_31
    · refine aw_iconst C (0 : Int32) dX7_findingOfItems_26 (by decide) ?_
      refine aw_goto C (tgt := 31) dX7_findingOfItems_27 (by decide) ?_
      exact aw_iretp C hr dX7_findingOfItems_31
  · refine aw_iconst C (1 : Int32) dX7_findingOfItems_11 (by decide) ?_
    exact aw_iretp C hr dX7_findingOfItems_12
def X7_who  (x1 : Int32) (x2 : Int32) (x3 : Int32) (x4 : Int32) (x5 : Int32) (x6 : Int32) (M : Mem) : Option (Int32 × Mem) :=
  Option.bind (X3_has 15 M x1) fun r1 =>
  if r1 = 0 then
    some ((-1000001 : Int32), M)
  else
    Option.bind (X7_isChoice x2 (2 : Int32)) fun r2 =>
    if r2 = 0 then
      some ((-1000001 : Int32), M)
    else
      Option.bind (X3_has 15 M x3) fun r3 =>
      if r3 = 0 then
        some ((-1000001 : Int32), M)
      else
        Option.bind (X7_isTold M x4 x6) fun r4 =>
        if r4 = 0 then
          some ((-1000001 : Int32), M)
        else
          Option.bind (X7_findingOfItems M x4 x5 x6) fun r5 =>
          if r5 = 0 then
            Option.bind (X5_itemsOf M x4) fun r6 =>
            if 5 ≤ r6 ∧ r6 < 13 then
              if x2 = 0 then
                Option.bind (X2_kindsThatFit r6 40 x1 x3 x5 x6 M) fun u8 =>
                Option.bind (X7_fine u8.1 u8.2) fun u9 =>
                some (u9.1, u9.2)
              else
                Option.bind (X2_standsThatFit r6 40 x1 x3 x5 x6 M) fun u10 =>
                Option.bind (X7_fine u10.1 u10.2) fun u11 =>
                some (u11.1, u11.2)
            else none
          else
            Option.bind (X7_found r5 M) fun u12 =>
            some (u12.1, u12.2)
theorem m_X7_who   (x1 : Int32) (x2 : Int32) (x3 : Int32) (x4 : Int32) (x5 : Int32) (x6 : Int32) (M : Mem) : AMet 8 yX7_who cX7_who 9 (some .int) lyX [.ref 0, .int x1, .int x2, .int x3, .int x4, .int x5, .int x6] M (qI lyX) (X7_who x1 x2 x3 x4 x5 x6 M) := by
  refine am_ent pn_X7 (Nat.le_of_ble_eq_true rfl) (fun E C hr => ?_)
  refine aw_lv (lv' := [(0, .ref 0), (1, .int x1), (2, .int x2), (3, .int x3), (4, .int x4), (5, .int x5), (6, .int x6)]) rfl ?_
  unfold X7_who
  refine aw_aload_n C dX7_who_0 rfl ?_
  refine aw_getR C (r := 15) clX7 lo_X_0 2 rfl (by decide) kf_X7_26 dX7_who_1 ?_
  refine aw_iload_n C dX7_who_4 rfl ?_
  refine aw_cVIp C [.int x1] [] (m_X3_has 15 isHl_15 M x1) v_X3_has km_X7_164 (by decide) (hl_o isHl_15) rfl rfl rfl (Nat.le_of_ble_eq_true rfl) dX7_who_5 (fun r1 => ?_)
  refine aw_if_eq C (tgt := 41) dX7_who_8 (by decide) ?_ ?_
  · refine aw_ldc C kc_X7_73 dX7_who_41 ?_
    exact aw_iret C hr dX7_who_43
  · refine aw_iload_n C dX7_who_11 rfl ?_
    refine aw_iconst C (2 : Int32) dX7_who_12 (by decide) ?_
    refine aw_cSIp C [.int x2, .int (2 : Int32)] [] (m_X7_isChoice M x2 (2 : Int32)) t_X7_isChoice km_X7_216 (by decide) rfl rfl (Nat.le_of_ble_eq_true rfl) dX7_who_13 (fun r2 => ?_)
    refine aw_if_eq C (tgt := 41) dX7_who_16 (by decide) ?_ ?_
    · refine aw_ldc C kc_X7_73 dX7_who_41 ?_
      exact aw_iret C hr dX7_who_43
    · refine aw_aload_n C dX7_who_19 rfl ?_
      refine aw_getR C (r := 15) clX7 lo_X_0 2 rfl (by decide) kf_X7_26 dX7_who_20 ?_
      refine aw_iload_n C dX7_who_23 rfl ?_
      refine aw_cVIp C [.int x3] [] (m_X3_has 15 isHl_15 M x3) v_X3_has km_X7_164 (by decide) (hl_o isHl_15) rfl rfl rfl (Nat.le_of_ble_eq_true rfl) dX7_who_24 (fun r3 => ?_)
      refine aw_if_eq C (tgt := 41) dX7_who_27 (by decide) ?_ ?_
      · refine aw_ldc C kc_X7_73 dX7_who_41 ?_
        exact aw_iret C hr dX7_who_43
      · refine aw_aload_n C dX7_who_30 rfl ?_
        refine aw_iload C dX7_who_31 rfl ?_
        refine aw_iload C dX7_who_33 rfl ?_
        refine aw_cVIp C [.int x4, .int x6] [] (m_X7_isTold M x4 x6) v_X7_isTold km_X7_254 (by decide) lo_X_0 rfl rfl rfl (Nat.le_of_ble_eq_true rfl) dX7_who_35 (fun r4 => ?_)
        refine aw_if_ne C (tgt := 44) dX7_who_38 (by decide) ?_ ?_
        · refine aw_ldc C kc_X7_73 dX7_who_41 ?_
          exact aw_iret C hr dX7_who_43
        · refine aw_aload_n C dX7_who_44 rfl ?_
          refine aw_iload C dX7_who_45 rfl ?_
          refine aw_iload C dX7_who_47 rfl ?_
          refine aw_iload C dX7_who_49 rfl ?_
          refine aw_cVIp C [.int x4, .int x5, .int x6] [] (m_X7_findingOfItems M x4 x5 x6) v_X7_findingOfItems km_X7_257 (by decide) lo_X_0 rfl rfl rfl (Nat.le_of_ble_eq_true rfl) dX7_who_51 (fun r5 => ?_)
          refine aw_istore C [(7, .int r5), (0, .ref 0), (1, .int x1), (2, .int x2), (3, .int x3), (4, .int x4), (5, .int x5), (6, .int x6)] dX7_who_54 (by decide) rfl ?_
          refine aw_iload C dX7_who_56 rfl ?_
          refine aw_if_eq C (tgt := 68) dX7_who_58 (by decide) ?_ ?_
          · refine aw_aload_n C dX7_who_68 rfl ?_
            refine aw_getR C (r := 1) clX7 lo_X_0 0 rfl (by decide) kf_X7_10 dX7_who_69 ?_
            refine aw_iload C dX7_who_72 rfl ?_
            refine aw_cVRp C [.int x4] [] (m_X5_itemsOf M x4) v_X5_itemsOf km_X7_260 (by decide) lo_X_1 rfl rfl rfl (Nat.le_of_ble_eq_true rfl) dX7_who_74 (fun r6 => ?_)
            refine aw_ite (fun h7 => ?_) (fun _ => aw_none)
            refine aw_astore C [(8, .ref r6), (7, .int r5), (0, .ref 0), (1, .int x1), (2, .int x2), (3, .int x3), (4, .int x4), (5, .int x5), (6, .int x6)] dX7_who_77 (by decide) rfl ?_
            refine aw_iload_n C dX7_who_79 rfl ?_
            refine aw_if_ne C (tgt := 103) dX7_who_80 (by decide) ?_ ?_
            · refine aw_aload_n C dX7_who_83 rfl ?_
              refine aw_aload_n C dX7_who_84 rfl ?_
              refine aw_getR C (r := 33) clX7 lo_X_0 5 rfl (by decide) kf_X7_45 dX7_who_85 ?_
              refine aw_iload_n C dX7_who_88 rfl ?_
              refine aw_iload_n C dX7_who_89 rfl ?_
              refine aw_aload C dX7_who_90 rfl ?_
              refine aw_iload C dX7_who_92 rfl ?_
              refine aw_iload C dX7_who_94 rfl ?_
              refine aw_cVI C [.int x1, .int x3, .ref r6, .int x5, .int x6] [.ref 0] (m_X2_kindsThatFit r6 40 (ly_row2 h7) x1 x3 x5 x6 M) v_X2_kindsThatFit km_X7_264 (by decide) lo_X_33 rfl rfl rfl (Nat.le_of_ble_eq_true rfl) dX7_who_96 (fun u8 => ?_)
              refine aw_cVI C [.int u8.1] [] (m_X7_fine u8.1 u8.2) v_X7_fine km_X7_82 (by decide) lo_X_0 rfl rfl rfl (Nat.le_of_ble_eq_true rfl) dX7_who_99 (fun u9 => ?_)
              exact aw_iret C hr dX7_who_102
            · refine aw_aload_n C dX7_who_103 rfl ?_
              refine aw_aload_n C dX7_who_104 rfl ?_
              refine aw_getR C (r := 33) clX7 lo_X_0 5 rfl (by decide) kf_X7_45 dX7_who_105 ?_
              refine aw_iload_n C dX7_who_108 rfl ?_
              refine aw_iload_n C dX7_who_109 rfl ?_
              refine aw_aload C dX7_who_110 rfl ?_
              refine aw_iload C dX7_who_112 rfl ?_
              refine aw_iload C dX7_who_114 rfl ?_
              refine aw_cVI C [.int x1, .int x3, .ref r6, .int x5, .int x6] [.ref 0] (m_X2_standsThatFit r6 40 (ly_row2 h7) x1 x3 x5 x6 M) v_X2_standsThatFit km_X7_268 (by decide) lo_X_33 rfl rfl rfl (Nat.le_of_ble_eq_true rfl) dX7_who_116 (fun u10 => ?_)
              refine aw_cVI C [.int u10.1] [] (m_X7_fine u10.1 u10.2) v_X7_fine km_X7_82 (by decide) lo_X_0 rfl rfl rfl (Nat.le_of_ble_eq_true rfl) dX7_who_119 (fun u11 => ?_)
              exact aw_iret C hr dX7_who_122
          · refine aw_aload_n C dX7_who_61 rfl ?_
            refine aw_iload C dX7_who_62 rfl ?_
            refine aw_cVI C [.int r5] [] (m_X7_found r5 M) v_X7_found km_X7_74 (by decide) lo_X_0 rfl rfl rfl (Nat.le_of_ble_eq_true rfl) dX7_who_64 (fun u12 => ?_)
            exact aw_iret C hr dX7_who_67
def X7_colours  (x1 : Int32) (x2 : Int32) (x3 : Int32) (x4 : Int32) (M : Mem) : Option (Int32 × Mem) :=
  Option.bind (X3_has 15 M x1) fun r1 =>
  if r1 = 0 then
    some ((-1000001 : Int32), M)
  else
    Option.bind (X7_isTold M x2 x4) fun r2 =>
    if r2 = 0 then
      some ((-1000001 : Int32), M)
    else
      Option.bind (X7_findingOfItems M x2 x3 x4) fun r3 =>
      if r3 = 0 then
        Option.bind (X5_itemsOf M x2) fun r4 =>
        if 5 ≤ r4 ∧ r4 < 13 then
          Option.bind (X2_coloursThatFit r4 40 x1 x3 x4 M) fun u6 =>
          Option.bind (X7_fine u6.1 u6.2) fun u7 =>
          some (u7.1, u7.2)
        else none
      else
        Option.bind (X7_found r3 M) fun u8 =>
        some (u8.1, u8.2)
theorem m_X7_colours   (x1 : Int32) (x2 : Int32) (x3 : Int32) (x4 : Int32) (M : Mem) : AMet 8 yX7_colours cX7_colours 6 (some .int) lyX [.ref 0, .int x1, .int x2, .int x3, .int x4] M (qI lyX) (X7_colours x1 x2 x3 x4 M) := by
  refine am_ent pn_X7 (Nat.le_of_ble_eq_true rfl) (fun E C hr => ?_)
  refine aw_lv (lv' := [(0, .ref 0), (1, .int x1), (2, .int x2), (3, .int x3), (4, .int x4)]) rfl ?_
  unfold X7_colours
  refine aw_aload_n C dX7_colours_0 rfl ?_
  refine aw_getR C (r := 15) clX7 lo_X_0 2 rfl (by decide) kf_X7_26 dX7_colours_1 ?_
  refine aw_iload_n C dX7_colours_4 rfl ?_
  refine aw_cVIp C [.int x1] [] (m_X3_has 15 isHl_15 M x1) v_X3_has km_X7_164 (by decide) (hl_o isHl_15) rfl rfl rfl (Nat.le_of_ble_eq_true rfl) dX7_colours_5 (fun r1 => ?_)
  refine aw_if_eq C (tgt := 21) dX7_colours_8 (by decide) ?_ ?_
  · refine aw_ldc C kc_X7_73 dX7_colours_21 ?_
    exact aw_iret C hr dX7_colours_23
  · refine aw_aload_n C dX7_colours_11 rfl ?_
    refine aw_iload_n C dX7_colours_12 rfl ?_
    refine aw_iload C dX7_colours_13 rfl ?_
    refine aw_cVIp C [.int x2, .int x4] [] (m_X7_isTold M x2 x4) v_X7_isTold km_X7_254 (by decide) lo_X_0 rfl rfl rfl (Nat.le_of_ble_eq_true rfl) dX7_colours_15 (fun r2 => ?_)
    refine aw_if_ne C (tgt := 24) dX7_colours_18 (by decide) ?_ ?_
    · refine aw_ldc C kc_X7_73 dX7_colours_21 ?_
      exact aw_iret C hr dX7_colours_23
    · refine aw_aload_n C dX7_colours_24 rfl ?_
      refine aw_iload_n C dX7_colours_25 rfl ?_
      refine aw_iload_n C dX7_colours_26 rfl ?_
      refine aw_iload C dX7_colours_27 rfl ?_
      refine aw_cVIp C [.int x2, .int x3, .int x4] [] (m_X7_findingOfItems M x2 x3 x4) v_X7_findingOfItems km_X7_257 (by decide) lo_X_0 rfl rfl rfl (Nat.le_of_ble_eq_true rfl) dX7_colours_29 (fun r3 => ?_)
      refine aw_istore C [(5, .int r3), (0, .ref 0), (1, .int x1), (2, .int x2), (3, .int x3), (4, .int x4)] dX7_colours_32 (by decide) rfl ?_
      refine aw_iload C dX7_colours_34 rfl ?_
      refine aw_if_eq C (tgt := 46) dX7_colours_36 (by decide) ?_ ?_
      · refine aw_aload_n C dX7_colours_46 rfl ?_
        refine aw_aload_n C dX7_colours_47 rfl ?_
        refine aw_getR C (r := 33) clX7 lo_X_0 5 rfl (by decide) kf_X7_45 dX7_colours_48 ?_
        refine aw_iload_n C dX7_colours_51 rfl ?_
        refine aw_aload_n C dX7_colours_52 rfl ?_
        refine aw_getR C (r := 1) clX7 lo_X_0 0 rfl (by decide) kf_X7_10 dX7_colours_53 ?_
        refine aw_iload_n C dX7_colours_56 rfl ?_
        refine aw_cVRp C [.int x2] [.int x1, .ref 33, .ref 0] (m_X5_itemsOf M x2) v_X5_itemsOf km_X7_260 (by decide) lo_X_1 rfl rfl rfl (Nat.le_of_ble_eq_true rfl) dX7_colours_57 (fun r4 => ?_)
        refine aw_ite (fun h5 => ?_) (fun _ => aw_none)
        refine aw_iload_n C dX7_colours_60 rfl ?_
        refine aw_iload C dX7_colours_61 rfl ?_
        refine aw_cVI C [.int x1, .ref r4, .int x3, .int x4] [.ref 0] (m_X2_coloursThatFit r4 40 (ly_row2 h5) x1 x3 x4 M) v_X2_coloursThatFit km_X7_271 (by decide) lo_X_33 rfl rfl rfl (Nat.le_of_ble_eq_true rfl) dX7_colours_63 (fun u6 => ?_)
        refine aw_cVI C [.int u6.1] [] (m_X7_fine u6.1 u6.2) v_X7_fine km_X7_82 (by decide) lo_X_0 rfl rfl rfl (Nat.le_of_ble_eq_true rfl) dX7_colours_66 (fun u7 => ?_)
        exact aw_iret C hr dX7_colours_69
      · refine aw_aload_n C dX7_colours_39 rfl ?_
        refine aw_iload C dX7_colours_40 rfl ?_
        refine aw_cVI C [.int r3] [] (m_X7_found r3 M) v_X7_found km_X7_74 (by decide) lo_X_0 rfl rfl rfl (Nat.le_of_ble_eq_true rfl) dX7_colours_42 (fun u8 => ?_)
        exact aw_iret C hr dX7_colours_45
def X7_sleep  (x1 : Int32) (x2 : Int32) (x3 : Int32) (x4 : Int32) (M : Mem) : Option (Int64 × Mem) :=
  Option.bind (X3_has 15 M x1) fun r1 =>
  if r1 = 0 then
    some ((-1000001 : Int64), M)
  else
    if x2 < 0 then
      some ((-1000001 : Int64), M)
    else
      if (60 : Int32) < x2 then
        some ((-1000001 : Int64), M)
      else
        if x3 < 0 then
          some ((-1000001 : Int64), M)
        else
          if (10 : Int32) < x3 then
            some ((-1000001 : Int64), M)
          else
            Option.bind (X7_isChoice x4 (2 : Int32)) fun r2 =>
            if r2 = 0 then
              some ((-1000001 : Int64), M)
            else
              Option.bind (X2_likelyOnBelt x1 x2 x3 x4 M) fun u3 =>
              some (u3.1, u3.2)
theorem m_X7_sleep   (x1 : Int32) (x2 : Int32) (x3 : Int32) (x4 : Int32) (M : Mem) : AMet 8 yX7_sleep cX7_sleep 5 (some .long) lyX [.ref 0, .int x1, .int x2, .int x3, .int x4] M (qL lyX) (X7_sleep x1 x2 x3 x4 M) := by
  refine am_ent pn_X7 (Nat.le_of_ble_eq_true rfl) (fun E C hr => ?_)
  refine aw_lv (lv' := [(0, .ref 0), (1, .int x1), (2, .int x2), (3, .int x3), (4, .int x4)]) rfl ?_
  unfold X7_sleep
  refine aw_aload_n C dX7_sleep_0 rfl ?_
  refine aw_getR C (r := 15) clX7 lo_X_0 2 rfl (by decide) kf_X7_26 dX7_sleep_1 ?_
  refine aw_iload_n C dX7_sleep_4 rfl ?_
  refine aw_cVIp C [.int x1] [] (m_X3_has 15 isHl_15 M x1) v_X3_has km_X7_164 (by decide) (hl_o isHl_15) rfl rfl rfl (Nat.le_of_ble_eq_true rfl) dX7_sleep_5 (fun r1 => ?_)
  refine aw_if_eq C (tgt := 40) dX7_sleep_8 (by decide) ?_ ?_
  · refine aw_ldc2 C kd_X7_275 dX7_sleep_40 ?_
    exact aw_lret C hr dX7_sleep_43
  · refine aw_iload_n C dX7_sleep_11 rfl ?_
    refine aw_if_lt C (tgt := 40) dX7_sleep_12 (by decide) ?_ ?_
    · refine aw_ldc2 C kd_X7_275 dX7_sleep_40 ?_
      exact aw_lret C hr dX7_sleep_43
    · refine aw_iload_n C dX7_sleep_15 rfl ?_
      refine aw_bipush C (60 : Int32) dX7_sleep_16 (by decide) ?_
      refine aw_icmp_gt C (tgt := 40) dX7_sleep_18 (by decide) ?_ ?_
      · refine aw_ldc2 C kd_X7_275 dX7_sleep_40 ?_
        exact aw_lret C hr dX7_sleep_43
      · refine aw_iload_n C dX7_sleep_21 rfl ?_
        refine aw_if_lt C (tgt := 40) dX7_sleep_22 (by decide) ?_ ?_
        · refine aw_ldc2 C kd_X7_275 dX7_sleep_40 ?_
          exact aw_lret C hr dX7_sleep_43
        · refine aw_iload_n C dX7_sleep_25 rfl ?_
          refine aw_bipush C (10 : Int32) dX7_sleep_26 (by decide) ?_
          refine aw_icmp_gt C (tgt := 40) dX7_sleep_28 (by decide) ?_ ?_
          · refine aw_ldc2 C kd_X7_275 dX7_sleep_40 ?_
            exact aw_lret C hr dX7_sleep_43
          · refine aw_iload C dX7_sleep_31 rfl ?_
            refine aw_iconst C (2 : Int32) dX7_sleep_33 (by decide) ?_
            refine aw_cSIp C [.int x4, .int (2 : Int32)] [] (m_X7_isChoice M x4 (2 : Int32)) t_X7_isChoice km_X7_216 (by decide) rfl rfl (Nat.le_of_ble_eq_true rfl) dX7_sleep_34 (fun r2 => ?_)
            refine aw_if_ne C (tgt := 44) dX7_sleep_37 (by decide) ?_ ?_
            · refine aw_ldc2 C kd_X7_275 dX7_sleep_40 ?_
              exact aw_lret C hr dX7_sleep_43
            · refine aw_aload_n C dX7_sleep_44 rfl ?_
              refine aw_getR C (r := 33) clX7 lo_X_0 5 rfl (by decide) kf_X7_45 dX7_sleep_45 ?_
              refine aw_iload_n C dX7_sleep_48 rfl ?_
              refine aw_iload_n C dX7_sleep_49 rfl ?_
              refine aw_iload_n C dX7_sleep_50 rfl ?_
              refine aw_iload C dX7_sleep_51 rfl ?_
              refine aw_cVL C [.int x1, .int x2, .int x3, .int x4] [] (m_X2_likelyOnBelt x1 x2 x3 x4 M) v_X2_likelyOnBelt km_X7_277 (by decide) lo_X_33 rfl rfl rfl (Nat.le_of_ble_eq_true rfl) dX7_sleep_53 (fun u3 => ?_)
              exact aw_lret C hr dX7_sleep_56
def X7_drawn  (x1 : Int32) (x2 : Int32) (x3 : Int32) (M : Mem) : Option (Int32 × Mem) :=
  Option.bind (X7_noHall M) fun r1 =>
  if r1 = 0 then
    if x1 < 0 then
      some ((-1000001 : Int32), M)
    else
      if (60 : Int32) < x1 then
        some ((-1000001 : Int32), M)
      else
        if x2 < (1 : Int32) then
          some ((-1000001 : Int32), M)
        else
          if (999999 : Int32) < x2 then
            some ((-1000001 : Int32), M)
          else
            Option.bind (X7_isChoice x3 (2 : Int32)) fun r2 =>
            if r2 = 0 then
              some ((-1000001 : Int32), M)
            else
              Option.bind (X2_goneInDays x1 x2 x3 M) fun u3 =>
              some (u3.1, u3.2)
  else
    some ((-1000002 : Int32), M)
theorem m_X7_drawn   (x1 : Int32) (x2 : Int32) (x3 : Int32) (M : Mem) : AMet 7 yX7_drawn cX7_drawn 4 (some .int) lyX [.ref 0, .int x1, .int x2, .int x3] M (qI lyX) (X7_drawn x1 x2 x3 M) := by
  refine am_ent pn_X7 (Nat.le_of_ble_eq_true rfl) (fun E C hr => ?_)
  refine aw_lv (lv' := [(0, .ref 0), (1, .int x1), (2, .int x2), (3, .int x3)]) rfl ?_
  unfold X7_drawn
  refine aw_aload_n C dX7_drawn_0 rfl ?_
  refine aw_cVIp C [] [] (m_X7_noHall M) v_X7_noHall km_X7_149 (by decide) lo_X_0 rfl rfl rfl (Nat.le_of_ble_eq_true rfl) dX7_drawn_1 (fun r1 => ?_)
  refine aw_if_eq C (tgt := 10) dX7_drawn_4 (by decide) ?_ ?_
  · refine aw_iload_n C dX7_drawn_10 rfl ?_
    refine aw_if_lt C (tgt := 40) dX7_drawn_11 (by decide) ?_ ?_
    · refine aw_ldc C kc_X7_73 dX7_drawn_40 ?_
      exact aw_iret C hr dX7_drawn_42
    · refine aw_iload_n C dX7_drawn_14 rfl ?_
      refine aw_bipush C (60 : Int32) dX7_drawn_15 (by decide) ?_
      refine aw_icmp_gt C (tgt := 40) dX7_drawn_17 (by decide) ?_ ?_
      · refine aw_ldc C kc_X7_73 dX7_drawn_40 ?_
        exact aw_iret C hr dX7_drawn_42
      · refine aw_iload_n C dX7_drawn_20 rfl ?_
        refine aw_iconst C (1 : Int32) dX7_drawn_21 (by decide) ?_
        refine aw_icmp_lt C (tgt := 40) dX7_drawn_22 (by decide) ?_ ?_
        · refine aw_ldc C kc_X7_73 dX7_drawn_40 ?_
          exact aw_iret C hr dX7_drawn_42
        · refine aw_iload_n C dX7_drawn_25 rfl ?_
          refine aw_ldc_w C kc_X7_281 dX7_drawn_26 ?_
          refine aw_icmp_gt C (tgt := 40) dX7_drawn_29 (by decide) ?_ ?_
          · refine aw_ldc C kc_X7_73 dX7_drawn_40 ?_
            exact aw_iret C hr dX7_drawn_42
          · refine aw_iload_n C dX7_drawn_32 rfl ?_
            refine aw_iconst C (2 : Int32) dX7_drawn_33 (by decide) ?_
            refine aw_cSIp C [.int x3, .int (2 : Int32)] [] (m_X7_isChoice M x3 (2 : Int32)) t_X7_isChoice km_X7_216 (by decide) rfl rfl (Nat.le_of_ble_eq_true rfl) dX7_drawn_34 (fun r2 => ?_)
            refine aw_if_ne C (tgt := 43) dX7_drawn_37 (by decide) ?_ ?_
            · refine aw_ldc C kc_X7_73 dX7_drawn_40 ?_
              exact aw_iret C hr dX7_drawn_42
            · refine aw_aload_n C dX7_drawn_43 rfl ?_
              refine aw_getR C (r := 33) clX7 lo_X_0 5 rfl (by decide) kf_X7_45 dX7_drawn_44 ?_
              refine aw_iload_n C dX7_drawn_47 rfl ?_
              refine aw_iload_n C dX7_drawn_48 rfl ?_
              refine aw_iload_n C dX7_drawn_49 rfl ?_
              refine aw_cVI C [.int x1, .int x2, .int x3] [] (m_X2_goneInDays x1 x2 x3 M) v_X2_goneInDays km_X7_282 (by decide) lo_X_33 rfl rfl rfl (Nat.le_of_ble_eq_true rfl) dX7_drawn_50 (fun u3 => ?_)
              exact aw_iret C hr dX7_drawn_53
  · refine aw_ldc C kc_X7_148 dX7_drawn_7 ?_
    exact aw_iret C hr dX7_drawn_9
def X7_image  (x1 : Int32) (M : Mem) : Option (Int32 × Mem) :=
  Option.bind (X7_isChoice x1 (2 : Int32)) fun r1 =>
  if r1 = 0 then
    some ((-1000001 : Int32), M)
  else
    Option.bind (X7_noHall M) fun r2 =>
    if r2 = 0 then
      Option.bind (X3_saveTo 15 42 80 (x1 * (40 : Int32)) M) fun M3 =>
      am_let (mset M3 0 (upd (M3 0) 9 ((M3 0 9) ||| ((1 : Int32) <<< (x1 &&& 31))))) fun M4 =>
      some ((1 : Int32), M4)
    else
      some ((-1000002 : Int32), M)
theorem m_X7_image   (x1 : Int32) (M : Mem) : AMet 3 yX7_image cX7_image 2 (some .int) lyX [.ref 0, .int x1] M (qI lyX) (X7_image x1 M) := by
  refine am_ent pn_X7 (Nat.le_of_ble_eq_true rfl) (fun E C hr => ?_)
  refine aw_lv (lv' := [(0, .ref 0), (1, .int x1)]) rfl ?_
  unfold X7_image
  refine aw_iload_n C dX7_image_0 rfl ?_
  refine aw_iconst C (2 : Int32) dX7_image_1 (by decide) ?_
  refine aw_cSIp C [.int x1, .int (2 : Int32)] [] (m_X7_isChoice M x1 (2 : Int32)) t_X7_isChoice km_X7_216 (by decide) rfl rfl (Nat.le_of_ble_eq_true rfl) dX7_image_2 (fun r1 => ?_)
  refine aw_if_ne C (tgt := 11) dX7_image_5 (by decide) ?_ ?_
  · refine aw_ldc C kc_X7_73 dX7_image_8 ?_
    exact aw_iret C hr dX7_image_10
  · refine aw_aload_n C dX7_image_11 rfl ?_
    refine aw_cVIp C [] [] (m_X7_noHall M) v_X7_noHall km_X7_149 (by decide) lo_X_0 rfl rfl rfl (Nat.le_of_ble_eq_true rfl) dX7_image_12 (fun r2 => ?_)
    refine aw_if_eq C (tgt := 21) dX7_image_15 (by decide) ?_ ?_
    · refine aw_aload_n C dX7_image_21 rfl ?_
      refine aw_getR C (r := 15) clX7 lo_X_0 2 rfl (by decide) kf_X7_26 dX7_image_22 ?_
      refine aw_aload_n C dX7_image_25 rfl ?_
      refine aw_getR C (r := 42) clX7 lo_X_0 8 rfl (by decide) kf_X7_65 dX7_image_26 ?_
      refine aw_iload_n C dX7_image_29 rfl ?_
      refine aw_bipush C (40 : Int32) dX7_image_30 (by decide) ?_
      refine aw_imul C dX7_image_32 ?_
      refine aw_cVV C [.ref 42, .int (x1 * (40 : Int32))] [] (m_X3_saveTo 15 isHl_15 42 80 la_X_42 (x1 * (40 : Int32)) M) v_X3_saveTo km_X7_285 (by decide) (hl_o isHl_15) rfl rfl rfl (Nat.le_of_ble_eq_true rfl) dX7_image_33 (fun M3 => ?_)
      refine aw_aload_n C dX7_image_36 rfl ?_
      refine aw_dup C dX7_image_37 rfl ?_
      refine aw_getI C clX7 lo_X_0 9 rfl (by decide) kf_X7_289 dX7_image_38 ?_
      refine aw_iconst C (1 : Int32) dX7_image_41 (by decide) ?_
      refine aw_iload_n C dX7_image_42 rfl ?_
      refine aw_ishl C dX7_image_43 ?_
      refine aw_ior C dX7_image_44 ?_
      refine aw_putI C clX7 lo_X_0 9 rfl (by decide) rfl rfl kf_X7_289 dX7_image_45 ?_
      refine aw_mlet (fun M4 => ?_)
      refine aw_iconst C (1 : Int32) dX7_image_48 (by decide) ?_
      exact aw_iret C hr dX7_image_49
    · refine aw_ldc C kc_X7_148 dX7_image_18 ?_
      exact aw_iret C hr dX7_image_20
def X7_restore  (x1 : Int32) (M : Mem) : Option (Int32 × Mem) :=
  Option.bind (X7_isChoice x1 (2 : Int32)) fun r1 =>
  if r1 = 0 then
    some ((-1000001 : Int32), M)
  else
    if (((M 0 9) >>> (x1 &&& 31)) &&& (1 : Int32)) = 0 then
      some ((-1000002 : Int32), M)
    else
      Option.bind (X3_loadFrom 15 42 80 (x1 * (40 : Int32)) M) fun M2 =>
      Option.bind (X0_clear M2) fun M3 =>
      some ((1 : Int32), M3)
theorem m_X7_restore   (x1 : Int32) (M : Mem) : AMet 4 yX7_restore cX7_restore 2 (some .int) lyX [.ref 0, .int x1] M (qI lyX) (X7_restore x1 M) := by
  refine am_ent pn_X7 (Nat.le_of_ble_eq_true rfl) (fun E C hr => ?_)
  refine aw_lv (lv' := [(0, .ref 0), (1, .int x1)]) rfl ?_
  unfold X7_restore
  refine aw_iload_n C dX7_restore_0 rfl ?_
  refine aw_iconst C (2 : Int32) dX7_restore_1 (by decide) ?_
  refine aw_cSIp C [.int x1, .int (2 : Int32)] [] (m_X7_isChoice M x1 (2 : Int32)) t_X7_isChoice km_X7_216 (by decide) rfl rfl (Nat.le_of_ble_eq_true rfl) dX7_restore_2 (fun r1 => ?_)
  refine aw_if_ne C (tgt := 11) dX7_restore_5 (by decide) ?_ ?_
  · refine aw_ldc C kc_X7_73 dX7_restore_8 ?_
    exact aw_iret C hr dX7_restore_10
  · refine aw_aload_n C dX7_restore_11 rfl ?_
    refine aw_getI C clX7 lo_X_0 9 rfl (by decide) kf_X7_289 dX7_restore_12 ?_
    refine aw_iload_n C dX7_restore_15 rfl ?_
    refine aw_ishr C dX7_restore_16 ?_
    refine aw_iconst C (1 : Int32) dX7_restore_17 (by decide) ?_
    refine aw_iand C dX7_restore_18 ?_
    refine aw_if_ne C (tgt := 25) dX7_restore_19 (by decide) ?_ ?_
    · refine aw_ldc C kc_X7_148 dX7_restore_22 ?_
      exact aw_iret C hr dX7_restore_24
    · refine aw_aload_n C dX7_restore_25 rfl ?_
      refine aw_getR C (r := 15) clX7 lo_X_0 2 rfl (by decide) kf_X7_26 dX7_restore_26 ?_
      refine aw_aload_n C dX7_restore_29 rfl ?_
      refine aw_getR C (r := 42) clX7 lo_X_0 8 rfl (by decide) kf_X7_65 dX7_restore_30 ?_
      refine aw_iload_n C dX7_restore_33 rfl ?_
      refine aw_bipush C (40 : Int32) dX7_restore_34 (by decide) ?_
      refine aw_imul C dX7_restore_36 ?_
      refine aw_cVV C [.ref 42, .int (x1 * (40 : Int32))] [] (m_X3_loadFrom 15 isHl_15 42 80 la_X_42 (x1 * (40 : Int32)) M) v_X3_loadFrom km_X7_292 (by decide) (hl_o isHl_15) rfl rfl rfl (Nat.le_of_ble_eq_true rfl) dX7_restore_37 (fun M2 => ?_)
      refine aw_aload_n C dX7_restore_40 rfl ?_
      refine aw_getR C (r := 31) clX7 lo_X_0 4 rfl (by decide) kf_X7_36 dX7_restore_41 ?_
      refine aw_cVV C [] [] (m_X0_clear M2) v_X0_clear km_X7_137 (by decide) lo_X_31 rfl rfl rfl (Nat.le_of_ble_eq_true rfl) dX7_restore_44 (fun M3 => ?_)
      refine aw_iconst C (1 : Int32) dX7_restore_47 (by decide) ?_
      exact aw_iret C hr dX7_restore_48
def X7_kind (M : Mem) (x1 : Int32)  : Option (Int32) :=
  Option.bind (X3_has 15 M x1) fun r1 =>
  if r1 = 0 then
    some (-1000001 : Int32)
  else
    if am_in x1 6 = true then
      some (M 16 x1.toNatClampNeg)
    else none
theorem m_X7_kind  (M : Mem) (x1 : Int32)  : AMet 2 yX7_kind cX7_kind 2 (some .int) lyX [.ref 0, .int x1] M (qIp lyX M) (X7_kind M x1) := by
  refine am_ent pn_X7 (Nat.le_of_ble_eq_true rfl) (fun E C hr => ?_)
  refine aw_lv (lv' := [(0, .ref 0), (1, .int x1)]) rfl ?_
  unfold X7_kind
  refine aw_aload_n C dX7_kind_0 rfl ?_
  refine aw_getR C (r := 15) clX7 lo_X_0 2 rfl (by decide) kf_X7_26 dX7_kind_1 ?_
  refine aw_iload_n C dX7_kind_4 rfl ?_
  refine aw_cVIp C [.int x1] [] (m_X3_has 15 isHl_15 M x1) v_X3_has km_X7_164 (by decide) (hl_o isHl_15) rfl rfl rfl (Nat.le_of_ble_eq_true rfl) dX7_kind_5 (fun r1 => ?_)
  refine aw_if_eq C (tgt := 23) dX7_kind_8 (by decide) ?_ ?_
  · refine aw_ldc C kc_X7_73 dX7_kind_23 ?_
    exact aw_iretp C hr dX7_kind_25
  · refine aw_aload_n C dX7_kind_11 rfl ?_
    refine aw_getR C (r := 15) clX7 lo_X_0 2 rfl (by decide) kf_X7_26 dX7_kind_12 ?_
    refine aw_getR C (r := 16) clX3 (hl_o isHl_15) 6 rfl (by decide) kf_X7_295 dX7_kind_15 ?_
    refine aw_iload_n C dX7_kind_18 rfl ?_
    refine aw_iald C (hl_1 isHl_15) dX7_kind_19 ?_
    refine aw_goto C (tgt := 25) dX7_kind_20 (by decide) ?_
    exact aw_iretp C hr dX7_kind_25
def X7_as  (x1 : Int32) (x2 : Int32) (M : Mem) : Option (Int32 × Mem) :=
  Option.bind (X3_has 15 M x1) fun r1 =>
  if r1 = 0 then
    some ((-1000001 : Int32), M)
  else
    if x2 < 0 then
      some ((-1000001 : Int32), M)
    else
      if (5 : Int32) < x2 then
        some ((-1000001 : Int32), M)
      else
        if am_in x1 6 = true then
          Option.bind (X1_isOfKind (M 16 x1.toNatClampNeg) x2) fun r2 =>
          if r2 = 0 then
            Option.bind (X7_found (3 : Int32) M) fun u3 =>
            some (u3.1, u3.2)
          else
            Option.bind (X7_fine x1 M) fun u4 =>
            some (u4.1, u4.2)
        else none
theorem m_X7_as   (x1 : Int32) (x2 : Int32) (M : Mem) : AMet 3 yX7_as cX7_as 3 (some .int) lyX [.ref 0, .int x1, .int x2] M (qI lyX) (X7_as x1 x2 M) := by
  refine am_ent pn_X7 (Nat.le_of_ble_eq_true rfl) (fun E C hr => ?_)
  refine aw_lv (lv' := [(0, .ref 0), (1, .int x1), (2, .int x2)]) rfl ?_
  unfold X7_as
  refine aw_aload_n C dX7_as_0 rfl ?_
  refine aw_getR C (r := 15) clX7 lo_X_0 2 rfl (by decide) kf_X7_26 dX7_as_1 ?_
  refine aw_iload_n C dX7_as_4 rfl ?_
  refine aw_cVIp C [.int x1] [] (m_X3_has 15 isHl_15 M x1) v_X3_has km_X7_164 (by decide) (hl_o isHl_15) rfl rfl rfl (Nat.le_of_ble_eq_true rfl) dX7_as_5 (fun r1 => ?_)
  refine aw_if_eq C (tgt := 20) dX7_as_8 (by decide) ?_ ?_
  · refine aw_ldc C kc_X7_73 dX7_as_20 ?_
    exact aw_iret C hr dX7_as_22
  · refine aw_iload_n C dX7_as_11 rfl ?_
    refine aw_if_lt C (tgt := 20) dX7_as_12 (by decide) ?_ ?_
    · refine aw_ldc C kc_X7_73 dX7_as_20 ?_
      exact aw_iret C hr dX7_as_22
    · refine aw_iload_n C dX7_as_15 rfl ?_
      refine aw_iconst C (5 : Int32) dX7_as_16 (by decide) ?_
      refine aw_icmp_le C (tgt := 23) dX7_as_17 (by decide) ?_ ?_
      · refine aw_ldc C kc_X7_73 dX7_as_20 ?_
        exact aw_iret C hr dX7_as_22
      · refine aw_aload_n C dX7_as_23 rfl ?_
        refine aw_getR C (r := 15) clX7 lo_X_0 2 rfl (by decide) kf_X7_26 dX7_as_24 ?_
        refine aw_getR C (r := 16) clX3 (hl_o isHl_15) 6 rfl (by decide) kf_X7_295 dX7_as_27 ?_
        refine aw_iload_n C dX7_as_30 rfl ?_
        refine aw_iald C (hl_1 isHl_15) dX7_as_31 ?_
        refine aw_iload_n C dX7_as_32 rfl ?_
        refine aw_cSIp C [.int (M 16 x1.toNatClampNeg), .int x2] [] (m_X1_isOfKind M (M 16 x1.toNatClampNeg) x2) t_X1_isOfKind km_X7_298 (by decide) rfl rfl (Nat.le_of_ble_eq_true rfl) dX7_as_33 (fun r2 => ?_)
        refine aw_if_eq C (tgt := 47) dX7_as_36 (by decide) ?_ ?_
        · refine aw_aload_n C dX7_as_47 rfl ?_
          refine aw_iconst C (3 : Int32) dX7_as_48 (by decide) ?_
          refine aw_cVI C [.int (3 : Int32)] [] (m_X7_found (3 : Int32) M) v_X7_found km_X7_74 (by decide) lo_X_0 rfl rfl rfl (Nat.le_of_ble_eq_true rfl) dX7_as_49 (fun u3 => ?_)
          exact aw_iret C hr dX7_as_52
        · refine aw_aload_n C dX7_as_39 rfl ?_
          refine aw_iload_n C dX7_as_40 rfl ?_
          refine aw_cVI C [.int x1] [] (m_X7_fine x1 M) v_X7_fine km_X7_82 (by decide) lo_X_0 rfl rfl rfl (Nat.le_of_ble_eq_true rfl) dX7_as_41 (fun u4 => ?_)
          refine aw_goto C (tgt := 52) dX7_as_44 (by decide) ?_
          exact aw_iret C hr dX7_as_52
def X7_ask  (x1 : Int32) (x2 : Int32) (M : Mem) : Option (Int32 × Mem) :=
  Option.bind (X3_has 15 M x1) fun r1 =>
  if r1 = 0 then
    some ((-1000001 : Int32), M)
  else
    Option.bind (X7_isChoice x2 (2 : Int32)) fun r2 =>
    if r2 = 0 then
      some ((-1000001 : Int32), M)
    else
      Option.bind (X1_begin x1 x2 M) fun u3 =>
      some (u3.1, u3.2)
theorem m_X7_ask   (x1 : Int32) (x2 : Int32) (M : Mem) : AMet 64 yX7_ask cX7_ask 3 (some .int) lyX [.ref 0, .int x1, .int x2] M (qI lyX) (X7_ask x1 x2 M) := by
  refine am_ent pn_X7 (Nat.le_of_ble_eq_true rfl) (fun E C hr => ?_)
  refine aw_lv (lv' := [(0, .ref 0), (1, .int x1), (2, .int x2)]) rfl ?_
  unfold X7_ask
  refine aw_aload_n C dX7_ask_0 rfl ?_
  refine aw_getR C (r := 15) clX7 lo_X_0 2 rfl (by decide) kf_X7_26 dX7_ask_1 ?_
  refine aw_iload_n C dX7_ask_4 rfl ?_
  refine aw_cVIp C [.int x1] [] (m_X3_has 15 isHl_15 M x1) v_X3_has km_X7_164 (by decide) (hl_o isHl_15) rfl rfl rfl (Nat.le_of_ble_eq_true rfl) dX7_ask_5 (fun r1 => ?_)
  refine aw_if_eq C (tgt := 19) dX7_ask_8 (by decide) ?_ ?_
  · refine aw_ldc C kc_X7_73 dX7_ask_19 ?_
    exact aw_iret C hr dX7_ask_21
  · refine aw_iload_n C dX7_ask_11 rfl ?_
    refine aw_iconst C (2 : Int32) dX7_ask_12 (by decide) ?_
    refine aw_cSIp C [.int x2, .int (2 : Int32)] [] (m_X7_isChoice M x2 (2 : Int32)) t_X7_isChoice km_X7_216 (by decide) rfl rfl (Nat.le_of_ble_eq_true rfl) dX7_ask_13 (fun r2 => ?_)
    refine aw_if_ne C (tgt := 22) dX7_ask_16 (by decide) ?_ ?_
    · refine aw_ldc C kc_X7_73 dX7_ask_19 ?_
      exact aw_iret C hr dX7_ask_21
    · refine aw_aload_n C dX7_ask_22 rfl ?_
      refine aw_getR C (r := 40) clX7 lo_X_0 7 rfl (by decide) kf_X7_61 dX7_ask_23 ?_
      refine aw_iload_n C dX7_ask_26 rfl ?_
      refine aw_iload_n C dX7_ask_27 rfl ?_
      refine aw_cVI C [.int x1, .int x2] [] (m_X1_begin x1 x2 M) v_X1_begin km_X7_301 (by decide) lo_X_40 rfl rfl rfl (Nat.le_of_ble_eq_true rfl) dX7_ask_28 (fun u3 => ?_)
      exact aw_iret C hr dX7_ask_31
def X7_trace (M : Mem) (x1 : Int32)  : Option (Int32) :=
  Option.bind (X1_bodyInTrace M x1) fun r1 =>
  some r1
theorem m_X7_trace  (M : Mem) (x1 : Int32)  : AMet 2 yX7_trace cX7_trace 2 (some .int) lyX [.ref 0, .int x1] M (qIp lyX M) (X7_trace M x1) := by
  refine am_ent pn_X7 (Nat.le_of_ble_eq_true rfl) (fun E C hr => ?_)
  refine aw_lv (lv' := [(0, .ref 0), (1, .int x1)]) rfl ?_
  unfold X7_trace
  refine aw_aload_n C dX7_trace_0 rfl ?_
  refine aw_getR C (r := 40) clX7 lo_X_0 7 rfl (by decide) kf_X7_61 dX7_trace_1 ?_
  refine aw_iload_n C dX7_trace_4 rfl ?_
  refine aw_cVIp C [.int x1] [] (m_X1_bodyInTrace M x1) v_X1_bodyInTrace km_X7_304 (by decide) lo_X_40 rfl rfl rfl (Nat.le_of_ble_eq_true rfl) dX7_trace_5 (fun r1 => ?_)
  exact aw_iretp C hr dX7_trace_8
def X7_count (M : Mem) (x1 : Int32)  : Option (Int32) :=
  if x1 = (0 : Int32) then
    Option.bind (X5_howMany M) fun r1 =>
    some r1
  else
  if x1 = (1 : Int32) then
    some (M 15 1)
  else
  if x1 = (2 : Int32) then
    some (M 15 0)
  else
  if x1 = (3 : Int32) then
    some (M 15 2)
  else
  if x1 = (4 : Int32) then
    Option.bind (X3_setOf 15 M (7 : Int32)) fun r6 =>
    Option.bind (J6_bitCount_0f7a4 r6) fun r7 =>
    some r7
  else
  if x1 = (5 : Int32) then
    Option.bind (X3_seenTogether 15 M) fun r9 =>
    some r9
  else
  if x1 = (6 : Int32) then
    Option.bind (X0_kept M) fun r11 =>
    some r11
  else
  if x1 = (7 : Int32) then
    Option.bind (X6_size M) fun r13 =>
    some r13
  else
  some (-1000001 : Int32)
theorem m_X7_count  (M : Mem) (x1 : Int32)  : AMet 5 yX7_count cX7_count 2 (some .int) lyX [.ref 0, .int x1] M (qIp lyX M) (X7_count M x1) := by
  refine am_ent pn_X7 (Nat.le_of_ble_eq_true rfl) (fun E C hr => ?_)
  refine aw_lv (lv' := [(0, .ref 0), (1, .int x1)]) rfl ?_
  unfold X7_count
  refine aw_iload_n C dX7_count_0 rfl ?_
  refine aw_ite (fun h2 => ?_) (fun h2 => ?_)
  · refine aw_tswIn C (tgt := 48) (0 : Int32) h2 dX7_count_1 (by decide) (by decide) rfl (by decide) ?_
    refine aw_aload_n C dX7_count_48 rfl ?_
    refine aw_getR C (r := 1) clX7 lo_X_0 0 rfl (by decide) kf_X7_10 dX7_count_49 ?_
    refine aw_cVIp C [] [] (m_X5_howMany M) v_X5_howMany km_X7_307 (by decide) lo_X_1 rfl rfl rfl (Nat.le_of_ble_eq_true rfl) dX7_count_52 (fun r1 => ?_)
    exact aw_iretp C hr dX7_count_55
  refine aw_ite (fun h3 => ?_) (fun h3 => ?_)
  · refine aw_tswIn C (tgt := 56) (1 : Int32) h3 dX7_count_1 (by decide) (by decide) rfl (by decide) ?_
    refine aw_aload_n C dX7_count_56 rfl ?_
    refine aw_getR C (r := 15) clX7 lo_X_0 2 rfl (by decide) kf_X7_26 dX7_count_57 ?_
    refine aw_getI C clX3 (hl_o isHl_15) 1 rfl (by decide) kf_X7_138 dX7_count_60 ?_
    exact aw_iretp C hr dX7_count_63
  refine aw_ite (fun h4 => ?_) (fun h4 => ?_)
  · refine aw_tswIn C (tgt := 64) (2 : Int32) h4 dX7_count_1 (by decide) (by decide) rfl (by decide) ?_
    refine aw_aload_n C dX7_count_64 rfl ?_
    refine aw_getR C (r := 15) clX7 lo_X_0 2 rfl (by decide) kf_X7_26 dX7_count_65 ?_
    refine aw_getI C clX3 (hl_o isHl_15) 0 rfl (by decide) kf_X7_206 dX7_count_68 ?_
    exact aw_iretp C hr dX7_count_71
  refine aw_ite (fun h5 => ?_) (fun h5 => ?_)
  · refine aw_tswIn C (tgt := 72) (3 : Int32) h5 dX7_count_1 (by decide) (by decide) rfl (by decide) ?_
    refine aw_aload_n C dX7_count_72 rfl ?_
    refine aw_getR C (r := 15) clX7 lo_X_0 2 rfl (by decide) kf_X7_26 dX7_count_73 ?_
    refine aw_getI C clX3 (hl_o isHl_15) 2 rfl (by decide) kf_X7_152 dX7_count_76 ?_
    exact aw_iretp C hr dX7_count_79
  refine aw_ite (fun h8 => ?_) (fun h8 => ?_)
  · refine aw_tswIn C (tgt := 80) (4 : Int32) h8 dX7_count_1 (by decide) (by decide) rfl (by decide) ?_
    refine aw_aload_n C dX7_count_80 rfl ?_
    refine aw_getR C (r := 15) clX7 lo_X_0 2 rfl (by decide) kf_X7_26 dX7_count_81 ?_
    refine aw_bipush C (7 : Int32) dX7_count_84 (by decide) ?_
    refine aw_cVIp C [.int (7 : Int32)] [] (m_X3_setOf 15 isHl_15 M (7 : Int32)) v_X3_setOf km_X7_161 (by decide) (hl_o isHl_15) rfl rfl rfl (Nat.le_of_ble_eq_true rfl) dX7_count_86 (fun r6 => ?_)
    refine aw_cSIp C [.int r6] [] (m_J6_bitCount_0f7a4 M r6) t_J6_bitCount_0f7a4 km_X7_189 (by decide) rfl rfl (Nat.le_of_ble_eq_true rfl) dX7_count_89 (fun r7 => ?_)
    exact aw_iretp C hr dX7_count_92
  refine aw_ite (fun h10 => ?_) (fun h10 => ?_)
  · refine aw_tswIn C (tgt := 93) (5 : Int32) h10 dX7_count_1 (by decide) (by decide) rfl (by decide) ?_
    refine aw_aload_n C dX7_count_93 rfl ?_
    refine aw_getR C (r := 15) clX7 lo_X_0 2 rfl (by decide) kf_X7_26 dX7_count_94 ?_
    refine aw_cVIp C [] [] (m_X3_seenTogether 15 isHl_15 M) v_X3_seenTogether km_X7_310 (by decide) (hl_o isHl_15) rfl rfl rfl (Nat.le_of_ble_eq_true rfl) dX7_count_97 (fun r9 => ?_)
    exact aw_iretp C hr dX7_count_100
  refine aw_ite (fun h12 => ?_) (fun h12 => ?_)
  · refine aw_tswIn C (tgt := 101) (6 : Int32) h12 dX7_count_1 (by decide) (by decide) rfl (by decide) ?_
    refine aw_aload_n C dX7_count_101 rfl ?_
    refine aw_getR C (r := 31) clX7 lo_X_0 4 rfl (by decide) kf_X7_36 dX7_count_102 ?_
    refine aw_cVIp C [] [] (m_X0_kept M) v_X0_kept km_X7_145 (by decide) lo_X_31 rfl rfl rfl (Nat.le_of_ble_eq_true rfl) dX7_count_105 (fun r11 => ?_)
    exact aw_iretp C hr dX7_count_108
  refine aw_ite (fun h14 => ?_) (fun h14 => ?_)
  · refine aw_tswIn C (tgt := 109) (7 : Int32) h14 dX7_count_1 (by decide) (by decide) rfl (by decide) ?_
    refine aw_aload_n C dX7_count_109 rfl ?_
    refine aw_getR C (r := 13) clX7 lo_X_0 1 rfl (by decide) kf_X7_19 dX7_count_110 ?_
    refine aw_cVIp C [] [] (m_X6_size M) v_X6_size km_X7_313 (by decide) lo_X_13 rfl rfl rfl (Nat.le_of_ble_eq_true rfl) dX7_count_113 (fun r13 => ?_)
    exact aw_iretp C hr dX7_count_116
  have q_h2 := lv_neT h2 (a := 0) (by decide)
  have q_h3 := lv_neT h3 (a := 1) (by decide)
  have q_h4 := lv_neT h4 (a := 2) (by decide)
  have q_h5 := lv_neT h5 (a := 3) (by decide)
  have q_h8 := lv_neT h8 (a := 4) (by decide)
  have q_h10 := lv_neT h10 (a := 5) (by decide)
  have q_h12 := lv_neT h12 (a := 6) (by decide)
  have q_h14 := lv_neT h14 (a := 7) (by decide)
  refine aw_tswOut C (tgt := 117) dX7_count_1 (by omega) (by decide) ?_
  refine aw_ldc C kc_X7_73 dX7_count_117 ?_
  exact aw_iretp C hr dX7_count_119
def X7_status (M : Mem)   : Option (Int32) :=
  some (M 0 11)
theorem m_X7_status  (M : Mem)   : AMet 1 yX7_status cX7_status 1 (some .int) lyX [.ref 0] M (qIp lyX M) (X7_status M) := by
  refine am_ent pn_X7 (Nat.le_of_ble_eq_true rfl) (fun E C hr => ?_)
  refine aw_lv (lv' := [(0, .ref 0)]) rfl ?_
  unfold X7_status
  refine aw_aload_n C dX7_status_0 rfl ?_
  refine aw_getI C clX7 lo_X_0 11 rfl (by decide) kf_X7_106 dX7_status_1 ?_
  exact aw_iretp C hr dX7_status_4
