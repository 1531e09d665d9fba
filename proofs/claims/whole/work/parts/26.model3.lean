def X8_drawn_68  : Nat → Int32 → Int32 → Int64 → Int32 → Mem → Option (Int32 × Mem)
  | 0, _, _, _, _, _ => none
  | f + 1, x1, x3, x4, x6, M =>
    if x6 < x1 then
      if (2147483647 : Int64) = 0 then none else
      am_let ((x4 * (16807 : Int64)) - (x4 * (16807 : Int64)) / (2147483647 : Int64) * (2147483647 : Int64)) fun v1 =>
      if am_in (1 : Int32) 1092 = true then
        if (M 1 (1 : Int32).toNatClampNeg).toInt64 = 0 then none else
        am_let ((v1 - v1 / ((M 1 (1 : Int32).toNatClampNeg).toInt64) * ((M 1 (1 : Int32).toNatClampNeg).toInt64)).toInt32) fun v2 =>
        Option.bind (X8_waits M (1053 : Int32) v2) fun r3 =>
        if r3 = 0 then
          Option.bind (X8_comesBack (1053 : Int32) v2 M) fun M4 =>
          Option.bind (X8_ticksOf (1053 : Int32) (1 : Int32) M4) fun M5 =>
          X8_drawn_68  f x1 x3 v1 (x6 + (1 : Int32)) M5
        else
          if (3 : Int64) = 0 then none else
          if (lg_cmp (v1 - v1 / (3 : Int64) * (3 : Int64)) (0 : Int64)) = 0 then
            if am_in (0 : Int32) 1092 = true then
              if (M 1 (0 : Int32).toNatClampNeg).toInt64 = 0 then none else
              if am_in ((1062 : Int32) + v2) 1092 = true then
                am_let (mset M 1 (upd (M 1) ((1062 : Int32) + v2).toNatClampNeg ((v1 - v1 / ((M 1 (0 : Int32).toNatClampNeg).toInt64) * ((M 1 (0 : Int32).toNatClampNeg).toInt64)).toInt32))) fun M6 =>
                Option.bind (X8_ticksOf (1053 : Int32) (1 : Int32) M6) fun M7 =>
                X8_drawn_68  f x1 x3 v1 (x6 + (1 : Int32)) M7
              else none
            else none
          else
            Option.bind (X8_ticksOf (1053 : Int32) (1 : Int32) M) fun M8 =>
            X8_drawn_68  f x1 x3 v1 (x6 + (1 : Int32)) M8
      else none
    else
      if x3 = 0 then
        some (M 0 17, M)
      else
        some (M 0 18, M)
def X8_drawn  (x1 : Int32) (x2 : Int32) (x3 : Int32) (M : Mem) : Option (Int32 × Mem) :=
  Option.bind (X8_isHall M) fun r1 =>
  if r1 = 0 then
    some ((-1000002 : Int32), M)
  else
    Option.bind (X8_in x1.toInt64 (0 : Int64) (60 : Int64)) fun r2 =>
    if r2 = 0 then
      some ((-1000001 : Int32), M)
    else
      Option.bind (X8_in x2.toInt64 (1 : Int64) (999999 : Int64)) fun r3 =>
      if r3 = 0 then
        some ((-1000001 : Int32), M)
      else
        Option.bind (X8_in x3.toInt64 (0 : Int64) (1 : Int64)) fun r4 =>
        if r4 = 0 then
          some ((-1000001 : Int32), M)
        else
          Option.bind (X8_layTried M) fun M5 =>
          am_let (mset M5 0 (upd (M5 0) 17 (0 : Int32))) fun M6 =>
          am_let (mset M6 0 (upd (M6 0) 18 (0 : Int32))) fun M7 =>
          X8_drawn_68 am_fuel x1 x3 x2.toInt64 (0 : Int32) M7
theorem m_X8_drawn_68 {E : amE} (C : amC E 6 cX8_drawn 8 RX8) (hr : (eH E).sig.returnType = (some .int))  : ∀ (f : Nat) (x1 : Int32) (x3 : Int32) (x4 : Int64) (x6 : Int32) (M : Mem), AW E lyM 8 (qI lyM) (X8_drawn_68 f x1 x3 x4 x6 M) 68 [(0, .ref 0), (1, .int x1), (3, .int x3), (4, .long x4), (6, .int x6)] [] M := by
  intro f
  induction f with
  | zero => exact (fun _ _ _ _ _ => aw_none)
  | succ f ih =>
    intro x1 x3 x4 x6 M
    rw [X8_drawn_68]
    refine aw_iload C dX8_drawn_68 rfl ?_
    refine aw_iload_n C dX8_drawn_70 rfl ?_
    refine aw_icmp_ge C (tgt := 170) dX8_drawn_71 (by decide) ?_ ?_
    · refine aw_lload C dX8_drawn_74 rfl ?_
      refine aw_ldc2 C kd_X8_263 dX8_drawn_76 ?_
      refine aw_lmul C dX8_drawn_79 ?_
      refine aw_ldc2 C kd_X8_265 dX8_drawn_80 ?_
      refine aw_lrem C dX8_drawn_83 ?_
      refine aw_llet (fun v1 => ?_)
      refine aw_lstore C [(4, .long v1), (0, .ref 0), (1, .int x1), (3, .int x3), (6, .int x6)] dX8_drawn_84 (by decide) rfl ?_
      refine aw_lload C dX8_drawn_86 rfl ?_
      refine aw_aload_n C dX8_drawn_88 rfl ?_
      refine aw_getR C (r := 1) clX8 lo_M_0 0 rfl (by decide) kf_X8_7 dX8_drawn_89 ?_
      refine aw_iconst C (1 : Int32) dX8_drawn_92 (by decide) ?_
      refine aw_iald C la_M_1 dX8_drawn_93 ?_
      refine aw_i2l C dX8_drawn_94 ?_
      refine aw_lrem C dX8_drawn_95 ?_
      refine aw_l2i C dX8_drawn_96 ?_
      refine aw_ilet (fun v2 => ?_)
      refine aw_istore C [(7, .int v2), (4, .long v1), (0, .ref 0), (1, .int x1), (3, .int x3), (6, .int x6)] dX8_drawn_97 (by decide) rfl ?_
      refine aw_aload_n C dX8_drawn_99 rfl ?_
      refine aw_sipush C (1053 : Int32) dX8_drawn_100 (by decide) ?_
      refine aw_iload C dX8_drawn_103 rfl ?_
      refine aw_cVIp C [.int (1053 : Int32), .int v2] [] (m_X8_waits M (1053 : Int32) v2) v_X8_waits km_X8_141 (by decide) lo_M_0 rfl rfl rfl (Nat.le_of_ble_eq_true rfl) dX8_drawn_105 (fun r3 => ?_)
      refine aw_if_ne C (tgt := 123) dX8_drawn_108 (by decide) ?_ ?_
      · refine aw_aload_n C dX8_drawn_111 rfl ?_
        refine aw_sipush C (1053 : Int32) dX8_drawn_112 (by decide) ?_
        refine aw_iload C dX8_drawn_115 rfl ?_
        refine aw_cVV C [.int (1053 : Int32), .int v2] [] (m_X8_comesBack (1053 : Int32) v2 M) v_X8_comesBack km_X8_201 (by decide) lo_M_0 rfl rfl rfl (Nat.le_of_ble_eq_true rfl) dX8_drawn_117 (fun M4 => ?_)
        refine aw_goto C (tgt := 156) dX8_drawn_120 (by decide) ?_
        refine aw_aload_n C dX8_drawn_156 rfl ?_
        refine aw_sipush C (1053 : Int32) dX8_drawn_157 (by decide) ?_
        refine aw_iconst C (1 : Int32) dX8_drawn_160 (by decide) ?_
        refine aw_cVV C [.int (1053 : Int32), .int (1 : Int32)] [] (m_X8_ticksOf (1053 : Int32) (1 : Int32) M4) v_X8_ticksOf km_X8_187 (by decide) lo_M_0 rfl rfl rfl (Nat.le_of_ble_eq_true rfl) dX8_drawn_161 (fun M5 => ?_)
        refine aw_iinc C (v := (1 : Int32)) [(6, .int (x6 + (1 : Int32))), (7, .int v2), (4, .long v1), (0, .ref 0), (1, .int x1), (3, .int x3)] dX8_drawn_164 rfl (by decide) (by decide) rfl ?_
        refine aw_goto C (tgt := 68) dX8_drawn_167 (by decide) ?_
        refine aw_sub [3, 4, 5, 2, 0] rfl ?_
        exact ih x1 x3 v1 (x6 + (1 : Int32)) M5
      · refine aw_lload C dX8_drawn_123 rfl ?_
        refine aw_ldc2 C kd_X8_199 dX8_drawn_125 ?_
        refine aw_lrem C dX8_drawn_128 ?_
        refine aw_lconst C (0 : Int64) dX8_drawn_129 (by decide) ?_
        refine aw_lcmp C dX8_drawn_130 ?_
        refine aw_if_ne C (tgt := 156) dX8_drawn_131 (by decide) ?_ ?_
        · refine aw_aload_n C dX8_drawn_134 rfl ?_
          refine aw_getR C (r := 1) clX8 lo_M_0 0 rfl (by decide) kf_X8_7 dX8_drawn_135 ?_
          refine aw_sipush C (1062 : Int32) dX8_drawn_138 (by decide) ?_
          refine aw_iload C dX8_drawn_141 rfl ?_
          refine aw_iadd C dX8_drawn_143 ?_
          refine aw_lload C dX8_drawn_144 rfl ?_
          refine aw_aload_n C dX8_drawn_146 rfl ?_
          refine aw_getR C (r := 1) clX8 lo_M_0 0 rfl (by decide) kf_X8_7 dX8_drawn_147 ?_
          refine aw_iconst C (0 : Int32) dX8_drawn_150 (by decide) ?_
          refine aw_iald C la_M_1 dX8_drawn_151 ?_
          refine aw_i2l C dX8_drawn_152 ?_
          refine aw_lrem C dX8_drawn_153 ?_
          refine aw_l2i C dX8_drawn_154 ?_
          refine aw_iast C la_M_1 dX8_drawn_155 ?_
          refine aw_mlet (fun M6 => ?_)
          refine aw_aload_n C dX8_drawn_156 rfl ?_
          refine aw_sipush C (1053 : Int32) dX8_drawn_157 (by decide) ?_
          refine aw_iconst C (1 : Int32) dX8_drawn_160 (by decide) ?_
          refine aw_cVV C [.int (1053 : Int32), .int (1 : Int32)] [] (m_X8_ticksOf (1053 : Int32) (1 : Int32) M6) v_X8_ticksOf km_X8_187 (by decide) lo_M_0 rfl rfl rfl (Nat.le_of_ble_eq_true rfl) dX8_drawn_161 (fun M7 => ?_)
          refine aw_iinc C (v := (1 : Int32)) [(6, .int (x6 + (1 : Int32))), (7, .int v2), (4, .long v1), (0, .ref 0), (1, .int x1), (3, .int x3)] dX8_drawn_164 rfl (by decide) (by decide) rfl ?_
          refine aw_goto C (tgt := 68) dX8_drawn_167 (by decide) ?_
          refine aw_sub [3, 4, 5, 2, 0] rfl ?_
          exact ih x1 x3 v1 (x6 + (1 : Int32)) M7
        · refine aw_aload_n C dX8_drawn_156 rfl ?_
          refine aw_sipush C (1053 : Int32) dX8_drawn_157 (by decide) ?_
          refine aw_iconst C (1 : Int32) dX8_drawn_160 (by decide) ?_
          refine aw_cVV C [.int (1053 : Int32), .int (1 : Int32)] [] (m_X8_ticksOf (1053 : Int32) (1 : Int32) M) v_X8_ticksOf km_X8_187 (by decide) lo_M_0 rfl rfl rfl (Nat.le_of_ble_eq_true rfl) dX8_drawn_161 (fun M8 => ?_)
          refine aw_iinc C (v := (1 : Int32)) [(6, .int (x6 + (1 : Int32))), (7, .int v2), (4, .long v1), (0, .ref 0), (1, .int x1), (3, .int x3)] dX8_drawn_164 rfl (by decide) (by decide) rfl ?_
          refine aw_goto C (tgt := 68) dX8_drawn_167 (by decide) ?_
          refine aw_sub [3, 4, 5, 2, 0] rfl ?_
          exact ih x1 x3 v1 (x6 + (1 : Int32)) M8
    · refine aw_iload_n C dX8_drawn_170 rfl ?_
      refine aw_if_ne C (tgt := 181) dX8_drawn_171 (by decide) ?_ ?_
      · refine aw_aload_n C dX8_drawn_174 rfl ?_
        refine aw_getI C clX8 lo_M_0 17 rfl (by decide) kf_X8_156 dX8_drawn_175 ?_
        refine aw_goto C (tgt := 185) dX8_drawn_178 (by decide) ?_
        exact aw_iret C hr dX8_drawn_185
      · refine aw_aload_n C dX8_drawn_181 rfl ?_
        refine aw_getI C clX8 lo_M_0 18 rfl (by decide) kf_X8_159 dX8_drawn_182 ?_
        exact aw_iret C hr dX8_drawn_185
theorem m_X8_drawn   (x1 : Int32) (x2 : Int32) (x3 : Int32) (M : Mem) : AMet 6 yX8_drawn cX8_drawn 8 (some .int) lyM [.ref 0, .int x1, .int x2, .int x3] M (qI lyM) (X8_drawn x1 x2 x3 M) := by
  refine am_ent pn_X8 (Nat.le_of_ble_eq_true rfl) (fun E C hr => ?_)
  refine aw_lv (lv' := [(0, .ref 0), (1, .int x1), (2, .int x2), (3, .int x3)]) rfl ?_
  unfold X8_drawn
  refine aw_aload_n C dX8_drawn_0 rfl ?_
  refine aw_cVIp C [] [] (m_X8_isHall M) v_X8_isHall km_X8_179 (by decide) lo_M_0 rfl rfl rfl (Nat.le_of_ble_eq_true rfl) dX8_drawn_1 (fun r1 => ?_)
  refine aw_if_ne C (tgt := 10) dX8_drawn_4 (by decide) ?_ ?_
  · refine aw_ldc C kc_X8_178 dX8_drawn_7 ?_
    exact aw_iret C hr dX8_drawn_9
  · refine aw_iload_n C dX8_drawn_10 rfl ?_
    refine aw_i2l C dX8_drawn_11 ?_
    refine aw_lconst C (0 : Int64) dX8_drawn_12 (by decide) ?_
    refine aw_ldc2 C kd_X8_220 dX8_drawn_13 ?_
    refine aw_cSIp C [.long x1.toInt64, .long (0 : Int64), .long (60 : Int64)] [] (m_X8_in M x1.toInt64 (0 : Int64) (60 : Int64)) t_X8_in km_X8_48 (by decide) rfl rfl (Nat.le_of_ble_eq_true rfl) dX8_drawn_16 (fun r2 => ?_)
    refine aw_if_eq C (tgt := 44) dX8_drawn_19 (by decide) ?_ ?_
    · refine aw_ldc C kc_X8_58 dX8_drawn_44 ?_
      exact aw_iret C hr dX8_drawn_46
    · refine aw_iload_n C dX8_drawn_22 rfl ?_
      refine aw_i2l C dX8_drawn_23 ?_
      refine aw_lconst C (1 : Int64) dX8_drawn_24 (by decide) ?_
      refine aw_ldc2 C kd_X8_261 dX8_drawn_25 ?_
      refine aw_cSIp C [.long x2.toInt64, .long (1 : Int64), .long (999999 : Int64)] [] (m_X8_in M x2.toInt64 (1 : Int64) (999999 : Int64)) t_X8_in km_X8_48 (by decide) rfl rfl (Nat.le_of_ble_eq_true rfl) dX8_drawn_28 (fun r3 => ?_)
      refine aw_if_eq C (tgt := 44) dX8_drawn_31 (by decide) ?_ ?_
      · refine aw_ldc C kc_X8_58 dX8_drawn_44 ?_
        exact aw_iret C hr dX8_drawn_46
      · refine aw_iload_n C dX8_drawn_34 rfl ?_
        refine aw_i2l C dX8_drawn_35 ?_
        refine aw_lconst C (0 : Int64) dX8_drawn_36 (by decide) ?_
        refine aw_lconst C (1 : Int64) dX8_drawn_37 (by decide) ?_
        refine aw_cSIp C [.long x3.toInt64, .long (0 : Int64), .long (1 : Int64)] [] (m_X8_in M x3.toInt64 (0 : Int64) (1 : Int64)) t_X8_in km_X8_48 (by decide) rfl rfl (Nat.le_of_ble_eq_true rfl) dX8_drawn_38 (fun r4 => ?_)
        refine aw_if_ne C (tgt := 47) dX8_drawn_41 (by decide) ?_ ?_
        · refine aw_ldc C kc_X8_58 dX8_drawn_44 ?_
          exact aw_iret C hr dX8_drawn_46
        · refine aw_aload_n C dX8_drawn_47 rfl ?_
          refine aw_cVV C [] [] (m_X8_layTried M) v_X8_layTried km_X8_222 (by decide) lo_M_0 rfl rfl rfl (Nat.le_of_ble_eq_true rfl) dX8_drawn_48 (fun M5 => ?_)
          refine aw_aload_n C dX8_drawn_51 rfl ?_
          refine aw_iconst C (0 : Int32) dX8_drawn_52 (by decide) ?_
          refine aw_putI C clX8 lo_M_0 17 rfl (by decide) rfl rfl kf_X8_156 dX8_drawn_53 ?_
          refine aw_mlet (fun M6 => ?_)
          refine aw_aload_n C dX8_drawn_56 rfl ?_
          refine aw_iconst C (0 : Int32) dX8_drawn_57 (by decide) ?_
          refine aw_putI C clX8 lo_M_0 18 rfl (by decide) rfl rfl kf_X8_159 dX8_drawn_58 ?_
          refine aw_mlet (fun M7 => ?_)
          refine aw_iload_n C dX8_drawn_61 rfl ?_
          refine aw_i2l C dX8_drawn_62 ?_
          refine aw_lstore C [(4, .long x2.toInt64), (0, .ref 0), (1, .int x1), (2, .int x2), (3, .int x3)] dX8_drawn_63 (by decide) rfl ?_
          refine aw_iconst C (0 : Int32) dX8_drawn_65 (by decide) ?_
          refine aw_istore C [(6, .int (0 : Int32)), (4, .long x2.toInt64), (0, .ref 0), (1, .int x1), (2, .int x2), (3, .int x3)] dX8_drawn_66 (by decide) rfl ?_
          refine aw_sub [2, 3, 5, 1, 0] rfl ?_
          exact m_X8_drawn_68 C hr am_fuel x1 x3 x2.toInt64 (0 : Int32) M7
def X8_image  (x1 : Int32) (M : Mem) : Option (Int32 × Mem) :=
  Option.bind (X8_in x1.toInt64 (0 : Int64) (1 : Int64)) fun r1 =>
  if r1 = 0 then
    some ((-1000001 : Int32), M)
  else
    Option.bind (X8_isHall M) fun r2 =>
    if r2 = 0 then
      some ((-1000002 : Int32), M)
    else
      Option.bind (X8_copyHall (0 : Int32) ((975 : Int32) + ((39 : Int32) * x1)) M) fun M3 =>
      if am_in x1 2 = true then
        am_let (mset M3 2 (upd (M3 2) x1.toNatClampNeg (1 : Int32))) fun M4 =>
        some ((1 : Int32), M4)
      else none
theorem m_X8_image   (x1 : Int32) (M : Mem) : AMet 2 yX8_image cX8_image 2 (some .int) lyM [.ref 0, .int x1] M (qI lyM) (X8_image x1 M) := by
  refine am_ent pn_X8 (Nat.le_of_ble_eq_true rfl) (fun E C hr => ?_)
  refine aw_lv (lv' := [(0, .ref 0), (1, .int x1)]) rfl ?_
  unfold X8_image
  refine aw_iload_n C dX8_image_0 rfl ?_
  refine aw_i2l C dX8_image_1 ?_
  refine aw_lconst C (0 : Int64) dX8_image_2 (by decide) ?_
  refine aw_lconst C (1 : Int64) dX8_image_3 (by decide) ?_
  refine aw_cSIp C [.long x1.toInt64, .long (0 : Int64), .long (1 : Int64)] [] (m_X8_in M x1.toInt64 (0 : Int64) (1 : Int64)) t_X8_in km_X8_48 (by decide) rfl rfl (Nat.le_of_ble_eq_true rfl) dX8_image_4 (fun r1 => ?_)
  refine aw_if_ne C (tgt := 13) dX8_image_7 (by decide) ?_ ?_
  · refine aw_ldc C kc_X8_58 dX8_image_10 ?_
    exact aw_iret C hr dX8_image_12
  · refine aw_aload_n C dX8_image_13 rfl ?_
    refine aw_cVIp C [] [] (m_X8_isHall M) v_X8_isHall km_X8_179 (by decide) lo_M_0 rfl rfl rfl (Nat.le_of_ble_eq_true rfl) dX8_image_14 (fun r2 => ?_)
    refine aw_if_ne C (tgt := 23) dX8_image_17 (by decide) ?_ ?_
    · refine aw_ldc C kc_X8_178 dX8_image_20 ?_
      exact aw_iret C hr dX8_image_22
    · refine aw_aload_n C dX8_image_23 rfl ?_
      refine aw_iconst C (0 : Int32) dX8_image_24 (by decide) ?_
      refine aw_sipush C (975 : Int32) dX8_image_25 (by decide) ?_
      refine aw_bipush C (39 : Int32) dX8_image_28 (by decide) ?_
      refine aw_iload_n C dX8_image_30 rfl ?_
      refine aw_imul C dX8_image_31 ?_
      refine aw_iadd C dX8_image_32 ?_
      refine aw_cVV C [.int (0 : Int32), .int ((975 : Int32) + ((39 : Int32) * x1))] [] (m_X8_copyHall (0 : Int32) ((975 : Int32) + ((39 : Int32) * x1)) M) v_X8_copyHall km_X8_131 (by decide) lo_M_0 rfl rfl rfl (Nat.le_of_ble_eq_true rfl) dX8_image_33 (fun M3 => ?_)
      refine aw_aload_n C dX8_image_36 rfl ?_
      refine aw_getR C (r := 2) clX8 lo_M_0 2 rfl (by decide) kf_X8_13 dX8_image_37 ?_
      refine aw_iload_n C dX8_image_40 rfl ?_
      refine aw_iconst C (1 : Int32) dX8_image_41 (by decide) ?_
      refine aw_zast C la_M_2 rfl dX8_image_42 ?_
      refine aw_mlet (fun M4 => ?_)
      refine aw_iconst C (1 : Int32) dX8_image_43 (by decide) ?_
      exact aw_iret C hr dX8_image_44
def X8_restore  (x1 : Int32) (M : Mem) : Option (Int32 × Mem) :=
  Option.bind (X8_in x1.toInt64 (0 : Int64) (1 : Int64)) fun r1 =>
  if r1 = 0 then
    some ((-1000001 : Int32), M)
  else
    if am_in x1 2 = true then
      if (M 2 x1.toNatClampNeg) = 0 then
        some ((-1000002 : Int32), M)
      else
        Option.bind (X8_copyHall ((975 : Int32) + ((39 : Int32) * x1)) (0 : Int32) M) fun M2 =>
        am_let (mset M2 0 (upd (M2 0) 1 (0 : Int32))) fun M3 =>
        some ((1 : Int32), M3)
    else none
theorem m_X8_restore   (x1 : Int32) (M : Mem) : AMet 2 yX8_restore cX8_restore 2 (some .int) lyM [.ref 0, .int x1] M (qI lyM) (X8_restore x1 M) := by
  refine am_ent pn_X8 (Nat.le_of_ble_eq_true rfl) (fun E C hr => ?_)
  refine aw_lv (lv' := [(0, .ref 0), (1, .int x1)]) rfl ?_
  unfold X8_restore
  refine aw_iload_n C dX8_restore_0 rfl ?_
  refine aw_i2l C dX8_restore_1 ?_
  refine aw_lconst C (0 : Int64) dX8_restore_2 (by decide) ?_
  refine aw_lconst C (1 : Int64) dX8_restore_3 (by decide) ?_
  refine aw_cSIp C [.long x1.toInt64, .long (0 : Int64), .long (1 : Int64)] [] (m_X8_in M x1.toInt64 (0 : Int64) (1 : Int64)) t_X8_in km_X8_48 (by decide) rfl rfl (Nat.le_of_ble_eq_true rfl) dX8_restore_4 (fun r1 => ?_)
  refine aw_if_ne C (tgt := 13) dX8_restore_7 (by decide) ?_ ?_
  · refine aw_ldc C kc_X8_58 dX8_restore_10 ?_
    exact aw_iret C hr dX8_restore_12
  · refine aw_aload_n C dX8_restore_13 rfl ?_
    refine aw_getR C (r := 2) clX8 lo_M_0 2 rfl (by decide) kf_X8_13 dX8_restore_14 ?_
    refine aw_iload_n C dX8_restore_17 rfl ?_
    refine aw_zald C la_M_2 dX8_restore_18 ?_
    refine aw_if_ne C (tgt := 25) dX8_restore_19 (by decide) ?_ ?_
    · refine aw_ldc C kc_X8_178 dX8_restore_22 ?_
      exact aw_iret C hr dX8_restore_24
    · refine aw_aload_n C dX8_restore_25 rfl ?_
      refine aw_sipush C (975 : Int32) dX8_restore_26 (by decide) ?_
      refine aw_bipush C (39 : Int32) dX8_restore_29 (by decide) ?_
      refine aw_iload_n C dX8_restore_31 rfl ?_
      refine aw_imul C dX8_restore_32 ?_
      refine aw_iadd C dX8_restore_33 ?_
      refine aw_iconst C (0 : Int32) dX8_restore_34 (by decide) ?_
      refine aw_cVV C [.int ((975 : Int32) + ((39 : Int32) * x1)), .int (0 : Int32)] [] (m_X8_copyHall ((975 : Int32) + ((39 : Int32) * x1)) (0 : Int32) M) v_X8_copyHall km_X8_131 (by decide) lo_M_0 rfl rfl rfl (Nat.le_of_ble_eq_true rfl) dX8_restore_35 (fun M2 => ?_)
      refine aw_aload_n C dX8_restore_38 rfl ?_
      refine aw_iconst C (0 : Int32) dX8_restore_39 (by decide) ?_
      refine aw_putI C clX8 lo_M_0 1 rfl (by decide) rfl rfl kf_X8_135 dX8_restore_40 ?_
      refine aw_mlet (fun M3 => ?_)
      refine aw_iconst C (1 : Int32) dX8_restore_43 (by decide) ?_
      exact aw_iret C hr dX8_restore_44
def X8_kind (M : Mem) (x1 : Int32)  : Option (Int32) :=
  Option.bind (X8_isOne M x1) fun r1 =>
  if r1 = 0 then
    some (-1000001 : Int32)
  else
    if am_in ((3 : Int32) + x1) 1092 = true then
      some (M 1 ((3 : Int32) + x1).toNatClampNeg)
    else none
theorem m_X8_kind  (M : Mem) (x1 : Int32)  : AMet 3 yX8_kind cX8_kind 2 (some .int) lyM [.ref 0, .int x1] M (qIp lyM M) (X8_kind M x1) := by
  refine am_ent pn_X8 (Nat.le_of_ble_eq_true rfl) (fun E C hr => ?_)
  refine aw_lv (lv' := [(0, .ref 0), (1, .int x1)]) rfl ?_
  unfold X8_kind
  refine aw_aload_n C dX8_kind_0 rfl ?_
  refine aw_iload_n C dX8_kind_1 rfl ?_
  refine aw_cVIp C [.int x1] [] (m_X8_isOne M x1) v_X8_isOne km_X8_193 (by decide) lo_M_0 rfl rfl rfl (Nat.le_of_ble_eq_true rfl) dX8_kind_2 (fun r1 => ?_)
  refine aw_if_eq C (tgt := 19) dX8_kind_5 (by decide) ?_ ?_
  · refine aw_ldc C kc_X8_58 dX8_kind_19 ?_
    exact aw_iretp C hr dX8_kind_21
  · refine aw_aload_n C dX8_kind_8 rfl ?_
    refine aw_getR C (r := 1) clX8 lo_M_0 0 rfl (by decide) kf_X8_7 dX8_kind_9 ?_
    refine aw_iconst C (3 : Int32) dX8_kind_12 (by decide) ?_
    refine aw_iload_n C dX8_kind_13 rfl ?_
    refine aw_iadd C dX8_kind_14 ?_
    refine aw_iald C la_M_1 dX8_kind_15 ?_
    refine aw_goto C (tgt := 21) dX8_kind_16 (by decide) ?_
    exact aw_iretp C hr dX8_kind_21
def X8_isOf (M : Mem) (x1 : Int32) (x2 : Int32)  : Option (Int32) :=
  if am_in ((3 : Int32) + x1) 1092 = true then
    if x2 = 0 then
      some (1 : Int32)
    else
      if x2 = (M 1 ((3 : Int32) + x1).toNatClampNeg) then
        some (1 : Int32)
      else
        if x2 = (1 : Int32) then
          if (M 1 ((3 : Int32) + x1).toNatClampNeg) < (4 : Int32) then
            some (1 : Int32)
          else
            if x2 = (4 : Int32) then
              if (M 1 ((3 : Int32) + x1).toNatClampNeg) = (5 : Int32) then
                some (1 : Int32)
              else
                some (0 : Int32)
            else
              some (0 : Int32)
        else
          if x2 = (4 : Int32) then
            if (M 1 ((3 : Int32) + x1).toNatClampNeg) = (5 : Int32) then
              some (1 : Int32)
            else
              some (0 : Int32)
          else
            some (0 : Int32)
  else none
theorem m_X8_isOf  (M : Mem) (x1 : Int32) (x2 : Int32)  : AMet 1 yX8_isOf cX8_isOf 4 (some .boolean) lyM [.ref 0, .int x1, .int x2] M (qIp lyM M) (X8_isOf M x1 x2) := by
  refine am_ent pn_X8 (Nat.le_of_ble_eq_true rfl) (fun E C hr => ?_)
  refine aw_lv (lv' := [(0, .ref 0), (1, .int x1), (2, .int x2)]) rfl ?_
  unfold X8_isOf
  refine aw_aload_n C dX8_isOf_0 rfl ?_
  refine aw_getR C (r := 1) clX8 lo_M_0 0 rfl (by decide) kf_X8_7 dX8_isOf_1 ?_
  refine aw_iconst C (3 : Int32) dX8_isOf_4 (by decide) ?_
  refine aw_iload_n C dX8_isOf_5 rfl ?_
  refine aw_iadd C dX8_isOf_6 ?_
  refine aw_iald C la_M_1 dX8_isOf_7 ?_
  refine aw_istore_n C [(3, .int (M 1 ((3 : Int32) + x1).toNatClampNeg)), (0, .ref 0), (1, .int x1), (2, .int x2)] dX8_isOf_8 (by decide) rfl ?_
  refine aw_iload_n C dX8_isOf_9 rfl ?_
  refine aw_if_eq C (tgt := 38) dX8_isOf_10 (by decide) ?_ ?_
  · refine aw_iconst C (1 : Int32) dX8_isOf_38 (by decide) ?_
    refine aw_goto C (tgt := 43) dX8_isOf_39 (by decide) ?_
    exact aw_zretp C (Or.inr rfl) hr dX8_isOf_43
  · refine aw_iload_n C dX8_isOf_13 rfl ?_
    refine aw_iload_n C dX8_isOf_14 rfl ?_
    refine aw_icmp_eq C (tgt := 38) dX8_isOf_15 (by decide) ?_ ?_
    · refine aw_iconst C (1 : Int32) dX8_isOf_38 (by decide) ?_
      refine aw_goto C (tgt := 43) dX8_isOf_39 (by decide) ?_
      exact aw_zretp C (Or.inr rfl) hr dX8_isOf_43
    · refine aw_iload_n C dX8_isOf_18 rfl ?_
      refine aw_iconst C (1 : Int32) dX8_isOf_19 (by decide) ?_
      refine aw_icmp_ne C (tgt := 28) dX8_isOf_20 (by decide) ?_ ?_
      · refine aw_iload_n C dX8_isOf_23 rfl ?_
        refine aw_iconst C (4 : Int32) dX8_isOf_24 (by decide) ?_
        refine aw_icmp_lt C (tgt := 38) dX8_isOf_25 (by decide) ?_ ?_
        · refine aw_iconst C (1 : Int32) dX8_isOf_38 (by decide) ?_
          refine aw_goto C (tgt := 43) dX8_isOf_39 (by decide) ?_
          exact aw_zretp C (Or.inr rfl) hr dX8_isOf_43
        · refine aw_iload_n C dX8_isOf_28 rfl ?_
          refine aw_iconst C (4 : Int32) dX8_isOf_29 (by decide) ?_
          refine aw_icmp_ne C (tgt := 42) dX8_isOf_30 (by decide) ?_ ?_
          · refine aw_iload_n C dX8_isOf_33 rfl ?_
            refine aw_iconst C (5 : Int32) dX8_isOf_34 (by decide) ?_
            refine aw_icmp_ne C (tgt := 42) dX8_isOf_35 (by decide) ?_ ?_
            · refine aw_iconst C (1 : Int32) dX8_isOf_38 (by decide) ?_
              refine aw_goto C (tgt := 43) dX8_isOf_39 (by decide) ?_
              exact aw_zretp C (Or.inr rfl) hr dX8_isOf_43
            · refine aw_iconst C (0 : Int32) dX8_isOf_42 (by decide) ?_
              exact aw_zretp C (Or.inl rfl) hr dX8_isOf_43
          · refine aw_iconst C (0 : Int32) dX8_isOf_42 (by decide) ?_
            exact aw_zretp C (Or.inl rfl) hr dX8_isOf_43
      · refine aw_iload_n C dX8_isOf_28 rfl ?_
        refine aw_iconst C (4 : Int32) dX8_isOf_29 (by decide) ?_
        refine aw_icmp_ne C (tgt := 42) dX8_isOf_30 (by decide) ?_ ?_
        · refine aw_iload_n C dX8_isOf_33 rfl ?_
          refine aw_iconst C (5 : Int32) dX8_isOf_34 (by decide) ?_
          refine aw_icmp_ne C (tgt := 42) dX8_isOf_35 (by decide) ?_ ?_
          · refine aw_iconst C (1 : Int32) dX8_isOf_38 (by decide) ?_
            refine aw_goto C (tgt := 43) dX8_isOf_39 (by decide) ?_
            exact aw_zretp C (Or.inr rfl) hr dX8_isOf_43
          · refine aw_iconst C (0 : Int32) dX8_isOf_42 (by decide) ?_
            exact aw_zretp C (Or.inl rfl) hr dX8_isOf_43
        · refine aw_iconst C (0 : Int32) dX8_isOf_42 (by decide) ?_
          exact aw_zretp C (Or.inl rfl) hr dX8_isOf_43
def X8_as  (x1 : Int32) (x2 : Int32) (M : Mem) : Option (Int32 × Mem) :=
  Option.bind (X8_isOne M x1) fun r1 =>
  if r1 = 0 then
    some ((-1000001 : Int32), M)
  else
    Option.bind (X8_in x2.toInt64 (0 : Int64) (5 : Int64)) fun r2 =>
    if r2 = 0 then
      some ((-1000001 : Int32), M)
    else
      Option.bind (X8_isOf M x1 x2) fun r3 =>
      if r3 = 0 then
        Option.bind (X8_find (3 : Int32) M) fun u4 =>
        some (u4.1, u4.2)
      else
        Option.bind (X8_well x1 M) fun u5 =>
        some (u5.1, u5.2)
theorem m_X8_as   (x1 : Int32) (x2 : Int32) (M : Mem) : AMet 3 yX8_as cX8_as 3 (some .int) lyM [.ref 0, .int x1, .int x2] M (qI lyM) (X8_as x1 x2 M) := by
  refine am_ent pn_X8 (Nat.le_of_ble_eq_true rfl) (fun E C hr => ?_)
  refine aw_lv (lv' := [(0, .ref 0), (1, .int x1), (2, .int x2)]) rfl ?_
  unfold X8_as
  refine aw_aload_n C dX8_as_0 rfl ?_
  refine aw_iload_n C dX8_as_1 rfl ?_
  refine aw_cVIp C [.int x1] [] (m_X8_isOne M x1) v_X8_isOne km_X8_193 (by decide) lo_M_0 rfl rfl rfl (Nat.le_of_ble_eq_true rfl) dX8_as_2 (fun r1 => ?_)
  refine aw_if_eq C (tgt := 20) dX8_as_5 (by decide) ?_ ?_
  · refine aw_ldc C kc_X8_58 dX8_as_20 ?_
    exact aw_iret C hr dX8_as_22
  · refine aw_iload_n C dX8_as_8 rfl ?_
    refine aw_i2l C dX8_as_9 ?_
    refine aw_lconst C (0 : Int64) dX8_as_10 (by decide) ?_
    refine aw_ldc2 C kd_X8_267 dX8_as_11 ?_
    refine aw_cSIp C [.long x2.toInt64, .long (0 : Int64), .long (5 : Int64)] [] (m_X8_in M x2.toInt64 (0 : Int64) (5 : Int64)) t_X8_in km_X8_48 (by decide) rfl rfl (Nat.le_of_ble_eq_true rfl) dX8_as_14 (fun r2 => ?_)
    refine aw_if_ne C (tgt := 23) dX8_as_17 (by decide) ?_ ?_
    · refine aw_ldc C kc_X8_58 dX8_as_20 ?_
      exact aw_iret C hr dX8_as_22
    · refine aw_aload_n C dX8_as_23 rfl ?_
      refine aw_iload_n C dX8_as_24 rfl ?_
      refine aw_iload_n C dX8_as_25 rfl ?_
      refine aw_cVIp C [.int x1, .int x2] [] (m_X8_isOf M x1 x2) v_X8_isOf km_X8_269 (by decide) lo_M_0 rfl rfl rfl (Nat.le_of_ble_eq_true rfl) dX8_as_26 (fun r3 => ?_)
      refine aw_if_eq C (tgt := 40) dX8_as_29 (by decide) ?_ ?_
      · refine aw_aload_n C dX8_as_40 rfl ?_
        refine aw_iconst C (3 : Int32) dX8_as_41 (by decide) ?_
        refine aw_cVI C [.int (3 : Int32)] [] (m_X8_find (3 : Int32) M) v_X8_find km_X8_59 (by decide) lo_M_0 rfl rfl rfl (Nat.le_of_ble_eq_true rfl) dX8_as_42 (fun u4 => ?_)
        exact aw_iret C hr dX8_as_45
      · refine aw_aload_n C dX8_as_32 rfl ?_
        refine aw_iload_n C dX8_as_33 rfl ?_
        refine aw_cVI C [.int x1] [] (m_X8_well x1 M) v_X8_well km_X8_63 (by decide) lo_M_0 rfl rfl rfl (Nat.le_of_ble_eq_true rfl) dX8_as_34 (fun u5 => ?_)
        refine aw_goto C (tgt := 45) dX8_as_37 (by decide) ?_
        exact aw_iret C hr dX8_as_45
def X8_begin  (x1 : Int32) (M : Mem) : Option (Mem) :=
  if (M 0 11) < (16 : Int32) then
    if am_in (M 0 11) 16 = true then
      am_let (mset M 7 (upd (M 7) (M 0 11).toNatClampNeg x1)) fun M1 =>
      am_let (mset M1 0 (upd (M1 0) 11 ((M1 0 11) + (1 : Int32)))) fun M2 =>
      some M2
    else none
  else
    some M
theorem m_X8_begin   (x1 : Int32) (M : Mem) : AMet 1 yX8_begin cX8_begin 2 none lyM [.ref 0, .int x1] M (qV lyM) (X8_begin x1 M) := by
  refine am_ent pn_X8 (Nat.le_of_ble_eq_true rfl) (fun E C hr => ?_)
  refine aw_lv (lv' := [(0, .ref 0), (1, .int x1)]) rfl ?_
  unfold X8_begin
  refine aw_aload_n C dX8_begin_0 rfl ?_
  refine aw_getI C clX8 lo_M_0 11 rfl (by decide) kf_X8_272 dX8_begin_1 ?_
  refine aw_bipush C (16 : Int32) dX8_begin_4 (by decide) ?_
  refine aw_icmp_ge C (tgt := 29) dX8_begin_6 (by decide) ?_ ?_
  · refine aw_aload_n C dX8_begin_9 rfl ?_
    refine aw_getR C (r := 7) clX8 lo_M_0 10 rfl (by decide) kf_X8_29 dX8_begin_10 ?_
    refine aw_aload_n C dX8_begin_13 rfl ?_
    refine aw_getI C clX8 lo_M_0 11 rfl (by decide) kf_X8_272 dX8_begin_14 ?_
    refine aw_iload_n C dX8_begin_17 rfl ?_
    refine aw_iast C la_M_7 dX8_begin_18 ?_
    refine aw_mlet (fun M1 => ?_)
    refine aw_aload_n C dX8_begin_19 rfl ?_
    refine aw_dup C dX8_begin_20 rfl ?_
    refine aw_getI C clX8 lo_M_0 11 rfl (by decide) kf_X8_272 dX8_begin_21 ?_
    refine aw_iconst C (1 : Int32) dX8_begin_24 (by decide) ?_
    refine aw_iadd C dX8_begin_25 ?_
    refine aw_putI C clX8 lo_M_0 11 rfl (by decide) rfl rfl kf_X8_272 dX8_begin_26 ?_
    refine aw_mlet (fun M2 => ?_)
    exact aw_vret C hr dX8_begin_29
  · exact aw_vret C hr dX8_begin_29
def X8_lentSize  (x1 : Int32) (M : Mem) : Option (Int32 × Mem) :=
  Option.bind (X8_begin (10 : Int32) M) fun M1 =>
  if am_in ((9 : Int32) + x1) 1092 = true then
    some (M1 1 ((9 : Int32) + x1).toNatClampNeg, M1)
  else none
theorem m_X8_lentSize   (x1 : Int32) (M : Mem) : AMet 2 yX8_lentSize cX8_lentSize 2 (some .int) lyM [.ref 0, .int x1] M (qI lyM) (X8_lentSize x1 M) := by
  refine am_ent pn_X8 (Nat.le_of_ble_eq_true rfl) (fun E C hr => ?_)
  refine aw_lv (lv' := [(0, .ref 0), (1, .int x1)]) rfl ?_
  unfold X8_lentSize
  refine aw_aload_n C dX8_lentSize_0 rfl ?_
  refine aw_bipush C (10 : Int32) dX8_lentSize_1 (by decide) ?_
  refine aw_cVV C [.int (10 : Int32)] [] (m_X8_begin (10 : Int32) M) v_X8_begin km_X8_275 (by decide) lo_M_0 rfl rfl rfl (Nat.le_of_ble_eq_true rfl) dX8_lentSize_3 (fun M1 => ?_)
  refine aw_aload_n C dX8_lentSize_6 rfl ?_
  refine aw_getR C (r := 1) clX8 lo_M_0 0 rfl (by decide) kf_X8_7 dX8_lentSize_7 ?_
  refine aw_bipush C (9 : Int32) dX8_lentSize_10 (by decide) ?_
  refine aw_iload_n C dX8_lentSize_12 rfl ?_
  refine aw_iadd C dX8_lentSize_13 ?_
  refine aw_iald C la_M_1 dX8_lentSize_14 ?_
  exact aw_iret C hr dX8_lentSize_15
def X8_lentMark  (x1 : Int32) (M : Mem) : Option (Int32 × Mem) :=
  Option.bind (X8_begin (20 : Int32) M) fun M1 =>
  some (x1, M1)
theorem m_X8_lentMark   (x1 : Int32) (M : Mem) : AMet 2 yX8_lentMark cX8_lentMark 2 (some .int) lyM [.ref 0, .int x1] M (qI lyM) (X8_lentMark x1 M) := by
  refine am_ent pn_X8 (Nat.le_of_ble_eq_true rfl) (fun E C hr => ?_)
  refine aw_lv (lv' := [(0, .ref 0), (1, .int x1)]) rfl ?_
  unfold X8_lentMark
  refine aw_aload_n C dX8_lentMark_0 rfl ?_
  refine aw_bipush C (20 : Int32) dX8_lentMark_1 (by decide) ?_
  refine aw_cVV C [.int (20 : Int32)] [] (m_X8_begin (20 : Int32) M) v_X8_begin km_X8_275 (by decide) lo_M_0 rfl rfl rfl (Nat.le_of_ble_eq_true rfl) dX8_lentMark_3 (fun M1 => ?_)
  refine aw_iload_n C dX8_lentMark_6 rfl ?_
  exact aw_iret C hr dX8_lentMark_7
def X8_calmMark  (x1 : Int32) (M : Mem) : Option (Int32 × Mem) :=
  Option.bind (X8_begin (21 : Int32) M) fun M1 =>
  Option.bind (X8_lentMark x1 M1) fun u2 =>
  if am_in ((21 : Int32) + x1) 1092 = true then
    some (u2.1 + (u2.2 1 ((21 : Int32) + x1).toNatClampNeg), u2.2)
  else none
theorem m_X8_calmMark   (x1 : Int32) (M : Mem) : AMet 3 yX8_calmMark cX8_calmMark 2 (some .int) lyM [.ref 0, .int x1] M (qI lyM) (X8_calmMark x1 M) := by
  refine am_ent pn_X8 (Nat.le_of_ble_eq_true rfl) (fun E C hr => ?_)
  refine aw_lv (lv' := [(0, .ref 0), (1, .int x1)]) rfl ?_
  unfold X8_calmMark
  refine aw_aload_n C dX8_calmMark_0 rfl ?_
  refine aw_bipush C (21 : Int32) dX8_calmMark_1 (by decide) ?_
  refine aw_cVV C [.int (21 : Int32)] [] (m_X8_begin (21 : Int32) M) v_X8_begin km_X8_275 (by decide) lo_M_0 rfl rfl rfl (Nat.le_of_ble_eq_true rfl) dX8_calmMark_3 (fun M1 => ?_)
  refine aw_aload_n C dX8_calmMark_6 rfl ?_
  refine aw_iload_n C dX8_calmMark_7 rfl ?_
  refine aw_cVI C [.int x1] [] (m_X8_lentMark x1 M1) v_X8_lentMark km_X8_290 (by decide) lo_M_0 rfl rfl rfl (Nat.le_of_ble_eq_true rfl) dX8_calmMark_8 (fun u2 => ?_)
  refine aw_aload_n C dX8_calmMark_11 rfl ?_
  refine aw_getR C (r := 1) clX8 lo_M_0 0 rfl (by decide) kf_X8_7 dX8_calmMark_12 ?_
  refine aw_bipush C (21 : Int32) dX8_calmMark_15 (by decide) ?_
  refine aw_iload_n C dX8_calmMark_17 rfl ?_
  refine aw_iadd C dX8_calmMark_18 ?_
  refine aw_iald C la_M_1 dX8_calmMark_19 ?_
  refine aw_iadd C dX8_calmMark_20 ?_
  exact aw_iret C hr dX8_calmMark_21
def X8_calmerMark  (x1 : Int32) (M : Mem) : Option (Int32 × Mem) :=
  if am_in ((3 : Int32) + x1) 1092 = true then
    if M 1 ((3 : Int32) + x1).toNatClampNeg = (2 : Int32) then
      Option.bind (X8_begin (24 : Int32) M) fun M1 =>
      Option.bind (X8_calmMark x1 M1) fun u2 =>
      some ((2 : Int32) * u2.1, u2.2)
    else
    if M 1 ((3 : Int32) + x1).toNatClampNeg = (3 : Int32) then
      Option.bind (X8_begin (22 : Int32) M) fun M4 =>
      Option.bind (X8_calmMark x1 M4) fun u5 =>
      some (u5.1 - (1000 : Int32), u5.2)
    else
    Option.bind (X8_calmMark x1 M) fun u7 =>
    some (u7.1, u7.2)
  else none
theorem m_X8_calmerMark   (x1 : Int32) (M : Mem) : AMet 4 yX8_calmerMark cX8_calmerMark 2 (some .int) lyM [.ref 0, .int x1] M (qI lyM) (X8_calmerMark x1 M) := by
  refine am_ent pn_X8 (Nat.le_of_ble_eq_true rfl) (fun E C hr => ?_)
  refine aw_lv (lv' := [(0, .ref 0), (1, .int x1)]) rfl ?_
  unfold X8_calmerMark
  refine aw_aload_n C dX8_calmerMark_0 rfl ?_
  refine aw_getR C (r := 1) clX8 lo_M_0 0 rfl (by decide) kf_X8_7 dX8_calmerMark_1 ?_
  refine aw_iconst C (3 : Int32) dX8_calmerMark_4 (by decide) ?_
  refine aw_iload_n C dX8_calmerMark_5 rfl ?_
  refine aw_iadd C dX8_calmerMark_6 ?_
  refine aw_iald C la_M_1 dX8_calmerMark_7 ?_
  refine aw_ite (fun h3 => ?_) (fun h3 => ?_)
  · refine aw_lsw C (off := 44) (tgt := 52) dX8_calmerMark_8 (by decide) (by rw [h3]; try decide) (by decide) ?_
    refine aw_aload_n C dX8_calmerMark_52 rfl ?_
    refine aw_bipush C (24 : Int32) dX8_calmerMark_53 (by decide) ?_
    refine aw_cVV C [.int (24 : Int32)] [] (m_X8_begin (24 : Int32) M) v_X8_begin km_X8_275 (by decide) lo_M_0 rfl rfl rfl (Nat.le_of_ble_eq_true rfl) dX8_calmerMark_55 (fun M1 => ?_)
    refine aw_iconst C (2 : Int32) dX8_calmerMark_58 (by decide) ?_
    refine aw_aload_n C dX8_calmerMark_59 rfl ?_
    refine aw_iload_n C dX8_calmerMark_60 rfl ?_
    refine aw_cVI C [.int x1] [.int (2 : Int32)] (m_X8_calmMark x1 M1) v_X8_calmMark km_X8_293 (by decide) lo_M_0 rfl rfl rfl (Nat.le_of_ble_eq_true rfl) dX8_calmerMark_61 (fun u2 => ?_)
    refine aw_imul C dX8_calmerMark_64 ?_
    exact aw_iret C hr dX8_calmerMark_65
  refine aw_ite (fun h6 => ?_) (fun h6 => ?_)
  · refine aw_lsw C (off := 28) (tgt := 36) dX8_calmerMark_8 (by decide) (by rw [h6]; try decide) (by decide) ?_
    refine aw_aload_n C dX8_calmerMark_36 rfl ?_
    refine aw_bipush C (22 : Int32) dX8_calmerMark_37 (by decide) ?_
    refine aw_cVV C [.int (22 : Int32)] [] (m_X8_begin (22 : Int32) M) v_X8_begin km_X8_275 (by decide) lo_M_0 rfl rfl rfl (Nat.le_of_ble_eq_true rfl) dX8_calmerMark_39 (fun M4 => ?_)
    refine aw_aload_n C dX8_calmerMark_42 rfl ?_
    refine aw_iload_n C dX8_calmerMark_43 rfl ?_
    refine aw_cVI C [.int x1] [] (m_X8_calmMark x1 M4) v_X8_calmMark km_X8_293 (by decide) lo_M_0 rfl rfl rfl (Nat.le_of_ble_eq_true rfl) dX8_calmerMark_44 (fun u5 => ?_)
    refine aw_sipush C (1000 : Int32) dX8_calmerMark_47 (by decide) ?_
    refine aw_isub C dX8_calmerMark_50 ?_
    exact aw_iret C hr dX8_calmerMark_51
  refine aw_lsw C (off := 58) (tgt := 66) dX8_calmerMark_8 (by decide) (by rw [lv_osw h3 (by decide), lv_osw h6 (by decide)]; try rfl) (by decide) ?_
  refine aw_aload_n C dX8_calmerMark_66 rfl ?_
  refine aw_iload_n C dX8_calmerMark_67 rfl ?_
  refine aw_cVI C [.int x1] [] (m_X8_calmMark x1 M) v_X8_calmMark km_X8_293 (by decide) lo_M_0 rfl rfl rfl (Nat.le_of_ble_eq_true rfl) dX8_calmerMark_68 (fun u7 => ?_)
  exact aw_iret C hr dX8_calmerMark_71
def X8_calmSize  (x1 : Int32) (M : Mem) : Option (Int32 × Mem) :=
  Option.bind (X8_begin (11 : Int32) M) fun M1 =>
  Option.bind (X8_lentSize x1 M1) fun u2 =>
  Option.bind (X8_calmerMark x1 u2.2) fun u3 =>
  some (u2.1 + u3.1, u3.2)
theorem m_X8_calmSize   (x1 : Int32) (M : Mem) : AMet 5 yX8_calmSize cX8_calmSize 3 (some .int) lyM [.ref 0, .int x1] M (qI lyM) (X8_calmSize x1 M) := by
  refine am_ent pn_X8 (Nat.le_of_ble_eq_true rfl) (fun E C hr => ?_)
  refine aw_lv (lv' := [(0, .ref 0), (1, .int x1)]) rfl ?_
  unfold X8_calmSize
  refine aw_aload_n C dX8_calmSize_0 rfl ?_
  refine aw_bipush C (11 : Int32) dX8_calmSize_1 (by decide) ?_
  refine aw_cVV C [.int (11 : Int32)] [] (m_X8_begin (11 : Int32) M) v_X8_begin km_X8_275 (by decide) lo_M_0 rfl rfl rfl (Nat.le_of_ble_eq_true rfl) dX8_calmSize_3 (fun M1 => ?_)
  refine aw_aload_n C dX8_calmSize_6 rfl ?_
  refine aw_iload_n C dX8_calmSize_7 rfl ?_
  refine aw_cVI C [.int x1] [] (m_X8_lentSize x1 M1) v_X8_lentSize km_X8_278 (by decide) lo_M_0 rfl rfl rfl (Nat.le_of_ble_eq_true rfl) dX8_calmSize_8 (fun u2 => ?_)
  refine aw_istore_n C [(2, .int u2.1), (0, .ref 0), (1, .int x1)] dX8_calmSize_11 (by decide) rfl ?_
  refine aw_iload_n C dX8_calmSize_12 rfl ?_
  refine aw_aload_n C dX8_calmSize_13 rfl ?_
  refine aw_iload_n C dX8_calmSize_14 rfl ?_
  refine aw_cVI C [.int x1] [.int u2.1] (m_X8_calmerMark x1 u2.2) v_X8_calmerMark km_X8_281 (by decide) lo_M_0 rfl rfl rfl (Nat.le_of_ble_eq_true rfl) dX8_calmSize_15 (fun u3 => ?_)
  refine aw_iadd C dX8_calmSize_18 ?_
  exact aw_iret C hr dX8_calmSize_19
def X8_slowSize  (x1 : Int32) (M : Mem) : Option (Int32 × Mem) :=
  Option.bind (X8_begin (13 : Int32) M) fun M1 =>
  Option.bind (X8_lentSize x1 M1) fun u2 =>
  some (u2.1 - (100 : Int32), u2.2)
theorem m_X8_slowSize   (x1 : Int32) (M : Mem) : AMet 3 yX8_slowSize cX8_slowSize 2 (some .int) lyM [.ref 0, .int x1] M (qI lyM) (X8_slowSize x1 M) := by
  refine am_ent pn_X8 (Nat.le_of_ble_eq_true rfl) (fun E C hr => ?_)
  refine aw_lv (lv' := [(0, .ref 0), (1, .int x1)]) rfl ?_
  unfold X8_slowSize
  refine aw_aload_n C dX8_slowSize_0 rfl ?_
  refine aw_bipush C (13 : Int32) dX8_slowSize_1 (by decide) ?_
  refine aw_cVV C [.int (13 : Int32)] [] (m_X8_begin (13 : Int32) M) v_X8_begin km_X8_275 (by decide) lo_M_0 rfl rfl rfl (Nat.le_of_ble_eq_true rfl) dX8_slowSize_3 (fun M1 => ?_)
  refine aw_aload_n C dX8_slowSize_6 rfl ?_
  refine aw_iload_n C dX8_slowSize_7 rfl ?_
  refine aw_cVI C [.int x1] [] (m_X8_lentSize x1 M1) v_X8_lentSize km_X8_278 (by decide) lo_M_0 rfl rfl rfl (Nat.le_of_ble_eq_true rfl) dX8_slowSize_8 (fun u2 => ?_)
  refine aw_bipush C (100 : Int32) dX8_slowSize_11 (by decide) ?_
  refine aw_isub C dX8_slowSize_13 ?_
  exact aw_iret C hr dX8_slowSize_14
def X8_sizeOf  (x1 : Int32) (M : Mem) : Option (Int32 × Mem) :=
  if am_in ((3 : Int32) + x1) 1092 = true then
    if M 1 ((3 : Int32) + x1).toNatClampNeg = (2 : Int32) then
      Option.bind (X8_begin (12 : Int32) M) fun M1 =>
      Option.bind (X8_calmSize x1 M1) fun u2 =>
      some (-u2.1, u2.2)
    else
    if M 1 ((3 : Int32) + x1).toNatClampNeg = (3 : Int32) then
      Option.bind (X8_calmSize x1 M) fun u4 =>
      some (u4.1, u4.2)
    else
    if M 1 ((3 : Int32) + x1).toNatClampNeg = (4 : Int32) then
      Option.bind (X8_slowSize x1 M) fun u6 =>
      some (u6.1, u6.2)
    else
    if M 1 ((3 : Int32) + x1).toNatClampNeg = (5 : Int32) then
      Option.bind (X8_begin (14 : Int32) M) fun M8 =>
      Option.bind (X8_slowSize x1 M8) fun u9 =>
      some ((2 : Int32) * u9.1, u9.2)
    else
    Option.bind (X8_calmSize x1 M) fun u11 =>
    some (u11.1, u11.2)
  else none
theorem m_X8_sizeOf   (x1 : Int32) (M : Mem) : AMet 6 yX8_sizeOf cX8_sizeOf 2 (some .int) lyM [.ref 0, .int x1] M (qI lyM) (X8_sizeOf x1 M) := by
  refine am_ent pn_X8 (Nat.le_of_ble_eq_true rfl) (fun E C hr => ?_)
  refine aw_lv (lv' := [(0, .ref 0), (1, .int x1)]) rfl ?_
  unfold X8_sizeOf
  refine aw_aload_n C dX8_sizeOf_0 rfl ?_
  refine aw_getR C (r := 1) clX8 lo_M_0 0 rfl (by decide) kf_X8_7 dX8_sizeOf_1 ?_
  refine aw_iconst C (3 : Int32) dX8_sizeOf_4 (by decide) ?_
  refine aw_iload_n C dX8_sizeOf_5 rfl ?_
  refine aw_iadd C dX8_sizeOf_6 ?_
  refine aw_iald C la_M_1 dX8_sizeOf_7 ?_
  refine aw_ite (fun h3 => ?_) (fun h3 => ?_)
  · refine aw_tswIn C (tgt := 40) (2 : Int32) h3 dX8_sizeOf_8 (by decide) (by decide) rfl (by decide) ?_
    refine aw_aload_n C dX8_sizeOf_40 rfl ?_
    refine aw_bipush C (12 : Int32) dX8_sizeOf_41 (by decide) ?_
    refine aw_cVV C [.int (12 : Int32)] [] (m_X8_begin (12 : Int32) M) v_X8_begin km_X8_275 (by decide) lo_M_0 rfl rfl rfl (Nat.le_of_ble_eq_true rfl) dX8_sizeOf_43 (fun M1 => ?_)
    refine aw_aload_n C dX8_sizeOf_46 rfl ?_
    refine aw_iload_n C dX8_sizeOf_47 rfl ?_
    refine aw_cVI C [.int x1] [] (m_X8_calmSize x1 M1) v_X8_calmSize km_X8_284 (by decide) lo_M_0 rfl rfl rfl (Nat.le_of_ble_eq_true rfl) dX8_sizeOf_48 (fun u2 => ?_)
    refine aw_ineg C dX8_sizeOf_51 ?_
    exact aw_iret C hr dX8_sizeOf_52
  refine aw_ite (fun h5 => ?_) (fun h5 => ?_)
  · refine aw_tswIn C (tgt := 73) (3 : Int32) h5 dX8_sizeOf_8 (by decide) (by decide) rfl (by decide) ?_
    refine aw_aload_n C dX8_sizeOf_73 rfl ?_
    refine aw_iload_n C dX8_sizeOf_74 rfl ?_
    refine aw_cVI C [.int x1] [] (m_X8_calmSize x1 M) v_X8_calmSize km_X8_284 (by decide) lo_M_0 rfl rfl rfl (Nat.le_of_ble_eq_true rfl) dX8_sizeOf_75 (fun u4 => ?_)
    exact aw_iret C hr dX8_sizeOf_78
  refine aw_ite (fun h7 => ?_) (fun h7 => ?_)
  · refine aw_tswIn C (tgt := 53) (4 : Int32) h7 dX8_sizeOf_8 (by decide) (by decide) rfl (by decide) ?_
    refine aw_aload_n C dX8_sizeOf_53 rfl ?_
    refine aw_iload_n C dX8_sizeOf_54 rfl ?_
    refine aw_cVI C [.int x1] [] (m_X8_slowSize x1 M) v_X8_slowSize km_X8_287 (by decide) lo_M_0 rfl rfl rfl (Nat.le_of_ble_eq_true rfl) dX8_sizeOf_55 (fun u6 => ?_)
    exact aw_iret C hr dX8_sizeOf_58
  refine aw_ite (fun h10 => ?_) (fun h10 => ?_)
  · refine aw_tswIn C (tgt := 59) (5 : Int32) h10 dX8_sizeOf_8 (by decide) (by decide) rfl (by decide) ?_
    refine aw_aload_n C dX8_sizeOf_59 rfl ?_
    refine aw_bipush C (14 : Int32) dX8_sizeOf_60 (by decide) ?_
    refine aw_cVV C [.int (14 : Int32)] [] (m_X8_begin (14 : Int32) M) v_X8_begin km_X8_275 (by decide) lo_M_0 rfl rfl rfl (Nat.le_of_ble_eq_true rfl) dX8_sizeOf_62 (fun M8 => ?_)
    refine aw_iconst C (2 : Int32) dX8_sizeOf_65 (by decide) ?_
    refine aw_aload_n C dX8_sizeOf_66 rfl ?_
    refine aw_iload_n C dX8_sizeOf_67 rfl ?_
    refine aw_cVI C [.int x1] [.int (2 : Int32)] (m_X8_slowSize x1 M8) v_X8_slowSize km_X8_287 (by decide) lo_M_0 rfl rfl rfl (Nat.le_of_ble_eq_true rfl) dX8_sizeOf_68 (fun u9 => ?_)
    refine aw_imul C dX8_sizeOf_71 ?_
    exact aw_iret C hr dX8_sizeOf_72
  have q_h3 := lv_neT h3 (a := 2) (by decide)
  have q_h5 := lv_neT h5 (a := 3) (by decide)
  have q_h7 := lv_neT h7 (a := 4) (by decide)
  have q_h10 := lv_neT h10 (a := 5) (by decide)
  refine aw_tswOut C (tgt := 73) dX8_sizeOf_8 (by omega) (by decide) ?_
  refine aw_aload_n C dX8_sizeOf_73 rfl ?_
  refine aw_iload_n C dX8_sizeOf_74 rfl ?_
  refine aw_cVI C [.int x1] [] (m_X8_calmSize x1 M) v_X8_calmSize km_X8_284 (by decide) lo_M_0 rfl rfl rfl (Nat.le_of_ble_eq_true rfl) dX8_sizeOf_75 (fun u11 => ?_)
  exact aw_iret C hr dX8_sizeOf_78
def X8_slowMark  (x1 : Int32) (M : Mem) : Option (Int32 × Mem) :=
  Option.bind (X8_begin (23 : Int32) M) fun M1 =>
  Option.bind (X8_lentMark x1 M1) fun u2 =>
  Option.bind (X8_sizeOf x1 u2.2) fun u3 =>
  some (u2.1 - u3.1, u3.2)
theorem m_X8_slowMark   (x1 : Int32) (M : Mem) : AMet 7 yX8_slowMark cX8_slowMark 3 (some .int) lyM [.ref 0, .int x1] M (qI lyM) (X8_slowMark x1 M) := by
  refine am_ent pn_X8 (Nat.le_of_ble_eq_true rfl) (fun E C hr => ?_)
  refine aw_lv (lv' := [(0, .ref 0), (1, .int x1)]) rfl ?_
  unfold X8_slowMark
  refine aw_aload_n C dX8_slowMark_0 rfl ?_
  refine aw_bipush C (23 : Int32) dX8_slowMark_1 (by decide) ?_
  refine aw_cVV C [.int (23 : Int32)] [] (m_X8_begin (23 : Int32) M) v_X8_begin km_X8_275 (by decide) lo_M_0 rfl rfl rfl (Nat.le_of_ble_eq_true rfl) dX8_slowMark_3 (fun M1 => ?_)
  refine aw_aload_n C dX8_slowMark_6 rfl ?_
  refine aw_iload_n C dX8_slowMark_7 rfl ?_
  refine aw_cVI C [.int x1] [] (m_X8_lentMark x1 M1) v_X8_lentMark km_X8_290 (by decide) lo_M_0 rfl rfl rfl (Nat.le_of_ble_eq_true rfl) dX8_slowMark_8 (fun u2 => ?_)
  refine aw_istore_n C [(2, .int u2.1), (0, .ref 0), (1, .int x1)] dX8_slowMark_11 (by decide) rfl ?_
  refine aw_iload_n C dX8_slowMark_12 rfl ?_
  refine aw_aload_n C dX8_slowMark_13 rfl ?_
  refine aw_iload_n C dX8_slowMark_14 rfl ?_
  refine aw_cVI C [.int x1] [.int u2.1] (m_X8_sizeOf x1 u2.2) v_X8_sizeOf km_X8_296 (by decide) lo_M_0 rfl rfl rfl (Nat.le_of_ble_eq_true rfl) dX8_slowMark_15 (fun u3 => ?_)
  refine aw_isub C dX8_slowMark_18 ?_
  exact aw_iret C hr dX8_slowMark_19
def X8_ask  (x1 : Int32) (x2 : Int32) (M : Mem) : Option (Int32 × Mem) :=
  Option.bind (X8_isOne M x1) fun r1 =>
  if r1 = 0 then
    some ((-1000001 : Int32), M)
  else
    Option.bind (X8_in x2.toInt64 (0 : Int64) (1 : Int64)) fun r2 =>
    if r2 = 0 then
      some ((-1000001 : Int32), M)
    else
      am_let (mset M 0 (upd (M 0) 11 (0 : Int32))) fun M3 =>
      if x2 = 0 then
        Option.bind (X8_sizeOf x1 M3) fun u4 =>
        some (u4.1, u4.2)
      else
        Option.bind (X8_isOf M3 x1 (4 : Int32)) fun r5 =>
        if r5 = 0 then
          Option.bind (X8_calmerMark x1 M3) fun u6 =>
          some (u6.1, u6.2)
        else
          Option.bind (X8_slowMark x1 M3) fun u7 =>
          some (u7.1, u7.2)
theorem m_X8_ask   (x1 : Int32) (x2 : Int32) (M : Mem) : AMet 8 yX8_ask cX8_ask 3 (some .int) lyM [.ref 0, .int x1, .int x2] M (qI lyM) (X8_ask x1 x2 M) := by
  refine am_ent pn_X8 (Nat.le_of_ble_eq_true rfl) (fun E C hr => ?_)
  refine aw_lv (lv' := [(0, .ref 0), (1, .int x1), (2, .int x2)]) rfl ?_
  unfold X8_ask
  refine aw_aload_n C dX8_ask_0 rfl ?_
  refine aw_iload_n C dX8_ask_1 rfl ?_
  refine aw_cVIp C [.int x1] [] (m_X8_isOne M x1) v_X8_isOne km_X8_193 (by decide) lo_M_0 rfl rfl rfl (Nat.le_of_ble_eq_true rfl) dX8_ask_2 (fun r1 => ?_)
  refine aw_if_eq C (tgt := 18) dX8_ask_5 (by decide) ?_ ?_
  · refine aw_ldc C kc_X8_58 dX8_ask_18 ?_
    exact aw_iret C hr dX8_ask_20
  · refine aw_iload_n C dX8_ask_8 rfl ?_
    refine aw_i2l C dX8_ask_9 ?_
    refine aw_lconst C (0 : Int64) dX8_ask_10 (by decide) ?_
    refine aw_lconst C (1 : Int64) dX8_ask_11 (by decide) ?_
    refine aw_cSIp C [.long x2.toInt64, .long (0 : Int64), .long (1 : Int64)] [] (m_X8_in M x2.toInt64 (0 : Int64) (1 : Int64)) t_X8_in km_X8_48 (by decide) rfl rfl (Nat.le_of_ble_eq_true rfl) dX8_ask_12 (fun r2 => ?_)
    refine aw_if_ne C (tgt := 21) dX8_ask_15 (by decide) ?_ ?_
    · refine aw_ldc C kc_X8_58 dX8_ask_18 ?_
      exact aw_iret C hr dX8_ask_20
    · refine aw_aload_n C dX8_ask_21 rfl ?_
      refine aw_iconst C (0 : Int32) dX8_ask_22 (by decide) ?_
      refine aw_putI C clX8 lo_M_0 11 rfl (by decide) rfl rfl kf_X8_272 dX8_ask_23 ?_
      refine aw_mlet (fun M3 => ?_)
      refine aw_iload_n C dX8_ask_26 rfl ?_
      refine aw_if_ne C (tgt := 38) dX8_ask_27 (by decide) ?_ ?_
      · refine aw_aload_n C dX8_ask_30 rfl ?_
        refine aw_iload_n C dX8_ask_31 rfl ?_
        refine aw_cVI C [.int x1] [] (m_X8_sizeOf x1 M3) v_X8_sizeOf km_X8_296 (by decide) lo_M_0 rfl rfl rfl (Nat.le_of_ble_eq_true rfl) dX8_ask_32 (fun u4 => ?_)
        refine aw_goto C (tgt := 60) dX8_ask_35 (by decide) ?_
        exact aw_iret C hr dX8_ask_60
      · refine aw_aload_n C dX8_ask_38 rfl ?_
        refine aw_iload_n C dX8_ask_39 rfl ?_
        refine aw_iconst C (4 : Int32) dX8_ask_40 (by decide) ?_
        refine aw_cVIp C [.int x1, .int (4 : Int32)] [] (m_X8_isOf M3 x1 (4 : Int32)) v_X8_isOf km_X8_269 (by decide) lo_M_0 rfl rfl rfl (Nat.le_of_ble_eq_true rfl) dX8_ask_41 (fun r5 => ?_)
        refine aw_if_eq C (tgt := 55) dX8_ask_44 (by decide) ?_ ?_
        · refine aw_aload_n C dX8_ask_55 rfl ?_
          refine aw_iload_n C dX8_ask_56 rfl ?_
          refine aw_cVI C [.int x1] [] (m_X8_calmerMark x1 M3) v_X8_calmerMark km_X8_281 (by decide) lo_M_0 rfl rfl rfl (Nat.le_of_ble_eq_true rfl) dX8_ask_57 (fun u6 => ?_)
          exact aw_iret C hr dX8_ask_60
        · refine aw_aload_n C dX8_ask_47 rfl ?_
          refine aw_iload_n C dX8_ask_48 rfl ?_
          refine aw_cVI C [.int x1] [] (m_X8_slowMark x1 M3) v_X8_slowMark km_X8_299 (by decide) lo_M_0 rfl rfl rfl (Nat.le_of_ble_eq_true rfl) dX8_ask_49 (fun u7 => ?_)
          refine aw_goto C (tgt := 60) dX8_ask_52 (by decide) ?_
          exact aw_iret C hr dX8_ask_60
def X8_trace (M : Mem) (x1 : Int32)  : Option (Int32) :=
  Option.bind (X8_in x1.toInt64 (0 : Int64) (((M 0 11) - (1 : Int32)).toInt64)) fun r1 =>
  if r1 = 0 then
    some (-1000000 : Int32)
  else
    if am_in x1 16 = true then
      some (M 7 x1.toNatClampNeg)
    else none
theorem m_X8_trace  (M : Mem) (x1 : Int32)  : AMet 2 yX8_trace cX8_trace 2 (some .int) lyM [.ref 0, .int x1] M (qIp lyM M) (X8_trace M x1) := by
  refine am_ent pn_X8 (Nat.le_of_ble_eq_true rfl) (fun E C hr => ?_)
  refine aw_lv (lv' := [(0, .ref 0), (1, .int x1)]) rfl ?_
  unfold X8_trace
  refine aw_iload_n C dX8_trace_0 rfl ?_
  refine aw_i2l C dX8_trace_1 ?_
  refine aw_lconst C (0 : Int64) dX8_trace_2 (by decide) ?_
  refine aw_aload_n C dX8_trace_3 rfl ?_
  refine aw_getI C clX8 lo_M_0 11 rfl (by decide) kf_X8_272 dX8_trace_4 ?_
  refine aw_iconst C (1 : Int32) dX8_trace_7 (by decide) ?_
  refine aw_isub C dX8_trace_8 ?_
  refine aw_i2l C dX8_trace_9 ?_
  refine aw_cSIp C [.long x1.toInt64, .long (0 : Int64), .long (((M 0 11) - (1 : Int32)).toInt64)] [] (m_X8_in M x1.toInt64 (0 : Int64) (((M 0 11) - (1 : Int32)).toInt64)) t_X8_in km_X8_48 (by decide) rfl rfl (Nat.le_of_ble_eq_true rfl) dX8_trace_10 (fun r1 => ?_)
  refine aw_if_eq C (tgt := 25) dX8_trace_13 (by decide) ?_ ?_
  · refine aw_ldc C kc_X8_116 dX8_trace_25 ?_
    exact aw_iretp C hr dX8_trace_27
  · refine aw_aload_n C dX8_trace_16 rfl ?_
    refine aw_getR C (r := 7) clX8 lo_M_0 10 rfl (by decide) kf_X8_29 dX8_trace_17 ?_
    refine aw_iload_n C dX8_trace_20 rfl ?_
    refine aw_iald C la_M_7 dX8_trace_21 ?_
    refine aw_goto C (tgt := 27) dX8_trace_22 (by decide) ?_
    exact aw_iretp C hr dX8_trace_27
def X8_count_50 (M : Mem) : Nat → Int32 → Int32 → Option (Int32)
  | 0, _, _ => none
  | f + 1, x2, x3 =>
    if x3 < (8 : Int32) then
      if am_in x3 8 = true then
        if (M 4 x3.toNatClampNeg) < 0 then
          X8_count_50 M f (x2 + (0 : Int32)) (x3 + (1 : Int32))
        else
          X8_count_50 M f (x2 + (1 : Int32)) (x3 + (1 : Int32))
      else none
    else
      some x2
def X8_count (M : Mem) (x1 : Int32)  : Option (Int32) :=
  if x1 = (0 : Int32) then
    X8_count_50 M am_fuel (0 : Int32) (0 : Int32)
  else
  if x1 = (1 : Int32) then
    if am_in (1 : Int32) 1092 = true then
      some (M 1 (1 : Int32).toNatClampNeg)
    else none
  else
  if x1 = (2 : Int32) then
    if am_in (0 : Int32) 1092 = true then
      some (M 1 (0 : Int32).toNatClampNeg)
    else none
  else
  if x1 = (3 : Int32) then
    if am_in (2 : Int32) 1092 = true then
      some (M 1 (2 : Int32).toNatClampNeg)
    else none
  else
  if x1 = (4 : Int32) then
    Option.bind (X8_goneOnes M (0 : Int32)) fun r5 =>
    Option.bind (X8_bits r5) fun r6 =>
    some r6
  else
  if x1 = (5 : Int32) then
    Option.bind (X8_allSaw M (0 : Int32)) fun r8 =>
    some r8
  else
  if x1 = (6 : Int32) then
    some (M 0 1)
  else
  if x1 = (7 : Int32) then
    some (M 0 7)
  else
  some (-1000001 : Int32)
theorem m_X8_count_50 {E : amE} (C : amC E 3 cX8_count 4 RX8) (hr : (eH E).sig.returnType = (some .int)) (M : Mem) : ∀ (f : Nat) (x2 : Int32) (x3 : Int32), AW E lyM 4 (qIp lyM M) (X8_count_50 M f x2 x3) 50 [(0, .ref 0), (2, .int x2), (3, .int x3)] [] M := by
  intro f
  induction f with
  | zero => exact (fun _ _ => aw_none)
  | succ f ih =>
    intro x2 x3
    rw [X8_count_50]
    refine aw_iload_n C dX8_count_50 rfl ?_
    refine aw_bipush C (8 : Int32) dX8_count_51 (by decide) ?_
    refine aw_icmp_ge C (tgt := 79) dX8_count_53 (by decide) ?_ ?_
    · refine aw_iload_n C dX8_count_56 rfl ?_
      refine aw_aload_n C dX8_count_57 rfl ?_
      refine aw_getR C (r := 4) clX8 lo_M_0 4 rfl (by decide) kf_X8_20 dX8_count_58 ?_
      refine aw_iload_n C dX8_count_61 rfl ?_
      refine aw_iald C la_M_4 dX8_count_62 ?_
      refine aw_if_ge C (tgt := 70) dX8_count_63 (by decide) ?_ ?_
      · refine aw_iconst C (0 : Int32) dX8_count_66 (by decide) ?_
        refine aw_goto C (tgt := 71) dX8_count_67 (by decide) ?_
        refine aw_iadd C dX8_count_71 ?_
        refine aw_istore_n C [(2, .int (x2 + (0 : Int32))), (0, .ref 0), (3, .int x3)] dX8_count_72 (by decide) rfl ?_
        refine aw_iinc C (v := (1 : Int32)) [(3, .int (x3 + (1 : Int32))), (2, .int (x2 + (0 : Int32))), (0, .ref 0)] dX8_count_73 rfl (by decide) (by decide) rfl ?_
        refine aw_goto C (tgt := 50) dX8_count_76 (by decide) ?_
        refine aw_sub [2, 1, 0] rfl ?_
        exact ih (x2 + (0 : Int32)) (x3 + (1 : Int32))
      · refine aw_iconst C (1 : Int32) dX8_count_70 (by decide) ?_
        refine aw_iadd C dX8_count_71 ?_
        refine aw_istore_n C [(2, .int (x2 + (1 : Int32))), (0, .ref 0), (3, .int x3)] dX8_count_72 (by decide) rfl ?_
        refine aw_iinc C (v := (1 : Int32)) [(3, .int (x3 + (1 : Int32))), (2, .int (x2 + (1 : Int32))), (0, .ref 0)] dX8_count_73 rfl (by decide) (by decide) rfl ?_
        refine aw_goto C (tgt := 50) dX8_count_76 (by decide) ?_
        refine aw_sub [2, 1, 0] rfl ?_
        exact ih (x2 + (1 : Int32)) (x3 + (1 : Int32))
    · refine aw_iload_n C dX8_count_79 rfl ?_
      exact aw_iretp C hr dX8_count_80
theorem m_X8_count  (M : Mem) (x1 : Int32)  : AMet 3 yX8_count cX8_count 4 (some .int) lyM [.ref 0, .int x1] M (qIp lyM M) (X8_count M x1) := by
  refine am_ent pn_X8 (Nat.le_of_ble_eq_true rfl) (fun E C hr => ?_)
  refine aw_lv (lv' := [(0, .ref 0), (1, .int x1)]) rfl ?_
  unfold X8_count
  refine aw_iconst C (0 : Int32) dX8_count_0 (by decide) ?_
  refine aw_istore_n C [(2, .int (0 : Int32)), (0, .ref 0), (1, .int x1)] dX8_count_1 (by decide) rfl ?_
  refine aw_iload_n C dX8_count_2 rfl ?_
  refine aw_ite (fun h1 => ?_) (fun h1 => ?_)
  · refine aw_tswIn C (tgt := 48) (0 : Int32) h1 dX8_count_3 (by decide) (by decide) rfl (by decide) ?_
    refine aw_iconst C (0 : Int32) dX8_count_48 (by decide) ?_
    refine aw_istore_n C [(3, .int (0 : Int32)), (2, .int (0 : Int32)), (0, .ref 0), (1, .int x1)] dX8_count_49 (by decide) rfl ?_
    refine aw_sub [2, 1, 0] rfl ?_
    exact m_X8_count_50 C hr M am_fuel (0 : Int32) (0 : Int32)
  refine aw_ite (fun h2 => ?_) (fun h2 => ?_)
  · refine aw_tswIn C (tgt := 81) (1 : Int32) h2 dX8_count_3 (by decide) (by decide) rfl (by decide) ?_
    refine aw_aload_n C dX8_count_81 rfl ?_
    refine aw_getR C (r := 1) clX8 lo_M_0 0 rfl (by decide) kf_X8_7 dX8_count_82 ?_
    refine aw_iconst C (1 : Int32) dX8_count_85 (by decide) ?_
    refine aw_iald C la_M_1 dX8_count_86 ?_
    exact aw_iretp C hr dX8_count_87
  refine aw_ite (fun h3 => ?_) (fun h3 => ?_)
  · refine aw_tswIn C (tgt := 88) (2 : Int32) h3 dX8_count_3 (by decide) (by decide) rfl (by decide) ?_
    refine aw_aload_n C dX8_count_88 rfl ?_
    refine aw_getR C (r := 1) clX8 lo_M_0 0 rfl (by decide) kf_X8_7 dX8_count_89 ?_
    refine aw_iconst C (0 : Int32) dX8_count_92 (by decide) ?_
    refine aw_iald C la_M_1 dX8_count_93 ?_
    exact aw_iretp C hr dX8_count_94
  refine aw_ite (fun h4 => ?_) (fun h4 => ?_)
  · refine aw_tswIn C (tgt := 95) (3 : Int32) h4 dX8_count_3 (by decide) (by decide) rfl (by decide) ?_
    refine aw_aload_n C dX8_count_95 rfl ?_
    refine aw_getR C (r := 1) clX8 lo_M_0 0 rfl (by decide) kf_X8_7 dX8_count_96 ?_
    refine aw_iconst C (2 : Int32) dX8_count_99 (by decide) ?_
    refine aw_iald C la_M_1 dX8_count_100 ?_
    exact aw_iretp C hr dX8_count_101
  refine aw_ite (fun h7 => ?_) (fun h7 => ?_)
  · refine aw_tswIn C (tgt := 102) (4 : Int32) h7 dX8_count_3 (by decide) (by decide) rfl (by decide) ?_
    refine aw_aload_n C dX8_count_102 rfl ?_
    refine aw_iconst C (0 : Int32) dX8_count_103 (by decide) ?_
    refine aw_cVIp C [.int (0 : Int32)] [] (m_X8_goneOnes M (0 : Int32)) v_X8_goneOnes km_X8_190 (by decide) lo_M_0 rfl rfl rfl (Nat.le_of_ble_eq_true rfl) dX8_count_104 (fun r5 => ?_)
    refine aw_cSIp C [.int r5] [] (m_X8_bits M r5) t_X8_bits km_X8_207 (by decide) rfl rfl (Nat.le_of_ble_eq_true rfl) dX8_count_107 (fun r6 => ?_)
    exact aw_iretp C hr dX8_count_110
  refine aw_ite (fun h9 => ?_) (fun h9 => ?_)
  · refine aw_tswIn C (tgt := 111) (5 : Int32) h9 dX8_count_3 (by decide) (by decide) rfl (by decide) ?_
    refine aw_aload_n C dX8_count_111 rfl ?_
    refine aw_iconst C (0 : Int32) dX8_count_112 (by decide) ?_
    refine aw_cVIp C [.int (0 : Int32)] [] (m_X8_allSaw M (0 : Int32)) v_X8_allSaw km_X8_234 (by decide) lo_M_0 rfl rfl rfl (Nat.le_of_ble_eq_true rfl) dX8_count_113 (fun r8 => ?_)
    exact aw_iretp C hr dX8_count_116
  refine aw_ite (fun h10 => ?_) (fun h10 => ?_)
  · refine aw_tswIn C (tgt := 117) (6 : Int32) h10 dX8_count_3 (by decide) (by decide) rfl (by decide) ?_
    refine aw_aload_n C dX8_count_117 rfl ?_
    refine aw_getI C clX8 lo_M_0 1 rfl (by decide) kf_X8_135 dX8_count_118 ?_
    exact aw_iretp C hr dX8_count_121
  refine aw_ite (fun h11 => ?_) (fun h11 => ?_)
  · refine aw_tswIn C (tgt := 122) (7 : Int32) h11 dX8_count_3 (by decide) (by decide) rfl (by decide) ?_
    refine aw_aload_n C dX8_count_122 rfl ?_
    refine aw_getI C clX8 lo_M_0 7 rfl (by decide) kf_X8_76 dX8_count_123 ?_
    exact aw_iretp C hr dX8_count_126
  have q_h1 := lv_neT h1 (a := 0) (by decide)
  have q_h2 := lv_neT h2 (a := 1) (by decide)
  have q_h3 := lv_neT h3 (a := 2) (by decide)
  have q_h4 := lv_neT h4 (a := 3) (by decide)
  have q_h7 := lv_neT h7 (a := 4) (by decide)
  have q_h9 := lv_neT h9 (a := 5) (by decide)
  have q_h10 := lv_neT h10 (a := 6) (by decide)
  have q_h11 := lv_neT h11 (a := 7) (by decide)
  refine aw_tswOut C (tgt := 127) dX8_count_3 (by omega) (by decide) ?_
  refine aw_ldc C kc_X8_58 dX8_count_127 ?_
  exact aw_iretp C hr dX8_count_129
def X8_status (M : Mem)   : Option (Int32) :=
  some (M 0 9)
theorem m_X8_status  (M : Mem)   : AMet 1 yX8_status cX8_status 1 (some .int) lyM [.ref 0] M (qIp lyM M) (X8_status M) := by
  refine am_ent pn_X8 (Nat.le_of_ble_eq_true rfl) (fun E C hr => ?_)
  refine aw_lv (lv' := [(0, .ref 0)]) rfl ?_
  unfold X8_status
  refine aw_aload_n C dX8_status_0 rfl ?_
  refine aw_getI C clX8 lo_M_0 9 rfl (by decide) kf_X8_41 dX8_status_1 ?_
  exact aw_iretp C hr dX8_status_4
