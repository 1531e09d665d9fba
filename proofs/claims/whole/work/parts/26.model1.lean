def X8_looks_73  (x1 : Int32) (x2 : Int32) (x3 : Int32) (s0 : Int32) (s1 : Int32) (s2 : Int32) (M : Mem) : Option (Mem) :=
  if am_in s2 1092 = true then
    am_let (mset M 1 (upd (M 1) s2.toNatClampNeg (s1 + s0))) fun M1 =>
    Option.bind (X8_takes M1 x1 x2 x3) fun r2 =>
    if r2 = 0 then
      some M1
    else
      if am_in ((x1 + (15 : Int32)) + x2) 1092 = true then
        am_let (mset M1 1 (upd (M1 1) ((x1 + (15 : Int32)) + x2).toNatClampNeg x3)) fun M3 =>
        if am_in ((x1 + (33 : Int32)) + x3) 1092 = true then
          am_let (mset M3 1 (upd (M3 1) ((x1 + (33 : Int32)) + x3).toNatClampNeg ((30 : Int32) + x2))) fun M4 =>
          am_let (mset M4 0 (upd (M4 0) 17 ((M4 0 17) + (1 : Int32)))) fun M5 =>
          if x3 = x2 then
            am_let (mset M5 0 (upd (M5 0) 18 ((M5 0 18) + (0 : Int32)))) fun M6 =>
            some M6
          else
            am_let (mset M5 0 (upd (M5 0) 18 ((M5 0 18) + (1 : Int32)))) fun M7 =>
            some M7
        else none
      else none
  else none
def X8_looks  (x1 : Int32) (x2 : Int32) (M : Mem) : Option (Mem) :=
  if am_in ((x1 + (9 : Int32)) + x2) 1092 = true then
    Option.bind (X8_bagIn M x1 (M 1 ((x1 + (9 : Int32)) + x2).toNatClampNeg)) fun r1 =>
    if r1 = (-1000000 : Int32) then
      some M
    else
      Option.bind (X8_has (M 0 16) x2) fun r2 =>
      if r2 = 0 then
        if am_in ((x1 + (21 : Int32)) + x2) 1092 = true then
          if r1 = x2 then
            if am_in ((x1 + (21 : Int32)) + x2) 1092 = true then
              if (M 1 ((x1 + (21 : Int32)) + x2).toNatClampNeg) < (99 : Int32) then
                X8_looks_73 x1 x2 r1 (1 : Int32) (M 1 ((x1 + (21 : Int32)) + x2).toNatClampNeg) ((x1 + (21 : Int32)) + x2) M
              else
                X8_looks_73 x1 x2 r1 (0 : Int32) (M 1 ((x1 + (21 : Int32)) + x2).toNatClampNeg) ((x1 + (21 : Int32)) + x2) M
            else none
          else
            X8_looks_73 x1 x2 r1 (0 : Int32) (M 1 ((x1 + (21 : Int32)) + x2).toNatClampNeg) ((x1 + (21 : Int32)) + x2) M
        else none
      else
        some M
  else none
theorem m_X8_looks_73 {E : amE} (C : amC E 4 cX8_looks 4 RX8) (hr : (eH E).sig.returnType = none)  (x1 : Int32) (x2 : Int32) (x3 : Int32) (s0 : Int32) (s1 : Int32) (s2 : Int32) (M : Mem) : AW E lyM 4 (qV lyM) (X8_looks_73 x1 x2 x3 s0 s1 s2 M) 73 [(0, .ref 0), (1, .int x1), (2, .int x2), (3, .int x3)] [.int s0, .int s1, .int s2, .ref 1] M := by
  unfold X8_looks_73
  refine aw_iadd C dX8_looks_73 ?_
  refine aw_iast C la_M_1 dX8_looks_74 ?_
  refine aw_mlet (fun M1 => ?_)
  refine aw_aload_n C dX8_looks_75 rfl ?_
  refine aw_iload_n C dX8_looks_76 rfl ?_
  refine aw_iload_n C dX8_looks_77 rfl ?_
  refine aw_iload_n C dX8_looks_78 rfl ?_
  refine aw_cVIp C [.int x1, .int x2, .int x3] [] (m_X8_takes M1 x1 x2 x3) v_X8_takes km_X8_153 (by decide) lo_M_0 rfl rfl rfl (Nat.le_of_ble_eq_true rfl) dX8_looks_79 (fun r2 => ?_)
  refine aw_if_eq C (tgt := 141) dX8_looks_82 (by decide) ?_ ?_
  · exact aw_vret C hr dX8_looks_141
  · refine aw_aload_n C dX8_looks_85 rfl ?_
    refine aw_getR C (r := 1) clX8 lo_M_0 0 rfl (by decide) kf_X8_7 dX8_looks_86 ?_
    refine aw_iload_n C dX8_looks_89 rfl ?_
    refine aw_bipush C (15 : Int32) dX8_looks_90 (by decide) ?_
    refine aw_iadd C dX8_looks_92 ?_
    refine aw_iload_n C dX8_looks_93 rfl ?_
    refine aw_iadd C dX8_looks_94 ?_
    refine aw_iload_n C dX8_looks_95 rfl ?_
    refine aw_iast C la_M_1 dX8_looks_96 ?_
    refine aw_mlet (fun M3 => ?_)
    refine aw_aload_n C dX8_looks_97 rfl ?_
    refine aw_getR C (r := 1) clX8 lo_M_0 0 rfl (by decide) kf_X8_7 dX8_looks_98 ?_
    refine aw_iload_n C dX8_looks_101 rfl ?_
    refine aw_bipush C (33 : Int32) dX8_looks_102 (by decide) ?_
    refine aw_iadd C dX8_looks_104 ?_
    refine aw_iload_n C dX8_looks_105 rfl ?_
    refine aw_iadd C dX8_looks_106 ?_
    refine aw_bipush C (30 : Int32) dX8_looks_107 (by decide) ?_
    refine aw_iload_n C dX8_looks_109 rfl ?_
    refine aw_iadd C dX8_looks_110 ?_
    refine aw_iast C la_M_1 dX8_looks_111 ?_
    refine aw_mlet (fun M4 => ?_)
    refine aw_aload_n C dX8_looks_112 rfl ?_
    refine aw_dup C dX8_looks_113 rfl ?_
    refine aw_getI C clX8 lo_M_0 17 rfl (by decide) kf_X8_156 dX8_looks_114 ?_
    refine aw_iconst C (1 : Int32) dX8_looks_117 (by decide) ?_
    refine aw_iadd C dX8_looks_118 ?_
    refine aw_putI C clX8 lo_M_0 17 rfl (by decide) rfl rfl kf_X8_156 dX8_looks_119 ?_
    refine aw_mlet (fun M5 => ?_)
    refine aw_aload_n C dX8_looks_122 rfl ?_
    refine aw_dup C dX8_looks_123 rfl ?_
    refine aw_getI C clX8 lo_M_0 18 rfl (by decide) kf_X8_159 dX8_looks_124 ?_
    refine aw_iload_n C dX8_looks_127 rfl ?_
    refine aw_iload_n C dX8_looks_128 rfl ?_
    refine aw_icmp_ne C (tgt := 136) dX8_looks_129 (by decide) ?_ ?_
    · refine aw_iconst C (0 : Int32) dX8_looks_132 (by decide) ?_
      refine aw_goto C (tgt := 137) dX8_looks_133 (by decide) ?_
      refine aw_iadd C dX8_looks_137 ?_
      refine aw_putI C clX8 lo_M_0 18 rfl (by decide) rfl rfl kf_X8_159 dX8_looks_138 ?_
      refine aw_mlet (fun M6 => ?_)
      exact aw_vret C hr dX8_looks_141
    · refine aw_iconst C (1 : Int32) dX8_looks_136 (by decide) ?_
      refine aw_iadd C dX8_looks_137 ?_
      refine aw_putI C clX8 lo_M_0 18 rfl (by decide) rfl rfl kf_X8_159 dX8_looks_138 ?_
      refine aw_mlet (fun M7 => ?_)
      exact aw_vret C hr dX8_looks_141
theorem m_X8_looks   (x1 : Int32) (x2 : Int32) (M : Mem) : AMet 4 yX8_looks cX8_looks 4 none lyM [.ref 0, .int x1, .int x2] M (qV lyM) (X8_looks x1 x2 M) := by
  refine am_ent pn_X8 (Nat.le_of_ble_eq_true rfl) (fun E C hr => ?_)
  refine aw_lv (lv' := [(0, .ref 0), (1, .int x1), (2, .int x2)]) rfl ?_
  unfold X8_looks
  refine aw_aload_n C dX8_looks_0 rfl ?_
  refine aw_iload_n C dX8_looks_1 rfl ?_
  refine aw_aload_n C dX8_looks_2 rfl ?_
  refine aw_getR C (r := 1) clX8 lo_M_0 0 rfl (by decide) kf_X8_7 dX8_looks_3 ?_
  refine aw_iload_n C dX8_looks_6 rfl ?_
  refine aw_bipush C (9 : Int32) dX8_looks_7 (by decide) ?_
  refine aw_iadd C dX8_looks_9 ?_
  refine aw_iload_n C dX8_looks_10 rfl ?_
  refine aw_iadd C dX8_looks_11 ?_
  refine aw_iald C la_M_1 dX8_looks_12 ?_
  refine aw_cVIp C [.int x1, .int (M 1 ((x1 + (9 : Int32)) + x2).toNatClampNeg)] [] (m_X8_bagIn M x1 (M 1 ((x1 + (9 : Int32)) + x2).toNatClampNeg)) v_X8_bagIn km_X8_138 (by decide) lo_M_0 rfl rfl rfl (Nat.le_of_ble_eq_true rfl) dX8_looks_13 (fun r1 => ?_)
  refine aw_istore_n C [(3, .int r1), (0, .ref 0), (1, .int x1), (2, .int x2)] dX8_looks_16 (by decide) rfl ?_
  refine aw_iload_n C dX8_looks_17 rfl ?_
  refine aw_ldc C kc_X8_116 dX8_looks_18 ?_
  refine aw_icmp_eq C (tgt := 34) dX8_looks_20 (by decide) ?_ ?_
  · exact aw_vret C hr dX8_looks_34
  · refine aw_aload_n C dX8_looks_23 rfl ?_
    refine aw_getI C clX8 lo_M_0 16 rfl (by decide) kf_X8_147 dX8_looks_24 ?_
    refine aw_iload_n C dX8_looks_27 rfl ?_
    refine aw_cSIp C [.int (M 0 16), .int x2] [] (m_X8_has M (M 0 16) x2) t_X8_has km_X8_150 (by decide) rfl rfl (Nat.le_of_ble_eq_true rfl) dX8_looks_28 (fun r2 => ?_)
    refine aw_if_eq C (tgt := 35) dX8_looks_31 (by decide) ?_ ?_
    · refine aw_aload_n C dX8_looks_35 rfl ?_
      refine aw_getR C (r := 1) clX8 lo_M_0 0 rfl (by decide) kf_X8_7 dX8_looks_36 ?_
      refine aw_iload_n C dX8_looks_39 rfl ?_
      refine aw_bipush C (21 : Int32) dX8_looks_40 (by decide) ?_
      refine aw_iadd C dX8_looks_42 ?_
      refine aw_iload_n C dX8_looks_43 rfl ?_
      refine aw_iadd C dX8_looks_44 ?_
      refine aw_dup2 C dX8_looks_45 rfl rfl ?_
      refine aw_iald C la_M_1 dX8_looks_46 ?_
      refine aw_iload_n C dX8_looks_47 rfl ?_
      refine aw_iload_n C dX8_looks_48 rfl ?_
      refine aw_icmp_ne C (tgt := 72) dX8_looks_49 (by decide) ?_ ?_
      · refine aw_aload_n C dX8_looks_52 rfl ?_
        refine aw_getR C (r := 1) clX8 lo_M_0 0 rfl (by decide) kf_X8_7 dX8_looks_53 ?_
        refine aw_iload_n C dX8_looks_56 rfl ?_
        refine aw_bipush C (21 : Int32) dX8_looks_57 (by decide) ?_
        refine aw_iadd C dX8_looks_59 ?_
        refine aw_iload_n C dX8_looks_60 rfl ?_
        refine aw_iadd C dX8_looks_61 ?_
        refine aw_iald C la_M_1 dX8_looks_62 ?_
        refine aw_bipush C (99 : Int32) dX8_looks_63 (by decide) ?_
        refine aw_icmp_ge C (tgt := 72) dX8_looks_65 (by decide) ?_ ?_
        · refine aw_iconst C (1 : Int32) dX8_looks_68 (by decide) ?_
          refine aw_goto C (tgt := 73) dX8_looks_69 (by decide) ?_
          refine aw_sub [1, 2, 3, 0] rfl ?_
          exact m_X8_looks_73 C hr x1 x2 r1 (1 : Int32) (M 1 ((x1 + (21 : Int32)) + x2).toNatClampNeg) ((x1 + (21 : Int32)) + x2) M
        · refine aw_iconst C (0 : Int32) dX8_looks_72 (by decide) ?_
          refine aw_sub [1, 2, 3, 0] rfl ?_
          exact m_X8_looks_73 C hr x1 x2 r1 (0 : Int32) (M 1 ((x1 + (21 : Int32)) + x2).toNatClampNeg) ((x1 + (21 : Int32)) + x2) M
      · refine aw_iconst C (0 : Int32) dX8_looks_72 (by decide) ?_
        refine aw_sub [1, 2, 3, 0] rfl ?_
        exact m_X8_looks_73 C hr x1 x2 r1 (0 : Int32) (M 1 ((x1 + (21 : Int32)) + x2).toNatClampNeg) ((x1 + (21 : Int32)) + x2) M
    · exact aw_vret C hr dX8_looks_34
def X8_ticksOf_21 (K2 : Int32 → Int32 → Int32 → Mem → Option (Mem)) : Nat → Int32 → Int32 → Int32 → Int32 → Mem → Option (Mem)
  | 0, _, _, _, _, _ => none
  | f + 1, x1, x2, x3, x4, M =>
    if am_in (x1 + (1 : Int32)) 1092 = true then
      if x4 < (M 1 (x1 + (1 : Int32)).toNatClampNeg) then
        Option.bind (X8_waits M x1 x4) fun r1 =>
        if r1 = 0 then
          X8_ticksOf_21 K2 f x1 x2 x3 (x4 + (1 : Int32)) M
        else
          Option.bind (X8_looks x1 x4 M) fun M2 =>
          X8_ticksOf_21 K2 f x1 x2 x3 (x4 + (1 : Int32)) M2
      else
        if am_in (x1 + (2 : Int32)) 1092 = true then
          if am_in (x1 + (2 : Int32)) 1092 = true then
            am_let (mset M 1 (upd (M 1) (x1 + (2 : Int32)).toNatClampNeg ((M 1 (x1 + (2 : Int32)).toNatClampNeg) + (1 : Int32)))) fun M3 =>
            K2 x1 x2 (x3 + (1 : Int32)) M3
          else none
        else none
    else none
def X8_ticksOf_2  : Nat → Int32 → Int32 → Int32 → Mem → Option (Mem)
  | 0, _, _, _, _ => none
  | f + 1, x1, x2, x3, M =>
    if x3 < x2 then
      Option.bind (X8_turns x1 (1 : Int32) M) fun M1 =>
      Option.bind (X8_falls x1 M1) fun M2 =>
      X8_ticksOf_21 (X8_ticksOf_2  f) am_fuel x1 x2 x3 (0 : Int32) M2
    else
      some M
def X8_ticksOf  (x1 : Int32) (x2 : Int32) (M : Mem) : Option (Mem) :=
  X8_ticksOf_2 am_fuel x1 x2 (0 : Int32) M
theorem m_X8_ticksOf_21 {E : amE} (C : amC E 5 cX8_ticksOf 5 RX8) (hr : (eH E).sig.returnType = none) (K2 : Int32 → Int32 → Int32 → Mem → Option (Mem)) (hK2 : ∀ (x1 : Int32) (x2 : Int32) (x3 : Int32) (M : Mem), AW E lyM 5 (qV lyM) (K2 x1 x2 x3 M) 2 [(0, .ref 0), (1, .int x1), (2, .int x2), (3, .int x3)] [] M) : ∀ (f : Nat) (x1 : Int32) (x2 : Int32) (x3 : Int32) (x4 : Int32) (M : Mem), AW E lyM 5 (qV lyM) (X8_ticksOf_21 K2 f x1 x2 x3 x4 M) 21 [(0, .ref 0), (1, .int x1), (2, .int x2), (3, .int x3), (4, .int x4)] [] M := by
  intro f
  induction f with
  | zero => exact (fun _ _ _ _ _ => aw_none)
  | succ f ih =>
    intro x1 x2 x3 x4 M
    rw [X8_ticksOf_21]
    refine aw_iload C dX8_ticksOf_21 rfl ?_
    refine aw_aload_n C dX8_ticksOf_23 rfl ?_
    refine aw_getR C (r := 1) clX8 lo_M_0 0 rfl (by decide) kf_X8_7 dX8_ticksOf_24 ?_
    refine aw_iload_n C dX8_ticksOf_27 rfl ?_
    refine aw_iconst C (1 : Int32) dX8_ticksOf_28 (by decide) ?_
    refine aw_iadd C dX8_ticksOf_29 ?_
    refine aw_iald C la_M_1 dX8_ticksOf_30 ?_
    refine aw_icmp_ge C (tgt := 57) dX8_ticksOf_31 (by decide) ?_ ?_
    · refine aw_aload_n C dX8_ticksOf_34 rfl ?_
      refine aw_iload_n C dX8_ticksOf_35 rfl ?_
      refine aw_iload C dX8_ticksOf_36 rfl ?_
      refine aw_cVIp C [.int x1, .int x4] [] (m_X8_waits M x1 x4) v_X8_waits km_X8_141 (by decide) lo_M_0 rfl rfl rfl (Nat.le_of_ble_eq_true rfl) dX8_ticksOf_38 (fun r1 => ?_)
      refine aw_if_eq C (tgt := 51) dX8_ticksOf_41 (by decide) ?_ ?_
      · refine aw_iinc C (v := (1 : Int32)) [(4, .int (x4 + (1 : Int32))), (0, .ref 0), (1, .int x1), (2, .int x2), (3, .int x3)] dX8_ticksOf_51 rfl (by decide) (by decide) rfl ?_
        refine aw_goto C (tgt := 21) dX8_ticksOf_54 (by decide) ?_
        refine aw_sub [1, 2, 3, 4, 0] rfl ?_
        exact ih x1 x2 x3 (x4 + (1 : Int32)) M
      · refine aw_aload_n C dX8_ticksOf_44 rfl ?_
        refine aw_iload_n C dX8_ticksOf_45 rfl ?_
        refine aw_iload C dX8_ticksOf_46 rfl ?_
        refine aw_cVV C [.int x1, .int x4] [] (m_X8_looks x1 x4 M) v_X8_looks km_X8_169 (by decide) lo_M_0 rfl rfl rfl (Nat.le_of_ble_eq_true rfl) dX8_ticksOf_48 (fun M2 => ?_)
        refine aw_iinc C (v := (1 : Int32)) [(4, .int (x4 + (1 : Int32))), (0, .ref 0), (1, .int x1), (2, .int x2), (3, .int x3)] dX8_ticksOf_51 rfl (by decide) (by decide) rfl ?_
        refine aw_goto C (tgt := 21) dX8_ticksOf_54 (by decide) ?_
        refine aw_sub [1, 2, 3, 4, 0] rfl ?_
        exact ih x1 x2 x3 (x4 + (1 : Int32)) M2
    · refine aw_aload_n C dX8_ticksOf_57 rfl ?_
      refine aw_getR C (r := 1) clX8 lo_M_0 0 rfl (by decide) kf_X8_7 dX8_ticksOf_58 ?_
      refine aw_iload_n C dX8_ticksOf_61 rfl ?_
      refine aw_iconst C (2 : Int32) dX8_ticksOf_62 (by decide) ?_
      refine aw_iadd C dX8_ticksOf_63 ?_
      refine aw_dup2 C dX8_ticksOf_64 rfl rfl ?_
      refine aw_iald C la_M_1 dX8_ticksOf_65 ?_
      refine aw_iconst C (1 : Int32) dX8_ticksOf_66 (by decide) ?_
      refine aw_iadd C dX8_ticksOf_67 ?_
      refine aw_iast C la_M_1 dX8_ticksOf_68 ?_
      refine aw_mlet (fun M3 => ?_)
      refine aw_iinc C (v := (1 : Int32)) [(3, .int (x3 + (1 : Int32))), (0, .ref 0), (1, .int x1), (2, .int x2), (4, .int x4)] dX8_ticksOf_69 rfl (by decide) (by decide) rfl ?_
      refine aw_goto C (tgt := 2) dX8_ticksOf_72 (by decide) ?_
      refine aw_sub [1, 2, 3, 0] rfl ?_
      exact hK2 x1 x2 (x3 + (1 : Int32)) M3
theorem m_X8_ticksOf_2 {E : amE} (C : amC E 5 cX8_ticksOf 5 RX8) (hr : (eH E).sig.returnType = none)  : ∀ (f : Nat) (x1 : Int32) (x2 : Int32) (x3 : Int32) (M : Mem), AW E lyM 5 (qV lyM) (X8_ticksOf_2 f x1 x2 x3 M) 2 [(0, .ref 0), (1, .int x1), (2, .int x2), (3, .int x3)] [] M := by
  intro f
  induction f with
  | zero => exact (fun _ _ _ _ => aw_none)
  | succ f ih =>
    intro x1 x2 x3 M
    rw [X8_ticksOf_2]
    refine aw_iload_n C dX8_ticksOf_2 rfl ?_
    refine aw_iload_n C dX8_ticksOf_3 rfl ?_
    refine aw_icmp_ge C (tgt := 75) dX8_ticksOf_4 (by decide) ?_ ?_
    · refine aw_aload_n C dX8_ticksOf_7 rfl ?_
      refine aw_iload_n C dX8_ticksOf_8 rfl ?_
      refine aw_iconst C (1 : Int32) dX8_ticksOf_9 (by decide) ?_
      refine aw_cVV C [.int x1, .int (1 : Int32)] [] (m_X8_turns x1 (1 : Int32) M) v_X8_turns km_X8_162 (by decide) lo_M_0 rfl rfl rfl (Nat.le_of_ble_eq_true rfl) dX8_ticksOf_10 (fun M1 => ?_)
      refine aw_aload_n C dX8_ticksOf_13 rfl ?_
      refine aw_iload_n C dX8_ticksOf_14 rfl ?_
      refine aw_cVV C [.int x1] [] (m_X8_falls x1 M1) v_X8_falls km_X8_165 (by decide) lo_M_0 rfl rfl rfl (Nat.le_of_ble_eq_true rfl) dX8_ticksOf_15 (fun M2 => ?_)
      refine aw_iconst C (0 : Int32) dX8_ticksOf_18 (by decide) ?_
      refine aw_istore C [(4, .int (0 : Int32)), (0, .ref 0), (1, .int x1), (2, .int x2), (3, .int x3)] dX8_ticksOf_19 (by decide) rfl ?_
      refine aw_sub [1, 2, 3, 4, 0] rfl ?_
      exact m_X8_ticksOf_21 C hr (X8_ticksOf_2  f) ih am_fuel x1 x2 x3 (0 : Int32) M2
    · exact aw_vret C hr dX8_ticksOf_75
theorem m_X8_ticksOf   (x1 : Int32) (x2 : Int32) (M : Mem) : AMet 5 yX8_ticksOf cX8_ticksOf 5 none lyM [.ref 0, .int x1, .int x2] M (qV lyM) (X8_ticksOf x1 x2 M) := by
  refine am_ent pn_X8 (Nat.le_of_ble_eq_true rfl) (fun E C hr => ?_)
  refine aw_lv (lv' := [(0, .ref 0), (1, .int x1), (2, .int x2)]) rfl ?_
  unfold X8_ticksOf
  refine aw_iconst C (0 : Int32) dX8_ticksOf_0 (by decide) ?_
  refine aw_istore_n C [(3, .int (0 : Int32)), (0, .ref 0), (1, .int x1), (2, .int x2)] dX8_ticksOf_1 (by decide) rfl ?_
  refine aw_sub [1, 2, 3, 0] rfl ?_
  exact m_X8_ticksOf_2 C hr am_fuel x1 x2 (0 : Int32) M
def X8_comesBack  (x1 : Int32) (x2 : Int32) (M : Mem) : Option (Mem) :=
  if am_in ((x1 + (15 : Int32)) + x2) 1092 = true then
    if am_in ((x1 + (33 : Int32)) + (M 1 ((x1 + (15 : Int32)) + x2).toNatClampNeg)) 1092 = true then
      am_let (mset M 1 (upd (M 1) ((x1 + (33 : Int32)) + (M 1 ((x1 + (15 : Int32)) + x2).toNatClampNeg)).toNatClampNeg (20 : Int32))) fun M1 =>
      if am_in ((x1 + (15 : Int32)) + x2) 1092 = true then
        am_let (mset M1 1 (upd (M1 1) ((x1 + (15 : Int32)) + x2).toNatClampNeg (-1000000 : Int32))) fun M2 =>
        if am_in ((x1 + (21 : Int32)) + x2) 1092 = true then
          am_let (mset M2 1 (upd (M2 1) ((x1 + (21 : Int32)) + x2).toNatClampNeg (0 : Int32))) fun M3 =>
          some M3
        else none
      else none
    else none
  else none
theorem m_X8_comesBack   (x1 : Int32) (x2 : Int32) (M : Mem) : AMet 1 yX8_comesBack cX8_comesBack 3 none lyM [.ref 0, .int x1, .int x2] M (qV lyM) (X8_comesBack x1 x2 M) := by
  refine am_ent pn_X8 (Nat.le_of_ble_eq_true rfl) (fun E C hr => ?_)
  refine aw_lv (lv' := [(0, .ref 0), (1, .int x1), (2, .int x2)]) rfl ?_
  unfold X8_comesBack
  refine aw_aload_n C dX8_comesBack_0 rfl ?_
  refine aw_getR C (r := 1) clX8 lo_M_0 0 rfl (by decide) kf_X8_7 dX8_comesBack_1 ?_
  refine aw_iload_n C dX8_comesBack_4 rfl ?_
  refine aw_bipush C (33 : Int32) dX8_comesBack_5 (by decide) ?_
  refine aw_iadd C dX8_comesBack_7 ?_
  refine aw_aload_n C dX8_comesBack_8 rfl ?_
  refine aw_getR C (r := 1) clX8 lo_M_0 0 rfl (by decide) kf_X8_7 dX8_comesBack_9 ?_
  refine aw_iload_n C dX8_comesBack_12 rfl ?_
  refine aw_bipush C (15 : Int32) dX8_comesBack_13 (by decide) ?_
  refine aw_iadd C dX8_comesBack_15 ?_
  refine aw_iload_n C dX8_comesBack_16 rfl ?_
  refine aw_iadd C dX8_comesBack_17 ?_
  refine aw_iald C la_M_1 dX8_comesBack_18 ?_
  refine aw_iadd C dX8_comesBack_19 ?_
  refine aw_bipush C (20 : Int32) dX8_comesBack_20 (by decide) ?_
  refine aw_iast C la_M_1 dX8_comesBack_22 ?_
  refine aw_mlet (fun M1 => ?_)
  refine aw_aload_n C dX8_comesBack_23 rfl ?_
  refine aw_getR C (r := 1) clX8 lo_M_0 0 rfl (by decide) kf_X8_7 dX8_comesBack_24 ?_
  refine aw_iload_n C dX8_comesBack_27 rfl ?_
  refine aw_bipush C (15 : Int32) dX8_comesBack_28 (by decide) ?_
  refine aw_iadd C dX8_comesBack_30 ?_
  refine aw_iload_n C dX8_comesBack_31 rfl ?_
  refine aw_iadd C dX8_comesBack_32 ?_
  refine aw_ldc C kc_X8_116 dX8_comesBack_33 ?_
  refine aw_iast C la_M_1 dX8_comesBack_35 ?_
  refine aw_mlet (fun M2 => ?_)
  refine aw_aload_n C dX8_comesBack_36 rfl ?_
  refine aw_getR C (r := 1) clX8 lo_M_0 0 rfl (by decide) kf_X8_7 dX8_comesBack_37 ?_
  refine aw_iload_n C dX8_comesBack_40 rfl ?_
  refine aw_bipush C (21 : Int32) dX8_comesBack_41 (by decide) ?_
  refine aw_iadd C dX8_comesBack_43 ?_
  refine aw_iload_n C dX8_comesBack_44 rfl ?_
  refine aw_iadd C dX8_comesBack_45 ?_
  refine aw_iconst C (0 : Int32) dX8_comesBack_46 (by decide) ?_
  refine aw_iast C la_M_1 dX8_comesBack_47 ?_
  refine aw_mlet (fun M3 => ?_)
  exact aw_vret C hr dX8_comesBack_48
def X8_goneOnes_4 (M : Mem) : Nat → Int32 → Int32 → Int32 → Option (Int32)
  | 0, _, _, _ => none
  | f + 1, x1, x2, x3 =>
    if am_in (x1 + (1 : Int32)) 1092 = true then
      if x3 < (M 1 (x1 + (1 : Int32)).toNatClampNeg) then
        Option.bind (X8_waits M x1 x3) fun r1 =>
        if r1 = 0 then
          X8_goneOnes_4 M f x1 (x2 ||| ((1 : Int32) <<< (x3 &&& 31))) (x3 + (1 : Int32))
        else
          X8_goneOnes_4 M f x1 (x2 ||| (0 : Int32)) (x3 + (1 : Int32))
      else
        some x2
    else none
def X8_goneOnes (M : Mem) (x1 : Int32)  : Option (Int32) :=
  X8_goneOnes_4 M am_fuel x1 (0 : Int32) (0 : Int32)
theorem m_X8_goneOnes_4 {E : amE} (C : amC E 2 cX8_goneOnes 4 RX8) (hr : (eH E).sig.returnType = (some .int)) (M : Mem) : ∀ (f : Nat) (x1 : Int32) (x2 : Int32) (x3 : Int32), AW E lyM 4 (qIp lyM M) (X8_goneOnes_4 M f x1 x2 x3) 4 [(0, .ref 0), (1, .int x1), (2, .int x2), (3, .int x3)] [] M := by
  intro f
  induction f with
  | zero => exact (fun _ _ _ => aw_none)
  | succ f ih =>
    intro x1 x2 x3
    rw [X8_goneOnes_4]
    refine aw_iload_n C dX8_goneOnes_4 rfl ?_
    refine aw_aload_n C dX8_goneOnes_5 rfl ?_
    refine aw_getR C (r := 1) clX8 lo_M_0 0 rfl (by decide) kf_X8_7 dX8_goneOnes_6 ?_
    refine aw_iload_n C dX8_goneOnes_9 rfl ?_
    refine aw_iconst C (1 : Int32) dX8_goneOnes_10 (by decide) ?_
    refine aw_iadd C dX8_goneOnes_11 ?_
    refine aw_iald C la_M_1 dX8_goneOnes_12 ?_
    refine aw_icmp_ge C (tgt := 41) dX8_goneOnes_13 (by decide) ?_ ?_
    · refine aw_iload_n C dX8_goneOnes_16 rfl ?_
      refine aw_aload_n C dX8_goneOnes_17 rfl ?_
      refine aw_iload_n C dX8_goneOnes_18 rfl ?_
      refine aw_iload_n C dX8_goneOnes_19 rfl ?_
      refine aw_cVIp C [.int x1, .int x3] [.int x2] (m_X8_waits M x1 x3) v_X8_waits km_X8_141 (by decide) lo_M_0 rfl rfl rfl (Nat.le_of_ble_eq_true rfl) dX8_goneOnes_20 (fun r1 => ?_)
      refine aw_if_eq C (tgt := 30) dX8_goneOnes_23 (by decide) ?_ ?_
      · refine aw_iconst C (1 : Int32) dX8_goneOnes_30 (by decide) ?_
        refine aw_iload_n C dX8_goneOnes_31 rfl ?_
        refine aw_ishl C dX8_goneOnes_32 ?_
        refine aw_ior C dX8_goneOnes_33 ?_
        refine aw_istore_n C [(2, .int (x2 ||| ((1 : Int32) <<< (x3 &&& 31)))), (0, .ref 0), (1, .int x1), (3, .int x3)] dX8_goneOnes_34 (by decide) rfl ?_
        refine aw_iinc C (v := (1 : Int32)) [(3, .int (x3 + (1 : Int32))), (2, .int (x2 ||| ((1 : Int32) <<< (x3 &&& 31)))), (0, .ref 0), (1, .int x1)] dX8_goneOnes_35 rfl (by decide) (by decide) rfl ?_
        refine aw_goto C (tgt := 4) dX8_goneOnes_38 (by decide) ?_
        refine aw_sub [2, 3, 1, 0] rfl ?_
        exact ih x1 (x2 ||| ((1 : Int32) <<< (x3 &&& 31))) (x3 + (1 : Int32))
      · refine aw_iconst C (0 : Int32) dX8_goneOnes_26 (by decide) ?_
        refine aw_goto C (tgt := 33) dX8_goneOnes_27 (by decide) ?_
        refine aw_ior C dX8_goneOnes_33 ?_
        refine aw_istore_n C [(2, .int (x2 ||| (0 : Int32))), (0, .ref 0), (1, .int x1), (3, .int x3)] dX8_goneOnes_34 (by decide) rfl ?_
        refine aw_iinc C (v := (1 : Int32)) [(3, .int (x3 + (1 : Int32))), (2, .int (x2 ||| (0 : Int32))), (0, .ref 0), (1, .int x1)] dX8_goneOnes_35 rfl (by decide) (by decide) rfl ?_
        refine aw_goto C (tgt := 4) dX8_goneOnes_38 (by decide) ?_
        refine aw_sub [2, 3, 1, 0] rfl ?_
        exact ih x1 (x2 ||| (0 : Int32)) (x3 + (1 : Int32))
    · refine aw_iload_n C dX8_goneOnes_41 rfl ?_
      exact aw_iretp C hr dX8_goneOnes_42
theorem m_X8_goneOnes  (M : Mem) (x1 : Int32)  : AMet 2 yX8_goneOnes cX8_goneOnes 4 (some .int) lyM [.ref 0, .int x1] M (qIp lyM M) (X8_goneOnes M x1) := by
  refine am_ent pn_X8 (Nat.le_of_ble_eq_true rfl) (fun E C hr => ?_)
  refine aw_lv (lv' := [(0, .ref 0), (1, .int x1)]) rfl ?_
  unfold X8_goneOnes
  refine aw_iconst C (0 : Int32) dX8_goneOnes_0 (by decide) ?_
  refine aw_istore_n C [(2, .int (0 : Int32)), (0, .ref 0), (1, .int x1)] dX8_goneOnes_1 (by decide) rfl ?_
  refine aw_iconst C (0 : Int32) dX8_goneOnes_2 (by decide) ?_
  refine aw_istore_n C [(3, .int (0 : Int32)), (2, .int (0 : Int32)), (0, .ref 0), (1, .int x1)] dX8_goneOnes_3 (by decide) rfl ?_
  refine aw_sub [2, 3, 1, 0] rfl ?_
  exact m_X8_goneOnes_4 C hr M am_fuel x1 (0 : Int32) (0 : Int32)
def X8_isWrong (M : Mem) (x1 : Int32) (x2 : Int32)  : Option (Int32) :=
  Option.bind (X8_waits M x1 x2) fun r1 =>
  if r1 = 0 then
    if am_in ((x1 + (15 : Int32)) + x2) 1092 = true then
      if (M 1 ((x1 + (15 : Int32)) + x2).toNatClampNeg) = x2 then
        some (0 : Int32)
      else
        some (1 : Int32)
    else none
  else
    some (0 : Int32)
theorem m_X8_isWrong  (M : Mem) (x1 : Int32) (x2 : Int32)  : AMet 2 yX8_isWrong cX8_isWrong 3 (some .boolean) lyM [.ref 0, .int x1, .int x2] M (qIp lyM M) (X8_isWrong M x1 x2) := by
  refine am_ent pn_X8 (Nat.le_of_ble_eq_true rfl) (fun E C hr => ?_)
  refine aw_lv (lv' := [(0, .ref 0), (1, .int x1), (2, .int x2)]) rfl ?_
  unfold X8_isWrong
  refine aw_aload_n C dX8_isWrong_0 rfl ?_
  refine aw_iload_n C dX8_isWrong_1 rfl ?_
  refine aw_iload_n C dX8_isWrong_2 rfl ?_
  refine aw_cVIp C [.int x1, .int x2] [] (m_X8_waits M x1 x2) v_X8_waits km_X8_141 (by decide) lo_M_0 rfl rfl rfl (Nat.le_of_ble_eq_true rfl) dX8_isWrong_3 (fun r1 => ?_)
  refine aw_if_ne C (tgt := 28) dX8_isWrong_6 (by decide) ?_ ?_
  · refine aw_aload_n C dX8_isWrong_9 rfl ?_
    refine aw_getR C (r := 1) clX8 lo_M_0 0 rfl (by decide) kf_X8_7 dX8_isWrong_10 ?_
    refine aw_iload_n C dX8_isWrong_13 rfl ?_
    refine aw_bipush C (15 : Int32) dX8_isWrong_14 (by decide) ?_
    refine aw_iadd C dX8_isWrong_16 ?_
    refine aw_iload_n C dX8_isWrong_17 rfl ?_
    refine aw_iadd C dX8_isWrong_18 ?_
    refine aw_iald C la_M_1 dX8_isWrong_19 ?_
    refine aw_iload_n C dX8_isWrong_20 rfl ?_
    refine aw_icmp_eq C (tgt := 28) dX8_isWrong_21 (by decide) ?_ ?_
    · refine aw_iconst C (0 : Int32) dX8_isWrong_28 (by decide) ?_
      exact aw_zretp C (Or.inl rfl) hr dX8_isWrong_29
    · refine aw_iconst C (1 : Int32) dX8_isWrong_24 (by decide) ?_
      refine aw_goto C (tgt := 29) dX8_isWrong_25 (by decide) ?_
      exact aw_zretp C (Or.inr rfl) hr dX8_isWrong_29
  · refine aw_iconst C (0 : Int32) dX8_isWrong_28 (by decide) ?_
    exact aw_zretp C (Or.inl rfl) hr dX8_isWrong_29
def X8_isRobbed (M : Mem) (x1 : Int32) (x2 : Int32)  : Option (Int32) :=
  Option.bind (X8_waits M x1 x2) fun r1 =>
  if r1 = 0 then
    some (0 : Int32)
  else
    if am_in ((x1 + (33 : Int32)) + x2) 1092 = true then
      if (M 1 ((x1 + (33 : Int32)) + x2).toNatClampNeg) < (30 : Int32) then
        some (0 : Int32)
      else
        some (1 : Int32)
    else none
theorem m_X8_isRobbed  (M : Mem) (x1 : Int32) (x2 : Int32)  : AMet 2 yX8_isRobbed cX8_isRobbed 3 (some .boolean) lyM [.ref 0, .int x1, .int x2] M (qIp lyM M) (X8_isRobbed M x1 x2) := by
  refine am_ent pn_X8 (Nat.le_of_ble_eq_true rfl) (fun E C hr => ?_)
  refine aw_lv (lv' := [(0, .ref 0), (1, .int x1), (2, .int x2)]) rfl ?_
  unfold X8_isRobbed
  refine aw_aload_n C dX8_isRobbed_0 rfl ?_
  refine aw_iload_n C dX8_isRobbed_1 rfl ?_
  refine aw_iload_n C dX8_isRobbed_2 rfl ?_
  refine aw_cVIp C [.int x1, .int x2] [] (m_X8_waits M x1 x2) v_X8_waits km_X8_141 (by decide) lo_M_0 rfl rfl rfl (Nat.le_of_ble_eq_true rfl) dX8_isRobbed_3 (fun r1 => ?_)
  refine aw_if_eq C (tgt := 29) dX8_isRobbed_6 (by decide) ?_ ?_
  · refine aw_iconst C (0 : Int32) dX8_isRobbed_29 (by decide) ?_
    exact aw_zretp C (Or.inl rfl) hr dX8_isRobbed_30
  · refine aw_aload_n C dX8_isRobbed_9 rfl ?_
    refine aw_getR C (r := 1) clX8 lo_M_0 0 rfl (by decide) kf_X8_7 dX8_isRobbed_10 ?_
    refine aw_iload_n C dX8_isRobbed_13 rfl ?_
    refine aw_bipush C (33 : Int32) dX8_isRobbed_14 (by decide) ?_
    refine aw_iadd C dX8_isRobbed_16 ?_
    refine aw_iload_n C dX8_isRobbed_17 rfl ?_
    refine aw_iadd C dX8_isRobbed_18 ?_
    refine aw_iald C la_M_1 dX8_isRobbed_19 ?_
    refine aw_bipush C (30 : Int32) dX8_isRobbed_20 (by decide) ?_
    refine aw_icmp_lt C (tgt := 29) dX8_isRobbed_22 (by decide) ?_ ?_
    · refine aw_iconst C (0 : Int32) dX8_isRobbed_29 (by decide) ?_
      exact aw_zretp C (Or.inl rfl) hr dX8_isRobbed_30
    · refine aw_iconst C (1 : Int32) dX8_isRobbed_25 (by decide) ?_
      refine aw_goto C (tgt := 30) dX8_isRobbed_26 (by decide) ?_
      exact aw_zretp C (Or.inr rfl) hr dX8_isRobbed_30
def X8_wrongOnes_4 (M : Mem) : Nat → Int32 → Int32 → Int32 → Option (Int32)
  | 0, _, _, _ => none
  | f + 1, x1, x2, x3 =>
    if am_in (x1 + (1 : Int32)) 1092 = true then
      if x3 < (M 1 (x1 + (1 : Int32)).toNatClampNeg) then
        Option.bind (X8_isWrong M x1 x3) fun r1 =>
        if r1 = 0 then
          X8_wrongOnes_4 M f x1 (x2 ||| (0 : Int32)) (x3 + (1 : Int32))
        else
          X8_wrongOnes_4 M f x1 (x2 ||| ((1 : Int32) <<< (x3 &&& 31))) (x3 + (1 : Int32))
      else
        some x2
    else none
def X8_wrongOnes (M : Mem) (x1 : Int32)  : Option (Int32) :=
  X8_wrongOnes_4 M am_fuel x1 (0 : Int32) (0 : Int32)
theorem m_X8_wrongOnes_4 {E : amE} (C : amC E 3 cX8_wrongOnes 4 RX8) (hr : (eH E).sig.returnType = (some .int)) (M : Mem) : ∀ (f : Nat) (x1 : Int32) (x2 : Int32) (x3 : Int32), AW E lyM 4 (qIp lyM M) (X8_wrongOnes_4 M f x1 x2 x3) 4 [(0, .ref 0), (1, .int x1), (2, .int x2), (3, .int x3)] [] M := by
  intro f
  induction f with
  | zero => exact (fun _ _ _ => aw_none)
  | succ f ih =>
    intro x1 x2 x3
    rw [X8_wrongOnes_4]
    refine aw_iload_n C dX8_wrongOnes_4 rfl ?_
    refine aw_aload_n C dX8_wrongOnes_5 rfl ?_
    refine aw_getR C (r := 1) clX8 lo_M_0 0 rfl (by decide) kf_X8_7 dX8_wrongOnes_6 ?_
    refine aw_iload_n C dX8_wrongOnes_9 rfl ?_
    refine aw_iconst C (1 : Int32) dX8_wrongOnes_10 (by decide) ?_
    refine aw_iadd C dX8_wrongOnes_11 ?_
    refine aw_iald C la_M_1 dX8_wrongOnes_12 ?_
    refine aw_icmp_ge C (tgt := 41) dX8_wrongOnes_13 (by decide) ?_ ?_
    · refine aw_iload_n C dX8_wrongOnes_16 rfl ?_
      refine aw_aload_n C dX8_wrongOnes_17 rfl ?_
      refine aw_iload_n C dX8_wrongOnes_18 rfl ?_
      refine aw_iload_n C dX8_wrongOnes_19 rfl ?_
      refine aw_cVIp C [.int x1, .int x3] [.int x2] (m_X8_isWrong M x1 x3) v_X8_isWrong km_X8_172 (by decide) lo_M_0 rfl rfl rfl (Nat.le_of_ble_eq_true rfl) dX8_wrongOnes_20 (fun r1 => ?_)
      refine aw_if_eq C (tgt := 32) dX8_wrongOnes_23 (by decide) ?_ ?_
      · refine aw_iconst C (0 : Int32) dX8_wrongOnes_32 (by decide) ?_
        refine aw_ior C dX8_wrongOnes_33 ?_
        refine aw_istore_n C [(2, .int (x2 ||| (0 : Int32))), (0, .ref 0), (1, .int x1), (3, .int x3)] dX8_wrongOnes_34 (by decide) rfl ?_
        refine aw_iinc C (v := (1 : Int32)) [(3, .int (x3 + (1 : Int32))), (2, .int (x2 ||| (0 : Int32))), (0, .ref 0), (1, .int x1)] dX8_wrongOnes_35 rfl (by decide) (by decide) rfl ?_
        refine aw_goto C (tgt := 4) dX8_wrongOnes_38 (by decide) ?_
        refine aw_sub [2, 3, 1, 0] rfl ?_
        exact ih x1 (x2 ||| (0 : Int32)) (x3 + (1 : Int32))
      · refine aw_iconst C (1 : Int32) dX8_wrongOnes_26 (by decide) ?_
        refine aw_iload_n C dX8_wrongOnes_27 rfl ?_
        refine aw_ishl C dX8_wrongOnes_28 ?_
        refine aw_goto C (tgt := 33) dX8_wrongOnes_29 (by decide) ?_
        refine aw_ior C dX8_wrongOnes_33 ?_
        refine aw_istore_n C [(2, .int (x2 ||| ((1 : Int32) <<< (x3 &&& 31)))), (0, .ref 0), (1, .int x1), (3, .int x3)] dX8_wrongOnes_34 (by decide) rfl ?_
        refine aw_iinc C (v := (1 : Int32)) [(3, .int (x3 + (1 : Int32))), (2, .int (x2 ||| ((1 : Int32) <<< (x3 &&& 31)))), (0, .ref 0), (1, .int x1)] dX8_wrongOnes_35 rfl (by decide) (by decide) rfl ?_
        refine aw_goto C (tgt := 4) dX8_wrongOnes_38 (by decide) ?_
        refine aw_sub [2, 3, 1, 0] rfl ?_
        exact ih x1 (x2 ||| ((1 : Int32) <<< (x3 &&& 31))) (x3 + (1 : Int32))
    · refine aw_iload_n C dX8_wrongOnes_41 rfl ?_
      exact aw_iretp C hr dX8_wrongOnes_42
theorem m_X8_wrongOnes  (M : Mem) (x1 : Int32)  : AMet 3 yX8_wrongOnes cX8_wrongOnes 4 (some .int) lyM [.ref 0, .int x1] M (qIp lyM M) (X8_wrongOnes M x1) := by
  refine am_ent pn_X8 (Nat.le_of_ble_eq_true rfl) (fun E C hr => ?_)
  refine aw_lv (lv' := [(0, .ref 0), (1, .int x1)]) rfl ?_
  unfold X8_wrongOnes
  refine aw_iconst C (0 : Int32) dX8_wrongOnes_0 (by decide) ?_
  refine aw_istore_n C [(2, .int (0 : Int32)), (0, .ref 0), (1, .int x1)] dX8_wrongOnes_1 (by decide) rfl ?_
  refine aw_iconst C (0 : Int32) dX8_wrongOnes_2 (by decide) ?_
  refine aw_istore_n C [(3, .int (0 : Int32)), (2, .int (0 : Int32)), (0, .ref 0), (1, .int x1)] dX8_wrongOnes_3 (by decide) rfl ?_
  refine aw_sub [2, 3, 1, 0] rfl ?_
  exact m_X8_wrongOnes_4 C hr M am_fuel x1 (0 : Int32) (0 : Int32)
def X8_robbedOnes_4 (M : Mem) : Nat → Int32 → Int32 → Int32 → Option (Int32)
  | 0, _, _, _ => none
  | f + 1, x1, x2, x3 =>
    if am_in (x1 + (1 : Int32)) 1092 = true then
      if x3 < (M 1 (x1 + (1 : Int32)).toNatClampNeg) then
        Option.bind (X8_isRobbed M x1 x3) fun r1 =>
        if r1 = 0 then
          X8_robbedOnes_4 M f x1 (x2 ||| (0 : Int32)) (x3 + (1 : Int32))
        else
          X8_robbedOnes_4 M f x1 (x2 ||| ((1 : Int32) <<< (x3 &&& 31))) (x3 + (1 : Int32))
      else
        some x2
    else none
def X8_robbedOnes (M : Mem) (x1 : Int32)  : Option (Int32) :=
  X8_robbedOnes_4 M am_fuel x1 (0 : Int32) (0 : Int32)
theorem m_X8_robbedOnes_4 {E : amE} (C : amC E 3 cX8_robbedOnes 4 RX8) (hr : (eH E).sig.returnType = (some .int)) (M : Mem) : ∀ (f : Nat) (x1 : Int32) (x2 : Int32) (x3 : Int32), AW E lyM 4 (qIp lyM M) (X8_robbedOnes_4 M f x1 x2 x3) 4 [(0, .ref 0), (1, .int x1), (2, .int x2), (3, .int x3)] [] M := by
  intro f
  induction f with
  | zero => exact (fun _ _ _ => aw_none)
  | succ f ih =>
    intro x1 x2 x3
    rw [X8_robbedOnes_4]
    refine aw_iload_n C dX8_robbedOnes_4 rfl ?_
    refine aw_aload_n C dX8_robbedOnes_5 rfl ?_
    refine aw_getR C (r := 1) clX8 lo_M_0 0 rfl (by decide) kf_X8_7 dX8_robbedOnes_6 ?_
    refine aw_iload_n C dX8_robbedOnes_9 rfl ?_
    refine aw_iconst C (1 : Int32) dX8_robbedOnes_10 (by decide) ?_
    refine aw_iadd C dX8_robbedOnes_11 ?_
    refine aw_iald C la_M_1 dX8_robbedOnes_12 ?_
    refine aw_icmp_ge C (tgt := 41) dX8_robbedOnes_13 (by decide) ?_ ?_
    · refine aw_iload_n C dX8_robbedOnes_16 rfl ?_
      refine aw_aload_n C dX8_robbedOnes_17 rfl ?_
      refine aw_iload_n C dX8_robbedOnes_18 rfl ?_
      refine aw_iload_n C dX8_robbedOnes_19 rfl ?_
      refine aw_cVIp C [.int x1, .int x3] [.int x2] (m_X8_isRobbed M x1 x3) v_X8_isRobbed km_X8_175 (by decide) lo_M_0 rfl rfl rfl (Nat.le_of_ble_eq_true rfl) dX8_robbedOnes_20 (fun r1 => ?_)
      refine aw_if_eq C (tgt := 32) dX8_robbedOnes_23 (by decide) ?_ ?_
      · refine aw_iconst C (0 : Int32) dX8_robbedOnes_32 (by decide) ?_
        refine aw_ior C dX8_robbedOnes_33 ?_
        refine aw_istore_n C [(2, .int (x2 ||| (0 : Int32))), (0, .ref 0), (1, .int x1), (3, .int x3)] dX8_robbedOnes_34 (by decide) rfl ?_
        refine aw_iinc C (v := (1 : Int32)) [(3, .int (x3 + (1 : Int32))), (2, .int (x2 ||| (0 : Int32))), (0, .ref 0), (1, .int x1)] dX8_robbedOnes_35 rfl (by decide) (by decide) rfl ?_
        refine aw_goto C (tgt := 4) dX8_robbedOnes_38 (by decide) ?_
        refine aw_sub [2, 3, 1, 0] rfl ?_
        exact ih x1 (x2 ||| (0 : Int32)) (x3 + (1 : Int32))
      · refine aw_iconst C (1 : Int32) dX8_robbedOnes_26 (by decide) ?_
        refine aw_iload_n C dX8_robbedOnes_27 rfl ?_
        refine aw_ishl C dX8_robbedOnes_28 ?_
        refine aw_goto C (tgt := 33) dX8_robbedOnes_29 (by decide) ?_
        refine aw_ior C dX8_robbedOnes_33 ?_
        refine aw_istore_n C [(2, .int (x2 ||| ((1 : Int32) <<< (x3 &&& 31)))), (0, .ref 0), (1, .int x1), (3, .int x3)] dX8_robbedOnes_34 (by decide) rfl ?_
        refine aw_iinc C (v := (1 : Int32)) [(3, .int (x3 + (1 : Int32))), (2, .int (x2 ||| ((1 : Int32) <<< (x3 &&& 31)))), (0, .ref 0), (1, .int x1)] dX8_robbedOnes_35 rfl (by decide) (by decide) rfl ?_
        refine aw_goto C (tgt := 4) dX8_robbedOnes_38 (by decide) ?_
        refine aw_sub [2, 3, 1, 0] rfl ?_
        exact ih x1 (x2 ||| ((1 : Int32) <<< (x3 &&& 31))) (x3 + (1 : Int32))
    · refine aw_iload_n C dX8_robbedOnes_41 rfl ?_
      exact aw_iretp C hr dX8_robbedOnes_42
theorem m_X8_robbedOnes  (M : Mem) (x1 : Int32)  : AMet 3 yX8_robbedOnes cX8_robbedOnes 4 (some .int) lyM [.ref 0, .int x1] M (qIp lyM M) (X8_robbedOnes M x1) := by
  refine am_ent pn_X8 (Nat.le_of_ble_eq_true rfl) (fun E C hr => ?_)
  refine aw_lv (lv' := [(0, .ref 0), (1, .int x1)]) rfl ?_
  unfold X8_robbedOnes
  refine aw_iconst C (0 : Int32) dX8_robbedOnes_0 (by decide) ?_
  refine aw_istore_n C [(2, .int (0 : Int32)), (0, .ref 0), (1, .int x1)] dX8_robbedOnes_1 (by decide) rfl ?_
  refine aw_iconst C (0 : Int32) dX8_robbedOnes_2 (by decide) ?_
  refine aw_istore_n C [(3, .int (0 : Int32)), (2, .int (0 : Int32)), (0, .ref 0), (1, .int x1)] dX8_robbedOnes_3 (by decide) rfl ?_
  refine aw_sub [2, 3, 1, 0] rfl ?_
  exact m_X8_robbedOnes_4 C hr M am_fuel x1 (0 : Int32) (0 : Int32)
def X8_allSaw_4 (M : Mem) : Nat → Int32 → Int32 → Int32 → Option (Int32)
  | 0, _, _, _ => none
  | f + 1, x1, x2, x3 =>
    if am_in (x1 + (1 : Int32)) 1092 = true then
      if x3 < (M 1 (x1 + (1 : Int32)).toNatClampNeg) then
        if am_in ((x1 + (21 : Int32)) + x3) 1092 = true then
          X8_allSaw_4 M f x1 (x2 + (M 1 ((x1 + (21 : Int32)) + x3).toNatClampNeg)) (x3 + (1 : Int32))
        else none
      else
        some x2
    else none
def X8_allSaw (M : Mem) (x1 : Int32)  : Option (Int32) :=
  X8_allSaw_4 M am_fuel x1 (0 : Int32) (0 : Int32)
theorem m_X8_allSaw_4 {E : amE} (C : amC E 1 cX8_allSaw 4 RX8) (hr : (eH E).sig.returnType = (some .int)) (M : Mem) : ∀ (f : Nat) (x1 : Int32) (x2 : Int32) (x3 : Int32), AW E lyM 4 (qIp lyM M) (X8_allSaw_4 M f x1 x2 x3) 4 [(0, .ref 0), (1, .int x1), (2, .int x2), (3, .int x3)] [] M := by
  intro f
  induction f with
  | zero => exact (fun _ _ _ => aw_none)
  | succ f ih =>
    intro x1 x2 x3
    rw [X8_allSaw_4]
    refine aw_iload_n C dX8_allSaw_4 rfl ?_
    refine aw_aload_n C dX8_allSaw_5 rfl ?_
    refine aw_getR C (r := 1) clX8 lo_M_0 0 rfl (by decide) kf_X8_7 dX8_allSaw_6 ?_
    refine aw_iload_n C dX8_allSaw_9 rfl ?_
    refine aw_iconst C (1 : Int32) dX8_allSaw_10 (by decide) ?_
    refine aw_iadd C dX8_allSaw_11 ?_
    refine aw_iald C la_M_1 dX8_allSaw_12 ?_
    refine aw_icmp_ge C (tgt := 36) dX8_allSaw_13 (by decide) ?_ ?_
    · refine aw_iload_n C dX8_allSaw_16 rfl ?_
      refine aw_aload_n C dX8_allSaw_17 rfl ?_
      refine aw_getR C (r := 1) clX8 lo_M_0 0 rfl (by decide) kf_X8_7 dX8_allSaw_18 ?_
      refine aw_iload_n C dX8_allSaw_21 rfl ?_
      refine aw_bipush C (21 : Int32) dX8_allSaw_22 (by decide) ?_
      refine aw_iadd C dX8_allSaw_24 ?_
      refine aw_iload_n C dX8_allSaw_25 rfl ?_
      refine aw_iadd C dX8_allSaw_26 ?_
      refine aw_iald C la_M_1 dX8_allSaw_27 ?_
      refine aw_iadd C dX8_allSaw_28 ?_
      refine aw_istore_n C [(2, .int (x2 + (M 1 ((x1 + (21 : Int32)) + x3).toNatClampNeg))), (0, .ref 0), (1, .int x1), (3, .int x3)] dX8_allSaw_29 (by decide) rfl ?_
      refine aw_iinc C (v := (1 : Int32)) [(3, .int (x3 + (1 : Int32))), (2, .int (x2 + (M 1 ((x1 + (21 : Int32)) + x3).toNatClampNeg))), (0, .ref 0), (1, .int x1)] dX8_allSaw_30 rfl (by decide) (by decide) rfl ?_
      refine aw_goto C (tgt := 4) dX8_allSaw_33 (by decide) ?_
      refine aw_sub [2, 3, 1, 0] rfl ?_
      exact ih x1 (x2 + (M 1 ((x1 + (21 : Int32)) + x3).toNatClampNeg)) (x3 + (1 : Int32))
    · refine aw_iload_n C dX8_allSaw_36 rfl ?_
      exact aw_iretp C hr dX8_allSaw_37
theorem m_X8_allSaw  (M : Mem) (x1 : Int32)  : AMet 1 yX8_allSaw cX8_allSaw 4 (some .int) lyM [.ref 0, .int x1] M (qIp lyM M) (X8_allSaw M x1) := by
  refine am_ent pn_X8 (Nat.le_of_ble_eq_true rfl) (fun E C hr => ?_)
  refine aw_lv (lv' := [(0, .ref 0), (1, .int x1)]) rfl ?_
  unfold X8_allSaw
  refine aw_iconst C (0 : Int32) dX8_allSaw_0 (by decide) ?_
  refine aw_istore_n C [(2, .int (0 : Int32)), (0, .ref 0), (1, .int x1)] dX8_allSaw_1 (by decide) rfl ?_
  refine aw_iconst C (0 : Int32) dX8_allSaw_2 (by decide) ?_
  refine aw_istore_n C [(3, .int (0 : Int32)), (2, .int (0 : Int32)), (0, .ref 0), (1, .int x1)] dX8_allSaw_3 (by decide) rfl ?_
  refine aw_sub [2, 3, 1, 0] rfl ?_
  exact m_X8_allSaw_4 C hr M am_fuel x1 (0 : Int32) (0 : Int32)
def X8_keepPast_61  (s0 : Int32) (s1 : Int32) (M : Mem) : Option (Mem) :=
  am_let (mset M 0 (upd (M 0) 1 (s1 - s0))) fun M1 =>
  Option.bind (X8_copyHall (0 : Int32) ((39 : Int32) + ((39 : Int32) * (M1 0 1))) M1) fun M2 =>
  am_let (mset M2 0 (upd (M2 0) 1 ((M2 0 1) + (1 : Int32)))) fun M3 =>
  some M3
def X8_keepPast_2  : Nat → Int32 → Mem → Option (Mem)
  | 0, _, _ => none
  | f + 1, x1, M =>
    if x1 < (897 : Int32) then
      if (M 0 1) = (24 : Int32) then
        if am_in ((78 : Int32) + x1) 1092 = true then
          if am_in ((39 : Int32) + x1) 1092 = true then
            am_let (mset M 1 (upd (M 1) ((39 : Int32) + x1).toNatClampNeg (M 1 ((78 : Int32) + x1).toNatClampNeg))) fun M1 =>
            X8_keepPast_2  f (x1 + (1 : Int32)) M1
          else none
        else none
      else
        if (M 0 1) = (24 : Int32) then
          X8_keepPast_61 (1 : Int32) (M 0 1) M
        else
          X8_keepPast_61 (0 : Int32) (M 0 1) M
    else
      if (M 0 1) = (24 : Int32) then
        X8_keepPast_61 (1 : Int32) (M 0 1) M
      else
        X8_keepPast_61 (0 : Int32) (M 0 1) M
def X8_keepPast   (M : Mem) : Option (Mem) :=
  X8_keepPast_2 am_fuel (0 : Int32) M
theorem m_X8_keepPast_61 {E : amE} (C : amC E 2 cX8_keepPast 2 RX8) (hr : (eH E).sig.returnType = none)  (s0 : Int32) (s1 : Int32) (M : Mem) : AW E lyM 2 (qV lyM) (X8_keepPast_61 s0 s1 M) 61 [(0, .ref 0)] [.int s0, .int s1, .ref 0] M := by
  unfold X8_keepPast_61
  refine aw_isub C dX8_keepPast_61 ?_
  refine aw_putI C clX8 lo_M_0 1 rfl (by decide) rfl rfl kf_X8_135 dX8_keepPast_62 ?_
  refine aw_mlet (fun M1 => ?_)
  refine aw_aload_n C dX8_keepPast_65 rfl ?_
  refine aw_iconst C (0 : Int32) dX8_keepPast_66 (by decide) ?_
  refine aw_bipush C (39 : Int32) dX8_keepPast_67 (by decide) ?_
  refine aw_bipush C (39 : Int32) dX8_keepPast_69 (by decide) ?_
  refine aw_aload_n C dX8_keepPast_71 rfl ?_
  refine aw_getI C clX8 lo_M_0 1 rfl (by decide) kf_X8_135 dX8_keepPast_72 ?_
  refine aw_imul C dX8_keepPast_75 ?_
  refine aw_iadd C dX8_keepPast_76 ?_
  refine aw_cVV C [.int (0 : Int32), .int ((39 : Int32) + ((39 : Int32) * (M1 0 1)))] [] (m_X8_copyHall (0 : Int32) ((39 : Int32) + ((39 : Int32) * (M1 0 1))) M1) v_X8_copyHall km_X8_131 (by decide) lo_M_0 rfl rfl rfl (Nat.le_of_ble_eq_true rfl) dX8_keepPast_77 (fun M2 => ?_)
  refine aw_aload_n C dX8_keepPast_80 rfl ?_
  refine aw_dup C dX8_keepPast_81 rfl ?_
  refine aw_getI C clX8 lo_M_0 1 rfl (by decide) kf_X8_135 dX8_keepPast_82 ?_
  refine aw_iconst C (1 : Int32) dX8_keepPast_85 (by decide) ?_
  refine aw_iadd C dX8_keepPast_86 ?_
  refine aw_putI C clX8 lo_M_0 1 rfl (by decide) rfl rfl kf_X8_135 dX8_keepPast_87 ?_
  refine aw_mlet (fun M3 => ?_)
  exact aw_vret C hr dX8_keepPast_90
theorem m_X8_keepPast_2 {E : amE} (C : amC E 2 cX8_keepPast 2 RX8) (hr : (eH E).sig.returnType = none)  : ∀ (f : Nat) (x1 : Int32) (M : Mem), AW E lyM 2 (qV lyM) (X8_keepPast_2 f x1 M) 2 [(0, .ref 0), (1, .int x1)] [] M := by
  intro f
  induction f with
  | zero => exact (fun _ _ => aw_none)
  | succ f ih =>
    intro x1 M
    rw [X8_keepPast_2]
    refine aw_iload_n C dX8_keepPast_2 rfl ?_
    refine aw_sipush C (897 : Int32) dX8_keepPast_3 (by decide) ?_
    refine aw_icmp_ge C (tgt := 42) dX8_keepPast_6 (by decide) ?_ ?_
    · refine aw_aload_n C dX8_keepPast_9 rfl ?_
      refine aw_getI C clX8 lo_M_0 1 rfl (by decide) kf_X8_135 dX8_keepPast_10 ?_
      refine aw_bipush C (24 : Int32) dX8_keepPast_13 (by decide) ?_
      refine aw_icmp_ne C (tgt := 42) dX8_keepPast_15 (by decide) ?_ ?_
      · refine aw_aload_n C dX8_keepPast_18 rfl ?_
        refine aw_getR C (r := 1) clX8 lo_M_0 0 rfl (by decide) kf_X8_7 dX8_keepPast_19 ?_
        refine aw_bipush C (39 : Int32) dX8_keepPast_22 (by decide) ?_
        refine aw_iload_n C dX8_keepPast_24 rfl ?_
        refine aw_iadd C dX8_keepPast_25 ?_
        refine aw_aload_n C dX8_keepPast_26 rfl ?_
        refine aw_getR C (r := 1) clX8 lo_M_0 0 rfl (by decide) kf_X8_7 dX8_keepPast_27 ?_
        refine aw_bipush C (78 : Int32) dX8_keepPast_30 (by decide) ?_
        refine aw_iload_n C dX8_keepPast_32 rfl ?_
        refine aw_iadd C dX8_keepPast_33 ?_
        refine aw_iald C la_M_1 dX8_keepPast_34 ?_
        refine aw_iast C la_M_1 dX8_keepPast_35 ?_
        refine aw_mlet (fun M1 => ?_)
        refine aw_iinc C (v := (1 : Int32)) [(1, .int (x1 + (1 : Int32))), (0, .ref 0)] dX8_keepPast_36 rfl (by decide) (by decide) rfl ?_
        refine aw_goto C (tgt := 2) dX8_keepPast_39 (by decide) ?_
        refine aw_sub [1, 0] rfl ?_
        exact ih (x1 + (1 : Int32)) M1
      · refine aw_aload_n C dX8_keepPast_42 rfl ?_
        refine aw_dup C dX8_keepPast_43 rfl ?_
        refine aw_getI C clX8 lo_M_0 1 rfl (by decide) kf_X8_135 dX8_keepPast_44 ?_
        refine aw_aload_n C dX8_keepPast_47 rfl ?_
        refine aw_getI C clX8 lo_M_0 1 rfl (by decide) kf_X8_135 dX8_keepPast_48 ?_
        refine aw_bipush C (24 : Int32) dX8_keepPast_51 (by decide) ?_
        refine aw_icmp_ne C (tgt := 60) dX8_keepPast_53 (by decide) ?_ ?_
        · refine aw_iconst C (1 : Int32) dX8_keepPast_56 (by decide) ?_
          refine aw_goto C (tgt := 61) dX8_keepPast_57 (by decide) ?_
          refine aw_sub [0] rfl ?_
          exact m_X8_keepPast_61 C hr (1 : Int32) (M 0 1) M
        · refine aw_iconst C (0 : Int32) dX8_keepPast_60 (by decide) ?_
          refine aw_sub [0] rfl ?_
          exact m_X8_keepPast_61 C hr (0 : Int32) (M 0 1) M
    · refine aw_aload_n C dX8_keepPast_42 rfl ?_
      refine aw_dup C dX8_keepPast_43 rfl ?_
      refine aw_getI C clX8 lo_M_0 1 rfl (by decide) kf_X8_135 dX8_keepPast_44 ?_
      refine aw_aload_n C dX8_keepPast_47 rfl ?_
      refine aw_getI C clX8 lo_M_0 1 rfl (by decide) kf_X8_135 dX8_keepPast_48 ?_
      refine aw_bipush C (24 : Int32) dX8_keepPast_51 (by decide) ?_
      refine aw_icmp_ne C (tgt := 60) dX8_keepPast_53 (by decide) ?_ ?_
      · refine aw_iconst C (1 : Int32) dX8_keepPast_56 (by decide) ?_
        refine aw_goto C (tgt := 61) dX8_keepPast_57 (by decide) ?_
        refine aw_sub [0] rfl ?_
        exact m_X8_keepPast_61 C hr (1 : Int32) (M 0 1) M
      · refine aw_iconst C (0 : Int32) dX8_keepPast_60 (by decide) ?_
        refine aw_sub [0] rfl ?_
        exact m_X8_keepPast_61 C hr (0 : Int32) (M 0 1) M
theorem m_X8_keepPast    (M : Mem) : AMet 2 yX8_keepPast cX8_keepPast 2 none lyM [.ref 0] M (qV lyM) (X8_keepPast M) := by
  refine am_ent pn_X8 (Nat.le_of_ble_eq_true rfl) (fun E C hr => ?_)
  refine aw_lv (lv' := [(0, .ref 0)]) rfl ?_
  unfold X8_keepPast
  refine aw_iconst C (0 : Int32) dX8_keepPast_0 (by decide) ?_
  refine aw_istore_n C [(1, .int (0 : Int32)), (0, .ref 0)] dX8_keepPast_1 (by decide) rfl ?_
  refine aw_sub [1, 0] rfl ?_
  exact m_X8_keepPast_2 C hr am_fuel (0 : Int32) M
def X8_undo   (M : Mem) : Option (Int32 × Mem) :=
  if (M 0 1) = 0 then
    some ((-1000002 : Int32), M)
  else
    am_let (mset M 0 (upd (M 0) 1 ((M 0 1) - (1 : Int32)))) fun M1 =>
    Option.bind (X8_copyHall ((39 : Int32) + ((39 : Int32) * (M1 0 1))) (0 : Int32) M1) fun M2 =>
    some (M2 0 1, M2)
theorem m_X8_undo    (M : Mem) : AMet 2 yX8_undo cX8_undo 1 (some .int) lyM [.ref 0] M (qI lyM) (X8_undo M) := by
  refine am_ent pn_X8 (Nat.le_of_ble_eq_true rfl) (fun E C hr => ?_)
  refine aw_lv (lv' := [(0, .ref 0)]) rfl ?_
  unfold X8_undo
  refine aw_aload_n C dX8_undo_0 rfl ?_
  refine aw_getI C clX8 lo_M_0 1 rfl (by decide) kf_X8_135 dX8_undo_1 ?_
  refine aw_if_ne C (tgt := 10) dX8_undo_4 (by decide) ?_ ?_
  · refine aw_ldc C kc_X8_178 dX8_undo_7 ?_
    exact aw_iret C hr dX8_undo_9
  · refine aw_aload_n C dX8_undo_10 rfl ?_
    refine aw_dup C dX8_undo_11 rfl ?_
    refine aw_getI C clX8 lo_M_0 1 rfl (by decide) kf_X8_135 dX8_undo_12 ?_
    refine aw_iconst C (1 : Int32) dX8_undo_15 (by decide) ?_
    refine aw_isub C dX8_undo_16 ?_
    refine aw_putI C clX8 lo_M_0 1 rfl (by decide) rfl rfl kf_X8_135 dX8_undo_17 ?_
    refine aw_mlet (fun M1 => ?_)
    refine aw_aload_n C dX8_undo_20 rfl ?_
    refine aw_bipush C (39 : Int32) dX8_undo_21 (by decide) ?_
    refine aw_bipush C (39 : Int32) dX8_undo_23 (by decide) ?_
    refine aw_aload_n C dX8_undo_25 rfl ?_
    refine aw_getI C clX8 lo_M_0 1 rfl (by decide) kf_X8_135 dX8_undo_26 ?_
    refine aw_imul C dX8_undo_29 ?_
    refine aw_iadd C dX8_undo_30 ?_
    refine aw_iconst C (0 : Int32) dX8_undo_31 (by decide) ?_
    refine aw_cVV C [.int ((39 : Int32) + ((39 : Int32) * (M1 0 1))), .int (0 : Int32)] [] (m_X8_copyHall ((39 : Int32) + ((39 : Int32) * (M1 0 1))) (0 : Int32) M1) v_X8_copyHall km_X8_131 (by decide) lo_M_0 rfl rfl rfl (Nat.le_of_ble_eq_true rfl) dX8_undo_32 (fun M2 => ?_)
    refine aw_aload_n C dX8_undo_35 rfl ?_
    refine aw_getI C clX8 lo_M_0 1 rfl (by decide) kf_X8_135 dX8_undo_36 ?_
    exact aw_iret C hr dX8_undo_39
def X8_ticks_44  : Nat → Int32 → Int32 → Mem → Option (Int32 × Mem)
  | 0, _, _, _ => none
  | f + 1, x1, x2, M =>
    if x2 < x1 then
      Option.bind (X8_keepPast M) fun M1 =>
      Option.bind (X8_ticksOf (0 : Int32) (1 : Int32) M1) fun M2 =>
      X8_ticks_44  f x1 (x2 + (1 : Int32)) M2
    else
      Option.bind (X8_goneOnes M (0 : Int32)) fun r3 =>
      some (r3, M)
def X8_ticks  (x1 : Int32) (M : Mem) : Option (Int32 × Mem) :=
  Option.bind (X8_isHall M) fun r1 =>
  if r1 = 0 then
    some ((-1000002 : Int32), M)
  else
    Option.bind (X8_in x1.toInt64 (1 : Int64) (24 : Int64)) fun r2 =>
    if r2 = 0 then
      some ((-1000001 : Int32), M)
    else
      if am_in (2 : Int32) 1092 = true then
        if (999 : Int32) < ((M 1 (2 : Int32).toNatClampNeg) + x1) then
          some ((-1000003 : Int32), M)
        else
          X8_ticks_44 am_fuel x1 (0 : Int32) M
      else none
theorem m_X8_ticks_44 {E : amE} (C : amC E 6 cX8_ticks 3 RX8) (hr : (eH E).sig.returnType = (some .int))  : ∀ (f : Nat) (x1 : Int32) (x2 : Int32) (M : Mem), AW E lyM 3 (qI lyM) (X8_ticks_44 f x1 x2 M) 44 [(0, .ref 0), (1, .int x1), (2, .int x2)] [] M := by
  intro f
  induction f with
  | zero => exact (fun _ _ _ => aw_none)
  | succ f ih =>
    intro x1 x2 M
    rw [X8_ticks_44]
    refine aw_iload_n C dX8_ticks_44 rfl ?_
    refine aw_iload_n C dX8_ticks_45 rfl ?_
    refine aw_icmp_ge C (tgt := 65) dX8_ticks_46 (by decide) ?_ ?_
    · refine aw_aload_n C dX8_ticks_49 rfl ?_
      refine aw_cVV C [] [] (m_X8_keepPast M) v_X8_keepPast km_X8_184 (by decide) lo_M_0 rfl rfl rfl (Nat.le_of_ble_eq_true rfl) dX8_ticks_50 (fun M1 => ?_)
      refine aw_aload_n C dX8_ticks_53 rfl ?_
      refine aw_iconst C (0 : Int32) dX8_ticks_54 (by decide) ?_
      refine aw_iconst C (1 : Int32) dX8_ticks_55 (by decide) ?_
      refine aw_cVV C [.int (0 : Int32), .int (1 : Int32)] [] (m_X8_ticksOf (0 : Int32) (1 : Int32) M1) v_X8_ticksOf km_X8_187 (by decide) lo_M_0 rfl rfl rfl (Nat.le_of_ble_eq_true rfl) dX8_ticks_56 (fun M2 => ?_)
      refine aw_iinc C (v := (1 : Int32)) [(2, .int (x2 + (1 : Int32))), (0, .ref 0), (1, .int x1)] dX8_ticks_59 rfl (by decide) (by decide) rfl ?_
      refine aw_goto C (tgt := 44) dX8_ticks_62 (by decide) ?_
      refine aw_sub [1, 2, 0] rfl ?_
      exact ih x1 (x2 + (1 : Int32)) M2
    · refine aw_aload_n C dX8_ticks_65 rfl ?_
      refine aw_iconst C (0 : Int32) dX8_ticks_66 (by decide) ?_
      refine aw_cVIp C [.int (0 : Int32)] [] (m_X8_goneOnes M (0 : Int32)) v_X8_goneOnes km_X8_190 (by decide) lo_M_0 rfl rfl rfl (Nat.le_of_ble_eq_true rfl) dX8_ticks_67 (fun r3 => ?_)
      exact aw_iret C hr dX8_ticks_70
theorem m_X8_ticks   (x1 : Int32) (M : Mem) : AMet 6 yX8_ticks cX8_ticks 3 (some .int) lyM [.ref 0, .int x1] M (qI lyM) (X8_ticks x1 M) := by
  refine am_ent pn_X8 (Nat.le_of_ble_eq_true rfl) (fun E C hr => ?_)
  refine aw_lv (lv' := [(0, .ref 0), (1, .int x1)]) rfl ?_
  unfold X8_ticks
  refine aw_aload_n C dX8_ticks_0 rfl ?_
  refine aw_cVIp C [] [] (m_X8_isHall M) v_X8_isHall km_X8_179 (by decide) lo_M_0 rfl rfl rfl (Nat.le_of_ble_eq_true rfl) dX8_ticks_1 (fun r1 => ?_)
  refine aw_if_ne C (tgt := 10) dX8_ticks_4 (by decide) ?_ ?_
  · refine aw_ldc C kc_X8_178 dX8_ticks_7 ?_
    exact aw_iret C hr dX8_ticks_9
  · refine aw_iload_n C dX8_ticks_10 rfl ?_
    refine aw_i2l C dX8_ticks_11 ?_
    refine aw_lconst C (1 : Int64) dX8_ticks_12 (by decide) ?_
    refine aw_ldc2 C kd_X8_182 dX8_ticks_13 ?_
    refine aw_cSIp C [.long x1.toInt64, .long (1 : Int64), .long (24 : Int64)] [] (m_X8_in M x1.toInt64 (1 : Int64) (24 : Int64)) t_X8_in km_X8_48 (by decide) rfl rfl (Nat.le_of_ble_eq_true rfl) dX8_ticks_16 (fun r2 => ?_)
    refine aw_if_ne C (tgt := 25) dX8_ticks_19 (by decide) ?_ ?_
    · refine aw_ldc C kc_X8_58 dX8_ticks_22 ?_
      exact aw_iret C hr dX8_ticks_24
    · refine aw_aload_n C dX8_ticks_25 rfl ?_
      refine aw_getR C (r := 1) clX8 lo_M_0 0 rfl (by decide) kf_X8_7 dX8_ticks_26 ?_
      refine aw_iconst C (2 : Int32) dX8_ticks_29 (by decide) ?_
      refine aw_iald C la_M_1 dX8_ticks_30 ?_
      refine aw_iload_n C dX8_ticks_31 rfl ?_
      refine aw_iadd C dX8_ticks_32 ?_
      refine aw_sipush C (999 : Int32) dX8_ticks_33 (by decide) ?_
      refine aw_icmp_le C (tgt := 42) dX8_ticks_36 (by decide) ?_ ?_
      · refine aw_ldc C kc_X8_79 dX8_ticks_39 ?_
        exact aw_iret C hr dX8_ticks_41
      · refine aw_iconst C (0 : Int32) dX8_ticks_42 (by decide) ?_
        refine aw_istore_n C [(2, .int (0 : Int32)), (0, .ref 0), (1, .int x1)] dX8_ticks_43 (by decide) rfl ?_
        refine aw_sub [1, 2, 0] rfl ?_
        exact m_X8_ticks_44 C hr am_fuel x1 (0 : Int32) M
def X8_move  (x1 : Int32) (x2 : Int32) (M : Mem) : Option (Int32 × Mem) :=
  Option.bind (X8_isOne M x1) fun r1 =>
  if r1 = 0 then
    some ((-1000001 : Int32), M)
  else
    Option.bind (X8_isPlace M x2) fun r2 =>
    if r2 = 0 then
      some ((-1000001 : Int32), M)
    else
      if am_in ((9 : Int32) + x1) 1092 = true then
        Option.bind (X8_waits M (0 : Int32) x1) fun r3 =>
        if r3 = 0 then
          some ((-1000002 : Int32), M)
        else
          if (M 1 ((9 : Int32) + x1).toNatClampNeg) = x2 then
            some ((-1000002 : Int32), M)
          else
            Option.bind (X8_keepPast M) fun M4 =>
            if am_in ((9 : Int32) + x1) 1092 = true then
              am_let (mset M4 1 (upd (M4 1) ((9 : Int32) + x1).toNatClampNeg x2)) fun M5 =>
              some (M 1 ((9 : Int32) + x1).toNatClampNeg, M5)
            else none
      else none
theorem m_X8_move   (x1 : Int32) (x2 : Int32) (M : Mem) : AMet 3 yX8_move cX8_move 4 (some .int) lyM [.ref 0, .int x1, .int x2] M (qI lyM) (X8_move x1 x2 M) := by
  refine am_ent pn_X8 (Nat.le_of_ble_eq_true rfl) (fun E C hr => ?_)
  refine aw_lv (lv' := [(0, .ref 0), (1, .int x1), (2, .int x2)]) rfl ?_
  unfold X8_move
  refine aw_aload_n C dX8_move_0 rfl ?_
  refine aw_iload_n C dX8_move_1 rfl ?_
  refine aw_cVIp C [.int x1] [] (m_X8_isOne M x1) v_X8_isOne km_X8_193 (by decide) lo_M_0 rfl rfl rfl (Nat.le_of_ble_eq_true rfl) dX8_move_2 (fun r1 => ?_)
  refine aw_if_eq C (tgt := 16) dX8_move_5 (by decide) ?_ ?_
  · refine aw_ldc C kc_X8_58 dX8_move_16 ?_
    exact aw_iret C hr dX8_move_18
  · refine aw_aload_n C dX8_move_8 rfl ?_
    refine aw_iload_n C dX8_move_9 rfl ?_
    refine aw_cVIp C [.int x2] [] (m_X8_isPlace M x2) v_X8_isPlace km_X8_196 (by decide) lo_M_0 rfl rfl rfl (Nat.le_of_ble_eq_true rfl) dX8_move_10 (fun r2 => ?_)
    refine aw_if_ne C (tgt := 19) dX8_move_13 (by decide) ?_ ?_
    · refine aw_ldc C kc_X8_58 dX8_move_16 ?_
      exact aw_iret C hr dX8_move_18
    · refine aw_aload_n C dX8_move_19 rfl ?_
      refine aw_getR C (r := 1) clX8 lo_M_0 0 rfl (by decide) kf_X8_7 dX8_move_20 ?_
      refine aw_bipush C (9 : Int32) dX8_move_23 (by decide) ?_
      refine aw_iload_n C dX8_move_25 rfl ?_
      refine aw_iadd C dX8_move_26 ?_
      refine aw_iald C la_M_1 dX8_move_27 ?_
      refine aw_istore_n C [(3, .int (M 1 ((9 : Int32) + x1).toNatClampNeg)), (0, .ref 0), (1, .int x1), (2, .int x2)] dX8_move_28 (by decide) rfl ?_
      refine aw_aload_n C dX8_move_29 rfl ?_
      refine aw_iconst C (0 : Int32) dX8_move_30 (by decide) ?_
      refine aw_iload_n C dX8_move_31 rfl ?_
      refine aw_cVIp C [.int (0 : Int32), .int x1] [] (m_X8_waits M (0 : Int32) x1) v_X8_waits km_X8_141 (by decide) lo_M_0 rfl rfl rfl (Nat.le_of_ble_eq_true rfl) dX8_move_32 (fun r3 => ?_)
      refine aw_if_eq C (tgt := 43) dX8_move_35 (by decide) ?_ ?_
      · refine aw_ldc C kc_X8_178 dX8_move_43 ?_
        exact aw_iret C hr dX8_move_45
      · refine aw_iload_n C dX8_move_38 rfl ?_
        refine aw_iload_n C dX8_move_39 rfl ?_
        refine aw_icmp_ne C (tgt := 46) dX8_move_40 (by decide) ?_ ?_
        · refine aw_ldc C kc_X8_178 dX8_move_43 ?_
          exact aw_iret C hr dX8_move_45
        · refine aw_aload_n C dX8_move_46 rfl ?_
          refine aw_cVV C [] [] (m_X8_keepPast M) v_X8_keepPast km_X8_184 (by decide) lo_M_0 rfl rfl rfl (Nat.le_of_ble_eq_true rfl) dX8_move_47 (fun M4 => ?_)
          refine aw_aload_n C dX8_move_50 rfl ?_
          refine aw_getR C (r := 1) clX8 lo_M_0 0 rfl (by decide) kf_X8_7 dX8_move_51 ?_
          refine aw_bipush C (9 : Int32) dX8_move_54 (by decide) ?_
          refine aw_iload_n C dX8_move_56 rfl ?_
          refine aw_iadd C dX8_move_57 ?_
          refine aw_iload_n C dX8_move_58 rfl ?_
          refine aw_iast C la_M_1 dX8_move_59 ?_
          refine aw_mlet (fun M5 => ?_)
          refine aw_iload_n C dX8_move_60 rfl ?_
          exact aw_iret C hr dX8_move_61
def X8_paint  (x1 : Int32) (x2 : Int32) (M : Mem) : Option (Int32 × Mem) :=
  Option.bind (X8_isOne M x1) fun r1 =>
  if r1 = 0 then
    some ((-1000001 : Int32), M)
  else
    Option.bind (X8_in x2.toInt64 (0 : Int64) (3 : Int64)) fun r2 =>
    if r2 = 0 then
      some ((-1000001 : Int32), M)
    else
      Option.bind (X8_keepPast M) fun M3 =>
      if am_in ((27 : Int32) + x1) 1092 = true then
        if am_in ((27 : Int32) + x1) 1092 = true then
          am_let (mset M3 1 (upd (M3 1) ((27 : Int32) + x1).toNatClampNeg x2)) fun M4 =>
          some (M3 1 ((27 : Int32) + x1).toNatClampNeg, M4)
        else none
      else none
theorem m_X8_paint   (x1 : Int32) (x2 : Int32) (M : Mem) : AMet 3 yX8_paint cX8_paint 4 (some .int) lyM [.ref 0, .int x1, .int x2] M (qI lyM) (X8_paint x1 x2 M) := by
  refine am_ent pn_X8 (Nat.le_of_ble_eq_true rfl) (fun E C hr => ?_)
  refine aw_lv (lv' := [(0, .ref 0), (1, .int x1), (2, .int x2)]) rfl ?_
  unfold X8_paint
  refine aw_aload_n C dX8_paint_0 rfl ?_
  refine aw_iload_n C dX8_paint_1 rfl ?_
  refine aw_cVIp C [.int x1] [] (m_X8_isOne M x1) v_X8_isOne km_X8_193 (by decide) lo_M_0 rfl rfl rfl (Nat.le_of_ble_eq_true rfl) dX8_paint_2 (fun r1 => ?_)
  refine aw_if_eq C (tgt := 20) dX8_paint_5 (by decide) ?_ ?_
  · refine aw_ldc C kc_X8_58 dX8_paint_20 ?_
    exact aw_iret C hr dX8_paint_22
  · refine aw_iload_n C dX8_paint_8 rfl ?_
    refine aw_i2l C dX8_paint_9 ?_
    refine aw_lconst C (0 : Int64) dX8_paint_10 (by decide) ?_
    refine aw_ldc2 C kd_X8_199 dX8_paint_11 ?_
    refine aw_cSIp C [.long x2.toInt64, .long (0 : Int64), .long (3 : Int64)] [] (m_X8_in M x2.toInt64 (0 : Int64) (3 : Int64)) t_X8_in km_X8_48 (by decide) rfl rfl (Nat.le_of_ble_eq_true rfl) dX8_paint_14 (fun r2 => ?_)
    refine aw_if_ne C (tgt := 23) dX8_paint_17 (by decide) ?_ ?_
    · refine aw_ldc C kc_X8_58 dX8_paint_20 ?_
      exact aw_iret C hr dX8_paint_22
    · refine aw_aload_n C dX8_paint_23 rfl ?_
      refine aw_cVV C [] [] (m_X8_keepPast M) v_X8_keepPast km_X8_184 (by decide) lo_M_0 rfl rfl rfl (Nat.le_of_ble_eq_true rfl) dX8_paint_24 (fun M3 => ?_)
      refine aw_aload_n C dX8_paint_27 rfl ?_
      refine aw_getR C (r := 1) clX8 lo_M_0 0 rfl (by decide) kf_X8_7 dX8_paint_28 ?_
      refine aw_bipush C (27 : Int32) dX8_paint_31 (by decide) ?_
      refine aw_iload_n C dX8_paint_33 rfl ?_
      refine aw_iadd C dX8_paint_34 ?_
      refine aw_iald C la_M_1 dX8_paint_35 ?_
      refine aw_istore_n C [(3, .int (M3 1 ((27 : Int32) + x1).toNatClampNeg)), (0, .ref 0), (1, .int x1), (2, .int x2)] dX8_paint_36 (by decide) rfl ?_
      refine aw_aload_n C dX8_paint_37 rfl ?_
      refine aw_getR C (r := 1) clX8 lo_M_0 0 rfl (by decide) kf_X8_7 dX8_paint_38 ?_
      refine aw_bipush C (27 : Int32) dX8_paint_41 (by decide) ?_
      refine aw_iload_n C dX8_paint_43 rfl ?_
      refine aw_iadd C dX8_paint_44 ?_
      refine aw_iload_n C dX8_paint_45 rfl ?_
      refine aw_iast C la_M_1 dX8_paint_46 ?_
      refine aw_mlet (fun M4 => ?_)
      refine aw_iload_n C dX8_paint_47 rfl ?_
      exact aw_iret C hr dX8_paint_48
def X8_back  (x1 : Int32) (M : Mem) : Option (Int32 × Mem) :=
  Option.bind (X8_isOne M x1) fun r1 =>
  if r1 = 0 then
    some ((-1000001 : Int32), M)
  else
    Option.bind (X8_waits M (0 : Int32) x1) fun r2 =>
    if r2 = 0 then
      Option.bind (X8_keepPast M) fun M3 =>
      if am_in ((15 : Int32) + x1) 1092 = true then
        Option.bind (X8_comesBack (0 : Int32) x1 M3) fun M4 =>
        some (M3 1 ((15 : Int32) + x1).toNatClampNeg, M4)
      else none
    else
      some ((-1000002 : Int32), M)
theorem m_X8_back   (x1 : Int32) (M : Mem) : AMet 3 yX8_back cX8_back 3 (some .int) lyM [.ref 0, .int x1] M (qI lyM) (X8_back x1 M) := by
  refine am_ent pn_X8 (Nat.le_of_ble_eq_true rfl) (fun E C hr => ?_)
  refine aw_lv (lv' := [(0, .ref 0), (1, .int x1)]) rfl ?_
  unfold X8_back
  refine aw_aload_n C dX8_back_0 rfl ?_
  refine aw_iload_n C dX8_back_1 rfl ?_
  refine aw_cVIp C [.int x1] [] (m_X8_isOne M x1) v_X8_isOne km_X8_193 (by decide) lo_M_0 rfl rfl rfl (Nat.le_of_ble_eq_true rfl) dX8_back_2 (fun r1 => ?_)
  refine aw_if_ne C (tgt := 11) dX8_back_5 (by decide) ?_ ?_
  · refine aw_ldc C kc_X8_58 dX8_back_8 ?_
    exact aw_iret C hr dX8_back_10
  · refine aw_aload_n C dX8_back_11 rfl ?_
    refine aw_iconst C (0 : Int32) dX8_back_12 (by decide) ?_
    refine aw_iload_n C dX8_back_13 rfl ?_
    refine aw_cVIp C [.int (0 : Int32), .int x1] [] (m_X8_waits M (0 : Int32) x1) v_X8_waits km_X8_141 (by decide) lo_M_0 rfl rfl rfl (Nat.le_of_ble_eq_true rfl) dX8_back_14 (fun r2 => ?_)
    refine aw_if_eq C (tgt := 23) dX8_back_17 (by decide) ?_ ?_
    · refine aw_aload_n C dX8_back_23 rfl ?_
      refine aw_cVV C [] [] (m_X8_keepPast M) v_X8_keepPast km_X8_184 (by decide) lo_M_0 rfl rfl rfl (Nat.le_of_ble_eq_true rfl) dX8_back_24 (fun M3 => ?_)
      refine aw_aload_n C dX8_back_27 rfl ?_
      refine aw_getR C (r := 1) clX8 lo_M_0 0 rfl (by decide) kf_X8_7 dX8_back_28 ?_
      refine aw_bipush C (15 : Int32) dX8_back_31 (by decide) ?_
      refine aw_iload_n C dX8_back_33 rfl ?_
      refine aw_iadd C dX8_back_34 ?_
      refine aw_iald C la_M_1 dX8_back_35 ?_
      refine aw_istore_n C [(2, .int (M3 1 ((15 : Int32) + x1).toNatClampNeg)), (0, .ref 0), (1, .int x1)] dX8_back_36 (by decide) rfl ?_
      refine aw_aload_n C dX8_back_37 rfl ?_
      refine aw_iconst C (0 : Int32) dX8_back_38 (by decide) ?_
      refine aw_iload_n C dX8_back_39 rfl ?_
      refine aw_cVV C [.int (0 : Int32), .int x1] [] (m_X8_comesBack (0 : Int32) x1 M3) v_X8_comesBack km_X8_201 (by decide) lo_M_0 rfl rfl rfl (Nat.le_of_ble_eq_true rfl) dX8_back_40 (fun M4 => ?_)
      refine aw_iload_n C dX8_back_43 rfl ?_
      exact aw_iret C hr dX8_back_44
    · refine aw_ldc C kc_X8_178 dX8_back_20 ?_
      exact aw_iret C hr dX8_back_22
def X8_onBelt_4 (M : Mem) : Nat → Int32 → Int32 → Int32 → Option (Int32)
  | 0, _, _, _ => none
  | f + 1, x1, x2, x3 =>
    if am_in (x1 + (1 : Int32)) 1092 = true then
      if x3 < (M 1 (x1 + (1 : Int32)).toNatClampNeg) then
        if am_in ((x1 + (33 : Int32)) + x3) 1092 = true then
          if (M 1 ((x1 + (33 : Int32)) + x3).toNatClampNeg) < (20 : Int32) then
            X8_onBelt_4 M f x1 (x2 ||| ((1 : Int32) <<< (x3 &&& 31))) (x3 + (1 : Int32))
          else
            X8_onBelt_4 M f x1 (x2 ||| (0 : Int32)) (x3 + (1 : Int32))
        else none
      else
        some x2
    else none
def X8_onBelt (M : Mem) (x1 : Int32)  : Option (Int32) :=
  X8_onBelt_4 M am_fuel x1 (0 : Int32) (0 : Int32)
theorem m_X8_onBelt_4 {E : amE} (C : amC E 1 cX8_onBelt 4 RX8) (hr : (eH E).sig.returnType = (some .int)) (M : Mem) : ∀ (f : Nat) (x1 : Int32) (x2 : Int32) (x3 : Int32), AW E lyM 4 (qIp lyM M) (X8_onBelt_4 M f x1 x2 x3) 4 [(0, .ref 0), (1, .int x1), (2, .int x2), (3, .int x3)] [] M := by
  intro f
  induction f with
  | zero => exact (fun _ _ _ => aw_none)
  | succ f ih =>
    intro x1 x2 x3
    rw [X8_onBelt_4]
    refine aw_iload_n C dX8_onBelt_4 rfl ?_
    refine aw_aload_n C dX8_onBelt_5 rfl ?_
    refine aw_getR C (r := 1) clX8 lo_M_0 0 rfl (by decide) kf_X8_7 dX8_onBelt_6 ?_
    refine aw_iload_n C dX8_onBelt_9 rfl ?_
    refine aw_iconst C (1 : Int32) dX8_onBelt_10 (by decide) ?_
    refine aw_iadd C dX8_onBelt_11 ?_
    refine aw_iald C la_M_1 dX8_onBelt_12 ?_
    refine aw_icmp_ge C (tgt := 48) dX8_onBelt_13 (by decide) ?_ ?_
    · refine aw_iload_n C dX8_onBelt_16 rfl ?_
      refine aw_aload_n C dX8_onBelt_17 rfl ?_
      refine aw_getR C (r := 1) clX8 lo_M_0 0 rfl (by decide) kf_X8_7 dX8_onBelt_18 ?_
      refine aw_iload_n C dX8_onBelt_21 rfl ?_
      refine aw_bipush C (33 : Int32) dX8_onBelt_22 (by decide) ?_
      refine aw_iadd C dX8_onBelt_24 ?_
      refine aw_iload_n C dX8_onBelt_25 rfl ?_
      refine aw_iadd C dX8_onBelt_26 ?_
      refine aw_iald C la_M_1 dX8_onBelt_27 ?_
      refine aw_bipush C (20 : Int32) dX8_onBelt_28 (by decide) ?_
      refine aw_icmp_ge C (tgt := 39) dX8_onBelt_30 (by decide) ?_ ?_
      · refine aw_iconst C (1 : Int32) dX8_onBelt_33 (by decide) ?_
        refine aw_iload_n C dX8_onBelt_34 rfl ?_
        refine aw_ishl C dX8_onBelt_35 ?_
        refine aw_goto C (tgt := 40) dX8_onBelt_36 (by decide) ?_
        refine aw_ior C dX8_onBelt_40 ?_
        refine aw_istore_n C [(2, .int (x2 ||| ((1 : Int32) <<< (x3 &&& 31)))), (0, .ref 0), (1, .int x1), (3, .int x3)] dX8_onBelt_41 (by decide) rfl ?_
        refine aw_iinc C (v := (1 : Int32)) [(3, .int (x3 + (1 : Int32))), (2, .int (x2 ||| ((1 : Int32) <<< (x3 &&& 31)))), (0, .ref 0), (1, .int x1)] dX8_onBelt_42 rfl (by decide) (by decide) rfl ?_
        refine aw_goto C (tgt := 4) dX8_onBelt_45 (by decide) ?_
        refine aw_sub [2, 3, 1, 0] rfl ?_
        exact ih x1 (x2 ||| ((1 : Int32) <<< (x3 &&& 31))) (x3 + (1 : Int32))
      · refine aw_iconst C (0 : Int32) dX8_onBelt_39 (by decide) ?_
        refine aw_ior C dX8_onBelt_40 ?_
        refine aw_istore_n C [(2, .int (x2 ||| (0 : Int32))), (0, .ref 0), (1, .int x1), (3, .int x3)] dX8_onBelt_41 (by decide) rfl ?_
        refine aw_iinc C (v := (1 : Int32)) [(3, .int (x3 + (1 : Int32))), (2, .int (x2 ||| (0 : Int32))), (0, .ref 0), (1, .int x1)] dX8_onBelt_42 rfl (by decide) (by decide) rfl ?_
        refine aw_goto C (tgt := 4) dX8_onBelt_45 (by decide) ?_
        refine aw_sub [2, 3, 1, 0] rfl ?_
        exact ih x1 (x2 ||| (0 : Int32)) (x3 + (1 : Int32))
    · refine aw_iload_n C dX8_onBelt_48 rfl ?_
      exact aw_iretp C hr dX8_onBelt_49
theorem m_X8_onBelt  (M : Mem) (x1 : Int32)  : AMet 1 yX8_onBelt cX8_onBelt 4 (some .int) lyM [.ref 0, .int x1] M (qIp lyM M) (X8_onBelt M x1) := by
  refine am_ent pn_X8 (Nat.le_of_ble_eq_true rfl) (fun E C hr => ?_)
  refine aw_lv (lv' := [(0, .ref 0), (1, .int x1)]) rfl ?_
  unfold X8_onBelt
  refine aw_iconst C (0 : Int32) dX8_onBelt_0 (by decide) ?_
  refine aw_istore_n C [(2, .int (0 : Int32)), (0, .ref 0), (1, .int x1)] dX8_onBelt_1 (by decide) rfl ?_
  refine aw_iconst C (0 : Int32) dX8_onBelt_2 (by decide) ?_
  refine aw_istore_n C [(3, .int (0 : Int32)), (2, .int (0 : Int32)), (0, .ref 0), (1, .int x1)] dX8_onBelt_3 (by decide) rfl ?_
  refine aw_sub [2, 3, 1, 0] rfl ?_
  exact m_X8_onBelt_4 C hr M am_fuel x1 (0 : Int32) (0 : Int32)
def X8_turn   (M : Mem) : Option (Int32 × Mem) :=
  Option.bind (X8_isHall M) fun r1 =>
  if r1 = 0 then
    some ((-1000002 : Int32), M)
  else
    Option.bind (X8_keepPast M) fun M2 =>
    Option.bind (X8_turns (0 : Int32) (1 : Int32) M2) fun M3 =>
    Option.bind (X8_onBelt M3 (0 : Int32)) fun r4 =>
    Option.bind (X8_bits r4) fun r5 =>
    some (r5, M3)
theorem m_X8_turn    (M : Mem) : AMet 3 yX8_turn cX8_turn 1 (some .int) lyM [.ref 0] M (qI lyM) (X8_turn M) := by
  refine am_ent pn_X8 (Nat.le_of_ble_eq_true rfl) (fun E C hr => ?_)
  refine aw_lv (lv' := [(0, .ref 0)]) rfl ?_
  unfold X8_turn
  refine aw_aload_n C dX8_turn_0 rfl ?_
  refine aw_cVIp C [] [] (m_X8_isHall M) v_X8_isHall km_X8_179 (by decide) lo_M_0 rfl rfl rfl (Nat.le_of_ble_eq_true rfl) dX8_turn_1 (fun r1 => ?_)
  refine aw_if_ne C (tgt := 10) dX8_turn_4 (by decide) ?_ ?_
  · refine aw_ldc C kc_X8_178 dX8_turn_7 ?_
    exact aw_iret C hr dX8_turn_9
  · refine aw_aload_n C dX8_turn_10 rfl ?_
    refine aw_cVV C [] [] (m_X8_keepPast M) v_X8_keepPast km_X8_184 (by decide) lo_M_0 rfl rfl rfl (Nat.le_of_ble_eq_true rfl) dX8_turn_11 (fun M2 => ?_)
    refine aw_aload_n C dX8_turn_14 rfl ?_
    refine aw_iconst C (0 : Int32) dX8_turn_15 (by decide) ?_
    refine aw_iconst C (1 : Int32) dX8_turn_16 (by decide) ?_
    refine aw_cVV C [.int (0 : Int32), .int (1 : Int32)] [] (m_X8_turns (0 : Int32) (1 : Int32) M2) v_X8_turns km_X8_162 (by decide) lo_M_0 rfl rfl rfl (Nat.le_of_ble_eq_true rfl) dX8_turn_17 (fun M3 => ?_)
    refine aw_aload_n C dX8_turn_20 rfl ?_
    refine aw_iconst C (0 : Int32) dX8_turn_21 (by decide) ?_
    refine aw_cVIp C [.int (0 : Int32)] [] (m_X8_onBelt M3 (0 : Int32)) v_X8_onBelt km_X8_204 (by decide) lo_M_0 rfl rfl rfl (Nat.le_of_ble_eq_true rfl) dX8_turn_22 (fun r4 => ?_)
    refine aw_cSIp C [.int r4] [] (m_X8_bits M3 r4) t_X8_bits km_X8_207 (by decide) rfl rfl (Nat.le_of_ble_eq_true rfl) dX8_turn_25 (fun r5 => ?_)
    exact aw_iret C hr dX8_turn_28
def X8_traveller (M : Mem) (x1 : Int32) (x2 : Int32)  : Option (Int32) :=
  Option.bind (X8_isOne M x1) fun r1 =>
  if r1 = 0 then
    some (-1000001 : Int32)
  else
    if x2 = (0 : Int32) then
      if am_in ((9 : Int32) + x1) 1092 = true then
        some (M 1 ((9 : Int32) + x1).toNatClampNeg)
      else none
    else
    if x2 = (1 : Int32) then
      Option.bind (X8_waits M (0 : Int32) x1) fun r3 =>
      if r3 = 0 then
        some (0 : Int32)
      else
        some (1 : Int32)
    else
    if x2 = (2 : Int32) then
      if am_in ((15 : Int32) + x1) 1092 = true then
        some (M 1 ((15 : Int32) + x1).toNatClampNeg)
      else none
    else
    if x2 = (3 : Int32) then
      if am_in ((21 : Int32) + x1) 1092 = true then
        some (M 1 ((21 : Int32) + x1).toNatClampNeg)
      else none
    else
    if x2 = (4 : Int32) then
      Option.bind (X8_isWrong M (0 : Int32) x1) fun r7 =>
      if r7 = 0 then
        some (0 : Int32)
      else
        some (1 : Int32)
    else
    if x2 = (5 : Int32) then
      Option.bind (X8_isRobbed M (0 : Int32) x1) fun r9 =>
      if r9 = 0 then
        some (0 : Int32)
      else
        some (1 : Int32)
    else
    some (-1000001 : Int32)
theorem m_X8_traveller  (M : Mem) (x1 : Int32) (x2 : Int32)  : AMet 3 yX8_traveller cX8_traveller 3 (some .int) lyM [.ref 0, .int x1, .int x2] M (qIp lyM M) (X8_traveller M x1 x2) := by
  refine am_ent pn_X8 (Nat.le_of_ble_eq_true rfl) (fun E C hr => ?_)
  refine aw_lv (lv' := [(0, .ref 0), (1, .int x1), (2, .int x2)]) rfl ?_
  unfold X8_traveller
  refine aw_aload_n C dX8_traveller_0 rfl ?_
  refine aw_iload_n C dX8_traveller_1 rfl ?_
  refine aw_cVIp C [.int x1] [] (m_X8_isOne M x1) v_X8_isOne km_X8_193 (by decide) lo_M_0 rfl rfl rfl (Nat.le_of_ble_eq_true rfl) dX8_traveller_2 (fun r1 => ?_)
  refine aw_if_ne C (tgt := 11) dX8_traveller_5 (by decide) ?_ ?_
  · refine aw_ldc C kc_X8_58 dX8_traveller_8 ?_
    exact aw_iretp C hr dX8_traveller_10
  · refine aw_iload_n C dX8_traveller_11 rfl ?_
    refine aw_ite (fun h2 => ?_) (fun h2 => ?_)
    · refine aw_tswIn C (tgt := 52) (0 : Int32) h2 dX8_traveller_12 (by decide) (by decide) rfl (by decide) ?_
      refine aw_aload_n C dX8_traveller_52 rfl ?_
      refine aw_getR C (r := 1) clX8 lo_M_0 0 rfl (by decide) kf_X8_7 dX8_traveller_53 ?_
      refine aw_bipush C (9 : Int32) dX8_traveller_56 (by decide) ?_
      refine aw_iload_n C dX8_traveller_58 rfl ?_
      refine aw_iadd C dX8_traveller_59 ?_
      refine aw_iald C la_M_1 dX8_traveller_60 ?_
      exact aw_iretp C hr dX8_traveller_61
    refine aw_ite (fun h4 => ?_) (fun h4 => ?_)
    · refine aw_tswIn C (tgt := 62) (1 : Int32) h4 dX8_traveller_12 (by decide) (by decide) rfl (by decide) ?_
      refine aw_aload_n C dX8_traveller_62 rfl ?_
      refine aw_iconst C (0 : Int32) dX8_traveller_63 (by decide) ?_
      refine aw_iload_n C dX8_traveller_64 rfl ?_
      refine aw_cVIp C [.int (0 : Int32), .int x1] [] (m_X8_waits M (0 : Int32) x1) v_X8_waits km_X8_141 (by decide) lo_M_0 rfl rfl rfl (Nat.le_of_ble_eq_true rfl) dX8_traveller_65 (fun r3 => ?_)
      refine aw_if_eq C (tgt := 75) dX8_traveller_68 (by decide) ?_ ?_
      · refine aw_iconst C (0 : Int32) dX8_traveller_75 (by decide) ?_
        exact aw_iretp C hr dX8_traveller_76
      · refine aw_iconst C (1 : Int32) dX8_traveller_71 (by decide) ?_
        refine aw_goto C (tgt := 76) dX8_traveller_72 (by decide) ?_
        exact aw_iretp C hr dX8_traveller_76
    refine aw_ite (fun h5 => ?_) (fun h5 => ?_)
    · refine aw_tswIn C (tgt := 77) (2 : Int32) h5 dX8_traveller_12 (by decide) (by decide) rfl (by decide) ?_
      refine aw_aload_n C dX8_traveller_77 rfl ?_
      refine aw_getR C (r := 1) clX8 lo_M_0 0 rfl (by decide) kf_X8_7 dX8_traveller_78 ?_
      refine aw_bipush C (15 : Int32) dX8_traveller_81 (by decide) ?_
      refine aw_iload_n C dX8_traveller_83 rfl ?_
      refine aw_iadd C dX8_traveller_84 ?_
      refine aw_iald C la_M_1 dX8_traveller_85 ?_
      exact aw_iretp C hr dX8_traveller_86
    refine aw_ite (fun h6 => ?_) (fun h6 => ?_)
    · refine aw_tswIn C (tgt := 87) (3 : Int32) h6 dX8_traveller_12 (by decide) (by decide) rfl (by decide) ?_
      refine aw_aload_n C dX8_traveller_87 rfl ?_
      refine aw_getR C (r := 1) clX8 lo_M_0 0 rfl (by decide) kf_X8_7 dX8_traveller_88 ?_
      refine aw_bipush C (21 : Int32) dX8_traveller_91 (by decide) ?_
      refine aw_iload_n C dX8_traveller_93 rfl ?_
      refine aw_iadd C dX8_traveller_94 ?_
      refine aw_iald C la_M_1 dX8_traveller_95 ?_
      exact aw_iretp C hr dX8_traveller_96
    refine aw_ite (fun h8 => ?_) (fun h8 => ?_)
    · refine aw_tswIn C (tgt := 97) (4 : Int32) h8 dX8_traveller_12 (by decide) (by decide) rfl (by decide) ?_
      refine aw_aload_n C dX8_traveller_97 rfl ?_
      refine aw_iconst C (0 : Int32) dX8_traveller_98 (by decide) ?_
      refine aw_iload_n C dX8_traveller_99 rfl ?_
      refine aw_cVIp C [.int (0 : Int32), .int x1] [] (m_X8_isWrong M (0 : Int32) x1) v_X8_isWrong km_X8_172 (by decide) lo_M_0 rfl rfl rfl (Nat.le_of_ble_eq_true rfl) dX8_traveller_100 (fun r7 => ?_)
      refine aw_if_eq C (tgt := 110) dX8_traveller_103 (by decide) ?_ ?_
      · refine aw_iconst C (0 : Int32) dX8_traveller_110 (by decide) ?_
        exact aw_iretp C hr dX8_traveller_111
      · refine aw_iconst C (1 : Int32) dX8_traveller_106 (by decide) ?_
        refine aw_goto C (tgt := 111) dX8_traveller_107 (by decide) ?_
        exact aw_iretp C hr dX8_traveller_111
    refine aw_ite (fun h10 => ?_) (fun h10 => ?_)
    · refine aw_tswIn C (tgt := 112) (5 : Int32) h10 dX8_traveller_12 (by decide) (by decide) rfl (by decide) ?_
      refine aw_aload_n C dX8_traveller_112 rfl ?_
      refine aw_iconst C (0 : Int32) dX8_traveller_113 (by decide) ?_
      refine aw_iload_n C dX8_traveller_114 rfl ?_
      refine aw_cVIp C [.int (0 : Int32), .int x1] [] (m_X8_isRobbed M (0 : Int32) x1) v_X8_isRobbed km_X8_175 (by decide) lo_M_0 rfl rfl rfl (Nat.le_of_ble_eq_true rfl) dX8_traveller_115 (fun r9 => ?_)
      refine aw_if_eq C (tgt := 125) dX8_traveller_118 (by decide) ?_ ?_
      · refine aw_iconst C (0 : Int32) dX8_traveller_125 (by decide) ?_
        exact aw_iretp C hr dX8_traveller_126
      · refine aw_iconst C (1 : Int32) dX8_traveller_121 (by decide) ?_
        refine aw_goto C (tgt := 126) dX8_traveller_122 (by decide) ?_
        exact aw_iretp C hr dX8_traveller_126
    have q_h2 := lv_neT h2 (a := 0) (by decide)
    have q_h4 := lv_neT h4 (a := 1) (by decide)
    have q_h5 := lv_neT h5 (a := 2) (by decide)
    have q_h6 := lv_neT h6 (a := 3) (by decide)
    have q_h8 := lv_neT h8 (a := 4) (by decide)
    have q_h10 := lv_neT h10 (a := 5) (by decide)
    refine aw_tswOut C (tgt := 127) dX8_traveller_12 (by omega) (by decide) ?_
    refine aw_ldc C kc_X8_58 dX8_traveller_127 ?_
    exact aw_iretp C hr dX8_traveller_129
def X8_bag (M : Mem) (x1 : Int32) (x2 : Int32)  : Option (Int32) :=
  Option.bind (X8_isOne M x1) fun r1 =>
  if r1 = 0 then
    some (-1000001 : Int32)
  else
    Option.bind (X8_in x2.toInt64 (0 : Int64) (1 : Int64)) fun r2 =>
    if r2 = 0 then
      some (-1000001 : Int32)
    else
      if x2 = 0 then
        if am_in ((27 : Int32) + x1) 1092 = true then
          some (M 1 ((27 : Int32) + x1).toNatClampNeg)
        else none
      else
        if am_in ((33 : Int32) + x1) 1092 = true then
          some (M 1 ((33 : Int32) + x1).toNatClampNeg)
        else none
theorem m_X8_bag  (M : Mem) (x1 : Int32) (x2 : Int32)  : AMet 3 yX8_bag cX8_bag 3 (some .int) lyM [.ref 0, .int x1, .int x2] M (qIp lyM M) (X8_bag M x1 x2) := by
  refine am_ent pn_X8 (Nat.le_of_ble_eq_true rfl) (fun E C hr => ?_)
  refine aw_lv (lv' := [(0, .ref 0), (1, .int x1), (2, .int x2)]) rfl ?_
  unfold X8_bag
  refine aw_aload_n C dX8_bag_0 rfl ?_
  refine aw_iload_n C dX8_bag_1 rfl ?_
  refine aw_cVIp C [.int x1] [] (m_X8_isOne M x1) v_X8_isOne km_X8_193 (by decide) lo_M_0 rfl rfl rfl (Nat.le_of_ble_eq_true rfl) dX8_bag_2 (fun r1 => ?_)
  refine aw_if_eq C (tgt := 18) dX8_bag_5 (by decide) ?_ ?_
  · refine aw_ldc C kc_X8_58 dX8_bag_18 ?_
    refine aw_goto C (tgt := 48) dX8_bag_20 (by decide) ?_
    exact aw_iretp C hr dX8_bag_48
  · refine aw_iload_n C dX8_bag_8 rfl ?_
    refine aw_i2l C dX8_bag_9 ?_
    refine aw_lconst C (0 : Int64) dX8_bag_10 (by decide) ?_
    refine aw_lconst C (1 : Int64) dX8_bag_11 (by decide) ?_
    refine aw_cSIp C [.long x2.toInt64, .long (0 : Int64), .long (1 : Int64)] [] (m_X8_in M x2.toInt64 (0 : Int64) (1 : Int64)) t_X8_in km_X8_48 (by decide) rfl rfl (Nat.le_of_ble_eq_true rfl) dX8_bag_12 (fun r2 => ?_)
    refine aw_if_ne C (tgt := 23) dX8_bag_15 (by decide) ?_ ?_
    · refine aw_ldc C kc_X8_58 dX8_bag_18 ?_
      refine aw_goto C (tgt := 48) dX8_bag_20 (by decide) ?_
      exact aw_iretp C hr dX8_bag_48
    · refine aw_iload_n C dX8_bag_23 rfl ?_
      refine aw_if_ne C (tgt := 39) dX8_bag_24 (by decide) ?_ ?_
      · refine aw_aload_n C dX8_bag_27 rfl ?_
        refine aw_getR C (r := 1) clX8 lo_M_0 0 rfl (by decide) kf_X8_7 dX8_bag_28 ?_
        refine aw_bipush C (27 : Int32) dX8_bag_31 (by decide) ?_
        refine aw_iload_n C dX8_bag_33 rfl ?_
        refine aw_iadd C dX8_bag_34 ?_
        refine aw_iald C la_M_1 dX8_bag_35 ?_
        refine aw_goto C (tgt := 48) dX8_bag_36 (by decide) ?_
        exact aw_iretp C hr dX8_bag_48
      · refine aw_aload_n C dX8_bag_39 rfl ?_
        refine aw_getR C (r := 1) clX8 lo_M_0 0 rfl (by decide) kf_X8_7 dX8_bag_40 ?_
        refine aw_bipush C (33 : Int32) dX8_bag_43 (by decide) ?_
        refine aw_iload_n C dX8_bag_45 rfl ?_
        refine aw_iadd C dX8_bag_46 ?_
        refine aw_iald C la_M_1 dX8_bag_47 ?_
        exact aw_iretp C hr dX8_bag_48
def X8_takenOnes_4 (M : Mem) : Nat → Int32 → Int32 → Option (Int32)
  | 0, _, _ => none
  | f + 1, x1, x2 =>
    if am_in (1 : Int32) 1092 = true then
      if x2 < (M 1 (1 : Int32).toNatClampNeg) then
        if am_in ((33 : Int32) + x2) 1092 = true then
          if (M 1 ((33 : Int32) + x2).toNatClampNeg) < (30 : Int32) then
            X8_takenOnes_4 M f (x1 ||| (0 : Int32)) (x2 + (1 : Int32))
          else
            X8_takenOnes_4 M f (x1 ||| ((1 : Int32) <<< (x2 &&& 31))) (x2 + (1 : Int32))
        else none
      else
        some x1
    else none
def X8_takenOnes (M : Mem)   : Option (Int32) :=
  X8_takenOnes_4 M am_fuel (0 : Int32) (0 : Int32)
theorem m_X8_takenOnes_4 {E : amE} (C : amC E 1 cX8_takenOnes 3 RX8) (hr : (eH E).sig.returnType = (some .int)) (M : Mem) : ∀ (f : Nat) (x1 : Int32) (x2 : Int32), AW E lyM 3 (qIp lyM M) (X8_takenOnes_4 M f x1 x2) 4 [(0, .ref 0), (1, .int x1), (2, .int x2)] [] M := by
  intro f
  induction f with
  | zero => exact (fun _ _ => aw_none)
  | succ f ih =>
    intro x1 x2
    rw [X8_takenOnes_4]
    refine aw_iload_n C dX8_takenOnes_4 rfl ?_
    refine aw_aload_n C dX8_takenOnes_5 rfl ?_
    refine aw_getR C (r := 1) clX8 lo_M_0 0 rfl (by decide) kf_X8_7 dX8_takenOnes_6 ?_
    refine aw_iconst C (1 : Int32) dX8_takenOnes_9 (by decide) ?_
    refine aw_iald C la_M_1 dX8_takenOnes_10 ?_
    refine aw_icmp_ge C (tgt := 44) dX8_takenOnes_11 (by decide) ?_ ?_
    · refine aw_iload_n C dX8_takenOnes_14 rfl ?_
      refine aw_aload_n C dX8_takenOnes_15 rfl ?_
      refine aw_getR C (r := 1) clX8 lo_M_0 0 rfl (by decide) kf_X8_7 dX8_takenOnes_16 ?_
      refine aw_bipush C (33 : Int32) dX8_takenOnes_19 (by decide) ?_
      refine aw_iload_n C dX8_takenOnes_21 rfl ?_
      refine aw_iadd C dX8_takenOnes_22 ?_
      refine aw_iald C la_M_1 dX8_takenOnes_23 ?_
      refine aw_bipush C (30 : Int32) dX8_takenOnes_24 (by decide) ?_
      refine aw_icmp_lt C (tgt := 35) dX8_takenOnes_26 (by decide) ?_ ?_
      · refine aw_iconst C (0 : Int32) dX8_takenOnes_35 (by decide) ?_
        refine aw_ior C dX8_takenOnes_36 ?_
        refine aw_istore_n C [(1, .int (x1 ||| (0 : Int32))), (0, .ref 0), (2, .int x2)] dX8_takenOnes_37 (by decide) rfl ?_
        refine aw_iinc C (v := (1 : Int32)) [(2, .int (x2 + (1 : Int32))), (1, .int (x1 ||| (0 : Int32))), (0, .ref 0)] dX8_takenOnes_38 rfl (by decide) (by decide) rfl ?_
        refine aw_goto C (tgt := 4) dX8_takenOnes_41 (by decide) ?_
        refine aw_sub [2, 1, 0] rfl ?_
        exact ih (x1 ||| (0 : Int32)) (x2 + (1 : Int32))
      · refine aw_iconst C (1 : Int32) dX8_takenOnes_29 (by decide) ?_
        refine aw_iload_n C dX8_takenOnes_30 rfl ?_
        refine aw_ishl C dX8_takenOnes_31 ?_
        refine aw_goto C (tgt := 36) dX8_takenOnes_32 (by decide) ?_
        refine aw_ior C dX8_takenOnes_36 ?_
        refine aw_istore_n C [(1, .int (x1 ||| ((1 : Int32) <<< (x2 &&& 31)))), (0, .ref 0), (2, .int x2)] dX8_takenOnes_37 (by decide) rfl ?_
        refine aw_iinc C (v := (1 : Int32)) [(2, .int (x2 + (1 : Int32))), (1, .int (x1 ||| ((1 : Int32) <<< (x2 &&& 31)))), (0, .ref 0)] dX8_takenOnes_38 rfl (by decide) (by decide) rfl ?_
        refine aw_goto C (tgt := 4) dX8_takenOnes_41 (by decide) ?_
        refine aw_sub [2, 1, 0] rfl ?_
        exact ih (x1 ||| ((1 : Int32) <<< (x2 &&& 31))) (x2 + (1 : Int32))
    · refine aw_iload_n C dX8_takenOnes_44 rfl ?_
      exact aw_iretp C hr dX8_takenOnes_45
theorem m_X8_takenOnes  (M : Mem)   : AMet 1 yX8_takenOnes cX8_takenOnes 3 (some .int) lyM [.ref 0] M (qIp lyM M) (X8_takenOnes M) := by
  refine am_ent pn_X8 (Nat.le_of_ble_eq_true rfl) (fun E C hr => ?_)
  refine aw_lv (lv' := [(0, .ref 0)]) rfl ?_
  unfold X8_takenOnes
  refine aw_iconst C (0 : Int32) dX8_takenOnes_0 (by decide) ?_
  refine aw_istore_n C [(1, .int (0 : Int32)), (0, .ref 0)] dX8_takenOnes_1 (by decide) rfl ?_
  refine aw_iconst C (0 : Int32) dX8_takenOnes_2 (by decide) ?_
  refine aw_istore_n C [(2, .int (0 : Int32)), (1, .int (0 : Int32)), (0, .ref 0)] dX8_takenOnes_3 (by decide) rfl ?_
  refine aw_sub [2, 1, 0] rfl ?_
  exact m_X8_takenOnes_4 C hr M am_fuel (0 : Int32) (0 : Int32)
def X8_stand (M : Mem) (x1 : Int32)  : Option (Int32) :=
  Option.bind (X8_isHall M) fun r1 =>
  if r1 = 0 then
    some (-1000002 : Int32)
  else
    if am_in (1 : Int32) 1092 = true then
      am_let (((1 : Int32) <<< ((M 1 (1 : Int32).toNatClampNeg) &&& 31)) - (1 : Int32)) fun v2 =>
      if x1 = (0 : Int32) then
        if am_in (0 : Int32) 1092 = true then
          some (M 1 (0 : Int32).toNatClampNeg)
        else none
      else
      if x1 = (1 : Int32) then
        Option.bind (X8_onBelt M (0 : Int32)) fun r4 =>
        Option.bind (X8_takenOnes M) fun r5 =>
        some ((v2 &&& (r4 ^^^ (-1 : Int32))) &&& (r5 ^^^ (-1 : Int32)))
      else
      if x1 = (2 : Int32) then
        Option.bind (X8_onBelt M (0 : Int32)) fun r7 =>
        some r7
      else
      if x1 = (3 : Int32) then
        Option.bind (X8_takenOnes M) fun r9 =>
        some r9
      else
      if x1 = (4 : Int32) then
        Option.bind (X8_goneOnes M (0 : Int32)) fun r11 =>
        some (v2 &&& (r11 ^^^ (-1 : Int32)))
      else
      if x1 = (5 : Int32) then
        Option.bind (X8_wrongOnes M (0 : Int32)) fun r13 =>
        some r13
      else
      if x1 = (6 : Int32) then
        Option.bind (X8_robbedOnes M (0 : Int32)) fun r15 =>
        some r15
      else
      some (-1000001 : Int32)
    else none
theorem m_X8_stand  (M : Mem) (x1 : Int32)  : AMet 4 yX8_stand cX8_stand 3 (some .int) lyM [.ref 0, .int x1] M (qIp lyM M) (X8_stand M x1) := by
  refine am_ent pn_X8 (Nat.le_of_ble_eq_true rfl) (fun E C hr => ?_)
  refine aw_lv (lv' := [(0, .ref 0), (1, .int x1)]) rfl ?_
  unfold X8_stand
  refine aw_aload_n C dX8_stand_0 rfl ?_
  refine aw_cVIp C [] [] (m_X8_isHall M) v_X8_isHall km_X8_179 (by decide) lo_M_0 rfl rfl rfl (Nat.le_of_ble_eq_true rfl) dX8_stand_1 (fun r1 => ?_)
  refine aw_if_ne C (tgt := 10) dX8_stand_4 (by decide) ?_ ?_
  · refine aw_ldc C kc_X8_178 dX8_stand_7 ?_
    exact aw_iretp C hr dX8_stand_9
  · refine aw_iconst C (1 : Int32) dX8_stand_10 (by decide) ?_
    refine aw_aload_n C dX8_stand_11 rfl ?_
    refine aw_getR C (r := 1) clX8 lo_M_0 0 rfl (by decide) kf_X8_7 dX8_stand_12 ?_
    refine aw_iconst C (1 : Int32) dX8_stand_15 (by decide) ?_
    refine aw_iald C la_M_1 dX8_stand_16 ?_
    refine aw_ishl C dX8_stand_17 ?_
    refine aw_iconst C (1 : Int32) dX8_stand_18 (by decide) ?_
    refine aw_isub C dX8_stand_19 ?_
    refine aw_ilet (fun v2 => ?_)
    refine aw_istore_n C [(2, .int v2), (0, .ref 0), (1, .int x1)] dX8_stand_20 (by decide) rfl ?_
    refine aw_iload_n C dX8_stand_21 rfl ?_
    refine aw_ite (fun h3 => ?_) (fun h3 => ?_)
    · refine aw_tswIn C (tgt := 64) (0 : Int32) h3 dX8_stand_22 (by decide) (by decide) rfl (by decide) ?_
      refine aw_aload_n C dX8_stand_64 rfl ?_
      refine aw_getR C (r := 1) clX8 lo_M_0 0 rfl (by decide) kf_X8_7 dX8_stand_65 ?_
      refine aw_iconst C (0 : Int32) dX8_stand_68 (by decide) ?_
      refine aw_iald C la_M_1 dX8_stand_69 ?_
      exact aw_iretp C hr dX8_stand_70
    refine aw_ite (fun h6 => ?_) (fun h6 => ?_)
    · refine aw_tswIn C (tgt := 71) (1 : Int32) h6 dX8_stand_22 (by decide) (by decide) rfl (by decide) ?_
      refine aw_iload_n C dX8_stand_71 rfl ?_
      refine aw_aload_n C dX8_stand_72 rfl ?_
      refine aw_iconst C (0 : Int32) dX8_stand_73 (by decide) ?_
      refine aw_cVIp C [.int (0 : Int32)] [.int v2] (m_X8_onBelt M (0 : Int32)) v_X8_onBelt km_X8_204 (by decide) lo_M_0 rfl rfl rfl (Nat.le_of_ble_eq_true rfl) dX8_stand_74 (fun r4 => ?_)
      refine aw_iconst C (-1 : Int32) dX8_stand_77 (by decide) ?_
      refine aw_ixor C dX8_stand_78 ?_
      refine aw_iand C dX8_stand_79 ?_
      refine aw_aload_n C dX8_stand_80 rfl ?_
      refine aw_cVIp C [] [.int (v2 &&& (r4 ^^^ (-1 : Int32)))] (m_X8_takenOnes M) v_X8_takenOnes km_X8_210 (by decide) lo_M_0 rfl rfl rfl (Nat.le_of_ble_eq_true rfl) dX8_stand_81 (fun r5 => ?_)
      refine aw_iconst C (-1 : Int32) dX8_stand_84 (by decide) ?_
      refine aw_ixor C dX8_stand_85 ?_
      refine aw_iand C dX8_stand_86 ?_
      exact aw_iretp C hr dX8_stand_87
    refine aw_ite (fun h8 => ?_) (fun h8 => ?_)
    · refine aw_tswIn C (tgt := 88) (2 : Int32) h8 dX8_stand_22 (by decide) (by decide) rfl (by decide) ?_
      refine aw_aload_n C dX8_stand_88 rfl ?_
      refine aw_iconst C (0 : Int32) dX8_stand_89 (by decide) ?_
      refine aw_cVIp C [.int (0 : Int32)] [] (m_X8_onBelt M (0 : Int32)) v_X8_onBelt km_X8_204 (by decide) lo_M_0 rfl rfl rfl (Nat.le_of_ble_eq_true rfl) dX8_stand_90 (fun r7 => ?_)
      exact aw_iretp C hr dX8_stand_93
    refine aw_ite (fun h10 => ?_) (fun h10 => ?_)
    · refine aw_tswIn C (tgt := 94) (3 : Int32) h10 dX8_stand_22 (by decide) (by decide) rfl (by decide) ?_
      refine aw_aload_n C dX8_stand_94 rfl ?_
      refine aw_cVIp C [] [] (m_X8_takenOnes M) v_X8_takenOnes km_X8_210 (by decide) lo_M_0 rfl rfl rfl (Nat.le_of_ble_eq_true rfl) dX8_stand_95 (fun r9 => ?_)
      exact aw_iretp C hr dX8_stand_98
    refine aw_ite (fun h12 => ?_) (fun h12 => ?_)
    · refine aw_tswIn C (tgt := 99) (4 : Int32) h12 dX8_stand_22 (by decide) (by decide) rfl (by decide) ?_
      refine aw_iload_n C dX8_stand_99 rfl ?_
      refine aw_aload_n C dX8_stand_100 rfl ?_
      refine aw_iconst C (0 : Int32) dX8_stand_101 (by decide) ?_
      refine aw_cVIp C [.int (0 : Int32)] [.int v2] (m_X8_goneOnes M (0 : Int32)) v_X8_goneOnes km_X8_190 (by decide) lo_M_0 rfl rfl rfl (Nat.le_of_ble_eq_true rfl) dX8_stand_102 (fun r11 => ?_)
      refine aw_iconst C (-1 : Int32) dX8_stand_105 (by decide) ?_
      refine aw_ixor C dX8_stand_106 ?_
      refine aw_iand C dX8_stand_107 ?_
      exact aw_iretp C hr dX8_stand_108
    refine aw_ite (fun h14 => ?_) (fun h14 => ?_)
    · refine aw_tswIn C (tgt := 109) (5 : Int32) h14 dX8_stand_22 (by decide) (by decide) rfl (by decide) ?_
      refine aw_aload_n C dX8_stand_109 rfl ?_
      refine aw_iconst C (0 : Int32) dX8_stand_110 (by decide) ?_
      refine aw_cVIp C [.int (0 : Int32)] [] (m_X8_wrongOnes M (0 : Int32)) v_X8_wrongOnes km_X8_214 (by decide) lo_M_0 rfl rfl rfl (Nat.le_of_ble_eq_true rfl) dX8_stand_111 (fun r13 => ?_)
      exact aw_iretp C hr dX8_stand_114
    refine aw_ite (fun h16 => ?_) (fun h16 => ?_)
    · refine aw_tswIn C (tgt := 115) (6 : Int32) h16 dX8_stand_22 (by decide) (by decide) rfl (by decide) ?_
      refine aw_aload_n C dX8_stand_115 rfl ?_
      refine aw_iconst C (0 : Int32) dX8_stand_116 (by decide) ?_
      refine aw_cVIp C [.int (0 : Int32)] [] (m_X8_robbedOnes M (0 : Int32)) v_X8_robbedOnes km_X8_217 (by decide) lo_M_0 rfl rfl rfl (Nat.le_of_ble_eq_true rfl) dX8_stand_117 (fun r15 => ?_)
      exact aw_iretp C hr dX8_stand_120
    have q_h3 := lv_neT h3 (a := 0) (by decide)
    have q_h6 := lv_neT h6 (a := 1) (by decide)
    have q_h8 := lv_neT h8 (a := 2) (by decide)
    have q_h10 := lv_neT h10 (a := 3) (by decide)
    have q_h12 := lv_neT h12 (a := 4) (by decide)
    have q_h14 := lv_neT h14 (a := 5) (by decide)
    have q_h16 := lv_neT h16 (a := 6) (by decide)
    refine aw_tswOut C (tgt := 121) dX8_stand_22 (by omega) (by decide) ?_
    refine aw_ldc C kc_X8_58 dX8_stand_121 ?_
    exact aw_iretp C hr dX8_stand_123
def X8_place (M : Mem) (x1 : Int32)  : Option (Int32) :=
  Option.bind (X8_isPlace M x1) fun r1 =>
  if r1 = 0 then
    some (-1000001 : Int32)
  else
    Option.bind (X8_bagIn M (0 : Int32) x1) fun r2 =>
    some r2
theorem m_X8_place  (M : Mem) (x1 : Int32)  : AMet 3 yX8_place cX8_place 2 (some .int) lyM [.ref 0, .int x1] M (qIp lyM M) (X8_place M x1) := by
  refine am_ent pn_X8 (Nat.le_of_ble_eq_true rfl) (fun E C hr => ?_)
  refine aw_lv (lv' := [(0, .ref 0), (1, .int x1)]) rfl ?_
  unfold X8_place
  refine aw_aload_n C dX8_place_0 rfl ?_
  refine aw_iload_n C dX8_place_1 rfl ?_
  refine aw_cVIp C [.int x1] [] (m_X8_isPlace M x1) v_X8_isPlace km_X8_196 (by decide) lo_M_0 rfl rfl rfl (Nat.le_of_ble_eq_true rfl) dX8_place_2 (fun r1 => ?_)
  refine aw_if_eq C (tgt := 17) dX8_place_5 (by decide) ?_ ?_
  · refine aw_ldc C kc_X8_58 dX8_place_17 ?_
    exact aw_iretp C hr dX8_place_19
  · refine aw_aload_n C dX8_place_8 rfl ?_
    refine aw_iconst C (0 : Int32) dX8_place_9 (by decide) ?_
    refine aw_iload_n C dX8_place_10 rfl ?_
    refine aw_cVIp C [.int (0 : Int32), .int x1] [] (m_X8_bagIn M (0 : Int32) x1) v_X8_bagIn km_X8_138 (by decide) lo_M_0 rfl rfl rfl (Nat.le_of_ble_eq_true rfl) dX8_place_11 (fun r2 => ?_)
    refine aw_goto C (tgt := 19) dX8_place_14 (by decide) ?_
    exact aw_iretp C hr dX8_place_19
def X8_layTried   (M : Mem) : Option (Mem) :=
  Option.bind (X8_copyHall (0 : Int32) (1053 : Int32) M) fun M1 =>
  some M1
theorem m_X8_layTried    (M : Mem) : AMet 2 yX8_layTried cX8_layTried 1 none lyM [.ref 0] M (qV lyM) (X8_layTried M) := by
  refine am_ent pn_X8 (Nat.le_of_ble_eq_true rfl) (fun E C hr => ?_)
  refine aw_lv (lv' := [(0, .ref 0)]) rfl ?_
  unfold X8_layTried
  refine aw_aload_n C dX8_layTried_0 rfl ?_
  refine aw_iconst C (0 : Int32) dX8_layTried_1 (by decide) ?_
  refine aw_sipush C (1053 : Int32) dX8_layTried_2 (by decide) ?_
  refine aw_cVV C [.int (0 : Int32), .int (1053 : Int32)] [] (m_X8_copyHall (0 : Int32) (1053 : Int32) M) v_X8_copyHall km_X8_131 (by decide) lo_M_0 rfl rfl rfl (Nat.le_of_ble_eq_true rfl) dX8_layTried_5 (fun M1 => ?_)
  exact aw_vret C hr dX8_layTried_8
def X8_ahead  (x1 : Int32) (x2 : Int32) (M : Mem) : Option (Int32 × Mem) :=
  Option.bind (X8_isOne M x1) fun r1 =>
  if r1 = 0 then
    some ((-1000001 : Int32), M)
  else
    Option.bind (X8_in x2.toInt64 (0 : Int64) (60 : Int64)) fun r2 =>
    if r2 = 0 then
      some ((-1000001 : Int32), M)
    else
      Option.bind (X8_layTried M) fun M3 =>
      Option.bind (X8_ticksOf (1053 : Int32) x2 M3) fun M4 =>
      if am_in ((1086 : Int32) + x1) 1092 = true then
        some (M4 1 ((1086 : Int32) + x1).toNatClampNeg, M4)
      else none
theorem m_X8_ahead   (x1 : Int32) (x2 : Int32) (M : Mem) : AMet 6 yX8_ahead cX8_ahead 3 (some .int) lyM [.ref 0, .int x1, .int x2] M (qI lyM) (X8_ahead x1 x2 M) := by
  refine am_ent pn_X8 (Nat.le_of_ble_eq_true rfl) (fun E C hr => ?_)
  refine aw_lv (lv' := [(0, .ref 0), (1, .int x1), (2, .int x2)]) rfl ?_
  unfold X8_ahead
  refine aw_aload_n C dX8_ahead_0 rfl ?_
  refine aw_iload_n C dX8_ahead_1 rfl ?_
  refine aw_cVIp C [.int x1] [] (m_X8_isOne M x1) v_X8_isOne km_X8_193 (by decide) lo_M_0 rfl rfl rfl (Nat.le_of_ble_eq_true rfl) dX8_ahead_2 (fun r1 => ?_)
  refine aw_if_eq C (tgt := 20) dX8_ahead_5 (by decide) ?_ ?_
  · refine aw_ldc C kc_X8_58 dX8_ahead_20 ?_
    exact aw_iret C hr dX8_ahead_22
  · refine aw_iload_n C dX8_ahead_8 rfl ?_
    refine aw_i2l C dX8_ahead_9 ?_
    refine aw_lconst C (0 : Int64) dX8_ahead_10 (by decide) ?_
    refine aw_ldc2 C kd_X8_220 dX8_ahead_11 ?_
    refine aw_cSIp C [.long x2.toInt64, .long (0 : Int64), .long (60 : Int64)] [] (m_X8_in M x2.toInt64 (0 : Int64) (60 : Int64)) t_X8_in km_X8_48 (by decide) rfl rfl (Nat.le_of_ble_eq_true rfl) dX8_ahead_14 (fun r2 => ?_)
    refine aw_if_ne C (tgt := 23) dX8_ahead_17 (by decide) ?_ ?_
    · refine aw_ldc C kc_X8_58 dX8_ahead_20 ?_
      exact aw_iret C hr dX8_ahead_22
    · refine aw_aload_n C dX8_ahead_23 rfl ?_
      refine aw_cVV C [] [] (m_X8_layTried M) v_X8_layTried km_X8_222 (by decide) lo_M_0 rfl rfl rfl (Nat.le_of_ble_eq_true rfl) dX8_ahead_24 (fun M3 => ?_)
      refine aw_aload_n C dX8_ahead_27 rfl ?_
      refine aw_sipush C (1053 : Int32) dX8_ahead_28 (by decide) ?_
      refine aw_iload_n C dX8_ahead_31 rfl ?_
      refine aw_cVV C [.int (1053 : Int32), .int x2] [] (m_X8_ticksOf (1053 : Int32) x2 M3) v_X8_ticksOf km_X8_187 (by decide) lo_M_0 rfl rfl rfl (Nat.le_of_ble_eq_true rfl) dX8_ahead_32 (fun M4 => ?_)
      refine aw_aload_n C dX8_ahead_35 rfl ?_
      refine aw_getR C (r := 1) clX8 lo_M_0 0 rfl (by decide) kf_X8_7 dX8_ahead_36 ?_
      refine aw_sipush C (1086 : Int32) dX8_ahead_39 (by decide) ?_
      refine aw_iload_n C dX8_ahead_42 rfl ?_
      refine aw_iadd C dX8_ahead_43 ?_
      refine aw_iald C la_M_1 dX8_ahead_44 ?_
      exact aw_iret C hr dX8_ahead_45
def X8_with  (x1 : Int32) (x2 : Int32) (x3 : Int32) (M : Mem) : Option (Int32 × Mem) :=
  Option.bind (X8_isOne M x1) fun r1 =>
  if r1 = 0 then
    some ((-1000001 : Int32), M)
  else
    Option.bind (X8_in x2.toInt64 (0 : Int64) (60 : Int64)) fun r2 =>
    if r2 = 0 then
      some ((-1000001 : Int32), M)
    else
      Option.bind (X8_in x3.toInt64 (0 : Int64) (1 : Int64)) fun r3 =>
      if r3 = 0 then
        some ((-1000001 : Int32), M)
      else
        Option.bind (X8_layTried M) fun M4 =>
        Option.bind (X8_ticksOf (1053 : Int32) x2 M4) fun M5 =>
        if x3 = 0 then
          if am_in (((1053 : Int32) + (15 : Int32)) + x1) 1092 = true then
            some (M5 1 (((1053 : Int32) + (15 : Int32)) + x1).toNatClampNeg, M5)
          else none
        else
          if am_in (((1053 : Int32) + (21 : Int32)) + x1) 1092 = true then
            some (M5 1 (((1053 : Int32) + (21 : Int32)) + x1).toNatClampNeg, M5)
          else none
theorem m_X8_with   (x1 : Int32) (x2 : Int32) (x3 : Int32) (M : Mem) : AMet 6 yX8_with cX8_with 4 (some .int) lyM [.ref 0, .int x1, .int x2, .int x3] M (qI lyM) (X8_with x1 x2 x3 M) := by
  refine am_ent pn_X8 (Nat.le_of_ble_eq_true rfl) (fun E C hr => ?_)
  refine aw_lv (lv' := [(0, .ref 0), (1, .int x1), (2, .int x2), (3, .int x3)]) rfl ?_
  unfold X8_with
  refine aw_aload_n C dX8_with_0 rfl ?_
  refine aw_iload_n C dX8_with_1 rfl ?_
  refine aw_cVIp C [.int x1] [] (m_X8_isOne M x1) v_X8_isOne km_X8_193 (by decide) lo_M_0 rfl rfl rfl (Nat.le_of_ble_eq_true rfl) dX8_with_2 (fun r1 => ?_)
  refine aw_if_eq C (tgt := 30) dX8_with_5 (by decide) ?_ ?_
  · refine aw_ldc C kc_X8_58 dX8_with_30 ?_
    exact aw_iret C hr dX8_with_32
  · refine aw_iload_n C dX8_with_8 rfl ?_
    refine aw_i2l C dX8_with_9 ?_
    refine aw_lconst C (0 : Int64) dX8_with_10 (by decide) ?_
    refine aw_ldc2 C kd_X8_220 dX8_with_11 ?_
    refine aw_cSIp C [.long x2.toInt64, .long (0 : Int64), .long (60 : Int64)] [] (m_X8_in M x2.toInt64 (0 : Int64) (60 : Int64)) t_X8_in km_X8_48 (by decide) rfl rfl (Nat.le_of_ble_eq_true rfl) dX8_with_14 (fun r2 => ?_)
    refine aw_if_eq C (tgt := 30) dX8_with_17 (by decide) ?_ ?_
    · refine aw_ldc C kc_X8_58 dX8_with_30 ?_
      exact aw_iret C hr dX8_with_32
    · refine aw_iload_n C dX8_with_20 rfl ?_
      refine aw_i2l C dX8_with_21 ?_
      refine aw_lconst C (0 : Int64) dX8_with_22 (by decide) ?_
      refine aw_lconst C (1 : Int64) dX8_with_23 (by decide) ?_
      refine aw_cSIp C [.long x3.toInt64, .long (0 : Int64), .long (1 : Int64)] [] (m_X8_in M x3.toInt64 (0 : Int64) (1 : Int64)) t_X8_in km_X8_48 (by decide) rfl rfl (Nat.le_of_ble_eq_true rfl) dX8_with_24 (fun r3 => ?_)
      refine aw_if_ne C (tgt := 33) dX8_with_27 (by decide) ?_ ?_
      · refine aw_ldc C kc_X8_58 dX8_with_30 ?_
        exact aw_iret C hr dX8_with_32
      · refine aw_aload_n C dX8_with_33 rfl ?_
        refine aw_cVV C [] [] (m_X8_layTried M) v_X8_layTried km_X8_222 (by decide) lo_M_0 rfl rfl rfl (Nat.le_of_ble_eq_true rfl) dX8_with_34 (fun M4 => ?_)
        refine aw_aload_n C dX8_with_37 rfl ?_
        refine aw_sipush C (1053 : Int32) dX8_with_38 (by decide) ?_
        refine aw_iload_n C dX8_with_41 rfl ?_
        refine aw_cVV C [.int (1053 : Int32), .int x2] [] (m_X8_ticksOf (1053 : Int32) x2 M4) v_X8_ticksOf km_X8_187 (by decide) lo_M_0 rfl rfl rfl (Nat.le_of_ble_eq_true rfl) dX8_with_42 (fun M5 => ?_)
        refine aw_aload_n C dX8_with_45 rfl ?_
        refine aw_getR C (r := 1) clX8 lo_M_0 0 rfl (by decide) kf_X8_7 dX8_with_46 ?_
        refine aw_sipush C (1053 : Int32) dX8_with_49 (by decide) ?_
        refine aw_iload_n C dX8_with_52 rfl ?_
        refine aw_if_ne C (tgt := 61) dX8_with_53 (by decide) ?_ ?_
        · refine aw_bipush C (15 : Int32) dX8_with_56 (by decide) ?_
          refine aw_goto C (tgt := 63) dX8_with_58 (by decide) ?_
          refine aw_iadd C dX8_with_63 ?_
          refine aw_iload_n C dX8_with_64 rfl ?_
          refine aw_iadd C dX8_with_65 ?_
          refine aw_iald C la_M_1 dX8_with_66 ?_
          exact aw_iret C hr dX8_with_67
        · refine aw_bipush C (21 : Int32) dX8_with_61 (by decide) ?_
          refine aw_iadd C dX8_with_63 ?_
          refine aw_iload_n C dX8_with_64 rfl ?_
          refine aw_iadd C dX8_with_65 ?_
          refine aw_iald C la_M_1 dX8_with_66 ?_
          exact aw_iret C hr dX8_with_67
def X8_all  (x1 : Int32) (x2 : Int32) (M : Mem) : Option (Int32 × Mem) :=
  Option.bind (X8_isHall M) fun r1 =>
  if r1 = 0 then
    some ((-1000002 : Int32), M)
  else
    Option.bind (X8_in x1.toInt64 (0 : Int64) (60 : Int64)) fun r2 =>
    if r2 = 0 then
      some ((-1000001 : Int32), M)
    else
      Option.bind (X8_in x2.toInt64 (0 : Int64) (2 : Int64)) fun r3 =>
      if r3 = 0 then
        some ((-1000001 : Int32), M)
      else
        Option.bind (X8_layTried M) fun M4 =>
        Option.bind (X8_ticksOf (1053 : Int32) x1 M4) fun M5 =>
        if x2 = 0 then
          Option.bind (X8_goneOnes M5 (1053 : Int32)) fun r6 =>
          some (r6, M5)
        else
          if x2 = (1 : Int32) then
            Option.bind (X8_wrongOnes M5 (1053 : Int32)) fun r7 =>
            some (r7, M5)
          else
            Option.bind (X8_robbedOnes M5 (1053 : Int32)) fun r8 =>
            some (r8, M5)
theorem m_X8_all   (x1 : Int32) (x2 : Int32) (M : Mem) : AMet 6 yX8_all cX8_all 3 (some .int) lyM [.ref 0, .int x1, .int x2] M (qI lyM) (X8_all x1 x2 M) := by
  refine am_ent pn_X8 (Nat.le_of_ble_eq_true rfl) (fun E C hr => ?_)
  refine aw_lv (lv' := [(0, .ref 0), (1, .int x1), (2, .int x2)]) rfl ?_
  unfold X8_all
  refine aw_aload_n C dX8_all_0 rfl ?_
  refine aw_cVIp C [] [] (m_X8_isHall M) v_X8_isHall km_X8_179 (by decide) lo_M_0 rfl rfl rfl (Nat.le_of_ble_eq_true rfl) dX8_all_1 (fun r1 => ?_)
  refine aw_if_ne C (tgt := 10) dX8_all_4 (by decide) ?_ ?_
  · refine aw_ldc C kc_X8_178 dX8_all_7 ?_
    exact aw_iret C hr dX8_all_9
  · refine aw_iload_n C dX8_all_10 rfl ?_
    refine aw_i2l C dX8_all_11 ?_
    refine aw_lconst C (0 : Int64) dX8_all_12 (by decide) ?_
    refine aw_ldc2 C kd_X8_220 dX8_all_13 ?_
    refine aw_cSIp C [.long x1.toInt64, .long (0 : Int64), .long (60 : Int64)] [] (m_X8_in M x1.toInt64 (0 : Int64) (60 : Int64)) t_X8_in km_X8_48 (by decide) rfl rfl (Nat.le_of_ble_eq_true rfl) dX8_all_16 (fun r2 => ?_)
    refine aw_if_eq C (tgt := 34) dX8_all_19 (by decide) ?_ ?_
    · refine aw_ldc C kc_X8_58 dX8_all_34 ?_
      exact aw_iret C hr dX8_all_36
    · refine aw_iload_n C dX8_all_22 rfl ?_
      refine aw_i2l C dX8_all_23 ?_
      refine aw_lconst C (0 : Int64) dX8_all_24 (by decide) ?_
      refine aw_ldc2 C kd_X8_56 dX8_all_25 ?_
      refine aw_cSIp C [.long x2.toInt64, .long (0 : Int64), .long (2 : Int64)] [] (m_X8_in M x2.toInt64 (0 : Int64) (2 : Int64)) t_X8_in km_X8_48 (by decide) rfl rfl (Nat.le_of_ble_eq_true rfl) dX8_all_28 (fun r3 => ?_)
      refine aw_if_ne C (tgt := 37) dX8_all_31 (by decide) ?_ ?_
      · refine aw_ldc C kc_X8_58 dX8_all_34 ?_
        exact aw_iret C hr dX8_all_36
      · refine aw_aload_n C dX8_all_37 rfl ?_
        refine aw_cVV C [] [] (m_X8_layTried M) v_X8_layTried km_X8_222 (by decide) lo_M_0 rfl rfl rfl (Nat.le_of_ble_eq_true rfl) dX8_all_38 (fun M4 => ?_)
        refine aw_aload_n C dX8_all_41 rfl ?_
        refine aw_sipush C (1053 : Int32) dX8_all_42 (by decide) ?_
        refine aw_iload_n C dX8_all_45 rfl ?_
        refine aw_cVV C [.int (1053 : Int32), .int x1] [] (m_X8_ticksOf (1053 : Int32) x1 M4) v_X8_ticksOf km_X8_187 (by decide) lo_M_0 rfl rfl rfl (Nat.le_of_ble_eq_true rfl) dX8_all_46 (fun M5 => ?_)
        refine aw_iload_n C dX8_all_49 rfl ?_
        refine aw_if_ne C (tgt := 63) dX8_all_50 (by decide) ?_ ?_
        · refine aw_aload_n C dX8_all_53 rfl ?_
          refine aw_sipush C (1053 : Int32) dX8_all_54 (by decide) ?_
          refine aw_cVIp C [.int (1053 : Int32)] [] (m_X8_goneOnes M5 (1053 : Int32)) v_X8_goneOnes km_X8_190 (by decide) lo_M_0 rfl rfl rfl (Nat.le_of_ble_eq_true rfl) dX8_all_57 (fun r6 => ?_)
          refine aw_goto C (tgt := 85) dX8_all_60 (by decide) ?_
          exact aw_iret C hr dX8_all_85
        · refine aw_iload_n C dX8_all_63 rfl ?_
          refine aw_iconst C (1 : Int32) dX8_all_64 (by decide) ?_
          refine aw_icmp_ne C (tgt := 78) dX8_all_65 (by decide) ?_ ?_
          · refine aw_aload_n C dX8_all_68 rfl ?_
            refine aw_sipush C (1053 : Int32) dX8_all_69 (by decide) ?_
            refine aw_cVIp C [.int (1053 : Int32)] [] (m_X8_wrongOnes M5 (1053 : Int32)) v_X8_wrongOnes km_X8_214 (by decide) lo_M_0 rfl rfl rfl (Nat.le_of_ble_eq_true rfl) dX8_all_72 (fun r7 => ?_)
            refine aw_goto C (tgt := 85) dX8_all_75 (by decide) ?_
            exact aw_iret C hr dX8_all_85
          · refine aw_aload_n C dX8_all_78 rfl ?_
            refine aw_sipush C (1053 : Int32) dX8_all_79 (by decide) ?_
            refine aw_cVIp C [.int (1053 : Int32)] [] (m_X8_robbedOnes M5 (1053 : Int32)) v_X8_robbedOnes km_X8_217 (by decide) lo_M_0 rfl rfl rfl (Nat.le_of_ble_eq_true rfl) dX8_all_82 (fun r8 => ?_)
            exact aw_iret C hr dX8_all_85
def X8_when_17  : Nat → Int32 → Int32 → Mem → Option (Int32 × Mem)
  | 0, _, _, _ => none
  | f + 1, x1, x2, M =>
    if x2 < (61 : Int32) then
      Option.bind (X8_waits M (1053 : Int32) x1) fun r1 =>
      if r1 = 0 then
        some (x2, M)
      else
        Option.bind (X8_ticksOf (1053 : Int32) (1 : Int32) M) fun M2 =>
        X8_when_17  f x1 (x2 + (1 : Int32)) M2
    else
      some ((-1000000 : Int32), M)
def X8_when  (x1 : Int32) (M : Mem) : Option (Int32 × Mem) :=
  Option.bind (X8_isOne M x1) fun r1 =>
  if r1 = 0 then
    some ((-1000001 : Int32), M)
  else
    Option.bind (X8_layTried M) fun M2 =>
    X8_when_17 am_fuel x1 (0 : Int32) M2
theorem m_X8_when_17 {E : amE} (C : amC E 6 cX8_when 3 RX8) (hr : (eH E).sig.returnType = (some .int))  : ∀ (f : Nat) (x1 : Int32) (x2 : Int32) (M : Mem), AW E lyM 3 (qI lyM) (X8_when_17 f x1 x2 M) 17 [(0, .ref 0), (1, .int x1), (2, .int x2)] [] M := by
  intro f
  induction f with
  | zero => exact (fun _ _ _ => aw_none)
  | succ f ih =>
    intro x1 x2 M
    rw [X8_when_17]
    refine aw_iload_n C dX8_when_17 rfl ?_
    refine aw_bipush C (61 : Int32) dX8_when_18 (by decide) ?_
    refine aw_icmp_ge C (tgt := 50) dX8_when_20 (by decide) ?_ ?_
    · refine aw_aload_n C dX8_when_23 rfl ?_
      refine aw_sipush C (1053 : Int32) dX8_when_24 (by decide) ?_
      refine aw_iload_n C dX8_when_27 rfl ?_
      refine aw_cVIp C [.int (1053 : Int32), .int x1] [] (m_X8_waits M (1053 : Int32) x1) v_X8_waits km_X8_141 (by decide) lo_M_0 rfl rfl rfl (Nat.le_of_ble_eq_true rfl) dX8_when_28 (fun r1 => ?_)
      refine aw_if_ne C (tgt := 36) dX8_when_31 (by decide) ?_ ?_
      · refine aw_iload_n C dX8_when_34 rfl ?_
        exact aw_iret C hr dX8_when_35
      · refine aw_aload_n C dX8_when_36 rfl ?_
        refine aw_sipush C (1053 : Int32) dX8_when_37 (by decide) ?_
        refine aw_iconst C (1 : Int32) dX8_when_40 (by decide) ?_
        refine aw_cVV C [.int (1053 : Int32), .int (1 : Int32)] [] (m_X8_ticksOf (1053 : Int32) (1 : Int32) M) v_X8_ticksOf km_X8_187 (by decide) lo_M_0 rfl rfl rfl (Nat.le_of_ble_eq_true rfl) dX8_when_41 (fun M2 => ?_)
        refine aw_iinc C (v := (1 : Int32)) [(2, .int (x2 + (1 : Int32))), (0, .ref 0), (1, .int x1)] dX8_when_44 rfl (by decide) (by decide) rfl ?_
        refine aw_goto C (tgt := 17) dX8_when_47 (by decide) ?_
        refine aw_sub [1, 2, 0] rfl ?_
        exact ih x1 (x2 + (1 : Int32)) M2
    · refine aw_ldc C kc_X8_116 dX8_when_50 ?_
      exact aw_iret C hr dX8_when_52
theorem m_X8_when   (x1 : Int32) (M : Mem) : AMet 6 yX8_when cX8_when 3 (some .int) lyM [.ref 0, .int x1] M (qI lyM) (X8_when x1 M) := by
  refine am_ent pn_X8 (Nat.le_of_ble_eq_true rfl) (fun E C hr => ?_)
  refine aw_lv (lv' := [(0, .ref 0), (1, .int x1)]) rfl ?_
  unfold X8_when
  refine aw_aload_n C dX8_when_0 rfl ?_
  refine aw_iload_n C dX8_when_1 rfl ?_
  refine aw_cVIp C [.int x1] [] (m_X8_isOne M x1) v_X8_isOne km_X8_193 (by decide) lo_M_0 rfl rfl rfl (Nat.le_of_ble_eq_true rfl) dX8_when_2 (fun r1 => ?_)
  refine aw_if_ne C (tgt := 11) dX8_when_5 (by decide) ?_ ?_
  · refine aw_ldc C kc_X8_58 dX8_when_8 ?_
    exact aw_iret C hr dX8_when_10
  · refine aw_aload_n C dX8_when_11 rfl ?_
    refine aw_cVV C [] [] (m_X8_layTried M) v_X8_layTried km_X8_222 (by decide) lo_M_0 rfl rfl rfl (Nat.le_of_ble_eq_true rfl) dX8_when_12 (fun M2 => ?_)
    refine aw_iconst C (0 : Int32) dX8_when_15 (by decide) ?_
    refine aw_istore_n C [(2, .int (0 : Int32)), (0, .ref 0), (1, .int x1)] dX8_when_16 (by decide) rfl ?_
    refine aw_sub [1, 2, 0] rfl ?_
    exact m_X8_when_17 C hr am_fuel x1 (0 : Int32) M2
def X8_empty_26 (K16 : Int32 → Mem → Option (Int32 × Mem)) : Nat → Int32 → Int32 → Int32 → Mem → Option (Int32 × Mem)
  | 0, _, _, _, _ => none
  | f + 1, x1, x2, x3, M =>
    if am_in (1 : Int32) 1092 = true then
      if x3 < (M 1 (1 : Int32).toNatClampNeg) then
        if x2 = 0 then
          X8_empty_26 K16 f x1 (0 : Int32) (x3 + (1 : Int32)) M
        else
          if am_in ((1086 : Int32) + x3) 1092 = true then
            if (M 1 ((1086 : Int32) + x3).toNatClampNeg) < (30 : Int32) then
              X8_empty_26 K16 f x1 (0 : Int32) (x3 + (1 : Int32)) M
            else
              X8_empty_26 K16 f x1 (1 : Int32) (x3 + (1 : Int32)) M
          else none
      else
        if x2 = 0 then
          Option.bind (X8_ticksOf (1053 : Int32) (1 : Int32) M) fun M1 =>
          K16 (x1 + (1 : Int32)) M1
        else
          some (x1, M)
    else none
def X8_empty_16  : Nat → Int32 → Mem → Option (Int32 × Mem)
  | 0, _, _ => none
  | f + 1, x1, M =>
    if x1 < (61 : Int32) then
      X8_empty_26 (X8_empty_16  f) am_fuel x1 (1 : Int32) (0 : Int32) M
    else
      some ((-1000000 : Int32), M)
def X8_empty   (M : Mem) : Option (Int32 × Mem) :=
  Option.bind (X8_isHall M) fun r1 =>
  if r1 = 0 then
    some ((-1000002 : Int32), M)
  else
    Option.bind (X8_layTried M) fun M2 =>
    X8_empty_16 am_fuel (0 : Int32) M2
theorem m_X8_empty_26 {E : amE} (C : amC E 6 cX8_empty 4 RX8) (hr : (eH E).sig.returnType = (some .int)) (K16 : Int32 → Mem → Option (Int32 × Mem)) (hK16 : ∀ (x1 : Int32) (M : Mem), AW E lyM 4 (qI lyM) (K16 x1 M) 16 [(0, .ref 0), (1, .int x1)] [] M) : ∀ (f : Nat) (x1 : Int32) (x2 : Int32) (x3 : Int32) (M : Mem), AW E lyM 4 (qI lyM) (X8_empty_26 K16 f x1 x2 x3 M) 26 [(0, .ref 0), (1, .int x1), (2, .int x2), (3, .int x3)] [] M := by
  intro f
  induction f with
  | zero => exact (fun _ _ _ _ => aw_none)
  | succ f ih =>
    intro x1 x2 x3 M
    rw [X8_empty_26]
    refine aw_iload_n C dX8_empty_26 rfl ?_
    refine aw_aload_n C dX8_empty_27 rfl ?_
    refine aw_getR C (r := 1) clX8 lo_M_0 0 rfl (by decide) kf_X8_7 dX8_empty_28 ?_
    refine aw_iconst C (1 : Int32) dX8_empty_31 (by decide) ?_
    refine aw_iald C la_M_1 dX8_empty_32 ?_
    refine aw_icmp_ge C (tgt := 67) dX8_empty_33 (by decide) ?_ ?_
    · refine aw_iload_n C dX8_empty_36 rfl ?_
      refine aw_if_eq C (tgt := 59) dX8_empty_37 (by decide) ?_ ?_
      · refine aw_iconst C (0 : Int32) dX8_empty_59 (by decide) ?_
        refine aw_istore_n C [(2, .int (0 : Int32)), (0, .ref 0), (1, .int x1), (3, .int x3)] dX8_empty_60 (by decide) rfl ?_
        refine aw_iinc C (v := (1 : Int32)) [(3, .int (x3 + (1 : Int32))), (2, .int (0 : Int32)), (0, .ref 0), (1, .int x1)] dX8_empty_61 rfl (by decide) (by decide) rfl ?_
        refine aw_goto C (tgt := 26) dX8_empty_64 (by decide) ?_
        refine aw_sub [2, 3, 1, 0] rfl ?_
        exact ih x1 (0 : Int32) (x3 + (1 : Int32)) M
      · refine aw_aload_n C dX8_empty_40 rfl ?_
        refine aw_getR C (r := 1) clX8 lo_M_0 0 rfl (by decide) kf_X8_7 dX8_empty_41 ?_
        refine aw_sipush C (1086 : Int32) dX8_empty_44 (by decide) ?_
        refine aw_iload_n C dX8_empty_47 rfl ?_
        refine aw_iadd C dX8_empty_48 ?_
        refine aw_iald C la_M_1 dX8_empty_49 ?_
        refine aw_bipush C (30 : Int32) dX8_empty_50 (by decide) ?_
        refine aw_icmp_lt C (tgt := 59) dX8_empty_52 (by decide) ?_ ?_
        · refine aw_iconst C (0 : Int32) dX8_empty_59 (by decide) ?_
          refine aw_istore_n C [(2, .int (0 : Int32)), (0, .ref 0), (1, .int x1), (3, .int x3)] dX8_empty_60 (by decide) rfl ?_
          refine aw_iinc C (v := (1 : Int32)) [(3, .int (x3 + (1 : Int32))), (2, .int (0 : Int32)), (0, .ref 0), (1, .int x1)] dX8_empty_61 rfl (by decide) (by decide) rfl ?_
          refine aw_goto C (tgt := 26) dX8_empty_64 (by decide) ?_
          refine aw_sub [2, 3, 1, 0] rfl ?_
          exact ih x1 (0 : Int32) (x3 + (1 : Int32)) M
        · refine aw_iconst C (1 : Int32) dX8_empty_55 (by decide) ?_
          refine aw_goto C (tgt := 60) dX8_empty_56 (by decide) ?_
          refine aw_istore_n C [(2, .int (1 : Int32)), (0, .ref 0), (1, .int x1), (3, .int x3)] dX8_empty_60 (by decide) rfl ?_
          refine aw_iinc C (v := (1 : Int32)) [(3, .int (x3 + (1 : Int32))), (2, .int (1 : Int32)), (0, .ref 0), (1, .int x1)] dX8_empty_61 rfl (by decide) (by decide) rfl ?_
          refine aw_goto C (tgt := 26) dX8_empty_64 (by decide) ?_
          refine aw_sub [2, 3, 1, 0] rfl ?_
          exact ih x1 (1 : Int32) (x3 + (1 : Int32)) M
    · refine aw_iload_n C dX8_empty_67 rfl ?_
      refine aw_if_eq C (tgt := 73) dX8_empty_68 (by decide) ?_ ?_
      · refine aw_aload_n C dX8_empty_73 rfl ?_
        refine aw_sipush C (1053 : Int32) dX8_empty_74 (by decide) ?_
        refine aw_iconst C (1 : Int32) dX8_empty_77 (by decide) ?_
        refine aw_cVV C [.int (1053 : Int32), .int (1 : Int32)] [] (m_X8_ticksOf (1053 : Int32) (1 : Int32) M) v_X8_ticksOf km_X8_187 (by decide) lo_M_0 rfl rfl rfl (Nat.le_of_ble_eq_true rfl) dX8_empty_78 (fun M1 => ?_)
        refine aw_iinc C (v := (1 : Int32)) [(1, .int (x1 + (1 : Int32))), (0, .ref 0), (2, .int x2), (3, .int x3)] dX8_empty_81 rfl (by decide) (by decide) rfl ?_
        refine aw_goto C (tgt := 16) dX8_empty_84 (by decide) ?_
        refine aw_sub [1, 0] rfl ?_
        exact hK16 (x1 + (1 : Int32)) M1
      · refine aw_iload_n C dX8_empty_71 rfl ?_
        exact aw_iret C hr dX8_empty_72
theorem m_X8_empty_16 {E : amE} (C : amC E 6 cX8_empty 4 RX8) (hr : (eH E).sig.returnType = (some .int))  : ∀ (f : Nat) (x1 : Int32) (M : Mem), AW E lyM 4 (qI lyM) (X8_empty_16 f x1 M) 16 [(0, .ref 0), (1, .int x1)] [] M := by
  intro f
  induction f with
  | zero => exact (fun _ _ => aw_none)
  | succ f ih =>
    intro x1 M
    rw [X8_empty_16]
    refine aw_iload_n C dX8_empty_16 rfl ?_
    refine aw_bipush C (61 : Int32) dX8_empty_17 (by decide) ?_
    refine aw_icmp_ge C (tgt := 87) dX8_empty_19 (by decide) ?_ ?_
    · refine aw_iconst C (1 : Int32) dX8_empty_22 (by decide) ?_
      refine aw_istore_n C [(2, .int (1 : Int32)), (0, .ref 0), (1, .int x1)] dX8_empty_23 (by decide) rfl ?_
      refine aw_iconst C (0 : Int32) dX8_empty_24 (by decide) ?_
      refine aw_istore_n C [(3, .int (0 : Int32)), (2, .int (1 : Int32)), (0, .ref 0), (1, .int x1)] dX8_empty_25 (by decide) rfl ?_
      refine aw_sub [2, 3, 1, 0] rfl ?_
      exact m_X8_empty_26 C hr (X8_empty_16  f) ih am_fuel x1 (1 : Int32) (0 : Int32) M
    · refine aw_ldc C kc_X8_116 dX8_empty_87 ?_
      exact aw_iret C hr dX8_empty_89
theorem m_X8_empty    (M : Mem) : AMet 6 yX8_empty cX8_empty 4 (some .int) lyM [.ref 0] M (qI lyM) (X8_empty M) := by
  refine am_ent pn_X8 (Nat.le_of_ble_eq_true rfl) (fun E C hr => ?_)
  refine aw_lv (lv' := [(0, .ref 0)]) rfl ?_
  unfold X8_empty
  refine aw_aload_n C dX8_empty_0 rfl ?_
  refine aw_cVIp C [] [] (m_X8_isHall M) v_X8_isHall km_X8_179 (by decide) lo_M_0 rfl rfl rfl (Nat.le_of_ble_eq_true rfl) dX8_empty_1 (fun r1 => ?_)
  refine aw_if_ne C (tgt := 10) dX8_empty_4 (by decide) ?_ ?_
  · refine aw_ldc C kc_X8_178 dX8_empty_7 ?_
    exact aw_iret C hr dX8_empty_9
  · refine aw_aload_n C dX8_empty_10 rfl ?_
    refine aw_cVV C [] [] (m_X8_layTried M) v_X8_layTried km_X8_222 (by decide) lo_M_0 rfl rfl rfl (Nat.le_of_ble_eq_true rfl) dX8_empty_11 (fun M2 => ?_)
    refine aw_iconst C (0 : Int32) dX8_empty_14 (by decide) ?_
    refine aw_istore_n C [(1, .int (0 : Int32)), (0, .ref 0)] dX8_empty_15 (by decide) rfl ?_
    refine aw_sub [1, 0] rfl ?_
    exact m_X8_empty_16 C hr am_fuel (0 : Int32) M2
def X8_goneFrom_18  : Nat → Int32 → Int32 → Int32 → Mem → Option (Int32 × Mem)
  | 0, _, _, _, _ => none
  | f + 1, x1, x3, x4, M =>
    if x3 < x4 then
      some (x4, M)
    else
      if am_in ((1068 : Int32) + x1) 1092 = true then
        if (M 1 ((1068 : Int32) + x1).toNatClampNeg) = x1 then
          some (x4, M)
        else
          Option.bind (X8_ticksOf (1053 : Int32) (1 : Int32) M) fun M1 =>
          X8_goneFrom_18  f x1 x3 (x4 + (1 : Int32)) M1
      else none
def X8_goneFrom  (x1 : Int32) (x2 : Int32) (x3 : Int32) (M : Mem) : Option (Int32 × Mem) :=
  Option.bind (X8_layTried M) fun M1 =>
  if am_in ((1062 : Int32) + x1) 1092 = true then
    am_let (mset M1 1 (upd (M1 1) ((1062 : Int32) + x1).toNatClampNeg x2)) fun M2 =>
    X8_goneFrom_18 am_fuel x1 x3 (0 : Int32) M2
  else none
theorem m_X8_goneFrom_18 {E : amE} (C : amC E 6 cX8_goneFrom 5 RX8) (hr : (eH E).sig.returnType = (some .int))  : ∀ (f : Nat) (x1 : Int32) (x3 : Int32) (x4 : Int32) (M : Mem), AW E lyM 5 (qI lyM) (X8_goneFrom_18 f x1 x3 x4 M) 18 [(0, .ref 0), (1, .int x1), (3, .int x3), (4, .int x4)] [] M := by
  intro f
  induction f with
  | zero => exact (fun _ _ _ _ => aw_none)
  | succ f ih =>
    intro x1 x3 x4 M
    rw [X8_goneFrom_18]
    refine aw_iload C dX8_goneFrom_18 rfl ?_
    refine aw_iload_n C dX8_goneFrom_20 rfl ?_
    refine aw_icmp_gt C (tgt := 52) dX8_goneFrom_21 (by decide) ?_ ?_
    · refine aw_iload C dX8_goneFrom_52 rfl ?_
      exact aw_iret C hr dX8_goneFrom_54
    · refine aw_aload_n C dX8_goneFrom_24 rfl ?_
      refine aw_getR C (r := 1) clX8 lo_M_0 0 rfl (by decide) kf_X8_7 dX8_goneFrom_25 ?_
      refine aw_sipush C (1068 : Int32) dX8_goneFrom_28 (by decide) ?_
      refine aw_iload_n C dX8_goneFrom_31 rfl ?_
      refine aw_iadd C dX8_goneFrom_32 ?_
      refine aw_iald C la_M_1 dX8_goneFrom_33 ?_
      refine aw_iload_n C dX8_goneFrom_34 rfl ?_
      refine aw_icmp_eq C (tgt := 52) dX8_goneFrom_35 (by decide) ?_ ?_
      · refine aw_iload C dX8_goneFrom_52 rfl ?_
        exact aw_iret C hr dX8_goneFrom_54
      · refine aw_aload_n C dX8_goneFrom_38 rfl ?_
        refine aw_sipush C (1053 : Int32) dX8_goneFrom_39 (by decide) ?_
        refine aw_iconst C (1 : Int32) dX8_goneFrom_42 (by decide) ?_
        refine aw_cVV C [.int (1053 : Int32), .int (1 : Int32)] [] (m_X8_ticksOf (1053 : Int32) (1 : Int32) M) v_X8_ticksOf km_X8_187 (by decide) lo_M_0 rfl rfl rfl (Nat.le_of_ble_eq_true rfl) dX8_goneFrom_43 (fun M1 => ?_)
        refine aw_iinc C (v := (1 : Int32)) [(4, .int (x4 + (1 : Int32))), (0, .ref 0), (1, .int x1), (3, .int x3)] dX8_goneFrom_46 rfl (by decide) (by decide) rfl ?_
        refine aw_goto C (tgt := 18) dX8_goneFrom_49 (by decide) ?_
        refine aw_sub [1, 2, 3, 0] rfl ?_
        exact ih x1 x3 (x4 + (1 : Int32)) M1
theorem m_X8_goneFrom   (x1 : Int32) (x2 : Int32) (x3 : Int32) (M : Mem) : AMet 6 yX8_goneFrom cX8_goneFrom 5 (some .int) lyM [.ref 0, .int x1, .int x2, .int x3] M (qI lyM) (X8_goneFrom x1 x2 x3 M) := by
  refine am_ent pn_X8 (Nat.le_of_ble_eq_true rfl) (fun E C hr => ?_)
  refine aw_lv (lv' := [(0, .ref 0), (1, .int x1), (2, .int x2), (3, .int x3)]) rfl ?_
  unfold X8_goneFrom
  refine aw_aload_n C dX8_goneFrom_0 rfl ?_
  refine aw_cVV C [] [] (m_X8_layTried M) v_X8_layTried km_X8_222 (by decide) lo_M_0 rfl rfl rfl (Nat.le_of_ble_eq_true rfl) dX8_goneFrom_1 (fun M1 => ?_)
  refine aw_aload_n C dX8_goneFrom_4 rfl ?_
  refine aw_getR C (r := 1) clX8 lo_M_0 0 rfl (by decide) kf_X8_7 dX8_goneFrom_5 ?_
  refine aw_sipush C (1062 : Int32) dX8_goneFrom_8 (by decide) ?_
  refine aw_iload_n C dX8_goneFrom_11 rfl ?_
  refine aw_iadd C dX8_goneFrom_12 ?_
  refine aw_iload_n C dX8_goneFrom_13 rfl ?_
  refine aw_iast C la_M_1 dX8_goneFrom_14 ?_
  refine aw_mlet (fun M2 => ?_)
  refine aw_iconst C (0 : Int32) dX8_goneFrom_15 (by decide) ?_
  refine aw_istore C [(4, .int (0 : Int32)), (0, .ref 0), (1, .int x1), (2, .int x2), (3, .int x3)] dX8_goneFrom_16 (by decide) rfl ?_
  refine aw_sub [1, 2, 4, 0] rfl ?_
  exact m_X8_goneFrom_18 C hr am_fuel x1 x3 (0 : Int32) M2
def X8_best_92 (K57 : Int32 → Int32 → Int32 → Int32 → Int32 → Int32 → Mem → Option (Int32 × Mem)) (x1 : Int32) (x2 : Int32) (x3 : Int32) (x5 : Int32) (x6 : Int32) (x7 : Int32) (s0 : Int32) (M : Mem) : Option (Int32 × Mem) :=
  if x7 < x5 then
    K57 x1 x2 x3 s0 x7 (x6 + (1 : Int32)) M
  else
    K57 x1 x2 x3 s0 x5 (x6 + (1 : Int32)) M
def X8_best_57  : Nat → Int32 → Int32 → Int32 → Int32 → Int32 → Int32 → Mem → Option (Int32 × Mem)
  | 0, _, _, _, _, _, _, _ => none
  | f + 1, x1, x2, x3, x4, x5, x6, M =>
    if am_in (0 : Int32) 1092 = true then
      if x6 < (M 1 (0 : Int32).toNatClampNeg) then
        Option.bind (X8_goneFrom x1 x6 x2 M) fun u1 =>
        if u1.1 < x5 then
          X8_best_92 (X8_best_57  f) x1 x2 x3 x5 x6 u1.1 x6 u1.2
        else
          X8_best_92 (X8_best_57  f) x1 x2 x3 x5 x6 u1.1 x4 u1.2
      else
        if x4 = (-1000000 : Int32) then
          some (x4, M)
        else
          if x3 = 0 then
            some (x4, M)
          else
            some (x5, M)
    else none
def X8_best  (x1 : Int32) (x2 : Int32) (x3 : Int32) (M : Mem) : Option (Int32 × Mem) :=
  Option.bind (X8_isOne M x1) fun r1 =>
  if r1 = 0 then
    some ((-1000001 : Int32), M)
  else
    Option.bind (X8_in x2.toInt64 (1 : Int64) (60 : Int64)) fun r2 =>
    if r2 = 0 then
      some ((-1000001 : Int32), M)
    else
      Option.bind (X8_in x3.toInt64 (0 : Int64) (1 : Int64)) fun r3 =>
      if r3 = 0 then
        some ((-1000001 : Int32), M)
      else
        Option.bind (X8_waits M (0 : Int32) x1) fun r4 =>
        if r4 = 0 then
          some ((-1000002 : Int32), M)
        else
          X8_best_57 am_fuel x1 x2 x3 (-1000000 : Int32) (x2 + (1 : Int32)) (0 : Int32) M
theorem m_X8_best_92 {E : amE} (C : amC E 7 cX8_best 8 RX8) (hr : (eH E).sig.returnType = (some .int)) (K57 : Int32 → Int32 → Int32 → Int32 → Int32 → Int32 → Mem → Option (Int32 × Mem)) (hK57 : ∀ (x1 : Int32) (x2 : Int32) (x3 : Int32) (x4 : Int32) (x5 : Int32) (x6 : Int32) (M : Mem), AW E lyM 8 (qI lyM) (K57 x1 x2 x3 x4 x5 x6 M) 57 [(0, .ref 0), (1, .int x1), (2, .int x2), (3, .int x3), (4, .int x4), (5, .int x5), (6, .int x6)] [] M) (x1 : Int32) (x2 : Int32) (x3 : Int32) (x5 : Int32) (x6 : Int32) (x7 : Int32) (s0 : Int32) (M : Mem) : AW E lyM 8 (qI lyM) (X8_best_92 K57 x1 x2 x3 x5 x6 x7 s0 M) 92 [(0, .ref 0), (1, .int x1), (2, .int x2), (3, .int x3), (5, .int x5), (6, .int x6), (7, .int x7)] [.int s0] M := by
  unfold X8_best_92
  refine aw_istore C [(4, .int s0), (0, .ref 0), (1, .int x1), (2, .int x2), (3, .int x3), (5, .int x5), (6, .int x6), (7, .int x7)] dX8_best_92 (by decide) rfl ?_
  refine aw_iload C dX8_best_94 rfl ?_
  refine aw_iload C dX8_best_96 rfl ?_
  refine aw_icmp_ge C (tgt := 106) dX8_best_98 (by decide) ?_ ?_
  · refine aw_iload C dX8_best_101 rfl ?_
    refine aw_goto C (tgt := 108) dX8_best_103 (by decide) ?_
    refine aw_istore C [(5, .int x7), (4, .int s0), (0, .ref 0), (1, .int x1), (2, .int x2), (3, .int x3), (6, .int x6), (7, .int x7)] dX8_best_108 (by decide) rfl ?_
    refine aw_iinc C (v := (1 : Int32)) [(6, .int (x6 + (1 : Int32))), (5, .int x7), (4, .int s0), (0, .ref 0), (1, .int x1), (2, .int x2), (3, .int x3), (7, .int x7)] dX8_best_110 rfl (by decide) (by decide) rfl ?_
    refine aw_goto C (tgt := 57) dX8_best_113 (by decide) ?_
    refine aw_sub [3, 4, 5, 6, 2, 1, 0] rfl ?_
    exact hK57 x1 x2 x3 s0 x7 (x6 + (1 : Int32)) M
  · refine aw_iload C dX8_best_106 rfl ?_
    refine aw_istore C [(5, .int x5), (4, .int s0), (0, .ref 0), (1, .int x1), (2, .int x2), (3, .int x3), (6, .int x6), (7, .int x7)] dX8_best_108 (by decide) rfl ?_
    refine aw_iinc C (v := (1 : Int32)) [(6, .int (x6 + (1 : Int32))), (5, .int x5), (4, .int s0), (0, .ref 0), (1, .int x1), (2, .int x2), (3, .int x3), (7, .int x7)] dX8_best_110 rfl (by decide) (by decide) rfl ?_
    refine aw_goto C (tgt := 57) dX8_best_113 (by decide) ?_
    refine aw_sub [3, 4, 5, 6, 2, 1, 0] rfl ?_
    exact hK57 x1 x2 x3 s0 x5 (x6 + (1 : Int32)) M
theorem m_X8_best_57 {E : amE} (C : amC E 7 cX8_best 8 RX8) (hr : (eH E).sig.returnType = (some .int))  : ∀ (f : Nat) (x1 : Int32) (x2 : Int32) (x3 : Int32) (x4 : Int32) (x5 : Int32) (x6 : Int32) (M : Mem), AW E lyM 8 (qI lyM) (X8_best_57 f x1 x2 x3 x4 x5 x6 M) 57 [(0, .ref 0), (1, .int x1), (2, .int x2), (3, .int x3), (4, .int x4), (5, .int x5), (6, .int x6)] [] M := by
  intro f
  induction f with
  | zero => exact (fun _ _ _ _ _ _ _ => aw_none)
  | succ f ih =>
    intro x1 x2 x3 x4 x5 x6 M
    rw [X8_best_57]
    refine aw_iload C dX8_best_57 rfl ?_
    refine aw_aload_n C dX8_best_59 rfl ?_
    refine aw_getR C (r := 1) clX8 lo_M_0 0 rfl (by decide) kf_X8_7 dX8_best_60 ?_
    refine aw_iconst C (0 : Int32) dX8_best_63 (by decide) ?_
    refine aw_iald C la_M_1 dX8_best_64 ?_
    refine aw_icmp_ge C (tgt := 116) dX8_best_65 (by decide) ?_ ?_
    · refine aw_aload_n C dX8_best_68 rfl ?_
      refine aw_iload_n C dX8_best_69 rfl ?_
      refine aw_iload C dX8_best_70 rfl ?_
      refine aw_iload_n C dX8_best_72 rfl ?_
      refine aw_cVI C [.int x1, .int x6, .int x2] [] (m_X8_goneFrom x1 x6 x2 M) v_X8_goneFrom km_X8_225 (by decide) lo_M_0 rfl rfl rfl (Nat.le_of_ble_eq_true rfl) dX8_best_73 (fun u1 => ?_)
      refine aw_istore C [(7, .int u1.1), (0, .ref 0), (1, .int x1), (2, .int x2), (3, .int x3), (4, .int x4), (5, .int x5), (6, .int x6)] dX8_best_76 (by decide) rfl ?_
      refine aw_iload C dX8_best_78 rfl ?_
      refine aw_iload C dX8_best_80 rfl ?_
      refine aw_icmp_ge C (tgt := 90) dX8_best_82 (by decide) ?_ ?_
      · refine aw_iload C dX8_best_85 rfl ?_
        refine aw_goto C (tgt := 92) dX8_best_87 (by decide) ?_
        refine aw_sub [1, 2, 3, 4, 6, 7, 0] rfl ?_
        exact m_X8_best_92 C hr (X8_best_57  f) ih x1 x2 x3 x5 x6 u1.1 x6 u1.2
      · refine aw_iload C dX8_best_90 rfl ?_
        refine aw_sub [1, 2, 3, 4, 6, 7, 0] rfl ?_
        exact m_X8_best_92 C hr (X8_best_57  f) ih x1 x2 x3 x5 x6 u1.1 x4 u1.2
    · refine aw_iload C dX8_best_116 rfl ?_
      refine aw_ldc C kc_X8_116 dX8_best_118 ?_
      refine aw_icmp_eq C (tgt := 127) dX8_best_120 (by decide) ?_ ?_
      · refine aw_iload C dX8_best_127 rfl ?_
        refine aw_goto C (tgt := 134) dX8_best_129 (by decide) ?_
        exact aw_iret C hr dX8_best_134
      · refine aw_iload_n C dX8_best_123 rfl ?_
        refine aw_if_ne C (tgt := 132) dX8_best_124 (by decide) ?_ ?_
        · refine aw_iload C dX8_best_127 rfl ?_
          refine aw_goto C (tgt := 134) dX8_best_129 (by decide) ?_
          exact aw_iret C hr dX8_best_134
        · refine aw_iload C dX8_best_132 rfl ?_
          exact aw_iret C hr dX8_best_134
theorem m_X8_best   (x1 : Int32) (x2 : Int32) (x3 : Int32) (M : Mem) : AMet 7 yX8_best cX8_best 8 (some .int) lyM [.ref 0, .int x1, .int x2, .int x3] M (qI lyM) (X8_best x1 x2 x3 M) := by
  refine am_ent pn_X8 (Nat.le_of_ble_eq_true rfl) (fun E C hr => ?_)
  refine aw_lv (lv' := [(0, .ref 0), (1, .int x1), (2, .int x2), (3, .int x3)]) rfl ?_
  unfold X8_best
  refine aw_aload_n C dX8_best_0 rfl ?_
  refine aw_iload_n C dX8_best_1 rfl ?_
  refine aw_cVIp C [.int x1] [] (m_X8_isOne M x1) v_X8_isOne km_X8_193 (by decide) lo_M_0 rfl rfl rfl (Nat.le_of_ble_eq_true rfl) dX8_best_2 (fun r1 => ?_)
  refine aw_if_eq C (tgt := 30) dX8_best_5 (by decide) ?_ ?_
  · refine aw_ldc C kc_X8_58 dX8_best_30 ?_
    exact aw_iret C hr dX8_best_32
  · refine aw_iload_n C dX8_best_8 rfl ?_
    refine aw_i2l C dX8_best_9 ?_
    refine aw_lconst C (1 : Int64) dX8_best_10 (by decide) ?_
    refine aw_ldc2 C kd_X8_220 dX8_best_11 ?_
    refine aw_cSIp C [.long x2.toInt64, .long (1 : Int64), .long (60 : Int64)] [] (m_X8_in M x2.toInt64 (1 : Int64) (60 : Int64)) t_X8_in km_X8_48 (by decide) rfl rfl (Nat.le_of_ble_eq_true rfl) dX8_best_14 (fun r2 => ?_)
    refine aw_if_eq C (tgt := 30) dX8_best_17 (by decide) ?_ ?_
    · refine aw_ldc C kc_X8_58 dX8_best_30 ?_
      exact aw_iret C hr dX8_best_32
    · refine aw_iload_n C dX8_best_20 rfl ?_
      refine aw_i2l C dX8_best_21 ?_
      refine aw_lconst C (0 : Int64) dX8_best_22 (by decide) ?_
      refine aw_lconst C (1 : Int64) dX8_best_23 (by decide) ?_
      refine aw_cSIp C [.long x3.toInt64, .long (0 : Int64), .long (1 : Int64)] [] (m_X8_in M x3.toInt64 (0 : Int64) (1 : Int64)) t_X8_in km_X8_48 (by decide) rfl rfl (Nat.le_of_ble_eq_true rfl) dX8_best_24 (fun r3 => ?_)
      refine aw_if_ne C (tgt := 33) dX8_best_27 (by decide) ?_ ?_
      · refine aw_ldc C kc_X8_58 dX8_best_30 ?_
        exact aw_iret C hr dX8_best_32
      · refine aw_aload_n C dX8_best_33 rfl ?_
        refine aw_iconst C (0 : Int32) dX8_best_34 (by decide) ?_
        refine aw_iload_n C dX8_best_35 rfl ?_
        refine aw_cVIp C [.int (0 : Int32), .int x1] [] (m_X8_waits M (0 : Int32) x1) v_X8_waits km_X8_141 (by decide) lo_M_0 rfl rfl rfl (Nat.le_of_ble_eq_true rfl) dX8_best_36 (fun r4 => ?_)
        refine aw_if_ne C (tgt := 45) dX8_best_39 (by decide) ?_ ?_
        · refine aw_ldc C kc_X8_178 dX8_best_42 ?_
          exact aw_iret C hr dX8_best_44
        · refine aw_ldc C kc_X8_116 dX8_best_45 ?_
          refine aw_istore C [(4, .int (-1000000 : Int32)), (0, .ref 0), (1, .int x1), (2, .int x2), (3, .int x3)] dX8_best_47 (by decide) rfl ?_
          refine aw_iload_n C dX8_best_49 rfl ?_
          refine aw_iconst C (1 : Int32) dX8_best_50 (by decide) ?_
          refine aw_iadd C dX8_best_51 ?_
          refine aw_istore C [(5, .int (x2 + (1 : Int32))), (4, .int (-1000000 : Int32)), (0, .ref 0), (1, .int x1), (2, .int x2), (3, .int x3)] dX8_best_52 (by decide) rfl ?_
          refine aw_iconst C (0 : Int32) dX8_best_54 (by decide) ?_
          refine aw_istore C [(6, .int (0 : Int32)), (5, .int (x2 + (1 : Int32))), (4, .int (-1000000 : Int32)), (0, .ref 0), (1, .int x1), (2, .int x2), (3, .int x3)] dX8_best_55 (by decide) rfl ?_
          refine aw_sub [3, 4, 5, 6, 2, 1, 0] rfl ?_
          exact m_X8_best_57 C hr am_fuel x1 x2 x3 (-1000000 : Int32) (x2 + (1 : Int32)) (0 : Int32) M
