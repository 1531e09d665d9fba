def X3_begin (h : Nat) (x1 : Int32) (M : Mem) : Option (Mem) :=
  am_let (mset M h (upd (M h) 0 x1)) fun M1 =>
  am_let (mset M1 h (upd (M1 h) 1 (0 : Int32))) fun M2 =>
  am_let (mset M2 h (upd (M2 h) 2 (0 : Int32))) fun M3 =>
  am_let (mset M3 h (upd (M3 h) 3 (0 : Int32))) fun M4 =>
  am_let (mset M4 h (upd (M4 h) 4 (0 : Int32))) fun M5 =>
  am_let (mset M5 h (upd (M5 h) 5 (0 : Int32))) fun M6 =>
  Option.bind (J7_fill_53178 (h + 7) 12 (-1000000 : Int32) M6) fun M7 =>
  some M7
theorem m_X3_begin  (h : Nat) (hh : isHl h) (x1 : Int32) (M : Mem) : AMet 2 yX3_begin cX3_begin 2 none lyX [.ref h, .int x1] M (qV lyX) (X3_begin h x1 M) := by
  refine am_ent pn_X3 (Nat.le_of_ble_eq_true rfl) (fun E C hr => ?_)
  refine aw_lv (lv' := [(0, .ref h), (1, .int x1)]) rfl ?_
  unfold X3_begin
  refine aw_aload_n C dX3_begin_0 rfl ?_
  refine aw_iload_n C dX3_begin_1 rfl ?_
  refine aw_putI C clX3 (hl_o hh) 0 rfl (by decide) rfl rfl kf_X3_33 dX3_begin_2 ?_
  refine aw_mlet (fun M1 => ?_)
  refine aw_aload_n C dX3_begin_5 rfl ?_
  refine aw_iconst C (0 : Int32) dX3_begin_6 (by decide) ?_
  refine aw_putI C clX3 (hl_o hh) 1 rfl (by decide) rfl rfl kf_X3_37 dX3_begin_7 ?_
  refine aw_mlet (fun M2 => ?_)
  refine aw_aload_n C dX3_begin_10 rfl ?_
  refine aw_iconst C (0 : Int32) dX3_begin_11 (by decide) ?_
  refine aw_putI C clX3 (hl_o hh) 2 rfl (by decide) rfl rfl kf_X3_40 dX3_begin_12 ?_
  refine aw_mlet (fun M3 => ?_)
  refine aw_aload_n C dX3_begin_15 rfl ?_
  refine aw_iconst C (0 : Int32) dX3_begin_16 (by decide) ?_
  refine aw_putI C clX3 (hl_o hh) 3 rfl (by decide) rfl rfl kf_X3_43 dX3_begin_17 ?_
  refine aw_mlet (fun M4 => ?_)
  refine aw_aload_n C dX3_begin_20 rfl ?_
  refine aw_iconst C (0 : Int32) dX3_begin_21 (by decide) ?_
  refine aw_putI C clX3 (hl_o hh) 4 rfl (by decide) rfl rfl kf_X3_46 dX3_begin_22 ?_
  refine aw_mlet (fun M5 => ?_)
  refine aw_aload_n C dX3_begin_25 rfl ?_
  refine aw_iconst C (0 : Int32) dX3_begin_26 (by decide) ?_
  refine aw_putI C clX3 (hl_o hh) 5 rfl (by decide) rfl rfl kf_X3_49 dX3_begin_27 ?_
  refine aw_mlet (fun M6 => ?_)
  refine aw_aload_n C dX3_begin_30 rfl ?_
  refine aw_getR C (r := h + 7) clX3 (hl_o hh) 12 rfl (by decide) kf_X3_30 dX3_begin_31 ?_
  refine aw_ldc C kc_X3_52 dX3_begin_34 ?_
  refine aw_cSV C [.ref (h + 7), .int (-1000000 : Int32)] [] (m_J7_fill_53178 (h + 7) 12 (hl_7 hh) (-1000000 : Int32) M6) t_J7_fill_53178 km_X3_53 (by decide) rfl rfl (Nat.le_of_ble_eq_true rfl) dX3_begin_36 (fun M7 => ?_)
  exact aw_vret C hr dX3_begin_39
def X3_join (h : Nat) (x1 : Int32) (x2 : Int32) (x3 : Int32) (M : Mem) : Option (Mem) :=
  if (M h 1) < (6 : Int32) then
    if am_in (M h 1) 6 = true then
      am_let (mset M (h + 1) (upd (M (h + 1)) (M h 1).toNatClampNeg x1)) fun M1 =>
      if am_in (M1 h 1) 6 = true then
        am_let (mset M1 (h + 2) (upd (M1 (h + 2)) (M1 h 1).toNatClampNeg x2)) fun M2 =>
        if am_in (M2 h 1) 6 = true then
          am_let (mset M2 (h + 3) (upd (M2 (h + 3)) (M2 h 1).toNatClampNeg (0 : Int32))) fun M3 =>
          if am_in (M3 h 1) 6 = true then
            am_let (mset M3 (h + 4) (upd (M3 (h + 4)) (M3 h 1).toNatClampNeg (-1000000 : Int32))) fun M4 =>
            if am_in (M4 h 1) 6 = true then
              am_let (mset M4 (h + 5) (upd (M4 (h + 5)) (M4 h 1).toNatClampNeg x3)) fun M5 =>
              if am_in (M5 h 1) 6 = true then
                am_let (mset M5 (h + 6) (upd (M5 (h + 6)) (M5 h 1).toNatClampNeg (20 : Int32))) fun M6 =>
                am_let (mset M6 h (upd (M6 h) 5 ((M6 h 5) + (1 : Int32)))) fun M7 =>
                am_let (mset M7 h (upd (M7 h) 1 ((M7 h 1) + (1 : Int32)))) fun M8 =>
                some M8
              else none
            else none
          else none
        else none
      else none
    else none
  else
    some M
theorem m_X3_join  (h : Nat) (hh : isHl h) (x1 : Int32) (x2 : Int32) (x3 : Int32) (M : Mem) : AMet 1 yX3_join cX3_join 4 none lyX [.ref h, .int x1, .int x2, .int x3] M (qV lyX) (X3_join h x1 x2 x3 M) := by
  refine am_ent pn_X3 (Nat.le_of_ble_eq_true rfl) (fun E C hr => ?_)
  refine aw_lv (lv' := [(0, .ref h), (1, .int x1), (2, .int x2), (3, .int x3)]) rfl ?_
  unfold X3_join
  refine aw_aload_n C dX3_join_0 rfl ?_
  refine aw_getI C clX3 (hl_o hh) 1 rfl (by decide) kf_X3_37 dX3_join_1 ?_
  refine aw_bipush C (6 : Int32) dX3_join_4 (by decide) ?_
  refine aw_icmp_ge C (tgt := 91) dX3_join_6 (by decide) ?_ ?_
  · refine aw_aload_n C dX3_join_9 rfl ?_
    refine aw_getR C (r := h + 1) clX3 (hl_o hh) 6 rfl (by decide) kf_X3_9 dX3_join_10 ?_
    refine aw_aload_n C dX3_join_13 rfl ?_
    refine aw_getI C clX3 (hl_o hh) 1 rfl (by decide) kf_X3_37 dX3_join_14 ?_
    refine aw_iload_n C dX3_join_17 rfl ?_
    refine aw_iast C (hl_1 hh) dX3_join_18 ?_
    refine aw_mlet (fun M1 => ?_)
    refine aw_aload_n C dX3_join_19 rfl ?_
    refine aw_getR C (r := h + 2) clX3 (hl_o hh) 7 rfl (by decide) kf_X3_15 dX3_join_20 ?_
    refine aw_aload_n C dX3_join_23 rfl ?_
    refine aw_getI C clX3 (hl_o hh) 1 rfl (by decide) kf_X3_37 dX3_join_24 ?_
    refine aw_iload_n C dX3_join_27 rfl ?_
    refine aw_iast C (hl_2 hh) dX3_join_28 ?_
    refine aw_mlet (fun M2 => ?_)
    refine aw_aload_n C dX3_join_29 rfl ?_
    refine aw_getR C (r := h + 3) clX3 (hl_o hh) 8 rfl (by decide) kf_X3_18 dX3_join_30 ?_
    refine aw_aload_n C dX3_join_33 rfl ?_
    refine aw_getI C clX3 (hl_o hh) 1 rfl (by decide) kf_X3_37 dX3_join_34 ?_
    refine aw_iconst C (0 : Int32) dX3_join_37 (by decide) ?_
    refine aw_iast C (hl_3 hh) dX3_join_38 ?_
    refine aw_mlet (fun M3 => ?_)
    refine aw_aload_n C dX3_join_39 rfl ?_
    refine aw_getR C (r := h + 4) clX3 (hl_o hh) 9 rfl (by decide) kf_X3_21 dX3_join_40 ?_
    refine aw_aload_n C dX3_join_43 rfl ?_
    refine aw_getI C clX3 (hl_o hh) 1 rfl (by decide) kf_X3_37 dX3_join_44 ?_
    refine aw_ldc C kc_X3_52 dX3_join_47 ?_
    refine aw_iast C (hl_4 hh) dX3_join_49 ?_
    refine aw_mlet (fun M4 => ?_)
    refine aw_aload_n C dX3_join_50 rfl ?_
    refine aw_getR C (r := h + 5) clX3 (hl_o hh) 10 rfl (by decide) kf_X3_24 dX3_join_51 ?_
    refine aw_aload_n C dX3_join_54 rfl ?_
    refine aw_getI C clX3 (hl_o hh) 1 rfl (by decide) kf_X3_37 dX3_join_55 ?_
    refine aw_iload_n C dX3_join_58 rfl ?_
    refine aw_iast C (hl_5 hh) dX3_join_59 ?_
    refine aw_mlet (fun M5 => ?_)
    refine aw_aload_n C dX3_join_60 rfl ?_
    refine aw_getR C (r := h + 6) clX3 (hl_o hh) 11 rfl (by decide) kf_X3_27 dX3_join_61 ?_
    refine aw_aload_n C dX3_join_64 rfl ?_
    refine aw_getI C clX3 (hl_o hh) 1 rfl (by decide) kf_X3_37 dX3_join_65 ?_
    refine aw_bipush C (20 : Int32) dX3_join_68 (by decide) ?_
    refine aw_iast C (hl_6 hh) dX3_join_70 ?_
    refine aw_mlet (fun M6 => ?_)
    refine aw_aload_n C dX3_join_71 rfl ?_
    refine aw_dup C dX3_join_72 rfl ?_
    refine aw_getI C clX3 (hl_o hh) 5 rfl (by decide) kf_X3_49 dX3_join_73 ?_
    refine aw_iconst C (1 : Int32) dX3_join_76 (by decide) ?_
    refine aw_iadd C dX3_join_77 ?_
    refine aw_putI C clX3 (hl_o hh) 5 rfl (by decide) rfl rfl kf_X3_49 dX3_join_78 ?_
    refine aw_mlet (fun M7 => ?_)
    refine aw_aload_n C dX3_join_81 rfl ?_
    refine aw_dup C dX3_join_82 rfl ?_
    refine aw_getI C clX3 (hl_o hh) 1 rfl (by decide) kf_X3_37 dX3_join_83 ?_
    refine aw_iconst C (1 : Int32) dX3_join_86 (by decide) ?_
    refine aw_iadd C dX3_join_87 ?_
    refine aw_putI C clX3 (hl_o hh) 1 rfl (by decide) rfl rfl kf_X3_37 dX3_join_88 ?_
    refine aw_mlet (fun M8 => ?_)
    exact aw_vret C hr dX3_join_91
  · exact aw_vret C hr dX3_join_91
def X3_become (h : Nat) (h1 : Nat)  (M : Mem) : Option (Mem) :=
  am_let (mset M h (upd (M h) 0 (M h1 0))) fun M1 =>
  am_let (mset M1 h (upd (M1 h) 1 (M1 h1 1))) fun M2 =>
  am_let (mset M2 h (upd (M2 h) 2 (M2 h1 2))) fun M3 =>
  am_let (mset M3 h (upd (M3 h) 3 (M3 h1 3))) fun M4 =>
  am_let (mset M4 h (upd (M4 h) 4 (M4 h1 4))) fun M5 =>
  am_let (mset M5 h (upd (M5 h) 5 (M5 h1 5))) fun M6 =>
  if am_cp (0 : Int32) (0 : Int32) (6 : Int32) 6 6 = true then
    am_let (mset M6 (h + 1) (va_cpy (M6 (h1 + 1)) (M6 (h + 1)) (0 : Int32).toNatClampNeg (0 : Int32).toNatClampNeg (6 : Int32).toNatClampNeg)) fun M7 =>
    if am_cp (0 : Int32) (0 : Int32) (6 : Int32) 6 6 = true then
      am_let (mset M7 (h + 2) (va_cpy (M7 (h1 + 2)) (M7 (h + 2)) (0 : Int32).toNatClampNeg (0 : Int32).toNatClampNeg (6 : Int32).toNatClampNeg)) fun M8 =>
      if am_cp (0 : Int32) (0 : Int32) (6 : Int32) 6 6 = true then
        am_let (mset M8 (h + 3) (va_cpy (M8 (h1 + 3)) (M8 (h + 3)) (0 : Int32).toNatClampNeg (0 : Int32).toNatClampNeg (6 : Int32).toNatClampNeg)) fun M9 =>
        if am_cp (0 : Int32) (0 : Int32) (6 : Int32) 6 6 = true then
          am_let (mset M9 (h + 4) (va_cpy (M9 (h1 + 4)) (M9 (h + 4)) (0 : Int32).toNatClampNeg (0 : Int32).toNatClampNeg (6 : Int32).toNatClampNeg)) fun M10 =>
          if am_cp (0 : Int32) (0 : Int32) (6 : Int32) 6 6 = true then
            am_let (mset M10 (h + 5) (va_cpy (M10 (h1 + 5)) (M10 (h + 5)) (0 : Int32).toNatClampNeg (0 : Int32).toNatClampNeg (6 : Int32).toNatClampNeg)) fun M11 =>
            if am_cp (0 : Int32) (0 : Int32) (6 : Int32) 6 6 = true then
              am_let (mset M11 (h + 6) (va_cpy (M11 (h1 + 6)) (M11 (h + 6)) (0 : Int32).toNatClampNeg (0 : Int32).toNatClampNeg (6 : Int32).toNatClampNeg)) fun M12 =>
              if am_cp (0 : Int32) (0 : Int32) (12 : Int32) 12 12 = true then
                am_let (mset M12 (h + 7) (va_cpy (M12 (h1 + 7)) (M12 (h + 7)) (0 : Int32).toNatClampNeg (0 : Int32).toNatClampNeg (12 : Int32).toNatClampNeg)) fun M13 =>
                some M13
              else none
            else none
          else none
        else none
      else none
    else none
  else none
theorem m_X3_become  (h : Nat) (hh : isHl h) (h1 : Nat) (hh1 : isHl h1)  (M : Mem) : AMet 2 yX3_become cX3_become 2 none lyX [.ref h, .ref h1] M (qV lyX) (X3_become h h1 M) := by
  refine am_ent pn_X3 (Nat.le_of_ble_eq_true rfl) (fun E C hr => ?_)
  refine aw_lv (lv' := [(0, .ref h), (1, .ref h1)]) rfl ?_
  unfold X3_become
  refine aw_aload_n C dX3_become_0 rfl ?_
  refine aw_aload_n C dX3_become_1 rfl ?_
  refine aw_getI C clX3 (hl_o hh1) 0 rfl (by decide) kf_X3_33 dX3_become_2 ?_
  refine aw_putI C clX3 (hl_o hh) 0 rfl (by decide) rfl rfl kf_X3_33 dX3_become_5 ?_
  refine aw_mlet (fun M1 => ?_)
  refine aw_aload_n C dX3_become_8 rfl ?_
  refine aw_aload_n C dX3_become_9 rfl ?_
  refine aw_getI C clX3 (hl_o hh1) 1 rfl (by decide) kf_X3_37 dX3_become_10 ?_
  refine aw_putI C clX3 (hl_o hh) 1 rfl (by decide) rfl rfl kf_X3_37 dX3_become_13 ?_
  refine aw_mlet (fun M2 => ?_)
  refine aw_aload_n C dX3_become_16 rfl ?_
  refine aw_aload_n C dX3_become_17 rfl ?_
  refine aw_getI C clX3 (hl_o hh1) 2 rfl (by decide) kf_X3_40 dX3_become_18 ?_
  refine aw_putI C clX3 (hl_o hh) 2 rfl (by decide) rfl rfl kf_X3_40 dX3_become_21 ?_
  refine aw_mlet (fun M3 => ?_)
  refine aw_aload_n C dX3_become_24 rfl ?_
  refine aw_aload_n C dX3_become_25 rfl ?_
  refine aw_getI C clX3 (hl_o hh1) 3 rfl (by decide) kf_X3_43 dX3_become_26 ?_
  refine aw_putI C clX3 (hl_o hh) 3 rfl (by decide) rfl rfl kf_X3_43 dX3_become_29 ?_
  refine aw_mlet (fun M4 => ?_)
  refine aw_aload_n C dX3_become_32 rfl ?_
  refine aw_aload_n C dX3_become_33 rfl ?_
  refine aw_getI C clX3 (hl_o hh1) 4 rfl (by decide) kf_X3_46 dX3_become_34 ?_
  refine aw_putI C clX3 (hl_o hh) 4 rfl (by decide) rfl rfl kf_X3_46 dX3_become_37 ?_
  refine aw_mlet (fun M5 => ?_)
  refine aw_aload_n C dX3_become_40 rfl ?_
  refine aw_aload_n C dX3_become_41 rfl ?_
  refine aw_getI C clX3 (hl_o hh1) 5 rfl (by decide) kf_X3_49 dX3_become_42 ?_
  refine aw_putI C clX3 (hl_o hh) 5 rfl (by decide) rfl rfl kf_X3_49 dX3_become_45 ?_
  refine aw_mlet (fun M6 => ?_)
  refine aw_aload_n C dX3_become_48 rfl ?_
  refine aw_getR C (r := h1 + 1) clX3 (hl_o hh1) 6 rfl (by decide) kf_X3_9 dX3_become_49 ?_
  refine aw_iconst C (0 : Int32) dX3_become_52 (by decide) ?_
  refine aw_aload_n C dX3_become_53 rfl ?_
  refine aw_getR C (r := h + 1) clX3 (hl_o hh) 6 rfl (by decide) kf_X3_9 dX3_become_54 ?_
  refine aw_iconst C (0 : Int32) dX3_become_57 (by decide) ?_
  refine aw_bipush C (6 : Int32) dX3_become_58 (by decide) ?_
  refine aw_copy C (hl_1 hh1) (hl_1 hh) km_X3_59 k_cp_nat k_cp_st k_cp_ini (by decide) (Nat.le_of_ble_eq_true rfl) dX3_become_60 ?_
  refine aw_mlet (fun M7 => ?_)
  refine aw_aload_n C dX3_become_63 rfl ?_
  refine aw_getR C (r := h1 + 2) clX3 (hl_o hh1) 7 rfl (by decide) kf_X3_15 dX3_become_64 ?_
  refine aw_iconst C (0 : Int32) dX3_become_67 (by decide) ?_
  refine aw_aload_n C dX3_become_68 rfl ?_
  refine aw_getR C (r := h + 2) clX3 (hl_o hh) 7 rfl (by decide) kf_X3_15 dX3_become_69 ?_
  refine aw_iconst C (0 : Int32) dX3_become_72 (by decide) ?_
  refine aw_bipush C (6 : Int32) dX3_become_73 (by decide) ?_
  refine aw_copy C (hl_2 hh1) (hl_2 hh) km_X3_59 k_cp_nat k_cp_st k_cp_ini (by decide) (Nat.le_of_ble_eq_true rfl) dX3_become_75 ?_
  refine aw_mlet (fun M8 => ?_)
  refine aw_aload_n C dX3_become_78 rfl ?_
  refine aw_getR C (r := h1 + 3) clX3 (hl_o hh1) 8 rfl (by decide) kf_X3_18 dX3_become_79 ?_
  refine aw_iconst C (0 : Int32) dX3_become_82 (by decide) ?_
  refine aw_aload_n C dX3_become_83 rfl ?_
  refine aw_getR C (r := h + 3) clX3 (hl_o hh) 8 rfl (by decide) kf_X3_18 dX3_become_84 ?_
  refine aw_iconst C (0 : Int32) dX3_become_87 (by decide) ?_
  refine aw_bipush C (6 : Int32) dX3_become_88 (by decide) ?_
  refine aw_copy C (hl_3 hh1) (hl_3 hh) km_X3_59 k_cp_nat k_cp_st k_cp_ini (by decide) (Nat.le_of_ble_eq_true rfl) dX3_become_90 ?_
  refine aw_mlet (fun M9 => ?_)
  refine aw_aload_n C dX3_become_93 rfl ?_
  refine aw_getR C (r := h1 + 4) clX3 (hl_o hh1) 9 rfl (by decide) kf_X3_21 dX3_become_94 ?_
  refine aw_iconst C (0 : Int32) dX3_become_97 (by decide) ?_
  refine aw_aload_n C dX3_become_98 rfl ?_
  refine aw_getR C (r := h + 4) clX3 (hl_o hh) 9 rfl (by decide) kf_X3_21 dX3_become_99 ?_
  refine aw_iconst C (0 : Int32) dX3_become_102 (by decide) ?_
  refine aw_bipush C (6 : Int32) dX3_become_103 (by decide) ?_
  refine aw_copy C (hl_4 hh1) (hl_4 hh) km_X3_59 k_cp_nat k_cp_st k_cp_ini (by decide) (Nat.le_of_ble_eq_true rfl) dX3_become_105 ?_
  refine aw_mlet (fun M10 => ?_)
  refine aw_aload_n C dX3_become_108 rfl ?_
  refine aw_getR C (r := h1 + 5) clX3 (hl_o hh1) 10 rfl (by decide) kf_X3_24 dX3_become_109 ?_
  refine aw_iconst C (0 : Int32) dX3_become_112 (by decide) ?_
  refine aw_aload_n C dX3_become_113 rfl ?_
  refine aw_getR C (r := h + 5) clX3 (hl_o hh) 10 rfl (by decide) kf_X3_24 dX3_become_114 ?_
  refine aw_iconst C (0 : Int32) dX3_become_117 (by decide) ?_
  refine aw_bipush C (6 : Int32) dX3_become_118 (by decide) ?_
  refine aw_copy C (hl_5 hh1) (hl_5 hh) km_X3_59 k_cp_nat k_cp_st k_cp_ini (by decide) (Nat.le_of_ble_eq_true rfl) dX3_become_120 ?_
  refine aw_mlet (fun M11 => ?_)
  refine aw_aload_n C dX3_become_123 rfl ?_
  refine aw_getR C (r := h1 + 6) clX3 (hl_o hh1) 11 rfl (by decide) kf_X3_27 dX3_become_124 ?_
  refine aw_iconst C (0 : Int32) dX3_become_127 (by decide) ?_
  refine aw_aload_n C dX3_become_128 rfl ?_
  refine aw_getR C (r := h + 6) clX3 (hl_o hh) 11 rfl (by decide) kf_X3_27 dX3_become_129 ?_
  refine aw_iconst C (0 : Int32) dX3_become_132 (by decide) ?_
  refine aw_bipush C (6 : Int32) dX3_become_133 (by decide) ?_
  refine aw_copy C (hl_6 hh1) (hl_6 hh) km_X3_59 k_cp_nat k_cp_st k_cp_ini (by decide) (Nat.le_of_ble_eq_true rfl) dX3_become_135 ?_
  refine aw_mlet (fun M12 => ?_)
  refine aw_aload_n C dX3_become_138 rfl ?_
  refine aw_getR C (r := h1 + 7) clX3 (hl_o hh1) 12 rfl (by decide) kf_X3_30 dX3_become_139 ?_
  refine aw_iconst C (0 : Int32) dX3_become_142 (by decide) ?_
  refine aw_aload_n C dX3_become_143 rfl ?_
  refine aw_getR C (r := h + 7) clX3 (hl_o hh) 12 rfl (by decide) kf_X3_30 dX3_become_144 ?_
  refine aw_iconst C (0 : Int32) dX3_become_147 (by decide) ?_
  refine aw_bipush C (12 : Int32) dX3_become_148 (by decide) ?_
  refine aw_copy C (hl_7 hh1) (hl_7 hh) km_X3_59 k_cp_nat k_cp_st k_cp_ini (by decide) (Nat.le_of_ble_eq_true rfl) dX3_become_150 ?_
  refine aw_mlet (fun M13 => ?_)
  exact aw_vret C hr dX3_become_153
def X3_isOnBelt (h : Nat) (M : Mem) (x1 : Int32)  : Option (Int32) :=
  if am_in x1 6 = true then
    if (M (h + 6) x1.toNatClampNeg) < 0 then
      some (0 : Int32)
    else
      if am_in x1 6 = true then
        if (M (h + 6) x1.toNatClampNeg) < (12 : Int32) then
          some (1 : Int32)
        else
          some (0 : Int32)
      else none
  else none
theorem m_X3_isOnBelt  (h : Nat) (hh : isHl h) (M : Mem) (x1 : Int32)  : AMet 1 yX3_isOnBelt cX3_isOnBelt 2 (some .boolean) lyX [.ref h, .int x1] M (qIp lyX M) (X3_isOnBelt h M x1) := by
  refine am_ent pn_X3 (Nat.le_of_ble_eq_true rfl) (fun E C hr => ?_)
  refine aw_lv (lv' := [(0, .ref h), (1, .int x1)]) rfl ?_
  unfold X3_isOnBelt
  refine aw_aload_n C dX3_isOnBelt_0 rfl ?_
  refine aw_getR C (r := h + 6) clX3 (hl_o hh) 11 rfl (by decide) kf_X3_27 dX3_isOnBelt_1 ?_
  refine aw_iload_n C dX3_isOnBelt_4 rfl ?_
  refine aw_iald C (hl_6 hh) dX3_isOnBelt_5 ?_
  refine aw_if_lt C (tgt := 24) dX3_isOnBelt_6 (by decide) ?_ ?_
  · refine aw_iconst C (0 : Int32) dX3_isOnBelt_24 (by decide) ?_
    exact aw_zretp C (Or.inl rfl) hr dX3_isOnBelt_25
  · refine aw_aload_n C dX3_isOnBelt_9 rfl ?_
    refine aw_getR C (r := h + 6) clX3 (hl_o hh) 11 rfl (by decide) kf_X3_27 dX3_isOnBelt_10 ?_
    refine aw_iload_n C dX3_isOnBelt_13 rfl ?_
    refine aw_iald C (hl_6 hh) dX3_isOnBelt_14 ?_
    refine aw_bipush C (12 : Int32) dX3_isOnBelt_15 (by decide) ?_
    refine aw_icmp_ge C (tgt := 24) dX3_isOnBelt_17 (by decide) ?_ ?_
    · refine aw_iconst C (1 : Int32) dX3_isOnBelt_20 (by decide) ?_
      refine aw_goto C (tgt := 25) dX3_isOnBelt_21 (by decide) ?_
      exact aw_zretp C (Or.inr rfl) hr dX3_isOnBelt_25
    · refine aw_iconst C (0 : Int32) dX3_isOnBelt_24 (by decide) ?_
      exact aw_zretp C (Or.inl rfl) hr dX3_isOnBelt_25
def X3_isInCart (h : Nat) (M : Mem) (x1 : Int32)  : Option (Int32) :=
  if am_in x1 6 = true then
    if (M (h + 6) x1.toNatClampNeg) = (20 : Int32) then
      some (1 : Int32)
    else
      some (0 : Int32)
  else none
theorem m_X3_isInCart  (h : Nat) (hh : isHl h) (M : Mem) (x1 : Int32)  : AMet 1 yX3_isInCart cX3_isInCart 2 (some .boolean) lyX [.ref h, .int x1] M (qIp lyX M) (X3_isInCart h M x1) := by
  refine am_ent pn_X3 (Nat.le_of_ble_eq_true rfl) (fun E C hr => ?_)
  refine aw_lv (lv' := [(0, .ref h), (1, .int x1)]) rfl ?_
  unfold X3_isInCart
  refine aw_aload_n C dX3_isInCart_0 rfl ?_
  refine aw_getR C (r := h + 6) clX3 (hl_o hh) 11 rfl (by decide) kf_X3_27 dX3_isInCart_1 ?_
  refine aw_iload_n C dX3_isInCart_4 rfl ?_
  refine aw_iald C (hl_6 hh) dX3_isInCart_5 ?_
  refine aw_bipush C (20 : Int32) dX3_isInCart_6 (by decide) ?_
  refine aw_icmp_ne C (tgt := 15) dX3_isInCart_8 (by decide) ?_ ?_
  · refine aw_iconst C (1 : Int32) dX3_isInCart_11 (by decide) ?_
    refine aw_goto C (tgt := 16) dX3_isInCart_12 (by decide) ?_
    exact aw_zretp C (Or.inr rfl) hr dX3_isInCart_16
  · refine aw_iconst C (0 : Int32) dX3_isInCart_15 (by decide) ?_
    exact aw_zretp C (Or.inl rfl) hr dX3_isInCart_16
def X3_followSpots_16 (h : Nat) : Nat → Int32 → Mem → Option (Mem)
  | 0, _, _ => none
  | f + 1, x1, M =>
    if x1 < (M h 1) then
      Option.bind (X3_isOnBelt h M x1) fun r1 =>
      if r1 = 0 then
        Option.bind (X3_isInCart h M x1) fun r2 =>
        if r2 = 0 then
          X3_followSpots_16 h f (x1 + (1 : Int32)) M
        else
          am_let (mset M h (upd (M h) 5 ((M h 5) + (1 : Int32)))) fun M3 =>
          X3_followSpots_16 h f (x1 + (1 : Int32)) M3
      else
        if am_in x1 6 = true then
          if am_in (M (h + 6) x1.toNatClampNeg) 12 = true then
            am_let (mset M (h + 7) (upd (M (h + 7)) (M (h + 6) x1.toNatClampNeg).toNatClampNeg x1)) fun M4 =>
            X3_followSpots_16 h f (x1 + (1 : Int32)) M4
          else none
        else none
    else
      some M
def X3_followSpots (h : Nat)  (M : Mem) : Option (Mem) :=
  am_let (mset M h (upd (M h) 5 (0 : Int32))) fun M1 =>
  Option.bind (J7_fill_53178 (h + 7) 12 (-1000000 : Int32) M1) fun M2 =>
  X3_followSpots_16 h am_fuel (0 : Int32) M2
theorem m_X3_followSpots_16 {E : amE} (C : amC E 2 cX3_followSpots 2 RX3) (hr : (eH E).sig.returnType = none) (h : Nat) (hh : isHl h) : ∀ (f : Nat) (x1 : Int32) (M : Mem), AW E lyX 2 (qV lyX) (X3_followSpots_16 h f x1 M) 16 [(0, .ref h), (1, .int x1)] [] M := by
  intro f
  induction f with
  | zero => exact (fun _ _ => aw_none)
  | succ f ih =>
    intro x1 M
    rw [X3_followSpots_16]
    refine aw_iload_n C dX3_followSpots_16 rfl ?_
    refine aw_aload_n C dX3_followSpots_17 rfl ?_
    refine aw_getI C clX3 (hl_o hh) 1 rfl (by decide) kf_X3_37 dX3_followSpots_18 ?_
    refine aw_icmp_ge C (tgt := 71) dX3_followSpots_21 (by decide) ?_ ?_
    · refine aw_aload_n C dX3_followSpots_24 rfl ?_
      refine aw_iload_n C dX3_followSpots_25 rfl ?_
      refine aw_cVIp C [.int x1] [] (m_X3_isOnBelt h hh M x1) v_X3_isOnBelt km_X3_68 (by decide) (hl_o hh) rfl rfl rfl (Nat.le_of_ble_eq_true rfl) dX3_followSpots_26 (fun r1 => ?_)
      refine aw_if_eq C (tgt := 47) dX3_followSpots_29 (by decide) ?_ ?_
      · refine aw_aload_n C dX3_followSpots_47 rfl ?_
        refine aw_iload_n C dX3_followSpots_48 rfl ?_
        refine aw_cVIp C [.int x1] [] (m_X3_isInCart h hh M x1) v_X3_isInCart km_X3_72 (by decide) (hl_o hh) rfl rfl rfl (Nat.le_of_ble_eq_true rfl) dX3_followSpots_49 (fun r2 => ?_)
        refine aw_if_eq C (tgt := 65) dX3_followSpots_52 (by decide) ?_ ?_
        · refine aw_iinc C (v := (1 : Int32)) [(1, .int (x1 + (1 : Int32))), (0, .ref h)] dX3_followSpots_65 rfl (by decide) (by decide) rfl ?_
          refine aw_goto C (tgt := 16) dX3_followSpots_68 (by decide) ?_
          refine aw_sub [1, 0] rfl ?_
          exact ih (x1 + (1 : Int32)) M
        · refine aw_aload_n C dX3_followSpots_55 rfl ?_
          refine aw_dup C dX3_followSpots_56 rfl ?_
          refine aw_getI C clX3 (hl_o hh) 5 rfl (by decide) kf_X3_49 dX3_followSpots_57 ?_
          refine aw_iconst C (1 : Int32) dX3_followSpots_60 (by decide) ?_
          refine aw_iadd C dX3_followSpots_61 ?_
          refine aw_putI C clX3 (hl_o hh) 5 rfl (by decide) rfl rfl kf_X3_49 dX3_followSpots_62 ?_
          refine aw_mlet (fun M3 => ?_)
          refine aw_iinc C (v := (1 : Int32)) [(1, .int (x1 + (1 : Int32))), (0, .ref h)] dX3_followSpots_65 rfl (by decide) (by decide) rfl ?_
          refine aw_goto C (tgt := 16) dX3_followSpots_68 (by decide) ?_
          refine aw_sub [1, 0] rfl ?_
          exact ih (x1 + (1 : Int32)) M3
      · refine aw_aload_n C dX3_followSpots_32 rfl ?_
        refine aw_getR C (r := h + 7) clX3 (hl_o hh) 12 rfl (by decide) kf_X3_30 dX3_followSpots_33 ?_
        refine aw_aload_n C dX3_followSpots_36 rfl ?_
        refine aw_getR C (r := h + 6) clX3 (hl_o hh) 11 rfl (by decide) kf_X3_27 dX3_followSpots_37 ?_
        refine aw_iload_n C dX3_followSpots_40 rfl ?_
        refine aw_iald C (hl_6 hh) dX3_followSpots_41 ?_
        refine aw_iload_n C dX3_followSpots_42 rfl ?_
        refine aw_iast C (hl_7 hh) dX3_followSpots_43 ?_
        refine aw_mlet (fun M4 => ?_)
        refine aw_goto C (tgt := 65) dX3_followSpots_44 (by decide) ?_
        refine aw_iinc C (v := (1 : Int32)) [(1, .int (x1 + (1 : Int32))), (0, .ref h)] dX3_followSpots_65 rfl (by decide) (by decide) rfl ?_
        refine aw_goto C (tgt := 16) dX3_followSpots_68 (by decide) ?_
        refine aw_sub [1, 0] rfl ?_
        exact ih (x1 + (1 : Int32)) M4
    · exact aw_vret C hr dX3_followSpots_71
theorem m_X3_followSpots  (h : Nat) (hh : isHl h)  (M : Mem) : AMet 2 yX3_followSpots cX3_followSpots 2 none lyX [.ref h] M (qV lyX) (X3_followSpots h M) := by
  refine am_ent pn_X3 (Nat.le_of_ble_eq_true rfl) (fun E C hr => ?_)
  refine aw_lv (lv' := [(0, .ref h)]) rfl ?_
  unfold X3_followSpots
  refine aw_aload_n C dX3_followSpots_0 rfl ?_
  refine aw_iconst C (0 : Int32) dX3_followSpots_1 (by decide) ?_
  refine aw_putI C clX3 (hl_o hh) 5 rfl (by decide) rfl rfl kf_X3_49 dX3_followSpots_2 ?_
  refine aw_mlet (fun M1 => ?_)
  refine aw_aload_n C dX3_followSpots_5 rfl ?_
  refine aw_getR C (r := h + 7) clX3 (hl_o hh) 12 rfl (by decide) kf_X3_30 dX3_followSpots_6 ?_
  refine aw_ldc C kc_X3_52 dX3_followSpots_9 ?_
  refine aw_cSV C [.ref (h + 7), .int (-1000000 : Int32)] [] (m_J7_fill_53178 (h + 7) 12 (hl_7 hh) (-1000000 : Int32) M1) t_J7_fill_53178 km_X3_53 (by decide) rfl rfl (Nat.le_of_ble_eq_true rfl) dX3_followSpots_11 (fun M2 => ?_)
  refine aw_iconst C (0 : Int32) dX3_followSpots_14 (by decide) ?_
  refine aw_istore_n C [(1, .int (0 : Int32)), (0, .ref h)] dX3_followSpots_15 (by decide) rfl ?_
  refine aw_sub [1, 0] rfl ?_
  exact m_X3_followSpots_16 C hr h hh am_fuel (0 : Int32) M2
def X3_loadFrom (h : Nat) (p1 n1 : Nat) (x2 : Int32) (M : Mem) : Option (Mem) :=
  if x2 < 0 then
    some M
  else
    if ((Int32.ofNat n1) - (40 : Int32)) < x2 then
      some M
    else
      if am_in x2 n1 = true then
        am_let (mset M h (upd (M h) 0 (M p1 x2.toNatClampNeg))) fun M1 =>
        if am_in (x2 + (1 : Int32)) n1 = true then
          am_let (mset M1 h (upd (M1 h) 1 (M1 p1 (x2 + (1 : Int32)).toNatClampNeg))) fun M2 =>
          if am_in (x2 + (2 : Int32)) n1 = true then
            am_let (mset M2 h (upd (M2 h) 2 (M2 p1 (x2 + (2 : Int32)).toNatClampNeg))) fun M3 =>
            if am_in (x2 + (3 : Int32)) n1 = true then
              am_let (mset M3 h (upd (M3 h) 4 (M3 p1 (x2 + (3 : Int32)).toNatClampNeg))) fun M4 =>
              if am_cp (x2 + (4 : Int32)) (0 : Int32) (6 : Int32) n1 6 = true then
                am_let (mset M4 (h + 1) (va_cpy (M4 p1) (M4 (h + 1)) (x2 + (4 : Int32)).toNatClampNeg (0 : Int32).toNatClampNeg (6 : Int32).toNatClampNeg)) fun M5 =>
                if am_cp ((x2 + (4 : Int32)) + (6 : Int32)) (0 : Int32) (6 : Int32) n1 6 = true then
                  am_let (mset M5 (h + 2) (va_cpy (M5 p1) (M5 (h + 2)) ((x2 + (4 : Int32)) + (6 : Int32)).toNatClampNeg (0 : Int32).toNatClampNeg (6 : Int32).toNatClampNeg)) fun M6 =>
                  if am_cp ((x2 + (4 : Int32)) + (12 : Int32)) (0 : Int32) (6 : Int32) n1 6 = true then
                    am_let (mset M6 (h + 3) (va_cpy (M6 p1) (M6 (h + 3)) ((x2 + (4 : Int32)) + (12 : Int32)).toNatClampNeg (0 : Int32).toNatClampNeg (6 : Int32).toNatClampNeg)) fun M7 =>
                    if am_cp ((x2 + (4 : Int32)) + (18 : Int32)) (0 : Int32) (6 : Int32) n1 6 = true then
                      am_let (mset M7 (h + 4) (va_cpy (M7 p1) (M7 (h + 4)) ((x2 + (4 : Int32)) + (18 : Int32)).toNatClampNeg (0 : Int32).toNatClampNeg (6 : Int32).toNatClampNeg)) fun M8 =>
                      if am_cp ((x2 + (4 : Int32)) + (24 : Int32)) (0 : Int32) (6 : Int32) n1 6 = true then
                        am_let (mset M8 (h + 5) (va_cpy (M8 p1) (M8 (h + 5)) ((x2 + (4 : Int32)) + (24 : Int32)).toNatClampNeg (0 : Int32).toNatClampNeg (6 : Int32).toNatClampNeg)) fun M9 =>
                        if am_cp ((x2 + (4 : Int32)) + (30 : Int32)) (0 : Int32) (6 : Int32) n1 6 = true then
                          am_let (mset M9 (h + 6) (va_cpy (M9 p1) (M9 (h + 6)) ((x2 + (4 : Int32)) + (30 : Int32)).toNatClampNeg (0 : Int32).toNatClampNeg (6 : Int32).toNatClampNeg)) fun M10 =>
                          Option.bind (X3_followSpots h M10) fun M11 =>
                          some M11
                        else none
                      else none
                    else none
                  else none
                else none
              else none
            else none
          else none
        else none
      else none
theorem m_X3_loadFrom  (h : Nat) (hh : isHl h) (p1 n1 : Nat) (hp1 : lyX[p1]? = some (.inr (.inl n1))) (x2 : Int32) (M : Mem) : AMet 3 yX3_loadFrom cX3_loadFrom 4 none lyX [.ref h, .ref p1, .int x2] M (qV lyX) (X3_loadFrom h p1 n1 x2 M) := by
  refine am_ent pn_X3 (Nat.le_of_ble_eq_true rfl) (fun E C hr => ?_)
  refine aw_lv (lv' := [(0, .ref h), (1, .ref p1), (2, .int x2)]) rfl ?_
  unfold X3_loadFrom
  refine aw_iload_n C dX3_loadFrom_0 rfl ?_
  refine aw_if_lt C (tgt := 13) dX3_loadFrom_1 (by decide) ?_ ?_
  · exact aw_vret C hr dX3_loadFrom_13
  · refine aw_iload_n C dX3_loadFrom_4 rfl ?_
    refine aw_aload_n C dX3_loadFrom_5 rfl ?_
    refine aw_alen C (Int32.ofNat n1) hp1 rfl dX3_loadFrom_6 ?_
    refine aw_bipush C (40 : Int32) dX3_loadFrom_7 (by decide) ?_
    refine aw_isub C dX3_loadFrom_9 ?_
    refine aw_icmp_le C (tgt := 14) dX3_loadFrom_10 (by decide) ?_ ?_
    · exact aw_vret C hr dX3_loadFrom_13
    · refine aw_aload_n C dX3_loadFrom_14 rfl ?_
      refine aw_aload_n C dX3_loadFrom_15 rfl ?_
      refine aw_iload_n C dX3_loadFrom_16 rfl ?_
      refine aw_iald C hp1 dX3_loadFrom_17 ?_
      refine aw_putI C clX3 (hl_o hh) 0 rfl (by decide) rfl rfl kf_X3_33 dX3_loadFrom_18 ?_
      refine aw_mlet (fun M1 => ?_)
      refine aw_aload_n C dX3_loadFrom_21 rfl ?_
      refine aw_aload_n C dX3_loadFrom_22 rfl ?_
      refine aw_iload_n C dX3_loadFrom_23 rfl ?_
      refine aw_iconst C (1 : Int32) dX3_loadFrom_24 (by decide) ?_
      refine aw_iadd C dX3_loadFrom_25 ?_
      refine aw_iald C hp1 dX3_loadFrom_26 ?_
      refine aw_putI C clX3 (hl_o hh) 1 rfl (by decide) rfl rfl kf_X3_37 dX3_loadFrom_27 ?_
      refine aw_mlet (fun M2 => ?_)
      refine aw_aload_n C dX3_loadFrom_30 rfl ?_
      refine aw_aload_n C dX3_loadFrom_31 rfl ?_
      refine aw_iload_n C dX3_loadFrom_32 rfl ?_
      refine aw_iconst C (2 : Int32) dX3_loadFrom_33 (by decide) ?_
      refine aw_iadd C dX3_loadFrom_34 ?_
      refine aw_iald C hp1 dX3_loadFrom_35 ?_
      refine aw_putI C clX3 (hl_o hh) 2 rfl (by decide) rfl rfl kf_X3_40 dX3_loadFrom_36 ?_
      refine aw_mlet (fun M3 => ?_)
      refine aw_aload_n C dX3_loadFrom_39 rfl ?_
      refine aw_aload_n C dX3_loadFrom_40 rfl ?_
      refine aw_iload_n C dX3_loadFrom_41 rfl ?_
      refine aw_iconst C (3 : Int32) dX3_loadFrom_42 (by decide) ?_
      refine aw_iadd C dX3_loadFrom_43 ?_
      refine aw_iald C hp1 dX3_loadFrom_44 ?_
      refine aw_putI C clX3 (hl_o hh) 4 rfl (by decide) rfl rfl kf_X3_46 dX3_loadFrom_45 ?_
      refine aw_mlet (fun M4 => ?_)
      refine aw_iload_n C dX3_loadFrom_48 rfl ?_
      refine aw_iconst C (4 : Int32) dX3_loadFrom_49 (by decide) ?_
      refine aw_iadd C dX3_loadFrom_50 ?_
      refine aw_istore_n C [(3, .int (x2 + (4 : Int32))), (0, .ref h), (1, .ref p1), (2, .int x2)] dX3_loadFrom_51 (by decide) rfl ?_
      refine aw_aload_n C dX3_loadFrom_52 rfl ?_
      refine aw_iload_n C dX3_loadFrom_53 rfl ?_
      refine aw_aload_n C dX3_loadFrom_54 rfl ?_
      refine aw_getR C (r := h + 1) clX3 (hl_o hh) 6 rfl (by decide) kf_X3_9 dX3_loadFrom_55 ?_
      refine aw_iconst C (0 : Int32) dX3_loadFrom_58 (by decide) ?_
      refine aw_bipush C (6 : Int32) dX3_loadFrom_59 (by decide) ?_
      refine aw_copy C hp1 (hl_1 hh) km_X3_59 k_cp_nat k_cp_st k_cp_ini (by decide) (Nat.le_of_ble_eq_true rfl) dX3_loadFrom_61 ?_
      refine aw_mlet (fun M5 => ?_)
      refine aw_aload_n C dX3_loadFrom_64 rfl ?_
      refine aw_iload_n C dX3_loadFrom_65 rfl ?_
      refine aw_bipush C (6 : Int32) dX3_loadFrom_66 (by decide) ?_
      refine aw_iadd C dX3_loadFrom_68 ?_
      refine aw_aload_n C dX3_loadFrom_69 rfl ?_
      refine aw_getR C (r := h + 2) clX3 (hl_o hh) 7 rfl (by decide) kf_X3_15 dX3_loadFrom_70 ?_
      refine aw_iconst C (0 : Int32) dX3_loadFrom_73 (by decide) ?_
      refine aw_bipush C (6 : Int32) dX3_loadFrom_74 (by decide) ?_
      refine aw_copy C hp1 (hl_2 hh) km_X3_59 k_cp_nat k_cp_st k_cp_ini (by decide) (Nat.le_of_ble_eq_true rfl) dX3_loadFrom_76 ?_
      refine aw_mlet (fun M6 => ?_)
      refine aw_aload_n C dX3_loadFrom_79 rfl ?_
      refine aw_iload_n C dX3_loadFrom_80 rfl ?_
      refine aw_bipush C (12 : Int32) dX3_loadFrom_81 (by decide) ?_
      refine aw_iadd C dX3_loadFrom_83 ?_
      refine aw_aload_n C dX3_loadFrom_84 rfl ?_
      refine aw_getR C (r := h + 3) clX3 (hl_o hh) 8 rfl (by decide) kf_X3_18 dX3_loadFrom_85 ?_
      refine aw_iconst C (0 : Int32) dX3_loadFrom_88 (by decide) ?_
      refine aw_bipush C (6 : Int32) dX3_loadFrom_89 (by decide) ?_
      refine aw_copy C hp1 (hl_3 hh) km_X3_59 k_cp_nat k_cp_st k_cp_ini (by decide) (Nat.le_of_ble_eq_true rfl) dX3_loadFrom_91 ?_
      refine aw_mlet (fun M7 => ?_)
      refine aw_aload_n C dX3_loadFrom_94 rfl ?_
      refine aw_iload_n C dX3_loadFrom_95 rfl ?_
      refine aw_bipush C (18 : Int32) dX3_loadFrom_96 (by decide) ?_
      refine aw_iadd C dX3_loadFrom_98 ?_
      refine aw_aload_n C dX3_loadFrom_99 rfl ?_
      refine aw_getR C (r := h + 4) clX3 (hl_o hh) 9 rfl (by decide) kf_X3_21 dX3_loadFrom_100 ?_
      refine aw_iconst C (0 : Int32) dX3_loadFrom_103 (by decide) ?_
      refine aw_bipush C (6 : Int32) dX3_loadFrom_104 (by decide) ?_
      refine aw_copy C hp1 (hl_4 hh) km_X3_59 k_cp_nat k_cp_st k_cp_ini (by decide) (Nat.le_of_ble_eq_true rfl) dX3_loadFrom_106 ?_
      refine aw_mlet (fun M8 => ?_)
      refine aw_aload_n C dX3_loadFrom_109 rfl ?_
      refine aw_iload_n C dX3_loadFrom_110 rfl ?_
      refine aw_bipush C (24 : Int32) dX3_loadFrom_111 (by decide) ?_
      refine aw_iadd C dX3_loadFrom_113 ?_
      refine aw_aload_n C dX3_loadFrom_114 rfl ?_
      refine aw_getR C (r := h + 5) clX3 (hl_o hh) 10 rfl (by decide) kf_X3_24 dX3_loadFrom_115 ?_
      refine aw_iconst C (0 : Int32) dX3_loadFrom_118 (by decide) ?_
      refine aw_bipush C (6 : Int32) dX3_loadFrom_119 (by decide) ?_
      refine aw_copy C hp1 (hl_5 hh) km_X3_59 k_cp_nat k_cp_st k_cp_ini (by decide) (Nat.le_of_ble_eq_true rfl) dX3_loadFrom_121 ?_
      refine aw_mlet (fun M9 => ?_)
      refine aw_aload_n C dX3_loadFrom_124 rfl ?_
      refine aw_iload_n C dX3_loadFrom_125 rfl ?_
      refine aw_bipush C (30 : Int32) dX3_loadFrom_126 (by decide) ?_
      refine aw_iadd C dX3_loadFrom_128 ?_
      refine aw_aload_n C dX3_loadFrom_129 rfl ?_
      refine aw_getR C (r := h + 6) clX3 (hl_o hh) 11 rfl (by decide) kf_X3_27 dX3_loadFrom_130 ?_
      refine aw_iconst C (0 : Int32) dX3_loadFrom_133 (by decide) ?_
      refine aw_bipush C (6 : Int32) dX3_loadFrom_134 (by decide) ?_
      refine aw_copy C hp1 (hl_6 hh) km_X3_59 k_cp_nat k_cp_st k_cp_ini (by decide) (Nat.le_of_ble_eq_true rfl) dX3_loadFrom_136 ?_
      refine aw_mlet (fun M10 => ?_)
      refine aw_aload_n C dX3_loadFrom_139 rfl ?_
      refine aw_cVV C [] [] (m_X3_followSpots h hh M10) v_X3_followSpots km_X3_65 (by decide) (hl_o hh) rfl rfl rfl (Nat.le_of_ble_eq_true rfl) dX3_loadFrom_140 (fun M11 => ?_)
      exact aw_vret C hr dX3_loadFrom_143
def X3_saveTo (h : Nat) (p1 n1 : Nat) (x2 : Int32) (M : Mem) : Option (Mem) :=
  if x2 < 0 then
    some M
  else
    if ((Int32.ofNat n1) - (40 : Int32)) < x2 then
      some M
    else
      if am_in x2 n1 = true then
        am_let (mset M p1 (upd (M p1) x2.toNatClampNeg (M h 0))) fun M1 =>
        if am_in (x2 + (1 : Int32)) n1 = true then
          am_let (mset M1 p1 (upd (M1 p1) (x2 + (1 : Int32)).toNatClampNeg (M1 h 1))) fun M2 =>
          if am_in (x2 + (2 : Int32)) n1 = true then
            am_let (mset M2 p1 (upd (M2 p1) (x2 + (2 : Int32)).toNatClampNeg (M2 h 2))) fun M3 =>
            if am_in (x2 + (3 : Int32)) n1 = true then
              am_let (mset M3 p1 (upd (M3 p1) (x2 + (3 : Int32)).toNatClampNeg (M3 h 4))) fun M4 =>
              if am_cp (0 : Int32) (x2 + (4 : Int32)) (6 : Int32) 6 n1 = true then
                am_let (mset M4 p1 (va_cpy (M4 (h + 1)) (M4 p1) (0 : Int32).toNatClampNeg (x2 + (4 : Int32)).toNatClampNeg (6 : Int32).toNatClampNeg)) fun M5 =>
                if am_cp (0 : Int32) ((x2 + (4 : Int32)) + (6 : Int32)) (6 : Int32) 6 n1 = true then
                  am_let (mset M5 p1 (va_cpy (M5 (h + 2)) (M5 p1) (0 : Int32).toNatClampNeg ((x2 + (4 : Int32)) + (6 : Int32)).toNatClampNeg (6 : Int32).toNatClampNeg)) fun M6 =>
                  if am_cp (0 : Int32) ((x2 + (4 : Int32)) + (12 : Int32)) (6 : Int32) 6 n1 = true then
                    am_let (mset M6 p1 (va_cpy (M6 (h + 3)) (M6 p1) (0 : Int32).toNatClampNeg ((x2 + (4 : Int32)) + (12 : Int32)).toNatClampNeg (6 : Int32).toNatClampNeg)) fun M7 =>
                    if am_cp (0 : Int32) ((x2 + (4 : Int32)) + (18 : Int32)) (6 : Int32) 6 n1 = true then
                      am_let (mset M7 p1 (va_cpy (M7 (h + 4)) (M7 p1) (0 : Int32).toNatClampNeg ((x2 + (4 : Int32)) + (18 : Int32)).toNatClampNeg (6 : Int32).toNatClampNeg)) fun M8 =>
                      if am_cp (0 : Int32) ((x2 + (4 : Int32)) + (24 : Int32)) (6 : Int32) 6 n1 = true then
                        am_let (mset M8 p1 (va_cpy (M8 (h + 5)) (M8 p1) (0 : Int32).toNatClampNeg ((x2 + (4 : Int32)) + (24 : Int32)).toNatClampNeg (6 : Int32).toNatClampNeg)) fun M9 =>
                        if am_cp (0 : Int32) ((x2 + (4 : Int32)) + (30 : Int32)) (6 : Int32) 6 n1 = true then
                          am_let (mset M9 p1 (va_cpy (M9 (h + 6)) (M9 p1) (0 : Int32).toNatClampNeg ((x2 + (4 : Int32)) + (30 : Int32)).toNatClampNeg (6 : Int32).toNatClampNeg)) fun M10 =>
                          some M10
                        else none
                      else none
                    else none
                  else none
                else none
              else none
            else none
          else none
        else none
      else none
theorem m_X3_saveTo  (h : Nat) (hh : isHl h) (p1 n1 : Nat) (hp1 : lyX[p1]? = some (.inr (.inl n1))) (x2 : Int32) (M : Mem) : AMet 2 yX3_saveTo cX3_saveTo 4 none lyX [.ref h, .ref p1, .int x2] M (qV lyX) (X3_saveTo h p1 n1 x2 M) := by
  refine am_ent pn_X3 (Nat.le_of_ble_eq_true rfl) (fun E C hr => ?_)
  refine aw_lv (lv' := [(0, .ref h), (1, .ref p1), (2, .int x2)]) rfl ?_
  unfold X3_saveTo
  refine aw_iload_n C dX3_saveTo_0 rfl ?_
  refine aw_if_lt C (tgt := 13) dX3_saveTo_1 (by decide) ?_ ?_
  · exact aw_vret C hr dX3_saveTo_13
  · refine aw_iload_n C dX3_saveTo_4 rfl ?_
    refine aw_aload_n C dX3_saveTo_5 rfl ?_
    refine aw_alen C (Int32.ofNat n1) hp1 rfl dX3_saveTo_6 ?_
    refine aw_bipush C (40 : Int32) dX3_saveTo_7 (by decide) ?_
    refine aw_isub C dX3_saveTo_9 ?_
    refine aw_icmp_le C (tgt := 14) dX3_saveTo_10 (by decide) ?_ ?_
    · exact aw_vret C hr dX3_saveTo_13
    · refine aw_aload_n C dX3_saveTo_14 rfl ?_
      refine aw_iload_n C dX3_saveTo_15 rfl ?_
      refine aw_aload_n C dX3_saveTo_16 rfl ?_
      refine aw_getI C clX3 (hl_o hh) 0 rfl (by decide) kf_X3_33 dX3_saveTo_17 ?_
      refine aw_iast C hp1 dX3_saveTo_20 ?_
      refine aw_mlet (fun M1 => ?_)
      refine aw_aload_n C dX3_saveTo_21 rfl ?_
      refine aw_iload_n C dX3_saveTo_22 rfl ?_
      refine aw_iconst C (1 : Int32) dX3_saveTo_23 (by decide) ?_
      refine aw_iadd C dX3_saveTo_24 ?_
      refine aw_aload_n C dX3_saveTo_25 rfl ?_
      refine aw_getI C clX3 (hl_o hh) 1 rfl (by decide) kf_X3_37 dX3_saveTo_26 ?_
      refine aw_iast C hp1 dX3_saveTo_29 ?_
      refine aw_mlet (fun M2 => ?_)
      refine aw_aload_n C dX3_saveTo_30 rfl ?_
      refine aw_iload_n C dX3_saveTo_31 rfl ?_
      refine aw_iconst C (2 : Int32) dX3_saveTo_32 (by decide) ?_
      refine aw_iadd C dX3_saveTo_33 ?_
      refine aw_aload_n C dX3_saveTo_34 rfl ?_
      refine aw_getI C clX3 (hl_o hh) 2 rfl (by decide) kf_X3_40 dX3_saveTo_35 ?_
      refine aw_iast C hp1 dX3_saveTo_38 ?_
      refine aw_mlet (fun M3 => ?_)
      refine aw_aload_n C dX3_saveTo_39 rfl ?_
      refine aw_iload_n C dX3_saveTo_40 rfl ?_
      refine aw_iconst C (3 : Int32) dX3_saveTo_41 (by decide) ?_
      refine aw_iadd C dX3_saveTo_42 ?_
      refine aw_aload_n C dX3_saveTo_43 rfl ?_
      refine aw_getI C clX3 (hl_o hh) 4 rfl (by decide) kf_X3_46 dX3_saveTo_44 ?_
      refine aw_iast C hp1 dX3_saveTo_47 ?_
      refine aw_mlet (fun M4 => ?_)
      refine aw_iload_n C dX3_saveTo_48 rfl ?_
      refine aw_iconst C (4 : Int32) dX3_saveTo_49 (by decide) ?_
      refine aw_iadd C dX3_saveTo_50 ?_
      refine aw_istore_n C [(3, .int (x2 + (4 : Int32))), (0, .ref h), (1, .ref p1), (2, .int x2)] dX3_saveTo_51 (by decide) rfl ?_
      refine aw_aload_n C dX3_saveTo_52 rfl ?_
      refine aw_getR C (r := h + 1) clX3 (hl_o hh) 6 rfl (by decide) kf_X3_9 dX3_saveTo_53 ?_
      refine aw_iconst C (0 : Int32) dX3_saveTo_56 (by decide) ?_
      refine aw_aload_n C dX3_saveTo_57 rfl ?_
      refine aw_iload_n C dX3_saveTo_58 rfl ?_
      refine aw_bipush C (6 : Int32) dX3_saveTo_59 (by decide) ?_
      refine aw_copy C (hl_1 hh) hp1 km_X3_59 k_cp_nat k_cp_st k_cp_ini (by decide) (Nat.le_of_ble_eq_true rfl) dX3_saveTo_61 ?_
      refine aw_mlet (fun M5 => ?_)
      refine aw_aload_n C dX3_saveTo_64 rfl ?_
      refine aw_getR C (r := h + 2) clX3 (hl_o hh) 7 rfl (by decide) kf_X3_15 dX3_saveTo_65 ?_
      refine aw_iconst C (0 : Int32) dX3_saveTo_68 (by decide) ?_
      refine aw_aload_n C dX3_saveTo_69 rfl ?_
      refine aw_iload_n C dX3_saveTo_70 rfl ?_
      refine aw_bipush C (6 : Int32) dX3_saveTo_71 (by decide) ?_
      refine aw_iadd C dX3_saveTo_73 ?_
      refine aw_bipush C (6 : Int32) dX3_saveTo_74 (by decide) ?_
      refine aw_copy C (hl_2 hh) hp1 km_X3_59 k_cp_nat k_cp_st k_cp_ini (by decide) (Nat.le_of_ble_eq_true rfl) dX3_saveTo_76 ?_
      refine aw_mlet (fun M6 => ?_)
      refine aw_aload_n C dX3_saveTo_79 rfl ?_
      refine aw_getR C (r := h + 3) clX3 (hl_o hh) 8 rfl (by decide) kf_X3_18 dX3_saveTo_80 ?_
      refine aw_iconst C (0 : Int32) dX3_saveTo_83 (by decide) ?_
      refine aw_aload_n C dX3_saveTo_84 rfl ?_
      refine aw_iload_n C dX3_saveTo_85 rfl ?_
      refine aw_bipush C (12 : Int32) dX3_saveTo_86 (by decide) ?_
      refine aw_iadd C dX3_saveTo_88 ?_
      refine aw_bipush C (6 : Int32) dX3_saveTo_89 (by decide) ?_
      refine aw_copy C (hl_3 hh) hp1 km_X3_59 k_cp_nat k_cp_st k_cp_ini (by decide) (Nat.le_of_ble_eq_true rfl) dX3_saveTo_91 ?_
      refine aw_mlet (fun M7 => ?_)
      refine aw_aload_n C dX3_saveTo_94 rfl ?_
      refine aw_getR C (r := h + 4) clX3 (hl_o hh) 9 rfl (by decide) kf_X3_21 dX3_saveTo_95 ?_
      refine aw_iconst C (0 : Int32) dX3_saveTo_98 (by decide) ?_
      refine aw_aload_n C dX3_saveTo_99 rfl ?_
      refine aw_iload_n C dX3_saveTo_100 rfl ?_
      refine aw_bipush C (18 : Int32) dX3_saveTo_101 (by decide) ?_
      refine aw_iadd C dX3_saveTo_103 ?_
      refine aw_bipush C (6 : Int32) dX3_saveTo_104 (by decide) ?_
      refine aw_copy C (hl_4 hh) hp1 km_X3_59 k_cp_nat k_cp_st k_cp_ini (by decide) (Nat.le_of_ble_eq_true rfl) dX3_saveTo_106 ?_
      refine aw_mlet (fun M8 => ?_)
      refine aw_aload_n C dX3_saveTo_109 rfl ?_
      refine aw_getR C (r := h + 5) clX3 (hl_o hh) 10 rfl (by decide) kf_X3_24 dX3_saveTo_110 ?_
      refine aw_iconst C (0 : Int32) dX3_saveTo_113 (by decide) ?_
      refine aw_aload_n C dX3_saveTo_114 rfl ?_
      refine aw_iload_n C dX3_saveTo_115 rfl ?_
      refine aw_bipush C (24 : Int32) dX3_saveTo_116 (by decide) ?_
      refine aw_iadd C dX3_saveTo_118 ?_
      refine aw_bipush C (6 : Int32) dX3_saveTo_119 (by decide) ?_
      refine aw_copy C (hl_5 hh) hp1 km_X3_59 k_cp_nat k_cp_st k_cp_ini (by decide) (Nat.le_of_ble_eq_true rfl) dX3_saveTo_121 ?_
      refine aw_mlet (fun M9 => ?_)
      refine aw_aload_n C dX3_saveTo_124 rfl ?_
      refine aw_getR C (r := h + 6) clX3 (hl_o hh) 11 rfl (by decide) kf_X3_27 dX3_saveTo_125 ?_
      refine aw_iconst C (0 : Int32) dX3_saveTo_128 (by decide) ?_
      refine aw_aload_n C dX3_saveTo_129 rfl ?_
      refine aw_iload_n C dX3_saveTo_130 rfl ?_
      refine aw_bipush C (30 : Int32) dX3_saveTo_131 (by decide) ?_
      refine aw_iadd C dX3_saveTo_133 ?_
      refine aw_bipush C (6 : Int32) dX3_saveTo_134 (by decide) ?_
      refine aw_copy C (hl_6 hh) hp1 km_X3_59 k_cp_nat k_cp_st k_cp_ini (by decide) (Nat.le_of_ble_eq_true rfl) dX3_saveTo_136 ?_
      refine aw_mlet (fun M10 => ?_)
      exact aw_vret C hr dX3_saveTo_139
def X3_turnBy (h : Nat) (x1 : Int32) (M : Mem) : Option (Mem) :=
  if 0 < (M h 0) then
    if M h 0 = 0 then none else
    am_let (mset M h (upd (M h) 4 (am_fm ((M h 4) + x1) (M h 0)))) fun M1 =>
    some M1
  else
    some M
theorem m_X3_turnBy  (h : Nat) (hh : isHl h) (x1 : Int32) (M : Mem) : AMet 2 yX3_turnBy cX3_turnBy 2 none lyX [.ref h, .int x1] M (qV lyX) (X3_turnBy h x1 M) := by
  refine am_ent pn_X3 (Nat.le_of_ble_eq_true rfl) (fun E C hr => ?_)
  refine aw_lv (lv' := [(0, .ref h), (1, .int x1)]) rfl ?_
  unfold X3_turnBy
  refine aw_aload_n C dX3_turnBy_0 rfl ?_
  refine aw_getI C clX3 (hl_o hh) 0 rfl (by decide) kf_X3_33 dX3_turnBy_1 ?_
  refine aw_if_le C (tgt := 24) dX3_turnBy_4 (by decide) ?_ ?_
  · refine aw_aload_n C dX3_turnBy_7 rfl ?_
    refine aw_aload_n C dX3_turnBy_8 rfl ?_
    refine aw_getI C clX3 (hl_o hh) 4 rfl (by decide) kf_X3_46 dX3_turnBy_9 ?_
    refine aw_iload_n C dX3_turnBy_12 rfl ?_
    refine aw_iadd C dX3_turnBy_13 ?_
    refine aw_aload_n C dX3_turnBy_14 rfl ?_
    refine aw_getI C clX3 (hl_o hh) 0 rfl (by decide) kf_X3_33 dX3_turnBy_15 ?_
    refine aw_floorMod C km_X3_112 (by decide) (Nat.le_of_ble_eq_true rfl) dX3_turnBy_18 ?_
    refine aw_putI C clX3 (hl_o hh) 4 rfl (by decide) rfl rfl kf_X3_46 dX3_turnBy_21 ?_
    refine aw_mlet (fun M1 => ?_)
    exact aw_vret C hr dX3_turnBy_24
  · exact aw_vret C hr dX3_turnBy_24
def X3_bagAt_28 (h : Nat) (M : Mem) (s0 : Int32) : Option (Int32) :=
  if s0 < 0 then
    some (-1000000 : Int32)
  else
    if s0 < (12 : Int32) then
      if am_in s0 12 = true then
        some (M (h + 7) s0.toNatClampNeg)
      else none
    else
      some (-1000000 : Int32)
def X3_bagAt (h : Nat) (M : Mem) (x1 : Int32)  : Option (Int32) :=
  if x1 < (M h 4) then
    X3_bagAt_28 h M ((x1 - (M h 4)) + (M h 0))
  else
    X3_bagAt_28 h M (x1 - (M h 4))
theorem m_X3_bagAt_28 {E : amE} (C : amC E 1 cX3_bagAt 3 RX3) (hr : (eH E).sig.returnType = (some .int)) (h : Nat) (hh : isHl h) (M : Mem) (s0 : Int32) : AW E lyX 3 (qIp lyX M) (X3_bagAt_28 h M s0) 28 [(0, .ref h)] [.int s0] M := by
  unfold X3_bagAt_28
  refine aw_istore_n C [(2, .int s0), (0, .ref h)] dX3_bagAt_28 (by decide) rfl ?_
  refine aw_iload_n C dX3_bagAt_29 rfl ?_
  refine aw_if_lt C (tgt := 48) dX3_bagAt_30 (by decide) ?_ ?_
  · refine aw_ldc C kc_X3_52 dX3_bagAt_48 ?_
    exact aw_iretp C hr dX3_bagAt_50
  · refine aw_iload_n C dX3_bagAt_33 rfl ?_
    refine aw_bipush C (12 : Int32) dX3_bagAt_34 (by decide) ?_
    refine aw_icmp_ge C (tgt := 48) dX3_bagAt_36 (by decide) ?_ ?_
    · refine aw_aload_n C dX3_bagAt_39 rfl ?_
      refine aw_getR C (r := h + 7) clX3 (hl_o hh) 12 rfl (by decide) kf_X3_30 dX3_bagAt_40 ?_
      refine aw_iload_n C dX3_bagAt_43 rfl ?_
      refine aw_iald C (hl_7 hh) dX3_bagAt_44 ?_
      refine aw_goto C (tgt := 50) dX3_bagAt_45 (by decide) ?_
      exact aw_iretp C hr dX3_bagAt_50
    · refine aw_ldc C kc_X3_52 dX3_bagAt_48 ?_
      exact aw_iretp C hr dX3_bagAt_50
theorem m_X3_bagAt  (h : Nat) (hh : isHl h) (M : Mem) (x1 : Int32)  : AMet 1 yX3_bagAt cX3_bagAt 3 (some .int) lyX [.ref h, .int x1] M (qIp lyX M) (X3_bagAt h M x1) := by
  refine am_ent pn_X3 (Nat.le_of_ble_eq_true rfl) (fun E C hr => ?_)
  refine aw_lv (lv' := [(0, .ref h), (1, .int x1)]) rfl ?_
  unfold X3_bagAt
  refine aw_iload_n C dX3_bagAt_0 rfl ?_
  refine aw_aload_n C dX3_bagAt_1 rfl ?_
  refine aw_getI C clX3 (hl_o hh) 4 rfl (by decide) kf_X3_46 dX3_bagAt_2 ?_
  refine aw_icmp_ge C (tgt := 22) dX3_bagAt_5 (by decide) ?_ ?_
  · refine aw_iload_n C dX3_bagAt_8 rfl ?_
    refine aw_aload_n C dX3_bagAt_9 rfl ?_
    refine aw_getI C clX3 (hl_o hh) 4 rfl (by decide) kf_X3_46 dX3_bagAt_10 ?_
    refine aw_isub C dX3_bagAt_13 ?_
    refine aw_aload_n C dX3_bagAt_14 rfl ?_
    refine aw_getI C clX3 (hl_o hh) 0 rfl (by decide) kf_X3_33 dX3_bagAt_15 ?_
    refine aw_iadd C dX3_bagAt_18 ?_
    refine aw_goto C (tgt := 28) dX3_bagAt_19 (by decide) ?_
    refine aw_sub [0] rfl ?_
    exact m_X3_bagAt_28 C hr h hh M ((x1 - (M h 4)) + (M h 0))
  · refine aw_iload_n C dX3_bagAt_22 rfl ?_
    refine aw_aload_n C dX3_bagAt_23 rfl ?_
    refine aw_getI C clX3 (hl_o hh) 4 rfl (by decide) kf_X3_46 dX3_bagAt_24 ?_
    refine aw_isub C dX3_bagAt_27 ?_
    refine aw_sub [0] rfl ?_
    exact m_X3_bagAt_28 C hr h hh M (x1 - (M h 4))
def X3_isFallDue (h : Nat) (M : Mem)   : Option (Int32) :=
  if 0 < (M h 5) then
    Option.bind (X3_bagAt h M (0 : Int32)) fun r1 =>
    if r1 = (-1000000 : Int32) then
      some (1 : Int32)
    else
      some (0 : Int32)
  else
    some (0 : Int32)
theorem m_X3_isFallDue  (h : Nat) (hh : isHl h) (M : Mem)   : AMet 2 yX3_isFallDue cX3_isFallDue 1 (some .boolean) lyX [.ref h] M (qIp lyX M) (X3_isFallDue h M) := by
  refine am_ent pn_X3 (Nat.le_of_ble_eq_true rfl) (fun E C hr => ?_)
  refine aw_lv (lv' := [(0, .ref h)]) rfl ?_
  unfold X3_isFallDue
  refine aw_aload_n C dX3_isFallDue_0 rfl ?_
  refine aw_getI C clX3 (hl_o hh) 5 rfl (by decide) kf_X3_49 dX3_isFallDue_1 ?_
  refine aw_if_le C (tgt := 21) dX3_isFallDue_4 (by decide) ?_ ?_
  · refine aw_aload_n C dX3_isFallDue_7 rfl ?_
    refine aw_iconst C (0 : Int32) dX3_isFallDue_8 (by decide) ?_
    refine aw_cVIp C [.int (0 : Int32)] [] (m_X3_bagAt h hh M (0 : Int32)) v_X3_bagAt km_X3_118 (by decide) (hl_o hh) rfl rfl rfl (Nat.le_of_ble_eq_true rfl) dX3_isFallDue_9 (fun r1 => ?_)
    refine aw_ldc C kc_X3_52 dX3_isFallDue_12 ?_
    refine aw_icmp_ne C (tgt := 21) dX3_isFallDue_14 (by decide) ?_ ?_
    · refine aw_iconst C (1 : Int32) dX3_isFallDue_17 (by decide) ?_
      refine aw_goto C (tgt := 22) dX3_isFallDue_18 (by decide) ?_
      exact aw_zretp C (Or.inr rfl) hr dX3_isFallDue_22
    · refine aw_iconst C (0 : Int32) dX3_isFallDue_21 (by decide) ?_
      exact aw_zretp C (Or.inl rfl) hr dX3_isFallDue_22
  · refine aw_iconst C (0 : Int32) dX3_isFallDue_21 (by decide) ?_
    exact aw_zretp C (Or.inl rfl) hr dX3_isFallDue_22
def X3_fallDown_20 (h : Nat) (x1 : Int32) (s0 : Int32) (M : Mem) : Option (Mem) :=
  if s0 < 0 then
    some M
  else
    if s0 < (12 : Int32) then
      if am_in x1 6 = true then
        am_let (mset M (h + 6) (upd (M (h + 6)) x1.toNatClampNeg s0)) fun M1 =>
        if am_in s0 12 = true then
          am_let (mset M1 (h + 7) (upd (M1 (h + 7)) s0.toNatClampNeg x1)) fun M2 =>
          am_let (mset M2 h (upd (M2 h) 5 ((M2 h 5) - (1 : Int32)))) fun M3 =>
          some M3
        else none
      else none
    else
      some M
def X3_fallDown (h : Nat) (x1 : Int32) (M : Mem) : Option (Mem) :=
  if (M h 4) = 0 then
    X3_fallDown_20 h x1 (0 : Int32) M
  else
    X3_fallDown_20 h x1 ((M h 0) - (M h 4)) M
theorem m_X3_fallDown_20 {E : amE} (C : amC E 1 cX3_fallDown 3 RX3) (hr : (eH E).sig.returnType = none) (h : Nat) (hh : isHl h) (x1 : Int32) (s0 : Int32) (M : Mem) : AW E lyX 3 (qV lyX) (X3_fallDown_20 h x1 s0 M) 20 [(0, .ref h), (1, .int x1)] [.int s0] M := by
  unfold X3_fallDown_20
  refine aw_istore_n C [(2, .int s0), (0, .ref h), (1, .int x1)] dX3_fallDown_20 (by decide) rfl ?_
  refine aw_iload_n C dX3_fallDown_21 rfl ?_
  refine aw_if_lt C (tgt := 55) dX3_fallDown_22 (by decide) ?_ ?_
  · exact aw_vret C hr dX3_fallDown_55
  · refine aw_iload_n C dX3_fallDown_25 rfl ?_
    refine aw_bipush C (12 : Int32) dX3_fallDown_26 (by decide) ?_
    refine aw_icmp_ge C (tgt := 55) dX3_fallDown_28 (by decide) ?_ ?_
    · refine aw_aload_n C dX3_fallDown_31 rfl ?_
      refine aw_getR C (r := h + 6) clX3 (hl_o hh) 11 rfl (by decide) kf_X3_27 dX3_fallDown_32 ?_
      refine aw_iload_n C dX3_fallDown_35 rfl ?_
      refine aw_iload_n C dX3_fallDown_36 rfl ?_
      refine aw_iast C (hl_6 hh) dX3_fallDown_37 ?_
      refine aw_mlet (fun M1 => ?_)
      refine aw_aload_n C dX3_fallDown_38 rfl ?_
      refine aw_getR C (r := h + 7) clX3 (hl_o hh) 12 rfl (by decide) kf_X3_30 dX3_fallDown_39 ?_
      refine aw_iload_n C dX3_fallDown_42 rfl ?_
      refine aw_iload_n C dX3_fallDown_43 rfl ?_
      refine aw_iast C (hl_7 hh) dX3_fallDown_44 ?_
      refine aw_mlet (fun M2 => ?_)
      refine aw_aload_n C dX3_fallDown_45 rfl ?_
      refine aw_dup C dX3_fallDown_46 rfl ?_
      refine aw_getI C clX3 (hl_o hh) 5 rfl (by decide) kf_X3_49 dX3_fallDown_47 ?_
      refine aw_iconst C (1 : Int32) dX3_fallDown_50 (by decide) ?_
      refine aw_isub C dX3_fallDown_51 ?_
      refine aw_putI C clX3 (hl_o hh) 5 rfl (by decide) rfl rfl kf_X3_49 dX3_fallDown_52 ?_
      refine aw_mlet (fun M3 => ?_)
      exact aw_vret C hr dX3_fallDown_55
    · exact aw_vret C hr dX3_fallDown_55
theorem m_X3_fallDown  (h : Nat) (hh : isHl h) (x1 : Int32) (M : Mem) : AMet 1 yX3_fallDown cX3_fallDown 3 none lyX [.ref h, .int x1] M (qV lyX) (X3_fallDown h x1 M) := by
  refine am_ent pn_X3 (Nat.le_of_ble_eq_true rfl) (fun E C hr => ?_)
  refine aw_lv (lv' := [(0, .ref h), (1, .int x1)]) rfl ?_
  unfold X3_fallDown
  refine aw_aload_n C dX3_fallDown_0 rfl ?_
  refine aw_getI C clX3 (hl_o hh) 4 rfl (by decide) kf_X3_46 dX3_fallDown_1 ?_
  refine aw_if_ne C (tgt := 11) dX3_fallDown_4 (by decide) ?_ ?_
  · refine aw_iconst C (0 : Int32) dX3_fallDown_7 (by decide) ?_
    refine aw_goto C (tgt := 20) dX3_fallDown_8 (by decide) ?_
    exact m_X3_fallDown_20 C hr h hh x1 (0 : Int32) M
  · refine aw_aload_n C dX3_fallDown_11 rfl ?_
    refine aw_getI C clX3 (hl_o hh) 0 rfl (by decide) kf_X3_33 dX3_fallDown_12 ?_
    refine aw_aload_n C dX3_fallDown_15 rfl ?_
    refine aw_getI C clX3 (hl_o hh) 4 rfl (by decide) kf_X3_46 dX3_fallDown_16 ?_
    refine aw_isub C dX3_fallDown_19 ?_
    exact m_X3_fallDown_20 C hr h hh x1 ((M h 0) - (M h 4)) M
def X3_dropFirst_2 (h : Nat) : Nat → Int32 → Mem → Option (Mem)
  | 0, _, _ => none
  | f + 1, x1, M =>
    if x1 < (M h 1) then
      Option.bind (X3_isInCart h M x1) fun r1 =>
      if r1 = 0 then
        X3_dropFirst_2 h f (x1 + (1 : Int32)) M
      else
        Option.bind (X3_fallDown h x1 M) fun M2 =>
        some M2
    else
      some M
def X3_dropFirst (h : Nat)  (M : Mem) : Option (Mem) :=
  X3_dropFirst_2 h am_fuel (0 : Int32) M
theorem m_X3_dropFirst_2 {E : amE} (C : amC E 2 cX3_dropFirst 2 RX3) (hr : (eH E).sig.returnType = none) (h : Nat) (hh : isHl h) : ∀ (f : Nat) (x1 : Int32) (M : Mem), AW E lyX 2 (qV lyX) (X3_dropFirst_2 h f x1 M) 2 [(0, .ref h), (1, .int x1)] [] M := by
  intro f
  induction f with
  | zero => exact (fun _ _ => aw_none)
  | succ f ih =>
    intro x1 M
    rw [X3_dropFirst_2]
    refine aw_iload_n C dX3_dropFirst_2 rfl ?_
    refine aw_aload_n C dX3_dropFirst_3 rfl ?_
    refine aw_getI C clX3 (hl_o hh) 1 rfl (by decide) kf_X3_37 dX3_dropFirst_4 ?_
    refine aw_icmp_ge C (tgt := 30) dX3_dropFirst_7 (by decide) ?_ ?_
    · refine aw_aload_n C dX3_dropFirst_10 rfl ?_
      refine aw_iload_n C dX3_dropFirst_11 rfl ?_
      refine aw_cVIp C [.int x1] [] (m_X3_isInCart h hh M x1) v_X3_isInCart km_X3_72 (by decide) (hl_o hh) rfl rfl rfl (Nat.le_of_ble_eq_true rfl) dX3_dropFirst_12 (fun r1 => ?_)
      refine aw_if_eq C (tgt := 24) dX3_dropFirst_15 (by decide) ?_ ?_
      · refine aw_iinc C (v := (1 : Int32)) [(1, .int (x1 + (1 : Int32))), (0, .ref h)] dX3_dropFirst_24 rfl (by decide) (by decide) rfl ?_
        refine aw_goto C (tgt := 2) dX3_dropFirst_27 (by decide) ?_
        refine aw_sub [1, 0] rfl ?_
        exact ih (x1 + (1 : Int32)) M
      · refine aw_aload_n C dX3_dropFirst_18 rfl ?_
        refine aw_iload_n C dX3_dropFirst_19 rfl ?_
        refine aw_cVV C [.int x1] [] (m_X3_fallDown h hh x1 M) v_X3_fallDown km_X3_122 (by decide) (hl_o hh) rfl rfl rfl (Nat.le_of_ble_eq_true rfl) dX3_dropFirst_20 (fun M2 => ?_)
        exact aw_vret C hr dX3_dropFirst_23
    · exact aw_vret C hr dX3_dropFirst_30
theorem m_X3_dropFirst  (h : Nat) (hh : isHl h)  (M : Mem) : AMet 2 yX3_dropFirst cX3_dropFirst 2 none lyX [.ref h] M (qV lyX) (X3_dropFirst h M) := by
  refine am_ent pn_X3 (Nat.le_of_ble_eq_true rfl) (fun E C hr => ?_)
  refine aw_lv (lv' := [(0, .ref h)]) rfl ?_
  unfold X3_dropFirst
  refine aw_iconst C (0 : Int32) dX3_dropFirst_0 (by decide) ?_
  refine aw_istore_n C [(1, .int (0 : Int32)), (0, .ref h)] dX3_dropFirst_1 (by decide) rfl ?_
  refine aw_sub [1, 0] rfl ?_
  exact m_X3_dropFirst_2 C hr h hh am_fuel (0 : Int32) M
def X3_isAlone_54 (h : Nat) (M : Mem) (K2 : Int32 → Int32 → Option (Int32)) (x1 : Int32) (x2 : Int32) (s0 : Int32) : Option (Int32) :=
  if x2 = x1 then
    K2 x1 (x2 + (1 : Int32))
  else
    if am_in x2 6 = true then
      if (M (h + 4) x2.toNatClampNeg) = (-1000000 : Int32) then
        if (1 : Int32) < s0 then
          if s0 = ((M h 0) - (1 : Int32)) then
            some (0 : Int32)
          else
            K2 x1 (x2 + (1 : Int32))
        else
          some (0 : Int32)
      else
        K2 x1 (x2 + (1 : Int32))
    else none
def X3_isAlone_2 (h : Nat) (M : Mem) : Nat → Int32 → Int32 → Option (Int32)
  | 0, _, _ => none
  | f + 1, x1, x2 =>
    if x2 < (M h 1) then
      if am_in x2 6 = true then
        if am_in x1 6 = true then
          if (M (h + 2) x1.toNatClampNeg) < (M (h + 2) x2.toNatClampNeg) then
            if am_in x2 6 = true then
              if am_in x1 6 = true then
                X3_isAlone_54 h M (X3_isAlone_2 h M f) x1 x2 ((M (h + 2) x2.toNatClampNeg) - (M (h + 2) x1.toNatClampNeg))
              else none
            else none
          else
            if am_in x1 6 = true then
              if am_in x2 6 = true then
                X3_isAlone_54 h M (X3_isAlone_2 h M f) x1 x2 ((M (h + 2) x1.toNatClampNeg) - (M (h + 2) x2.toNatClampNeg))
              else none
            else none
        else none
      else none
    else
      some (1 : Int32)
def X3_isAlone (h : Nat) (M : Mem) (x1 : Int32)  : Option (Int32) :=
  X3_isAlone_2 h M am_fuel x1 (0 : Int32)
theorem m_X3_isAlone_54 {E : amE} (C : amC E 1 cX3_isAlone 4 RX3) (hr : (eH E).sig.returnType = (some .boolean)) (h : Nat) (hh : isHl h) (M : Mem) (K2 : Int32 → Int32 → Option (Int32)) (hK2 : ∀ (x1 : Int32) (x2 : Int32), AW E lyX 4 (qIp lyX M) (K2 x1 x2) 2 [(0, .ref h), (1, .int x1), (2, .int x2)] [] M) (x1 : Int32) (x2 : Int32) (s0 : Int32) : AW E lyX 4 (qIp lyX M) (X3_isAlone_54 h M K2 x1 x2 s0) 54 [(0, .ref h), (1, .int x1), (2, .int x2)] [.int s0] M := by
  unfold X3_isAlone_54
  refine aw_istore_n C [(3, .int s0), (0, .ref h), (1, .int x1), (2, .int x2)] dX3_isAlone_54 (by decide) rfl ?_
  refine aw_iload_n C dX3_isAlone_55 rfl ?_
  refine aw_iload_n C dX3_isAlone_56 rfl ?_
  refine aw_icmp_eq C (tgt := 88) dX3_isAlone_57 (by decide) ?_ ?_
  · refine aw_iinc C (v := (1 : Int32)) [(2, .int (x2 + (1 : Int32))), (3, .int s0), (0, .ref h), (1, .int x1)] dX3_isAlone_88 rfl (by decide) (by decide) rfl ?_
    refine aw_goto C (tgt := 2) dX3_isAlone_91 (by decide) ?_
    refine aw_sub [2, 3, 0] rfl ?_
    exact hK2 x1 (x2 + (1 : Int32))
  · refine aw_aload_n C dX3_isAlone_60 rfl ?_
    refine aw_getR C (r := h + 4) clX3 (hl_o hh) 9 rfl (by decide) kf_X3_21 dX3_isAlone_61 ?_
    refine aw_iload_n C dX3_isAlone_64 rfl ?_
    refine aw_iald C (hl_4 hh) dX3_isAlone_65 ?_
    refine aw_ldc C kc_X3_52 dX3_isAlone_66 ?_
    refine aw_icmp_ne C (tgt := 88) dX3_isAlone_68 (by decide) ?_ ?_
    · refine aw_iload_n C dX3_isAlone_71 rfl ?_
      refine aw_iconst C (1 : Int32) dX3_isAlone_72 (by decide) ?_
      refine aw_icmp_le C (tgt := 86) dX3_isAlone_73 (by decide) ?_ ?_
      · refine aw_iload_n C dX3_isAlone_76 rfl ?_
        refine aw_aload_n C dX3_isAlone_77 rfl ?_
        refine aw_getI C clX3 (hl_o hh) 0 rfl (by decide) kf_X3_33 dX3_isAlone_78 ?_
        refine aw_iconst C (1 : Int32) dX3_isAlone_81 (by decide) ?_
        refine aw_isub C dX3_isAlone_82 ?_
        refine aw_icmp_ne C (tgt := 88) dX3_isAlone_83 (by decide) ?_ ?_
        · refine aw_iconst C (0 : Int32) dX3_isAlone_86 (by decide) ?_
          exact aw_zretp C (Or.inl rfl) hr dX3_isAlone_87
        · refine aw_iinc C (v := (1 : Int32)) [(2, .int (x2 + (1 : Int32))), (3, .int s0), (0, .ref h), (1, .int x1)] dX3_isAlone_88 rfl (by decide) (by decide) rfl ?_
          refine aw_goto C (tgt := 2) dX3_isAlone_91 (by decide) ?_
          refine aw_sub [2, 3, 0] rfl ?_
          exact hK2 x1 (x2 + (1 : Int32))
      · refine aw_iconst C (0 : Int32) dX3_isAlone_86 (by decide) ?_
        exact aw_zretp C (Or.inl rfl) hr dX3_isAlone_87
    · refine aw_iinc C (v := (1 : Int32)) [(2, .int (x2 + (1 : Int32))), (3, .int s0), (0, .ref h), (1, .int x1)] dX3_isAlone_88 rfl (by decide) (by decide) rfl ?_
      refine aw_goto C (tgt := 2) dX3_isAlone_91 (by decide) ?_
      refine aw_sub [2, 3, 0] rfl ?_
      exact hK2 x1 (x2 + (1 : Int32))
theorem m_X3_isAlone_2 {E : amE} (C : amC E 1 cX3_isAlone 4 RX3) (hr : (eH E).sig.returnType = (some .boolean)) (h : Nat) (hh : isHl h) (M : Mem) : ∀ (f : Nat) (x1 : Int32) (x2 : Int32), AW E lyX 4 (qIp lyX M) (X3_isAlone_2 h M f x1 x2) 2 [(0, .ref h), (1, .int x1), (2, .int x2)] [] M := by
  intro f
  induction f with
  | zero => exact (fun _ _ => aw_none)
  | succ f ih =>
    intro x1 x2
    rw [X3_isAlone_2]
    refine aw_iload_n C dX3_isAlone_2 rfl ?_
    refine aw_aload_n C dX3_isAlone_3 rfl ?_
    refine aw_getI C clX3 (hl_o hh) 1 rfl (by decide) kf_X3_37 dX3_isAlone_4 ?_
    refine aw_icmp_ge C (tgt := 94) dX3_isAlone_7 (by decide) ?_ ?_
    · refine aw_aload_n C dX3_isAlone_10 rfl ?_
      refine aw_getR C (r := h + 2) clX3 (hl_o hh) 7 rfl (by decide) kf_X3_15 dX3_isAlone_11 ?_
      refine aw_iload_n C dX3_isAlone_14 rfl ?_
      refine aw_iald C (hl_2 hh) dX3_isAlone_15 ?_
      refine aw_aload_n C dX3_isAlone_16 rfl ?_
      refine aw_getR C (r := h + 2) clX3 (hl_o hh) 7 rfl (by decide) kf_X3_15 dX3_isAlone_17 ?_
      refine aw_iload_n C dX3_isAlone_20 rfl ?_
      refine aw_iald C (hl_2 hh) dX3_isAlone_21 ?_
      refine aw_icmp_le C (tgt := 41) dX3_isAlone_22 (by decide) ?_ ?_
      · refine aw_aload_n C dX3_isAlone_25 rfl ?_
        refine aw_getR C (r := h + 2) clX3 (hl_o hh) 7 rfl (by decide) kf_X3_15 dX3_isAlone_26 ?_
        refine aw_iload_n C dX3_isAlone_29 rfl ?_
        refine aw_iald C (hl_2 hh) dX3_isAlone_30 ?_
        refine aw_aload_n C dX3_isAlone_31 rfl ?_
        refine aw_getR C (r := h + 2) clX3 (hl_o hh) 7 rfl (by decide) kf_X3_15 dX3_isAlone_32 ?_
        refine aw_iload_n C dX3_isAlone_35 rfl ?_
        refine aw_iald C (hl_2 hh) dX3_isAlone_36 ?_
        refine aw_isub C dX3_isAlone_37 ?_
        refine aw_goto C (tgt := 54) dX3_isAlone_38 (by decide) ?_
        exact m_X3_isAlone_54 C hr h hh M (X3_isAlone_2 h M f) ih x1 x2 ((M (h + 2) x2.toNatClampNeg) - (M (h + 2) x1.toNatClampNeg))
      · refine aw_aload_n C dX3_isAlone_41 rfl ?_
        refine aw_getR C (r := h + 2) clX3 (hl_o hh) 7 rfl (by decide) kf_X3_15 dX3_isAlone_42 ?_
        refine aw_iload_n C dX3_isAlone_45 rfl ?_
        refine aw_iald C (hl_2 hh) dX3_isAlone_46 ?_
        refine aw_aload_n C dX3_isAlone_47 rfl ?_
        refine aw_getR C (r := h + 2) clX3 (hl_o hh) 7 rfl (by decide) kf_X3_15 dX3_isAlone_48 ?_
        refine aw_iload_n C dX3_isAlone_51 rfl ?_
        refine aw_iald C (hl_2 hh) dX3_isAlone_52 ?_
        refine aw_isub C dX3_isAlone_53 ?_
        exact m_X3_isAlone_54 C hr h hh M (X3_isAlone_2 h M f) ih x1 x2 ((M (h + 2) x1.toNatClampNeg) - (M (h + 2) x2.toNatClampNeg))
    · refine aw_iconst C (1 : Int32) dX3_isAlone_94 (by decide) ?_
      exact aw_zretp C (Or.inr rfl) hr dX3_isAlone_95
theorem m_X3_isAlone  (h : Nat) (hh : isHl h) (M : Mem) (x1 : Int32)  : AMet 1 yX3_isAlone cX3_isAlone 4 (some .boolean) lyX [.ref h, .int x1] M (qIp lyX M) (X3_isAlone h M x1) := by
  refine am_ent pn_X3 (Nat.le_of_ble_eq_true rfl) (fun E C hr => ?_)
  refine aw_lv (lv' := [(0, .ref h), (1, .int x1)]) rfl ?_
  unfold X3_isAlone
  refine aw_iconst C (0 : Int32) dX3_isAlone_0 (by decide) ?_
  refine aw_istore_n C [(2, .int (0 : Int32)), (0, .ref h), (1, .int x1)] dX3_isAlone_1 (by decide) rfl ?_
  refine aw_sub [1, 2, 0] rfl ?_
  exact m_X3_isAlone_2 C hr h hh M am_fuel x1 (0 : Int32)
def X3_wants (h : Nat) (M : Mem) (x1 : Int32) (x2 : Int32)  : Option (Int32) :=
  if am_in x1 6 = true then
    if M (h + 1) x1.toNatClampNeg = (1 : Int32) then
      if x2 = x1 then
        some (1 : Int32)
      else
        some (0 : Int32)
    else
    if M (h + 1) x1.toNatClampNeg = (2 : Int32) then
      if x2 = x1 then
        Option.bind (X3_isAlone h M x1) fun r2 =>
        if r2 = 0 then
          some (0 : Int32)
        else
          some (1 : Int32)
      else
        some (0 : Int32)
    else
    if M (h + 1) x1.toNatClampNeg = (3 : Int32) then
      if am_in x2 6 = true then
        if am_in x1 6 = true then
          if (M (h + 5) x2.toNatClampNeg) = (M (h + 5) x1.toNatClampNeg) then
            some (1 : Int32)
          else
            some (0 : Int32)
        else none
      else none
    else
    if M (h + 1) x1.toNatClampNeg = (4 : Int32) then
      if x2 = x1 then
        if am_in x1 6 = true then
          if (M (h + 3) x1.toNatClampNeg) < (2 : Int32) then
            some (0 : Int32)
          else
            some (1 : Int32)
        else none
      else
        some (0 : Int32)
    else
    if M (h + 1) x1.toNatClampNeg = (5 : Int32) then
      if x2 = x1 then
        if am_in x1 6 = true then
          if (M (h + 3) x1.toNatClampNeg) < (3 : Int32) then
            some (0 : Int32)
          else
            some (1 : Int32)
        else none
      else
        some (0 : Int32)
    else
    some (0 : Int32)
  else none
theorem m_X3_wants  (h : Nat) (hh : isHl h) (M : Mem) (x1 : Int32) (x2 : Int32)  : AMet 2 yX3_wants cX3_wants 3 (some .boolean) lyX [.ref h, .int x1, .int x2] M (qIp lyX M) (X3_wants h M x1 x2) := by
  refine am_ent pn_X3 (Nat.le_of_ble_eq_true rfl) (fun E C hr => ?_)
  refine aw_lv (lv' := [(0, .ref h), (1, .int x1), (2, .int x2)]) rfl ?_
  unfold X3_wants
  refine aw_aload_n C dX3_wants_0 rfl ?_
  refine aw_getR C (r := h + 1) clX3 (hl_o hh) 6 rfl (by decide) kf_X3_9 dX3_wants_1 ?_
  refine aw_iload_n C dX3_wants_4 rfl ?_
  refine aw_iald C (hl_1 hh) dX3_wants_5 ?_
  refine aw_ite (fun h1 => ?_) (fun h1 => ?_)
  · refine aw_tswIn C (tgt := 40) (1 : Int32) h1 dX3_wants_6 (by decide) (by decide) rfl (by decide) ?_
    refine aw_iload_n C dX3_wants_40 rfl ?_
    refine aw_iload_n C dX3_wants_41 rfl ?_
    refine aw_icmp_ne C (tgt := 49) dX3_wants_42 (by decide) ?_ ?_
    · refine aw_iconst C (1 : Int32) dX3_wants_45 (by decide) ?_
      refine aw_goto C (tgt := 50) dX3_wants_46 (by decide) ?_
      exact aw_zretp C (Or.inr rfl) hr dX3_wants_50
    · refine aw_iconst C (0 : Int32) dX3_wants_49 (by decide) ?_
      exact aw_zretp C (Or.inl rfl) hr dX3_wants_50
  refine aw_ite (fun h3 => ?_) (fun h3 => ?_)
  · refine aw_tswIn C (tgt := 51) (2 : Int32) h3 dX3_wants_6 (by decide) (by decide) rfl (by decide) ?_
    refine aw_iload_n C dX3_wants_51 rfl ?_
    refine aw_iload_n C dX3_wants_52 rfl ?_
    refine aw_icmp_ne C (tgt := 68) dX3_wants_53 (by decide) ?_ ?_
    · refine aw_aload_n C dX3_wants_56 rfl ?_
      refine aw_iload_n C dX3_wants_57 rfl ?_
      refine aw_cVIp C [.int x1] [] (m_X3_isAlone h hh M x1) v_X3_isAlone km_X3_135 (by decide) (hl_o hh) rfl rfl rfl (Nat.le_of_ble_eq_true rfl) dX3_wants_58 (fun r2 => ?_)
      refine aw_if_eq C (tgt := 68) dX3_wants_61 (by decide) ?_ ?_
      · refine aw_iconst C (0 : Int32) dX3_wants_68 (by decide) ?_
        exact aw_zretp C (Or.inl rfl) hr dX3_wants_69
      · refine aw_iconst C (1 : Int32) dX3_wants_64 (by decide) ?_
        refine aw_goto C (tgt := 69) dX3_wants_65 (by decide) ?_
        exact aw_zretp C (Or.inr rfl) hr dX3_wants_69
    · refine aw_iconst C (0 : Int32) dX3_wants_68 (by decide) ?_
      exact aw_zretp C (Or.inl rfl) hr dX3_wants_69
  refine aw_ite (fun h4 => ?_) (fun h4 => ?_)
  · refine aw_tswIn C (tgt := 70) (3 : Int32) h4 dX3_wants_6 (by decide) (by decide) rfl (by decide) ?_
    refine aw_aload_n C dX3_wants_70 rfl ?_
    refine aw_getR C (r := h + 5) clX3 (hl_o hh) 10 rfl (by decide) kf_X3_24 dX3_wants_71 ?_
    refine aw_iload_n C dX3_wants_74 rfl ?_
    refine aw_iald C (hl_5 hh) dX3_wants_75 ?_
    refine aw_aload_n C dX3_wants_76 rfl ?_
    refine aw_getR C (r := h + 5) clX3 (hl_o hh) 10 rfl (by decide) kf_X3_24 dX3_wants_77 ?_
    refine aw_iload_n C dX3_wants_80 rfl ?_
    refine aw_iald C (hl_5 hh) dX3_wants_81 ?_
    refine aw_icmp_ne C (tgt := 89) dX3_wants_82 (by decide) ?_ ?_
    · refine aw_iconst C (1 : Int32) dX3_wants_85 (by decide) ?_
      refine aw_goto C (tgt := 90) dX3_wants_86 (by decide) ?_
      exact aw_zretp C (Or.inr rfl) hr dX3_wants_90
    · refine aw_iconst C (0 : Int32) dX3_wants_89 (by decide) ?_
      exact aw_zretp C (Or.inl rfl) hr dX3_wants_90
  refine aw_ite (fun h5 => ?_) (fun h5 => ?_)
  · refine aw_tswIn C (tgt := 91) (4 : Int32) h5 dX3_wants_6 (by decide) (by decide) rfl (by decide) ?_
    refine aw_iload_n C dX3_wants_91 rfl ?_
    refine aw_iload_n C dX3_wants_92 rfl ?_
    refine aw_icmp_ne C (tgt := 110) dX3_wants_93 (by decide) ?_ ?_
    · refine aw_aload_n C dX3_wants_96 rfl ?_
      refine aw_getR C (r := h + 3) clX3 (hl_o hh) 8 rfl (by decide) kf_X3_18 dX3_wants_97 ?_
      refine aw_iload_n C dX3_wants_100 rfl ?_
      refine aw_iald C (hl_3 hh) dX3_wants_101 ?_
      refine aw_iconst C (2 : Int32) dX3_wants_102 (by decide) ?_
      refine aw_icmp_lt C (tgt := 110) dX3_wants_103 (by decide) ?_ ?_
      · refine aw_iconst C (0 : Int32) dX3_wants_110 (by decide) ?_
        exact aw_zretp C (Or.inl rfl) hr dX3_wants_111
      · refine aw_iconst C (1 : Int32) dX3_wants_106 (by decide) ?_
        refine aw_goto C (tgt := 111) dX3_wants_107 (by decide) ?_
        exact aw_zretp C (Or.inr rfl) hr dX3_wants_111
    · refine aw_iconst C (0 : Int32) dX3_wants_110 (by decide) ?_
      exact aw_zretp C (Or.inl rfl) hr dX3_wants_111
  refine aw_ite (fun h6 => ?_) (fun h6 => ?_)
  · refine aw_tswIn C (tgt := 112) (5 : Int32) h6 dX3_wants_6 (by decide) (by decide) rfl (by decide) ?_
    refine aw_iload_n C dX3_wants_112 rfl ?_
    refine aw_iload_n C dX3_wants_113 rfl ?_
    refine aw_icmp_ne C (tgt := 131) dX3_wants_114 (by decide) ?_ ?_
    · refine aw_aload_n C dX3_wants_117 rfl ?_
      refine aw_getR C (r := h + 3) clX3 (hl_o hh) 8 rfl (by decide) kf_X3_18 dX3_wants_118 ?_
      refine aw_iload_n C dX3_wants_121 rfl ?_
      refine aw_iald C (hl_3 hh) dX3_wants_122 ?_
      refine aw_iconst C (3 : Int32) dX3_wants_123 (by decide) ?_
      refine aw_icmp_lt C (tgt := 131) dX3_wants_124 (by decide) ?_ ?_
      · refine aw_iconst C (0 : Int32) dX3_wants_131 (by decide) ?_
        exact aw_zretp C (Or.inl rfl) hr dX3_wants_132
      · refine aw_iconst C (1 : Int32) dX3_wants_127 (by decide) ?_
        refine aw_goto C (tgt := 132) dX3_wants_128 (by decide) ?_
        exact aw_zretp C (Or.inr rfl) hr dX3_wants_132
    · refine aw_iconst C (0 : Int32) dX3_wants_131 (by decide) ?_
      exact aw_zretp C (Or.inl rfl) hr dX3_wants_132
  have q_h1 := lv_neT h1 (a := 1) (by decide)
  have q_h3 := lv_neT h3 (a := 2) (by decide)
  have q_h4 := lv_neT h4 (a := 3) (by decide)
  have q_h5 := lv_neT h5 (a := 4) (by decide)
  have q_h6 := lv_neT h6 (a := 5) (by decide)
  refine aw_tswOut C (tgt := 133) dX3_wants_6 (by omega) (by decide) ?_
  refine aw_iconst C (0 : Int32) dX3_wants_133 (by decide) ?_
  exact aw_zretp C (Or.inl rfl) hr dX3_wants_134
def X3_take (h : Nat) (x1 : Int32) (x2 : Int32) (M : Mem) : Option (Mem) :=
  Option.bind (X3_isOnBelt h M x2) fun r1 =>
  if r1 = 0 then
    some M
  else
    if am_in x2 6 = true then
      if am_in (M (h + 6) x2.toNatClampNeg) 12 = true then
        am_let (mset M (h + 7) (upd (M (h + 7)) (M (h + 6) x2.toNatClampNeg).toNatClampNeg (-1000000 : Int32))) fun M2 =>
        if am_in x2 6 = true then
          am_let (mset M2 (h + 6) (upd (M2 (h + 6)) x2.toNatClampNeg ((30 : Int32) + x1))) fun M3 =>
          if am_in x1 6 = true then
            am_let (mset M3 (h + 4) (upd (M3 (h + 4)) x1.toNatClampNeg x2)) fun M4 =>
            some M4
          else none
        else none
      else none
    else none
theorem m_X3_take  (h : Nat) (hh : isHl h) (x1 : Int32) (x2 : Int32) (M : Mem) : AMet 2 yX3_take cX3_take 3 none lyX [.ref h, .int x1, .int x2] M (qV lyX) (X3_take h x1 x2 M) := by
  refine am_ent pn_X3 (Nat.le_of_ble_eq_true rfl) (fun E C hr => ?_)
  refine aw_lv (lv' := [(0, .ref h), (1, .int x1), (2, .int x2)]) rfl ?_
  unfold X3_take
  refine aw_aload_n C dX3_take_0 rfl ?_
  refine aw_iload_n C dX3_take_1 rfl ?_
  refine aw_cVIp C [.int x2] [] (m_X3_isOnBelt h hh M x2) v_X3_isOnBelt km_X3_68 (by decide) (hl_o hh) rfl rfl rfl (Nat.le_of_ble_eq_true rfl) dX3_take_2 (fun r1 => ?_)
  refine aw_if_eq C (tgt := 38) dX3_take_5 (by decide) ?_ ?_
  · exact aw_vret C hr dX3_take_38
  · refine aw_aload_n C dX3_take_8 rfl ?_
    refine aw_getR C (r := h + 7) clX3 (hl_o hh) 12 rfl (by decide) kf_X3_30 dX3_take_9 ?_
    refine aw_aload_n C dX3_take_12 rfl ?_
    refine aw_getR C (r := h + 6) clX3 (hl_o hh) 11 rfl (by decide) kf_X3_27 dX3_take_13 ?_
    refine aw_iload_n C dX3_take_16 rfl ?_
    refine aw_iald C (hl_6 hh) dX3_take_17 ?_
    refine aw_ldc C kc_X3_52 dX3_take_18 ?_
    refine aw_iast C (hl_7 hh) dX3_take_20 ?_
    refine aw_mlet (fun M2 => ?_)
    refine aw_aload_n C dX3_take_21 rfl ?_
    refine aw_getR C (r := h + 6) clX3 (hl_o hh) 11 rfl (by decide) kf_X3_27 dX3_take_22 ?_
    refine aw_iload_n C dX3_take_25 rfl ?_
    refine aw_bipush C (30 : Int32) dX3_take_26 (by decide) ?_
    refine aw_iload_n C dX3_take_28 rfl ?_
    refine aw_iadd C dX3_take_29 ?_
    refine aw_iast C (hl_6 hh) dX3_take_30 ?_
    refine aw_mlet (fun M3 => ?_)
    refine aw_aload_n C dX3_take_31 rfl ?_
    refine aw_getR C (r := h + 4) clX3 (hl_o hh) 9 rfl (by decide) kf_X3_21 dX3_take_32 ?_
    refine aw_iload_n C dX3_take_35 rfl ?_
    refine aw_iload_n C dX3_take_36 rfl ?_
    refine aw_iast C (hl_4 hh) dX3_take_37 ?_
    refine aw_mlet (fun M4 => ?_)
    exact aw_vret C hr dX3_take_38
def X3_letLook_26 (h : Nat) (x1 : Int32) (x2 : Int32) (M : Mem) : Option (Mem) :=
  if x2 = (-1000000 : Int32) then
    some M
  else
    Option.bind (X3_wants h M x1 x2) fun r1 =>
    if r1 = 0 then
      some M
    else
      Option.bind (X3_take h x1 x2 M) fun M2 =>
      some M2
def X3_letLook (h : Nat) (x1 : Int32) (x2 : Int32) (M : Mem) : Option (Mem) :=
  if x2 = x1 then
    if am_in x1 6 = true then
      if (M (h + 3) x1.toNatClampNeg) < (99 : Int32) then
        if am_in x1 6 = true then
          if am_in x1 6 = true then
            am_let (mset M (h + 3) (upd (M (h + 3)) x1.toNatClampNeg ((M (h + 3) x1.toNatClampNeg) + (1 : Int32)))) fun M1 =>
            X3_letLook_26 h x1 x2 M1
          else none
        else none
      else
        X3_letLook_26 h x1 x2 M
    else none
  else
    X3_letLook_26 h x1 x2 M
theorem m_X3_letLook_26 {E : amE} (C : amC E 3 cX3_letLook 3 RX3) (hr : (eH E).sig.returnType = none) (h : Nat) (hh : isHl h) (x1 : Int32) (x2 : Int32) (M : Mem) : AW E lyX 3 (qV lyX) (X3_letLook_26 h x1 x2 M) 26 [(0, .ref h), (1, .int x1), (2, .int x2)] [] M := by
  unfold X3_letLook_26
  refine aw_iload_n C dX3_letLook_26 rfl ?_
  refine aw_ldc C kc_X3_52 dX3_letLook_27 ?_
  refine aw_icmp_eq C (tgt := 47) dX3_letLook_29 (by decide) ?_ ?_
  · exact aw_vret C hr dX3_letLook_47
  · refine aw_aload_n C dX3_letLook_32 rfl ?_
    refine aw_iload_n C dX3_letLook_33 rfl ?_
    refine aw_iload_n C dX3_letLook_34 rfl ?_
    refine aw_cVIp C [.int x1, .int x2] [] (m_X3_wants h hh M x1 x2) v_X3_wants km_X3_129 (by decide) (hl_o hh) rfl rfl rfl (Nat.le_of_ble_eq_true rfl) dX3_letLook_35 (fun r1 => ?_)
    refine aw_if_eq C (tgt := 47) dX3_letLook_38 (by decide) ?_ ?_
    · exact aw_vret C hr dX3_letLook_47
    · refine aw_aload_n C dX3_letLook_41 rfl ?_
      refine aw_iload_n C dX3_letLook_42 rfl ?_
      refine aw_iload_n C dX3_letLook_43 rfl ?_
      refine aw_cVV C [.int x1, .int x2] [] (m_X3_take h hh x1 x2 M) v_X3_take km_X3_132 (by decide) (hl_o hh) rfl rfl rfl (Nat.le_of_ble_eq_true rfl) dX3_letLook_44 (fun M2 => ?_)
      exact aw_vret C hr dX3_letLook_47
theorem m_X3_letLook  (h : Nat) (hh : isHl h) (x1 : Int32) (x2 : Int32) (M : Mem) : AMet 3 yX3_letLook cX3_letLook 3 none lyX [.ref h, .int x1, .int x2] M (qV lyX) (X3_letLook h x1 x2 M) := by
  refine am_ent pn_X3 (Nat.le_of_ble_eq_true rfl) (fun E C hr => ?_)
  refine aw_lv (lv' := [(0, .ref h), (1, .int x1), (2, .int x2)]) rfl ?_
  unfold X3_letLook
  refine aw_iload_n C dX3_letLook_0 rfl ?_
  refine aw_iload_n C dX3_letLook_1 rfl ?_
  refine aw_icmp_ne C (tgt := 26) dX3_letLook_2 (by decide) ?_ ?_
  · refine aw_aload_n C dX3_letLook_5 rfl ?_
    refine aw_getR C (r := h + 3) clX3 (hl_o hh) 8 rfl (by decide) kf_X3_18 dX3_letLook_6 ?_
    refine aw_iload_n C dX3_letLook_9 rfl ?_
    refine aw_iald C (hl_3 hh) dX3_letLook_10 ?_
    refine aw_bipush C (99 : Int32) dX3_letLook_11 (by decide) ?_
    refine aw_icmp_ge C (tgt := 26) dX3_letLook_13 (by decide) ?_ ?_
    · refine aw_aload_n C dX3_letLook_16 rfl ?_
      refine aw_getR C (r := h + 3) clX3 (hl_o hh) 8 rfl (by decide) kf_X3_18 dX3_letLook_17 ?_
      refine aw_iload_n C dX3_letLook_20 rfl ?_
      refine aw_dup2 C dX3_letLook_21 rfl rfl ?_
      refine aw_iald C (hl_3 hh) dX3_letLook_22 ?_
      refine aw_iconst C (1 : Int32) dX3_letLook_23 (by decide) ?_
      refine aw_iadd C dX3_letLook_24 ?_
      refine aw_iast C (hl_3 hh) dX3_letLook_25 ?_
      refine aw_mlet (fun M1 => ?_)
      exact m_X3_letLook_26 C hr h hh x1 x2 M1
    · exact m_X3_letLook_26 C hr h hh x1 x2 M
  · exact m_X3_letLook_26 C hr h hh x1 x2 M
def X3_letTake_2 (h : Nat) : Nat → Int32 → Mem → Option (Mem)
  | 0, _, _ => none
  | f + 1, x1, M =>
    if x1 < (M h 1) then
      if am_in x1 6 = true then
        if (M (h + 4) x1.toNatClampNeg) = (-1000000 : Int32) then
          if (((M h 3) >>> (x1 &&& 31)) &&& (1 : Int32)) = 0 then
            if am_in x1 6 = true then
              Option.bind (X3_bagAt h M (M (h + 2) x1.toNatClampNeg)) fun r1 =>
              Option.bind (X3_letLook h x1 r1 M) fun M2 =>
              X3_letTake_2 h f (x1 + (1 : Int32)) M2
            else none
          else
            X3_letTake_2 h f (x1 + (1 : Int32)) M
        else
          X3_letTake_2 h f (x1 + (1 : Int32)) M
      else none
    else
      am_let (mset M h (upd (M h) 2 ((M h 2) + (1 : Int32)))) fun M3 =>
      some M3
def X3_letTake (h : Nat)  (M : Mem) : Option (Mem) :=
  X3_letTake_2 h am_fuel (0 : Int32) M
theorem m_X3_letTake_2 {E : amE} (C : amC E 4 cX3_letTake 2 RX3) (hr : (eH E).sig.returnType = none) (h : Nat) (hh : isHl h) : ∀ (f : Nat) (x1 : Int32) (M : Mem), AW E lyX 2 (qV lyX) (X3_letTake_2 h f x1 M) 2 [(0, .ref h), (1, .int x1)] [] M := by
  intro f
  induction f with
  | zero => exact (fun _ _ => aw_none)
  | succ f ih =>
    intro x1 M
    rw [X3_letTake_2]
    refine aw_iload_n C dX3_letTake_2 rfl ?_
    refine aw_aload_n C dX3_letTake_3 rfl ?_
    refine aw_getI C clX3 (hl_o hh) 1 rfl (by decide) kf_X3_37 dX3_letTake_4 ?_
    refine aw_icmp_ge C (tgt := 53) dX3_letTake_7 (by decide) ?_ ?_
    · refine aw_aload_n C dX3_letTake_10 rfl ?_
      refine aw_getR C (r := h + 4) clX3 (hl_o hh) 9 rfl (by decide) kf_X3_21 dX3_letTake_11 ?_
      refine aw_iload_n C dX3_letTake_14 rfl ?_
      refine aw_iald C (hl_4 hh) dX3_letTake_15 ?_
      refine aw_ldc C kc_X3_52 dX3_letTake_16 ?_
      refine aw_icmp_ne C (tgt := 47) dX3_letTake_18 (by decide) ?_ ?_
      · refine aw_aload_n C dX3_letTake_21 rfl ?_
        refine aw_getI C clX3 (hl_o hh) 3 rfl (by decide) kf_X3_43 dX3_letTake_22 ?_
        refine aw_iload_n C dX3_letTake_25 rfl ?_
        refine aw_ishr C dX3_letTake_26 ?_
        refine aw_iconst C (1 : Int32) dX3_letTake_27 (by decide) ?_
        refine aw_iand C dX3_letTake_28 ?_
        refine aw_if_ne C (tgt := 47) dX3_letTake_29 (by decide) ?_ ?_
        · refine aw_aload_n C dX3_letTake_32 rfl ?_
          refine aw_iload_n C dX3_letTake_33 rfl ?_
          refine aw_aload_n C dX3_letTake_34 rfl ?_
          refine aw_aload_n C dX3_letTake_35 rfl ?_
          refine aw_getR C (r := h + 2) clX3 (hl_o hh) 7 rfl (by decide) kf_X3_15 dX3_letTake_36 ?_
          refine aw_iload_n C dX3_letTake_39 rfl ?_
          refine aw_iald C (hl_2 hh) dX3_letTake_40 ?_
          refine aw_cVIp C [.int (M (h + 2) x1.toNatClampNeg)] [.int x1, .ref h] (m_X3_bagAt h hh M (M (h + 2) x1.toNatClampNeg)) v_X3_bagAt km_X3_118 (by decide) (hl_o hh) rfl rfl rfl (Nat.le_of_ble_eq_true rfl) dX3_letTake_41 (fun r1 => ?_)
          refine aw_cVV C [.int x1, .int r1] [] (m_X3_letLook h hh x1 r1 M) v_X3_letLook km_X3_125 (by decide) (hl_o hh) rfl rfl rfl (Nat.le_of_ble_eq_true rfl) dX3_letTake_44 (fun M2 => ?_)
          refine aw_iinc C (v := (1 : Int32)) [(1, .int (x1 + (1 : Int32))), (0, .ref h)] dX3_letTake_47 rfl (by decide) (by decide) rfl ?_
          refine aw_goto C (tgt := 2) dX3_letTake_50 (by decide) ?_
          refine aw_sub [1, 0] rfl ?_
          exact ih (x1 + (1 : Int32)) M2
        · refine aw_iinc C (v := (1 : Int32)) [(1, .int (x1 + (1 : Int32))), (0, .ref h)] dX3_letTake_47 rfl (by decide) (by decide) rfl ?_
          refine aw_goto C (tgt := 2) dX3_letTake_50 (by decide) ?_
          refine aw_sub [1, 0] rfl ?_
          exact ih (x1 + (1 : Int32)) M
      · refine aw_iinc C (v := (1 : Int32)) [(1, .int (x1 + (1 : Int32))), (0, .ref h)] dX3_letTake_47 rfl (by decide) (by decide) rfl ?_
        refine aw_goto C (tgt := 2) dX3_letTake_50 (by decide) ?_
        refine aw_sub [1, 0] rfl ?_
        exact ih (x1 + (1 : Int32)) M
    · refine aw_aload_n C dX3_letTake_53 rfl ?_
      refine aw_dup C dX3_letTake_54 rfl ?_
      refine aw_getI C clX3 (hl_o hh) 2 rfl (by decide) kf_X3_40 dX3_letTake_55 ?_
      refine aw_iconst C (1 : Int32) dX3_letTake_58 (by decide) ?_
      refine aw_iadd C dX3_letTake_59 ?_
      refine aw_putI C clX3 (hl_o hh) 2 rfl (by decide) rfl rfl kf_X3_40 dX3_letTake_60 ?_
      refine aw_mlet (fun M3 => ?_)
      exact aw_vret C hr dX3_letTake_63
theorem m_X3_letTake  (h : Nat) (hh : isHl h)  (M : Mem) : AMet 4 yX3_letTake cX3_letTake 2 none lyX [.ref h] M (qV lyX) (X3_letTake h M) := by
  refine am_ent pn_X3 (Nat.le_of_ble_eq_true rfl) (fun E C hr => ?_)
  refine aw_lv (lv' := [(0, .ref h)]) rfl ?_
  unfold X3_letTake
  refine aw_iconst C (0 : Int32) dX3_letTake_0 (by decide) ?_
  refine aw_istore_n C [(1, .int (0 : Int32)), (0, .ref h)] dX3_letTake_1 (by decide) rfl ?_
  refine aw_sub [1, 0] rfl ?_
  exact m_X3_letTake_2 C hr h hh am_fuel (0 : Int32) M
def X3_tickOnce (h : Nat)  (M : Mem) : Option (Mem) :=
  Option.bind (X3_turnBy h (1 : Int32) M) fun M1 =>
  Option.bind (X3_isFallDue h M1) fun r2 =>
  if r2 = 0 then
    Option.bind (X3_letTake h M1) fun M3 =>
    some M3
  else
    Option.bind (X3_dropFirst h M1) fun M4 =>
    Option.bind (X3_letTake h M4) fun M5 =>
    some M5
theorem m_X3_tickOnce  (h : Nat) (hh : isHl h)  (M : Mem) : AMet 5 yX3_tickOnce cX3_tickOnce 1 none lyX [.ref h] M (qV lyX) (X3_tickOnce h M) := by
  refine am_ent pn_X3 (Nat.le_of_ble_eq_true rfl) (fun E C hr => ?_)
  refine aw_lv (lv' := [(0, .ref h)]) rfl ?_
  unfold X3_tickOnce
  refine aw_aload_n C dX3_tickOnce_0 rfl ?_
  refine aw_iconst C (1 : Int32) dX3_tickOnce_1 (by decide) ?_
  refine aw_cVV C [.int (1 : Int32)] [] (m_X3_turnBy h hh (1 : Int32) M) v_X3_turnBy km_X3_98 (by decide) (hl_o hh) rfl rfl rfl (Nat.le_of_ble_eq_true rfl) dX3_tickOnce_2 (fun M1 => ?_)
  refine aw_aload_n C dX3_tickOnce_5 rfl ?_
  refine aw_cVIp C [] [] (m_X3_isFallDue h hh M1) v_X3_isFallDue km_X3_102 (by decide) (hl_o hh) rfl rfl rfl (Nat.le_of_ble_eq_true rfl) dX3_tickOnce_6 (fun r2 => ?_)
  refine aw_if_eq C (tgt := 16) dX3_tickOnce_9 (by decide) ?_ ?_
  · refine aw_aload_n C dX3_tickOnce_16 rfl ?_
    refine aw_cVV C [] [] (m_X3_letTake h hh M1) v_X3_letTake km_X3_109 (by decide) (hl_o hh) rfl rfl rfl (Nat.le_of_ble_eq_true rfl) dX3_tickOnce_17 (fun M3 => ?_)
    exact aw_vret C hr dX3_tickOnce_20
  · refine aw_aload_n C dX3_tickOnce_12 rfl ?_
    refine aw_cVV C [] [] (m_X3_dropFirst h hh M1) v_X3_dropFirst km_X3_106 (by decide) (hl_o hh) rfl rfl rfl (Nat.le_of_ble_eq_true rfl) dX3_tickOnce_13 (fun M4 => ?_)
    refine aw_aload_n C dX3_tickOnce_16 rfl ?_
    refine aw_cVV C [] [] (m_X3_letTake h hh M4) v_X3_letTake km_X3_109 (by decide) (hl_o hh) rfl rfl rfl (Nat.le_of_ble_eq_true rfl) dX3_tickOnce_17 (fun M5 => ?_)
    exact aw_vret C hr dX3_tickOnce_20
def X3_isTaken (h : Nat) (M : Mem) (x1 : Int32)  : Option (Int32) :=
  if am_in x1 6 = true then
    if (M (h + 6) x1.toNatClampNeg) < (30 : Int32) then
      some (0 : Int32)
    else
      some (1 : Int32)
  else none
theorem m_X3_isTaken  (h : Nat) (hh : isHl h) (M : Mem) (x1 : Int32)  : AMet 1 yX3_isTaken cX3_isTaken 2 (some .boolean) lyX [.ref h, .int x1] M (qIp lyX M) (X3_isTaken h M x1) := by
  refine am_ent pn_X3 (Nat.le_of_ble_eq_true rfl) (fun E C hr => ?_)
  refine aw_lv (lv' := [(0, .ref h), (1, .int x1)]) rfl ?_
  unfold X3_isTaken
  refine aw_aload_n C dX3_isTaken_0 rfl ?_
  refine aw_getR C (r := h + 6) clX3 (hl_o hh) 11 rfl (by decide) kf_X3_27 dX3_isTaken_1 ?_
  refine aw_iload_n C dX3_isTaken_4 rfl ?_
  refine aw_iald C (hl_6 hh) dX3_isTaken_5 ?_
  refine aw_bipush C (30 : Int32) dX3_isTaken_6 (by decide) ?_
  refine aw_icmp_lt C (tgt := 15) dX3_isTaken_8 (by decide) ?_ ?_
  · refine aw_iconst C (0 : Int32) dX3_isTaken_15 (by decide) ?_
    exact aw_zretp C (Or.inl rfl) hr dX3_isTaken_16
  · refine aw_iconst C (1 : Int32) dX3_isTaken_11 (by decide) ?_
    refine aw_goto C (tgt := 16) dX3_isTaken_12 (by decide) ?_
    exact aw_zretp C (Or.inr rfl) hr dX3_isTaken_16
def X3_waits (h : Nat) (M : Mem) (x1 : Int32)  : Option (Int32) :=
  if am_in x1 6 = true then
    if (M (h + 4) x1.toNatClampNeg) = (-1000000 : Int32) then
      some (1 : Int32)
    else
      some (0 : Int32)
  else none
theorem m_X3_waits  (h : Nat) (hh : isHl h) (M : Mem) (x1 : Int32)  : AMet 1 yX3_waits cX3_waits 2 (some .boolean) lyX [.ref h, .int x1] M (qIp lyX M) (X3_waits h M x1) := by
  refine am_ent pn_X3 (Nat.le_of_ble_eq_true rfl) (fun E C hr => ?_)
  refine aw_lv (lv' := [(0, .ref h), (1, .int x1)]) rfl ?_
  unfold X3_waits
  refine aw_aload_n C dX3_waits_0 rfl ?_
  refine aw_getR C (r := h + 4) clX3 (hl_o hh) 9 rfl (by decide) kf_X3_21 dX3_waits_1 ?_
  refine aw_iload_n C dX3_waits_4 rfl ?_
  refine aw_iald C (hl_4 hh) dX3_waits_5 ?_
  refine aw_ldc C kc_X3_52 dX3_waits_6 ?_
  refine aw_icmp_ne C (tgt := 15) dX3_waits_8 (by decide) ?_ ?_
  · refine aw_iconst C (1 : Int32) dX3_waits_11 (by decide) ?_
    refine aw_goto C (tgt := 16) dX3_waits_12 (by decide) ?_
    exact aw_zretp C (Or.inr rfl) hr dX3_waits_16
  · refine aw_iconst C (0 : Int32) dX3_waits_15 (by decide) ?_
    exact aw_zretp C (Or.inl rfl) hr dX3_waits_16
def X3_hasOwn (h : Nat) (M : Mem) (x1 : Int32)  : Option (Int32) :=
  if am_in x1 6 = true then
    if (M (h + 4) x1.toNatClampNeg) = x1 then
      some (1 : Int32)
    else
      some (0 : Int32)
  else none
theorem m_X3_hasOwn  (h : Nat) (hh : isHl h) (M : Mem) (x1 : Int32)  : AMet 1 yX3_hasOwn cX3_hasOwn 2 (some .boolean) lyX [.ref h, .int x1] M (qIp lyX M) (X3_hasOwn h M x1) := by
  refine am_ent pn_X3 (Nat.le_of_ble_eq_true rfl) (fun E C hr => ?_)
  refine aw_lv (lv' := [(0, .ref h), (1, .int x1)]) rfl ?_
  unfold X3_hasOwn
  refine aw_aload_n C dX3_hasOwn_0 rfl ?_
  refine aw_getR C (r := h + 4) clX3 (hl_o hh) 9 rfl (by decide) kf_X3_21 dX3_hasOwn_1 ?_
  refine aw_iload_n C dX3_hasOwn_4 rfl ?_
  refine aw_iald C (hl_4 hh) dX3_hasOwn_5 ?_
  refine aw_iload_n C dX3_hasOwn_6 rfl ?_
  refine aw_icmp_ne C (tgt := 14) dX3_hasOwn_7 (by decide) ?_ ?_
  · refine aw_iconst C (1 : Int32) dX3_hasOwn_10 (by decide) ?_
    refine aw_goto C (tgt := 15) dX3_hasOwn_11 (by decide) ?_
    exact aw_zretp C (Or.inr rfl) hr dX3_hasOwn_15
  · refine aw_iconst C (0 : Int32) dX3_hasOwn_14 (by decide) ?_
    exact aw_zretp C (Or.inl rfl) hr dX3_hasOwn_15
def X3_isWrong (h : Nat) (M : Mem) (x1 : Int32)  : Option (Int32) :=
  Option.bind (X3_waits h M x1) fun r1 =>
  if r1 = 0 then
    Option.bind (X3_hasOwn h M x1) fun r2 =>
    if r2 = 0 then
      some (1 : Int32)
    else
      some (0 : Int32)
  else
    some (0 : Int32)
theorem m_X3_isWrong  (h : Nat) (hh : isHl h) (M : Mem) (x1 : Int32)  : AMet 2 yX3_isWrong cX3_isWrong 2 (some .boolean) lyX [.ref h, .int x1] M (qIp lyX M) (X3_isWrong h M x1) := by
  refine am_ent pn_X3 (Nat.le_of_ble_eq_true rfl) (fun E C hr => ?_)
  refine aw_lv (lv' := [(0, .ref h), (1, .int x1)]) rfl ?_
  unfold X3_isWrong
  refine aw_aload_n C dX3_isWrong_0 rfl ?_
  refine aw_iload_n C dX3_isWrong_1 rfl ?_
  refine aw_cVIp C [.int x1] [] (m_X3_waits h hh M x1) v_X3_waits km_X3_75 (by decide) (hl_o hh) rfl rfl rfl (Nat.le_of_ble_eq_true rfl) dX3_isWrong_2 (fun r1 => ?_)
  refine aw_if_ne C (tgt := 20) dX3_isWrong_5 (by decide) ?_ ?_
  · refine aw_aload_n C dX3_isWrong_8 rfl ?_
    refine aw_iload_n C dX3_isWrong_9 rfl ?_
    refine aw_cVIp C [.int x1] [] (m_X3_hasOwn h hh M x1) v_X3_hasOwn km_X3_78 (by decide) (hl_o hh) rfl rfl rfl (Nat.le_of_ble_eq_true rfl) dX3_isWrong_10 (fun r2 => ?_)
    refine aw_if_ne C (tgt := 20) dX3_isWrong_13 (by decide) ?_ ?_
    · refine aw_iconst C (1 : Int32) dX3_isWrong_16 (by decide) ?_
      refine aw_goto C (tgt := 21) dX3_isWrong_17 (by decide) ?_
      exact aw_zretp C (Or.inr rfl) hr dX3_isWrong_21
    · refine aw_iconst C (0 : Int32) dX3_isWrong_20 (by decide) ?_
      exact aw_zretp C (Or.inl rfl) hr dX3_isWrong_21
  · refine aw_iconst C (0 : Int32) dX3_isWrong_20 (by decide) ?_
    exact aw_zretp C (Or.inl rfl) hr dX3_isWrong_21
def X3_isRobbed (h : Nat) (M : Mem) (x1 : Int32)  : Option (Int32) :=
  Option.bind (X3_waits h M x1) fun r1 =>
  if r1 = 0 then
    some (0 : Int32)
  else
    Option.bind (X3_isTaken h M x1) fun r2 =>
    if r2 = 0 then
      some (0 : Int32)
    else
      some (1 : Int32)
theorem m_X3_isRobbed  (h : Nat) (hh : isHl h) (M : Mem) (x1 : Int32)  : AMet 2 yX3_isRobbed cX3_isRobbed 2 (some .boolean) lyX [.ref h, .int x1] M (qIp lyX M) (X3_isRobbed h M x1) := by
  refine am_ent pn_X3 (Nat.le_of_ble_eq_true rfl) (fun E C hr => ?_)
  refine aw_lv (lv' := [(0, .ref h), (1, .int x1)]) rfl ?_
  unfold X3_isRobbed
  refine aw_aload_n C dX3_isRobbed_0 rfl ?_
  refine aw_iload_n C dX3_isRobbed_1 rfl ?_
  refine aw_cVIp C [.int x1] [] (m_X3_waits h hh M x1) v_X3_waits km_X3_75 (by decide) (hl_o hh) rfl rfl rfl (Nat.le_of_ble_eq_true rfl) dX3_isRobbed_2 (fun r1 => ?_)
  refine aw_if_eq C (tgt := 20) dX3_isRobbed_5 (by decide) ?_ ?_
  · refine aw_iconst C (0 : Int32) dX3_isRobbed_20 (by decide) ?_
    exact aw_zretp C (Or.inl rfl) hr dX3_isRobbed_21
  · refine aw_aload_n C dX3_isRobbed_8 rfl ?_
    refine aw_iload_n C dX3_isRobbed_9 rfl ?_
    refine aw_cVIp C [.int x1] [] (m_X3_isTaken h hh M x1) v_X3_isTaken km_X3_81 (by decide) (hl_o hh) rfl rfl rfl (Nat.le_of_ble_eq_true rfl) dX3_isRobbed_10 (fun r2 => ?_)
    refine aw_if_eq C (tgt := 20) dX3_isRobbed_13 (by decide) ?_ ?_
    · refine aw_iconst C (0 : Int32) dX3_isRobbed_20 (by decide) ?_
      exact aw_zretp C (Or.inl rfl) hr dX3_isRobbed_21
    · refine aw_iconst C (1 : Int32) dX3_isRobbed_16 (by decide) ?_
      refine aw_goto C (tgt := 21) dX3_isRobbed_17 (by decide) ?_
      exact aw_zretp C (Or.inr rfl) hr dX3_isRobbed_21
def X3_isIn (h : Nat) (M : Mem) (x1 : Int32) (x2 : Int32)  : Option (Int32) :=
  if x1 = (1 : Int32) then
    Option.bind (X3_isInCart h M x2) fun r1 =>
    if r1 = 0 ∨ r1 = 1 then some r1 else none
  else
  if x1 = (2 : Int32) then
    Option.bind (X3_isOnBelt h M x2) fun r3 =>
    if r3 = 0 ∨ r3 = 1 then some r3 else none
  else
  if x1 = (3 : Int32) then
    Option.bind (X3_isTaken h M x2) fun r5 =>
    if r5 = 0 ∨ r5 = 1 then some r5 else none
  else
  if x1 = (4 : Int32) then
    Option.bind (X3_waits h M x2) fun r7 =>
    if r7 = 0 ∨ r7 = 1 then some r7 else none
  else
  if x1 = (5 : Int32) then
    Option.bind (X3_isWrong h M x2) fun r9 =>
    if r9 = 0 ∨ r9 = 1 then some r9 else none
  else
  if x1 = (6 : Int32) then
    Option.bind (X3_isRobbed h M x2) fun r11 =>
    if r11 = 0 ∨ r11 = 1 then some r11 else none
  else
  if x1 = (7 : Int32) then
    Option.bind (X3_waits h M x2) fun r13 =>
    if r13 = 0 then
      some (1 : Int32)
    else
      some (0 : Int32)
  else
  some (0 : Int32)
theorem m_X3_isIn  (h : Nat) (hh : isHl h) (M : Mem) (x1 : Int32) (x2 : Int32)  : AMet 3 yX3_isIn cX3_isIn 3 (some .boolean) lyX [.ref h, .int x1, .int x2] M (qIp lyX M) (X3_isIn h M x1 x2) := by
  refine am_ent pn_X3 (Nat.le_of_ble_eq_true rfl) (fun E C hr => ?_)
  refine aw_lv (lv' := [(0, .ref h), (1, .int x1), (2, .int x2)]) rfl ?_
  unfold X3_isIn
  refine aw_iload_n C dX3_isIn_0 rfl ?_
  refine aw_ite (fun h2 => ?_) (fun h2 => ?_)
  · refine aw_tswIn C (tgt := 44) (1 : Int32) h2 dX3_isIn_1 (by decide) (by decide) rfl (by decide) ?_
    refine aw_aload_n C dX3_isIn_44 rfl ?_
    refine aw_iload_n C dX3_isIn_45 rfl ?_
    refine aw_cVIp C [.int x2] [] (m_X3_isInCart h hh M x2) v_X3_isInCart km_X3_72 (by decide) (hl_o hh) rfl rfl rfl (Nat.le_of_ble_eq_true rfl) dX3_isIn_46 (fun r1 => ?_)
    exact aw_zretgp C hr dX3_isIn_49
  refine aw_ite (fun h4 => ?_) (fun h4 => ?_)
  · refine aw_tswIn C (tgt := 50) (2 : Int32) h4 dX3_isIn_1 (by decide) (by decide) rfl (by decide) ?_
    refine aw_aload_n C dX3_isIn_50 rfl ?_
    refine aw_iload_n C dX3_isIn_51 rfl ?_
    refine aw_cVIp C [.int x2] [] (m_X3_isOnBelt h hh M x2) v_X3_isOnBelt km_X3_68 (by decide) (hl_o hh) rfl rfl rfl (Nat.le_of_ble_eq_true rfl) dX3_isIn_52 (fun r3 => ?_)
    exact aw_zretgp C hr dX3_isIn_55
  refine aw_ite (fun h6 => ?_) (fun h6 => ?_)
  · refine aw_tswIn C (tgt := 56) (3 : Int32) h6 dX3_isIn_1 (by decide) (by decide) rfl (by decide) ?_
    refine aw_aload_n C dX3_isIn_56 rfl ?_
    refine aw_iload_n C dX3_isIn_57 rfl ?_
    refine aw_cVIp C [.int x2] [] (m_X3_isTaken h hh M x2) v_X3_isTaken km_X3_81 (by decide) (hl_o hh) rfl rfl rfl (Nat.le_of_ble_eq_true rfl) dX3_isIn_58 (fun r5 => ?_)
    exact aw_zretgp C hr dX3_isIn_61
  refine aw_ite (fun h8 => ?_) (fun h8 => ?_)
  · refine aw_tswIn C (tgt := 62) (4 : Int32) h8 dX3_isIn_1 (by decide) (by decide) rfl (by decide) ?_
    refine aw_aload_n C dX3_isIn_62 rfl ?_
    refine aw_iload_n C dX3_isIn_63 rfl ?_
    refine aw_cVIp C [.int x2] [] (m_X3_waits h hh M x2) v_X3_waits km_X3_75 (by decide) (hl_o hh) rfl rfl rfl (Nat.le_of_ble_eq_true rfl) dX3_isIn_64 (fun r7 => ?_)
    exact aw_zretgp C hr dX3_isIn_67
  refine aw_ite (fun h10 => ?_) (fun h10 => ?_)
  · refine aw_tswIn C (tgt := 68) (5 : Int32) h10 dX3_isIn_1 (by decide) (by decide) rfl (by decide) ?_
    refine aw_aload_n C dX3_isIn_68 rfl ?_
    refine aw_iload_n C dX3_isIn_69 rfl ?_
    refine aw_cVIp C [.int x2] [] (m_X3_isWrong h hh M x2) v_X3_isWrong km_X3_88 (by decide) (hl_o hh) rfl rfl rfl (Nat.le_of_ble_eq_true rfl) dX3_isIn_70 (fun r9 => ?_)
    exact aw_zretgp C hr dX3_isIn_73
  refine aw_ite (fun h12 => ?_) (fun h12 => ?_)
  · refine aw_tswIn C (tgt := 74) (6 : Int32) h12 dX3_isIn_1 (by decide) (by decide) rfl (by decide) ?_
    refine aw_aload_n C dX3_isIn_74 rfl ?_
    refine aw_iload_n C dX3_isIn_75 rfl ?_
    refine aw_cVIp C [.int x2] [] (m_X3_isRobbed h hh M x2) v_X3_isRobbed km_X3_91 (by decide) (hl_o hh) rfl rfl rfl (Nat.le_of_ble_eq_true rfl) dX3_isIn_76 (fun r11 => ?_)
    exact aw_zretgp C hr dX3_isIn_79
  refine aw_ite (fun h14 => ?_) (fun h14 => ?_)
  · refine aw_tswIn C (tgt := 80) (7 : Int32) h14 dX3_isIn_1 (by decide) (by decide) rfl (by decide) ?_
    refine aw_aload_n C dX3_isIn_80 rfl ?_
    refine aw_iload_n C dX3_isIn_81 rfl ?_
    refine aw_cVIp C [.int x2] [] (m_X3_waits h hh M x2) v_X3_waits km_X3_75 (by decide) (hl_o hh) rfl rfl rfl (Nat.le_of_ble_eq_true rfl) dX3_isIn_82 (fun r13 => ?_)
    refine aw_if_ne C (tgt := 92) dX3_isIn_85 (by decide) ?_ ?_
    · refine aw_iconst C (1 : Int32) dX3_isIn_88 (by decide) ?_
      refine aw_goto C (tgt := 93) dX3_isIn_89 (by decide) ?_
      exact aw_zretp C (Or.inr rfl) hr dX3_isIn_93
    · refine aw_iconst C (0 : Int32) dX3_isIn_92 (by decide) ?_
      exact aw_zretp C (Or.inl rfl) hr dX3_isIn_93
  have q_h2 := lv_neT h2 (a := 1) (by decide)
  have q_h4 := lv_neT h4 (a := 2) (by decide)
  have q_h6 := lv_neT h6 (a := 3) (by decide)
  have q_h8 := lv_neT h8 (a := 4) (by decide)
  have q_h10 := lv_neT h10 (a := 5) (by decide)
  have q_h12 := lv_neT h12 (a := 6) (by decide)
  have q_h14 := lv_neT h14 (a := 7) (by decide)
  refine aw_tswOut C (tgt := 94) dX3_isIn_1 (by omega) (by decide) ?_
  refine aw_iconst C (0 : Int32) dX3_isIn_94 (by decide) ?_
  exact aw_zretp C (Or.inl rfl) hr dX3_isIn_95
def X3_setOf_4 (h : Nat) (M : Mem) : Nat → Int32 → Int32 → Int32 → Option (Int32)
  | 0, _, _, _ => none
  | f + 1, x1, x2, x3 =>
    if x3 < (M h 1) then
      Option.bind (X3_isIn h M x1 x3) fun r1 =>
      if r1 = 0 then
        X3_setOf_4 h M f x1 (x2 ||| (0 : Int32)) (x3 + (1 : Int32))
      else
        X3_setOf_4 h M f x1 (x2 ||| ((1 : Int32) <<< (x3 &&& 31))) (x3 + (1 : Int32))
    else
      some x2
def X3_setOf (h : Nat) (M : Mem) (x1 : Int32)  : Option (Int32) :=
  X3_setOf_4 h M am_fuel x1 (0 : Int32) (0 : Int32)
theorem m_X3_setOf_4 {E : amE} (C : amC E 4 cX3_setOf 4 RX3) (hr : (eH E).sig.returnType = (some .int)) (h : Nat) (hh : isHl h) (M : Mem) : ∀ (f : Nat) (x1 : Int32) (x2 : Int32) (x3 : Int32), AW E lyX 4 (qIp lyX M) (X3_setOf_4 h M f x1 x2 x3) 4 [(0, .ref h), (1, .int x1), (2, .int x2), (3, .int x3)] [] M := by
  intro f
  induction f with
  | zero => exact (fun _ _ _ => aw_none)
  | succ f ih =>
    intro x1 x2 x3
    rw [X3_setOf_4]
    refine aw_iload_n C dX3_setOf_4 rfl ?_
    refine aw_aload_n C dX3_setOf_5 rfl ?_
    refine aw_getI C clX3 (hl_o hh) 1 rfl (by decide) kf_X3_37 dX3_setOf_6 ?_
    refine aw_icmp_ge C (tgt := 37) dX3_setOf_9 (by decide) ?_ ?_
    · refine aw_iload_n C dX3_setOf_12 rfl ?_
      refine aw_aload_n C dX3_setOf_13 rfl ?_
      refine aw_iload_n C dX3_setOf_14 rfl ?_
      refine aw_iload_n C dX3_setOf_15 rfl ?_
      refine aw_cVIp C [.int x1, .int x3] [.int x2] (m_X3_isIn h hh M x1 x3) v_X3_isIn km_X3_84 (by decide) (hl_o hh) rfl rfl rfl (Nat.le_of_ble_eq_true rfl) dX3_setOf_16 (fun r1 => ?_)
      refine aw_if_eq C (tgt := 28) dX3_setOf_19 (by decide) ?_ ?_
      · refine aw_iconst C (0 : Int32) dX3_setOf_28 (by decide) ?_
        refine aw_ior C dX3_setOf_29 ?_
        refine aw_istore_n C [(2, .int (x2 ||| (0 : Int32))), (0, .ref h), (1, .int x1), (3, .int x3)] dX3_setOf_30 (by decide) rfl ?_
        refine aw_iinc C (v := (1 : Int32)) [(3, .int (x3 + (1 : Int32))), (2, .int (x2 ||| (0 : Int32))), (0, .ref h), (1, .int x1)] dX3_setOf_31 rfl (by decide) (by decide) rfl ?_
        refine aw_goto C (tgt := 4) dX3_setOf_34 (by decide) ?_
        refine aw_sub [2, 3, 1, 0] rfl ?_
        exact ih x1 (x2 ||| (0 : Int32)) (x3 + (1 : Int32))
      · refine aw_iconst C (1 : Int32) dX3_setOf_22 (by decide) ?_
        refine aw_iload_n C dX3_setOf_23 rfl ?_
        refine aw_ishl C dX3_setOf_24 ?_
        refine aw_goto C (tgt := 29) dX3_setOf_25 (by decide) ?_
        refine aw_ior C dX3_setOf_29 ?_
        refine aw_istore_n C [(2, .int (x2 ||| ((1 : Int32) <<< (x3 &&& 31)))), (0, .ref h), (1, .int x1), (3, .int x3)] dX3_setOf_30 (by decide) rfl ?_
        refine aw_iinc C (v := (1 : Int32)) [(3, .int (x3 + (1 : Int32))), (2, .int (x2 ||| ((1 : Int32) <<< (x3 &&& 31)))), (0, .ref h), (1, .int x1)] dX3_setOf_31 rfl (by decide) (by decide) rfl ?_
        refine aw_goto C (tgt := 4) dX3_setOf_34 (by decide) ?_
        refine aw_sub [2, 3, 1, 0] rfl ?_
        exact ih x1 (x2 ||| ((1 : Int32) <<< (x3 &&& 31))) (x3 + (1 : Int32))
    · refine aw_iload_n C dX3_setOf_37 rfl ?_
      exact aw_iretp C hr dX3_setOf_38
theorem m_X3_setOf  (h : Nat) (hh : isHl h) (M : Mem) (x1 : Int32)  : AMet 4 yX3_setOf cX3_setOf 4 (some .int) lyX [.ref h, .int x1] M (qIp lyX M) (X3_setOf h M x1) := by
  refine am_ent pn_X3 (Nat.le_of_ble_eq_true rfl) (fun E C hr => ?_)
  refine aw_lv (lv' := [(0, .ref h), (1, .int x1)]) rfl ?_
  unfold X3_setOf
  refine aw_iconst C (0 : Int32) dX3_setOf_0 (by decide) ?_
  refine aw_istore_n C [(2, .int (0 : Int32)), (0, .ref h), (1, .int x1)] dX3_setOf_1 (by decide) rfl ?_
  refine aw_iconst C (0 : Int32) dX3_setOf_2 (by decide) ?_
  refine aw_istore_n C [(3, .int (0 : Int32)), (2, .int (0 : Int32)), (0, .ref h), (1, .int x1)] dX3_setOf_3 (by decide) rfl ?_
  refine aw_sub [2, 3, 1, 0] rfl ?_
  exact m_X3_setOf_4 C hr h hh M am_fuel x1 (0 : Int32) (0 : Int32)
def X3_has (h : Nat) (M : Mem) (x1 : Int32)  : Option (Int32) :=
  if x1 < 0 then
    some (0 : Int32)
  else
    if x1 < (M h 1) then
      some (1 : Int32)
    else
      some (0 : Int32)
theorem m_X3_has  (h : Nat) (hh : isHl h) (M : Mem) (x1 : Int32)  : AMet 1 yX3_has cX3_has 2 (some .boolean) lyX [.ref h, .int x1] M (qIp lyX M) (X3_has h M x1) := by
  refine am_ent pn_X3 (Nat.le_of_ble_eq_true rfl) (fun E C hr => ?_)
  refine aw_lv (lv' := [(0, .ref h), (1, .int x1)]) rfl ?_
  unfold X3_has
  refine aw_iload_n C dX3_has_0 rfl ?_
  refine aw_if_lt C (tgt := 16) dX3_has_1 (by decide) ?_ ?_
  · refine aw_iconst C (0 : Int32) dX3_has_16 (by decide) ?_
    exact aw_zretp C (Or.inl rfl) hr dX3_has_17
  · refine aw_iload_n C dX3_has_4 rfl ?_
    refine aw_aload_n C dX3_has_5 rfl ?_
    refine aw_getI C clX3 (hl_o hh) 1 rfl (by decide) kf_X3_37 dX3_has_6 ?_
    refine aw_icmp_ge C (tgt := 16) dX3_has_9 (by decide) ?_ ?_
    · refine aw_iconst C (1 : Int32) dX3_has_12 (by decide) ?_
      refine aw_goto C (tgt := 17) dX3_has_13 (by decide) ?_
      exact aw_zretp C (Or.inr rfl) hr dX3_has_17
    · refine aw_iconst C (0 : Int32) dX3_has_16 (by decide) ?_
      exact aw_zretp C (Or.inl rfl) hr dX3_has_17
def X3_hasPlace (h : Nat) (M : Mem) (x1 : Int32)  : Option (Int32) :=
  if x1 < 0 then
    some (0 : Int32)
  else
    if x1 < (M h 0) then
      some (1 : Int32)
    else
      some (0 : Int32)
theorem m_X3_hasPlace  (h : Nat) (hh : isHl h) (M : Mem) (x1 : Int32)  : AMet 1 yX3_hasPlace cX3_hasPlace 2 (some .boolean) lyX [.ref h, .int x1] M (qIp lyX M) (X3_hasPlace h M x1) := by
  refine am_ent pn_X3 (Nat.le_of_ble_eq_true rfl) (fun E C hr => ?_)
  refine aw_lv (lv' := [(0, .ref h), (1, .int x1)]) rfl ?_
  unfold X3_hasPlace
  refine aw_iload_n C dX3_hasPlace_0 rfl ?_
  refine aw_if_lt C (tgt := 16) dX3_hasPlace_1 (by decide) ?_ ?_
  · refine aw_iconst C (0 : Int32) dX3_hasPlace_16 (by decide) ?_
    exact aw_zretp C (Or.inl rfl) hr dX3_hasPlace_17
  · refine aw_iload_n C dX3_hasPlace_4 rfl ?_
    refine aw_aload_n C dX3_hasPlace_5 rfl ?_
    refine aw_getI C clX3 (hl_o hh) 0 rfl (by decide) kf_X3_33 dX3_hasPlace_6 ?_
    refine aw_icmp_ge C (tgt := 16) dX3_hasPlace_9 (by decide) ?_ ?_
    · refine aw_iconst C (1 : Int32) dX3_hasPlace_12 (by decide) ?_
      refine aw_goto C (tgt := 17) dX3_hasPlace_13 (by decide) ?_
      exact aw_zretp C (Or.inr rfl) hr dX3_hasPlace_17
    · refine aw_iconst C (0 : Int32) dX3_hasPlace_16 (by decide) ?_
      exact aw_zretp C (Or.inl rfl) hr dX3_hasPlace_17
def X3_comeBack (h : Nat) (x1 : Int32) (M : Mem) : Option (Mem) :=
  if am_in x1 6 = true then
    Option.bind (X3_has h M (M (h + 4) x1.toNatClampNeg)) fun r1 =>
    if r1 = 0 then
      some M
    else
      if am_in (M (h + 4) x1.toNatClampNeg) 6 = true then
        am_let (mset M (h + 6) (upd (M (h + 6)) (M (h + 4) x1.toNatClampNeg).toNatClampNeg (20 : Int32))) fun M2 =>
        am_let (mset M2 h (upd (M2 h) 5 ((M2 h 5) + (1 : Int32)))) fun M3 =>
        if am_in x1 6 = true then
          am_let (mset M3 (h + 4) (upd (M3 (h + 4)) x1.toNatClampNeg (-1000000 : Int32))) fun M4 =>
          if am_in x1 6 = true then
            am_let (mset M4 (h + 3) (upd (M4 (h + 3)) x1.toNatClampNeg (0 : Int32))) fun M5 =>
            some M5
          else none
        else none
      else none
  else none
theorem m_X3_comeBack  (h : Nat) (hh : isHl h) (x1 : Int32) (M : Mem) : AMet 2 yX3_comeBack cX3_comeBack 3 none lyX [.ref h, .int x1] M (qV lyX) (X3_comeBack h x1 M) := by
  refine am_ent pn_X3 (Nat.le_of_ble_eq_true rfl) (fun E C hr => ?_)
  refine aw_lv (lv' := [(0, .ref h), (1, .int x1)]) rfl ?_
  unfold X3_comeBack
  refine aw_aload_n C dX3_comeBack_0 rfl ?_
  refine aw_getR C (r := h + 4) clX3 (hl_o hh) 9 rfl (by decide) kf_X3_21 dX3_comeBack_1 ?_
  refine aw_iload_n C dX3_comeBack_4 rfl ?_
  refine aw_iald C (hl_4 hh) dX3_comeBack_5 ?_
  refine aw_istore_n C [(2, .int (M (h + 4) x1.toNatClampNeg)), (0, .ref h), (1, .int x1)] dX3_comeBack_6 (by decide) rfl ?_
  refine aw_aload_n C dX3_comeBack_7 rfl ?_
  refine aw_iload_n C dX3_comeBack_8 rfl ?_
  refine aw_cVIp C [.int (M (h + 4) x1.toNatClampNeg)] [] (m_X3_has h hh M (M (h + 4) x1.toNatClampNeg)) v_X3_has km_X3_138 (by decide) (hl_o hh) rfl rfl rfl (Nat.le_of_ble_eq_true rfl) dX3_comeBack_9 (fun r1 => ?_)
  refine aw_if_eq C (tgt := 48) dX3_comeBack_12 (by decide) ?_ ?_
  · exact aw_vret C hr dX3_comeBack_48
  · refine aw_aload_n C dX3_comeBack_15 rfl ?_
    refine aw_getR C (r := h + 6) clX3 (hl_o hh) 11 rfl (by decide) kf_X3_27 dX3_comeBack_16 ?_
    refine aw_iload_n C dX3_comeBack_19 rfl ?_
    refine aw_bipush C (20 : Int32) dX3_comeBack_20 (by decide) ?_
    refine aw_iast C (hl_6 hh) dX3_comeBack_22 ?_
    refine aw_mlet (fun M2 => ?_)
    refine aw_aload_n C dX3_comeBack_23 rfl ?_
    refine aw_dup C dX3_comeBack_24 rfl ?_
    refine aw_getI C clX3 (hl_o hh) 5 rfl (by decide) kf_X3_49 dX3_comeBack_25 ?_
    refine aw_iconst C (1 : Int32) dX3_comeBack_28 (by decide) ?_
    refine aw_iadd C dX3_comeBack_29 ?_
    refine aw_putI C clX3 (hl_o hh) 5 rfl (by decide) rfl rfl kf_X3_49 dX3_comeBack_30 ?_
    refine aw_mlet (fun M3 => ?_)
    refine aw_aload_n C dX3_comeBack_33 rfl ?_
    refine aw_getR C (r := h + 4) clX3 (hl_o hh) 9 rfl (by decide) kf_X3_21 dX3_comeBack_34 ?_
    refine aw_iload_n C dX3_comeBack_37 rfl ?_
    refine aw_ldc C kc_X3_52 dX3_comeBack_38 ?_
    refine aw_iast C (hl_4 hh) dX3_comeBack_40 ?_
    refine aw_mlet (fun M4 => ?_)
    refine aw_aload_n C dX3_comeBack_41 rfl ?_
    refine aw_getR C (r := h + 3) clX3 (hl_o hh) 8 rfl (by decide) kf_X3_18 dX3_comeBack_42 ?_
    refine aw_iload_n C dX3_comeBack_45 rfl ?_
    refine aw_iconst C (0 : Int32) dX3_comeBack_46 (by decide) ?_
    refine aw_iast C (hl_3 hh) dX3_comeBack_47 ?_
    refine aw_mlet (fun M5 => ?_)
    exact aw_vret C hr dX3_comeBack_48
def X3_whereIs (h : Nat) (M : Mem) (x1 : Int32)  : Option (Int32) :=
  Option.bind (X3_isOnBelt h M x1) fun r1 =>
  if r1 = 0 then
    if am_in x1 6 = true then
      some (M (h + 6) x1.toNatClampNeg)
    else none
  else
    if am_in x1 6 = true then
      if ((M (h + 6) x1.toNatClampNeg) + (M h 4)) < (M h 0) then
        some ((M (h + 6) x1.toNatClampNeg) + (M h 4))
      else
        some (((M (h + 6) x1.toNatClampNeg) + (M h 4)) - (M h 0))
    else none
theorem m_X3_whereIs  (h : Nat) (hh : isHl h) (M : Mem) (x1 : Int32)  : AMet 2 yX3_whereIs cX3_whereIs 3 (some .int) lyX [.ref h, .int x1] M (qIp lyX M) (X3_whereIs h M x1) := by
  refine am_ent pn_X3 (Nat.le_of_ble_eq_true rfl) (fun E C hr => ?_)
  refine aw_lv (lv' := [(0, .ref h), (1, .int x1)]) rfl ?_
  unfold X3_whereIs
  refine aw_aload_n C dX3_whereIs_0 rfl ?_
  refine aw_iload_n C dX3_whereIs_1 rfl ?_
  refine aw_cVIp C [.int x1] [] (m_X3_isOnBelt h hh M x1) v_X3_isOnBelt km_X3_68 (by decide) (hl_o hh) rfl rfl rfl (Nat.le_of_ble_eq_true rfl) dX3_whereIs_2 (fun r1 => ?_)
  refine aw_if_ne C (tgt := 15) dX3_whereIs_5 (by decide) ?_ ?_
  · refine aw_aload_n C dX3_whereIs_8 rfl ?_
    refine aw_getR C (r := h + 6) clX3 (hl_o hh) 11 rfl (by decide) kf_X3_27 dX3_whereIs_9 ?_
    refine aw_iload_n C dX3_whereIs_12 rfl ?_
    refine aw_iald C (hl_6 hh) dX3_whereIs_13 ?_
    exact aw_iretp C hr dX3_whereIs_14
  · refine aw_aload_n C dX3_whereIs_15 rfl ?_
    refine aw_getR C (r := h + 6) clX3 (hl_o hh) 11 rfl (by decide) kf_X3_27 dX3_whereIs_16 ?_
    refine aw_iload_n C dX3_whereIs_19 rfl ?_
    refine aw_iald C (hl_6 hh) dX3_whereIs_20 ?_
    refine aw_aload_n C dX3_whereIs_21 rfl ?_
    refine aw_getI C clX3 (hl_o hh) 4 rfl (by decide) kf_X3_46 dX3_whereIs_22 ?_
    refine aw_iadd C dX3_whereIs_25 ?_
    refine aw_istore_n C [(2, .int ((M (h + 6) x1.toNatClampNeg) + (M h 4))), (0, .ref h), (1, .int x1)] dX3_whereIs_26 (by decide) rfl ?_
    refine aw_iload_n C dX3_whereIs_27 rfl ?_
    refine aw_aload_n C dX3_whereIs_28 rfl ?_
    refine aw_getI C clX3 (hl_o hh) 0 rfl (by decide) kf_X3_33 dX3_whereIs_29 ?_
    refine aw_icmp_ge C (tgt := 39) dX3_whereIs_32 (by decide) ?_ ?_
    · refine aw_iload_n C dX3_whereIs_35 rfl ?_
      refine aw_goto C (tgt := 45) dX3_whereIs_36 (by decide) ?_
      exact aw_iretp C hr dX3_whereIs_45
    · refine aw_iload_n C dX3_whereIs_39 rfl ?_
      refine aw_aload_n C dX3_whereIs_40 rfl ?_
      refine aw_getI C clX3 (hl_o hh) 0 rfl (by decide) kf_X3_33 dX3_whereIs_41 ?_
      refine aw_isub C dX3_whereIs_44 ?_
      exact aw_iretp C hr dX3_whereIs_45
def X3_seenTogether_4 (h : Nat) (M : Mem) : Nat → Int32 → Int32 → Option (Int32)
  | 0, _, _ => none
  | f + 1, x1, x2 =>
    if x2 < (M h 1) then
      if am_in x2 6 = true then
        X3_seenTogether_4 h M f (x1 + (M (h + 3) x2.toNatClampNeg)) (x2 + (1 : Int32))
      else none
    else
      some x1
def X3_seenTogether (h : Nat) (M : Mem)   : Option (Int32) :=
  X3_seenTogether_4 h M am_fuel (0 : Int32) (0 : Int32)
theorem m_X3_seenTogether_4 {E : amE} (C : amC E 1 cX3_seenTogether 3 RX3) (hr : (eH E).sig.returnType = (some .int)) (h : Nat) (hh : isHl h) (M : Mem) : ∀ (f : Nat) (x1 : Int32) (x2 : Int32), AW E lyX 3 (qIp lyX M) (X3_seenTogether_4 h M f x1 x2) 4 [(0, .ref h), (1, .int x1), (2, .int x2)] [] M := by
  intro f
  induction f with
  | zero => exact (fun _ _ => aw_none)
  | succ f ih =>
    intro x1 x2
    rw [X3_seenTogether_4]
    refine aw_iload_n C dX3_seenTogether_4 rfl ?_
    refine aw_aload_n C dX3_seenTogether_5 rfl ?_
    refine aw_getI C clX3 (hl_o hh) 1 rfl (by decide) kf_X3_37 dX3_seenTogether_6 ?_
    refine aw_icmp_ge C (tgt := 27) dX3_seenTogether_9 (by decide) ?_ ?_
    · refine aw_iload_n C dX3_seenTogether_12 rfl ?_
      refine aw_aload_n C dX3_seenTogether_13 rfl ?_
      refine aw_getR C (r := h + 3) clX3 (hl_o hh) 8 rfl (by decide) kf_X3_18 dX3_seenTogether_14 ?_
      refine aw_iload_n C dX3_seenTogether_17 rfl ?_
      refine aw_iald C (hl_3 hh) dX3_seenTogether_18 ?_
      refine aw_iadd C dX3_seenTogether_19 ?_
      refine aw_istore_n C [(1, .int (x1 + (M (h + 3) x2.toNatClampNeg))), (0, .ref h), (2, .int x2)] dX3_seenTogether_20 (by decide) rfl ?_
      refine aw_iinc C (v := (1 : Int32)) [(2, .int (x2 + (1 : Int32))), (1, .int (x1 + (M (h + 3) x2.toNatClampNeg))), (0, .ref h)] dX3_seenTogether_21 rfl (by decide) (by decide) rfl ?_
      refine aw_goto C (tgt := 4) dX3_seenTogether_24 (by decide) ?_
      refine aw_sub [2, 1, 0] rfl ?_
      exact ih (x1 + (M (h + 3) x2.toNatClampNeg)) (x2 + (1 : Int32))
    · refine aw_iload_n C dX3_seenTogether_27 rfl ?_
      exact aw_iretp C hr dX3_seenTogether_28
theorem m_X3_seenTogether  (h : Nat) (hh : isHl h) (M : Mem)   : AMet 1 yX3_seenTogether cX3_seenTogether 3 (some .int) lyX [.ref h] M (qIp lyX M) (X3_seenTogether h M) := by
  refine am_ent pn_X3 (Nat.le_of_ble_eq_true rfl) (fun E C hr => ?_)
  refine aw_lv (lv' := [(0, .ref h)]) rfl ?_
  unfold X3_seenTogether
  refine aw_iconst C (0 : Int32) dX3_seenTogether_0 (by decide) ?_
  refine aw_istore_n C [(1, .int (0 : Int32)), (0, .ref h)] dX3_seenTogether_1 (by decide) rfl ?_
  refine aw_iconst C (0 : Int32) dX3_seenTogether_2 (by decide) ?_
  refine aw_istore_n C [(2, .int (0 : Int32)), (1, .int (0 : Int32)), (0, .ref h)] dX3_seenTogether_3 (by decide) rfl ?_
  refine aw_sub [2, 1, 0] rfl ?_
  exact m_X3_seenTogether_4 C hr h hh M am_fuel (0 : Int32) (0 : Int32)
def X3_shareOf_29 (h : Nat) (M : Mem) : Nat → Int32 → Int32 → Int32 → Int32 → Int32 → Int32 → Option (Int32)
  | 0, _, _, _, _, _, _ => none
  | f + 1, x1, x2, x3, x4, x5, x6 =>
    if x6 < (M h 1) then
      if am_in x6 6 = true then
        if x3 = 0 then none else
        if x6 < x1 then
          if am_in x6 6 = true then
            if 0 < (M (h + 3) x6.toNatClampNeg) then
              X3_shareOf_29 h M f x1 x2 x3 (x4 - ((x2 * (M (h + 3) x6.toNatClampNeg)) / x3)) (x5 + (1 : Int32)) (x6 + (1 : Int32))
            else
              X3_shareOf_29 h M f x1 x2 x3 (x4 - ((x2 * (M (h + 3) x6.toNatClampNeg)) / x3)) (x5 + (0 : Int32)) (x6 + (1 : Int32))
          else none
        else
          X3_shareOf_29 h M f x1 x2 x3 (x4 - ((x2 * (M (h + 3) x6.toNatClampNeg)) / x3)) (x5 + (0 : Int32)) (x6 + (1 : Int32))
      else none
    else
      if am_in x1 6 = true then
        if x3 = 0 then none else
        if x5 < x4 then
          some (((x2 * (M (h + 3) x1.toNatClampNeg)) / x3) + (1 : Int32))
        else
          some (((x2 * (M (h + 3) x1.toNatClampNeg)) / x3) + (0 : Int32))
      else none
def X3_shareOf (h : Nat) (M : Mem) (x1 : Int32) (x2 : Int32)  : Option (Int32) :=
  Option.bind (X3_seenTogether h M) fun r1 =>
  if r1 = 0 then
    some (0 : Int32)
  else
    if am_in x1 6 = true then
      if (M (h + 3) x1.toNatClampNeg) = 0 then
        some (0 : Int32)
      else
        X3_shareOf_29 h M am_fuel x1 x2 r1 x2 (0 : Int32) (0 : Int32)
    else none
theorem m_X3_shareOf_29 {E : amE} (C : amC E 2 cX3_shareOf 7 RX3) (hr : (eH E).sig.returnType = (some .int)) (h : Nat) (hh : isHl h) (M : Mem) : ∀ (f : Nat) (x1 : Int32) (x2 : Int32) (x3 : Int32) (x4 : Int32) (x5 : Int32) (x6 : Int32), AW E lyX 7 (qIp lyX M) (X3_shareOf_29 h M f x1 x2 x3 x4 x5 x6) 29 [(0, .ref h), (1, .int x1), (2, .int x2), (3, .int x3), (4, .int x4), (5, .int x5), (6, .int x6)] [] M := by
  intro f
  induction f with
  | zero => exact (fun _ _ _ _ _ _ => aw_none)
  | succ f ih =>
    intro x1 x2 x3 x4 x5 x6
    rw [X3_shareOf_29]
    refine aw_iload C dX3_shareOf_29 rfl ?_
    refine aw_aload_n C dX3_shareOf_31 rfl ?_
    refine aw_getI C clX3 (hl_o hh) 1 rfl (by decide) kf_X3_37 dX3_shareOf_32 ?_
    refine aw_icmp_ge C (tgt := 86) dX3_shareOf_35 (by decide) ?_ ?_
    · refine aw_iload C dX3_shareOf_38 rfl ?_
      refine aw_iload_n C dX3_shareOf_40 rfl ?_
      refine aw_aload_n C dX3_shareOf_41 rfl ?_
      refine aw_getR C (r := h + 3) clX3 (hl_o hh) 8 rfl (by decide) kf_X3_18 dX3_shareOf_42 ?_
      refine aw_iload C dX3_shareOf_45 rfl ?_
      refine aw_iald C (hl_3 hh) dX3_shareOf_47 ?_
      refine aw_imul C dX3_shareOf_48 ?_
      refine aw_iload_n C dX3_shareOf_49 rfl ?_
      refine aw_idiv C dX3_shareOf_50 ?_
      refine aw_isub C dX3_shareOf_51 ?_
      refine aw_istore C [(4, .int (x4 - ((x2 * (M (h + 3) x6.toNatClampNeg)) / x3))), (0, .ref h), (1, .int x1), (2, .int x2), (3, .int x3), (5, .int x5), (6, .int x6)] dX3_shareOf_52 (by decide) rfl ?_
      refine aw_iload C dX3_shareOf_54 rfl ?_
      refine aw_iload C dX3_shareOf_56 rfl ?_
      refine aw_iload_n C dX3_shareOf_58 rfl ?_
      refine aw_icmp_ge C (tgt := 76) dX3_shareOf_59 (by decide) ?_ ?_
      · refine aw_aload_n C dX3_shareOf_62 rfl ?_
        refine aw_getR C (r := h + 3) clX3 (hl_o hh) 8 rfl (by decide) kf_X3_18 dX3_shareOf_63 ?_
        refine aw_iload C dX3_shareOf_66 rfl ?_
        refine aw_iald C (hl_3 hh) dX3_shareOf_68 ?_
        refine aw_if_le C (tgt := 76) dX3_shareOf_69 (by decide) ?_ ?_
        · refine aw_iconst C (1 : Int32) dX3_shareOf_72 (by decide) ?_
          refine aw_goto C (tgt := 77) dX3_shareOf_73 (by decide) ?_
          refine aw_iadd C dX3_shareOf_77 ?_
          refine aw_istore C [(5, .int (x5 + (1 : Int32))), (4, .int (x4 - ((x2 * (M (h + 3) x6.toNatClampNeg)) / x3))), (0, .ref h), (1, .int x1), (2, .int x2), (3, .int x3), (6, .int x6)] dX3_shareOf_78 (by decide) rfl ?_
          refine aw_iinc C (v := (1 : Int32)) [(6, .int (x6 + (1 : Int32))), (5, .int (x5 + (1 : Int32))), (4, .int (x4 - ((x2 * (M (h + 3) x6.toNatClampNeg)) / x3))), (0, .ref h), (1, .int x1), (2, .int x2), (3, .int x3)] dX3_shareOf_80 rfl (by decide) (by decide) rfl ?_
          refine aw_goto C (tgt := 29) dX3_shareOf_83 (by decide) ?_
          refine aw_sub [3, 4, 5, 6, 2, 1, 0] rfl ?_
          exact ih x1 x2 x3 (x4 - ((x2 * (M (h + 3) x6.toNatClampNeg)) / x3)) (x5 + (1 : Int32)) (x6 + (1 : Int32))
        · refine aw_iconst C (0 : Int32) dX3_shareOf_76 (by decide) ?_
          refine aw_iadd C dX3_shareOf_77 ?_
          refine aw_istore C [(5, .int (x5 + (0 : Int32))), (4, .int (x4 - ((x2 * (M (h + 3) x6.toNatClampNeg)) / x3))), (0, .ref h), (1, .int x1), (2, .int x2), (3, .int x3), (6, .int x6)] dX3_shareOf_78 (by decide) rfl ?_
          refine aw_iinc C (v := (1 : Int32)) [(6, .int (x6 + (1 : Int32))), (5, .int (x5 + (0 : Int32))), (4, .int (x4 - ((x2 * (M (h + 3) x6.toNatClampNeg)) / x3))), (0, .ref h), (1, .int x1), (2, .int x2), (3, .int x3)] dX3_shareOf_80 rfl (by decide) (by decide) rfl ?_
          refine aw_goto C (tgt := 29) dX3_shareOf_83 (by decide) ?_
          refine aw_sub [3, 4, 5, 6, 2, 1, 0] rfl ?_
          exact ih x1 x2 x3 (x4 - ((x2 * (M (h + 3) x6.toNatClampNeg)) / x3)) (x5 + (0 : Int32)) (x6 + (1 : Int32))
      · refine aw_iconst C (0 : Int32) dX3_shareOf_76 (by decide) ?_
        refine aw_iadd C dX3_shareOf_77 ?_
        refine aw_istore C [(5, .int (x5 + (0 : Int32))), (4, .int (x4 - ((x2 * (M (h + 3) x6.toNatClampNeg)) / x3))), (0, .ref h), (1, .int x1), (2, .int x2), (3, .int x3), (6, .int x6)] dX3_shareOf_78 (by decide) rfl ?_
        refine aw_iinc C (v := (1 : Int32)) [(6, .int (x6 + (1 : Int32))), (5, .int (x5 + (0 : Int32))), (4, .int (x4 - ((x2 * (M (h + 3) x6.toNatClampNeg)) / x3))), (0, .ref h), (1, .int x1), (2, .int x2), (3, .int x3)] dX3_shareOf_80 rfl (by decide) (by decide) rfl ?_
        refine aw_goto C (tgt := 29) dX3_shareOf_83 (by decide) ?_
        refine aw_sub [3, 4, 5, 6, 2, 1, 0] rfl ?_
        exact ih x1 x2 x3 (x4 - ((x2 * (M (h + 3) x6.toNatClampNeg)) / x3)) (x5 + (0 : Int32)) (x6 + (1 : Int32))
    · refine aw_iload_n C dX3_shareOf_86 rfl ?_
      refine aw_aload_n C dX3_shareOf_87 rfl ?_
      refine aw_getR C (r := h + 3) clX3 (hl_o hh) 8 rfl (by decide) kf_X3_18 dX3_shareOf_88 ?_
      refine aw_iload_n C dX3_shareOf_91 rfl ?_
      refine aw_iald C (hl_3 hh) dX3_shareOf_92 ?_
      refine aw_imul C dX3_shareOf_93 ?_
      refine aw_iload_n C dX3_shareOf_94 rfl ?_
      refine aw_idiv C dX3_shareOf_95 ?_
      refine aw_iload C dX3_shareOf_96 rfl ?_
      refine aw_iload C dX3_shareOf_98 rfl ?_
      refine aw_icmp_ge C (tgt := 107) dX3_shareOf_100 (by decide) ?_ ?_
      · refine aw_iconst C (1 : Int32) dX3_shareOf_103 (by decide) ?_
        refine aw_goto C (tgt := 108) dX3_shareOf_104 (by decide) ?_
        refine aw_iadd C dX3_shareOf_108 ?_
        exact aw_iretp C hr dX3_shareOf_109
      · refine aw_iconst C (0 : Int32) dX3_shareOf_107 (by decide) ?_
        refine aw_iadd C dX3_shareOf_108 ?_
        exact aw_iretp C hr dX3_shareOf_109
theorem m_X3_shareOf  (h : Nat) (hh : isHl h) (M : Mem) (x1 : Int32) (x2 : Int32)  : AMet 2 yX3_shareOf cX3_shareOf 7 (some .int) lyX [.ref h, .int x1, .int x2] M (qIp lyX M) (X3_shareOf h M x1 x2) := by
  refine am_ent pn_X3 (Nat.le_of_ble_eq_true rfl) (fun E C hr => ?_)
  refine aw_lv (lv' := [(0, .ref h), (1, .int x1), (2, .int x2)]) rfl ?_
  unfold X3_shareOf
  refine aw_aload_n C dX3_shareOf_0 rfl ?_
  refine aw_cVIp C [] [] (m_X3_seenTogether h hh M) v_X3_seenTogether km_X3_94 (by decide) (hl_o hh) rfl rfl rfl (Nat.le_of_ble_eq_true rfl) dX3_shareOf_1 (fun r1 => ?_)
  refine aw_istore_n C [(3, .int r1), (0, .ref h), (1, .int x1), (2, .int x2)] dX3_shareOf_4 (by decide) rfl ?_
  refine aw_iload_n C dX3_shareOf_5 rfl ?_
  refine aw_if_eq C (tgt := 18) dX3_shareOf_6 (by decide) ?_ ?_
  · refine aw_iconst C (0 : Int32) dX3_shareOf_18 (by decide) ?_
    exact aw_iretp C hr dX3_shareOf_19
  · refine aw_aload_n C dX3_shareOf_9 rfl ?_
    refine aw_getR C (r := h + 3) clX3 (hl_o hh) 8 rfl (by decide) kf_X3_18 dX3_shareOf_10 ?_
    refine aw_iload_n C dX3_shareOf_13 rfl ?_
    refine aw_iald C (hl_3 hh) dX3_shareOf_14 ?_
    refine aw_if_ne C (tgt := 20) dX3_shareOf_15 (by decide) ?_ ?_
    · refine aw_iconst C (0 : Int32) dX3_shareOf_18 (by decide) ?_
      exact aw_iretp C hr dX3_shareOf_19
    · refine aw_iload_n C dX3_shareOf_20 rfl ?_
      refine aw_istore C [(4, .int x2), (3, .int r1), (0, .ref h), (1, .int x1), (2, .int x2)] dX3_shareOf_21 (by decide) rfl ?_
      refine aw_iconst C (0 : Int32) dX3_shareOf_23 (by decide) ?_
      refine aw_istore C [(5, .int (0 : Int32)), (4, .int x2), (3, .int r1), (0, .ref h), (1, .int x1), (2, .int x2)] dX3_shareOf_24 (by decide) rfl ?_
      refine aw_iconst C (0 : Int32) dX3_shareOf_26 (by decide) ?_
      refine aw_istore C [(6, .int (0 : Int32)), (5, .int (0 : Int32)), (4, .int x2), (3, .int r1), (0, .ref h), (1, .int x1), (2, .int x2)] dX3_shareOf_27 (by decide) rfl ?_
      refine aw_sub [4, 5, 6, 3, 2, 1, 0] rfl ?_
      exact m_X3_shareOf_29 C hr h hh M am_fuel x1 x2 r1 x2 (0 : Int32) (0 : Int32)
