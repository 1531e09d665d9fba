def X4_isSearched_2 (M : Mem) : Nat → Int32 → Option (Int32)
  | 0, _ => none
  | f + 1, x1 =>
    if x1 < (40 : Int32) then
      if am_in x1 40 = true then
        if am_in x1 40 = true then
          if (M 36 x1.toNatClampNeg) = (M 37 x1.toNatClampNeg) then
            X4_isSearched_2 M f (x1 + (1 : Int32))
          else
            some (0 : Int32)
        else none
      else none
    else
      some (1 : Int32)
def X4_isSearched (M : Mem)   : Option (Int32) :=
  X4_isSearched_2 M am_fuel (0 : Int32)
theorem m_X4_isSearched_2 {E : amE} (C : amC E 1 cX4_isSearched 2 RX4) (hr : (eH E).sig.returnType = (some .boolean)) (M : Mem) : ∀ (f : Nat) (x1 : Int32), AW E lyX 2 (qIp lyX M) (X4_isSearched_2 M f x1) 2 [(0, .ref 34), (1, .int x1)] [] M := by
  intro f
  induction f with
  | zero => exact (fun _ => aw_none)
  | succ f ih =>
    intro x1
    rw [X4_isSearched_2]
    refine aw_iload_n C dX4_isSearched_2 rfl ?_
    refine aw_bipush C (40 : Int32) dX4_isSearched_3 (by decide) ?_
    refine aw_icmp_ge C (tgt := 31) dX4_isSearched_5 (by decide) ?_ ?_
    · refine aw_aload_n C dX4_isSearched_8 rfl ?_
      refine aw_getR C (r := 36) clX4 lo_X_34 2 rfl (by decide) kf_X4_17 dX4_isSearched_9 ?_
      refine aw_iload_n C dX4_isSearched_12 rfl ?_
      refine aw_iald C la_X_36 dX4_isSearched_13 ?_
      refine aw_aload_n C dX4_isSearched_14 rfl ?_
      refine aw_getR C (r := 37) clX4 lo_X_34 3 rfl (by decide) kf_X4_20 dX4_isSearched_15 ?_
      refine aw_iload_n C dX4_isSearched_18 rfl ?_
      refine aw_iald C la_X_37 dX4_isSearched_19 ?_
      refine aw_icmp_eq C (tgt := 25) dX4_isSearched_20 (by decide) ?_ ?_
      · refine aw_iinc C (v := (1 : Int32)) [(1, .int (x1 + (1 : Int32))), (0, .ref 34)] dX4_isSearched_25 rfl (by decide) (by decide) rfl ?_
        refine aw_goto C (tgt := 2) dX4_isSearched_28 (by decide) ?_
        refine aw_sub [1, 0] rfl ?_
        exact ih (x1 + (1 : Int32))
      · refine aw_iconst C (0 : Int32) dX4_isSearched_23 (by decide) ?_
        exact aw_zretp C (Or.inl rfl) hr dX4_isSearched_24
    · refine aw_iconst C (1 : Int32) dX4_isSearched_31 (by decide) ?_
      exact aw_zretp C (Or.inr rfl) hr dX4_isSearched_32
theorem m_X4_isSearched  (M : Mem)   : AMet 1 yX4_isSearched cX4_isSearched 2 (some .boolean) lyX [.ref 34] M (qIp lyX M) (X4_isSearched M) := by
  refine am_ent pn_X4 (Nat.le_of_ble_eq_true rfl) (fun E C hr => ?_)
  refine aw_lv (lv' := [(0, .ref 34)]) rfl ?_
  unfold X4_isSearched
  refine aw_iconst C (0 : Int32) dX4_isSearched_0 (by decide) ?_
  refine aw_istore_n C [(1, .int (0 : Int32)), (0, .ref 34)] dX4_isSearched_1 (by decide) rfl ?_
  refine aw_sub [1, 0] rfl ?_
  exact m_X4_isSearched_2 C hr M am_fuel (0 : Int32)
def X4_ownCount_4 (M : Mem) : Nat → Int32 → Int32 → Option (Int32)
  | 0, _, _ => none
  | f + 1, x1, x2 =>
    if x2 < (M 23 1) then
      Option.bind (X3_hasOwn 23 M x2) fun r1 =>
      if r1 = 0 then
        X4_ownCount_4 M f (x1 + (0 : Int32)) (x2 + (1 : Int32))
      else
        X4_ownCount_4 M f (x1 + (1 : Int32)) (x2 + (1 : Int32))
    else
      some x1
def X4_ownCount (M : Mem)   : Option (Int32) :=
  X4_ownCount_4 M am_fuel (0 : Int32) (0 : Int32)
theorem m_X4_ownCount_4 {E : amE} (C : amC E 2 cX4_ownCount 3 RX4) (hr : (eH E).sig.returnType = (some .int)) (M : Mem) : ∀ (f : Nat) (x1 : Int32) (x2 : Int32), AW E lyX 3 (qIp lyX M) (X4_ownCount_4 M f x1 x2) 4 [(0, .ref 34), (1, .int x1), (2, .int x2)] [] M := by
  intro f
  induction f with
  | zero => exact (fun _ _ => aw_none)
  | succ f ih =>
    intro x1 x2
    rw [X4_ownCount_4]
    refine aw_iload_n C dX4_ownCount_4 rfl ?_
    refine aw_aload_n C dX4_ownCount_5 rfl ?_
    refine aw_getR C (r := 23) clX4 lo_X_34 0 rfl (by decide) kf_X4_29 dX4_ownCount_6 ?_
    refine aw_getI C clX3 (hl_o isHl_23) 1 rfl (by decide) kf_X4_82 dX4_ownCount_9 ?_
    refine aw_icmp_ge C (tgt := 40) dX4_ownCount_12 (by decide) ?_ ?_
    · refine aw_iload_n C dX4_ownCount_15 rfl ?_
      refine aw_aload_n C dX4_ownCount_16 rfl ?_
      refine aw_getR C (r := 23) clX4 lo_X_34 0 rfl (by decide) kf_X4_29 dX4_ownCount_17 ?_
      refine aw_iload_n C dX4_ownCount_20 rfl ?_
      refine aw_cVIp C [.int x2] [.int x1] (m_X3_hasOwn 23 isHl_23 M x2) v_X3_hasOwn km_X4_94 (by decide) (hl_o isHl_23) rfl rfl rfl (Nat.le_of_ble_eq_true rfl) dX4_ownCount_21 (fun r1 => ?_)
      refine aw_if_eq C (tgt := 31) dX4_ownCount_24 (by decide) ?_ ?_
      · refine aw_iconst C (0 : Int32) dX4_ownCount_31 (by decide) ?_
        refine aw_iadd C dX4_ownCount_32 ?_
        refine aw_istore_n C [(1, .int (x1 + (0 : Int32))), (0, .ref 34), (2, .int x2)] dX4_ownCount_33 (by decide) rfl ?_
        refine aw_iinc C (v := (1 : Int32)) [(2, .int (x2 + (1 : Int32))), (1, .int (x1 + (0 : Int32))), (0, .ref 34)] dX4_ownCount_34 rfl (by decide) (by decide) rfl ?_
        refine aw_goto C (tgt := 4) dX4_ownCount_37 (by decide) ?_
        refine aw_sub [2, 1, 0] rfl ?_
        exact ih (x1 + (0 : Int32)) (x2 + (1 : Int32))
      · refine aw_iconst C (1 : Int32) dX4_ownCount_27 (by decide) ?_
        refine aw_goto C (tgt := 32) dX4_ownCount_28 (by decide) ?_
        refine aw_iadd C dX4_ownCount_32 ?_
        refine aw_istore_n C [(1, .int (x1 + (1 : Int32))), (0, .ref 34), (2, .int x2)] dX4_ownCount_33 (by decide) rfl ?_
        refine aw_iinc C (v := (1 : Int32)) [(2, .int (x2 + (1 : Int32))), (1, .int (x1 + (1 : Int32))), (0, .ref 34)] dX4_ownCount_34 rfl (by decide) (by decide) rfl ?_
        refine aw_goto C (tgt := 4) dX4_ownCount_37 (by decide) ?_
        refine aw_sub [2, 1, 0] rfl ?_
        exact ih (x1 + (1 : Int32)) (x2 + (1 : Int32))
    · refine aw_iload_n C dX4_ownCount_40 rfl ?_
      exact aw_iretp C hr dX4_ownCount_41
theorem m_X4_ownCount  (M : Mem)   : AMet 2 yX4_ownCount cX4_ownCount 3 (some .int) lyX [.ref 34] M (qIp lyX M) (X4_ownCount M) := by
  refine am_ent pn_X4 (Nat.le_of_ble_eq_true rfl) (fun E C hr => ?_)
  refine aw_lv (lv' := [(0, .ref 34)]) rfl ?_
  unfold X4_ownCount
  refine aw_iconst C (0 : Int32) dX4_ownCount_0 (by decide) ?_
  refine aw_istore_n C [(1, .int (0 : Int32)), (0, .ref 34)] dX4_ownCount_1 (by decide) rfl ?_
  refine aw_iconst C (0 : Int32) dX4_ownCount_2 (by decide) ?_
  refine aw_istore_n C [(2, .int (0 : Int32)), (1, .int (0 : Int32)), (0, .ref 34)] dX4_ownCount_3 (by decide) rfl ?_
  refine aw_sub [2, 1, 0] rfl ?_
  exact m_X4_ownCount_4 C hr M am_fuel (0 : Int32) (0 : Int32)
def X4_weigh_37  (x1 : Int32) (x2 : Int32) (x3 : Int32) (M : Mem) : Option (Mem) :=
  am_let (mset M 34 (upd (M 34) 8 x2)) fun M1 =>
  am_let (mset M1 34 (upd (M1 34) 9 x3)) fun M2 =>
  am_let (mset M2 34 (upd (M2 34) 6 (if (6 : Int32) < x1 then (6 : Int32) else x1))) fun M3 =>
  if am_cp (0 : Int32) (0 : Int32) (6 : Int32) 6 6 = true then
    am_let (mset M3 39 (va_cpy (M3 38) (M3 39) (0 : Int32).toNatClampNeg (0 : Int32).toNatClampNeg (6 : Int32).toNatClampNeg)) fun M4 =>
    some M4
  else none
def X4_weigh  (x1 : Int32) (M : Mem) : Option (Mem) :=
  Option.bind (X4_ownCount M) fun r1 =>
  Option.bind (X3_seenTogether 23 M) fun r2 =>
  if (M 34 8) < r1 then
    X4_weigh_37 x1 r1 r2 M
  else
    if r1 = (M 34 8) then
      if r2 < (M 34 9) then
        X4_weigh_37 x1 r1 r2 M
      else
        some M
    else
      some M
theorem m_X4_weigh_37 {E : amE} (C : amC E 3 cX4_weigh 4 RX4) (hr : (eH E).sig.returnType = none)  (x1 : Int32) (x2 : Int32) (x3 : Int32) (M : Mem) : AW E lyX 4 (qV lyX) (X4_weigh_37 x1 x2 x3 M) 37 [(0, .ref 34), (1, .int x1), (2, .int x2), (3, .int x3)] [] M := by
  unfold X4_weigh_37
  refine aw_aload_n C dX4_weigh_37 rfl ?_
  refine aw_iload_n C dX4_weigh_38 rfl ?_
  refine aw_putI C clX4 lo_X_34 8 rfl (by decide) rfl rfl kf_X4_33 dX4_weigh_39 ?_
  refine aw_mlet (fun M1 => ?_)
  refine aw_aload_n C dX4_weigh_42 rfl ?_
  refine aw_iload_n C dX4_weigh_43 rfl ?_
  refine aw_putI C clX4 lo_X_34 9 rfl (by decide) rfl rfl kf_X4_108 dX4_weigh_44 ?_
  refine aw_mlet (fun M2 => ?_)
  refine aw_aload_n C dX4_weigh_47 rfl ?_
  refine aw_iload_n C dX4_weigh_48 rfl ?_
  refine aw_bipush C (6 : Int32) dX4_weigh_49 (by decide) ?_
  refine aw_mmin C km_X4_114 k_min_st k_m_ini k_min_code (by decide) (Nat.le_of_ble_eq_true rfl) dX4_weigh_51 ?_
  refine aw_putI C clX4 lo_X_34 6 rfl (by decide) rfl rfl kf_X4_120 dX4_weigh_54 ?_
  refine aw_mlet (fun M3 => ?_)
  refine aw_aload_n C dX4_weigh_57 rfl ?_
  refine aw_getR C (r := 38) clX4 lo_X_34 4 rfl (by decide) kf_X4_23 dX4_weigh_58 ?_
  refine aw_iconst C (0 : Int32) dX4_weigh_61 (by decide) ?_
  refine aw_aload_n C dX4_weigh_62 rfl ?_
  refine aw_getR C (r := 39) clX4 lo_X_34 5 rfl (by decide) kf_X4_26 dX4_weigh_63 ?_
  refine aw_iconst C (0 : Int32) dX4_weigh_66 (by decide) ?_
  refine aw_bipush C (6 : Int32) dX4_weigh_67 (by decide) ?_
  refine aw_copy C la_X_38 la_X_39 km_X4_48 k_cp_nat k_cp_st k_cp_ini (by decide) (Nat.le_of_ble_eq_true rfl) dX4_weigh_69 ?_
  refine aw_mlet (fun M4 => ?_)
  exact aw_vret C hr dX4_weigh_72
theorem m_X4_weigh   (x1 : Int32) (M : Mem) : AMet 3 yX4_weigh cX4_weigh 4 none lyX [.ref 34, .int x1] M (qV lyX) (X4_weigh x1 M) := by
  refine am_ent pn_X4 (Nat.le_of_ble_eq_true rfl) (fun E C hr => ?_)
  refine aw_lv (lv' := [(0, .ref 34), (1, .int x1)]) rfl ?_
  unfold X4_weigh
  refine aw_aload_n C dX4_weigh_0 rfl ?_
  refine aw_cVIp C [] [] (m_X4_ownCount M) v_X4_ownCount km_X4_111 (by decide) lo_X_34 rfl rfl rfl (Nat.le_of_ble_eq_true rfl) dX4_weigh_1 (fun r1 => ?_)
  refine aw_istore_n C [(2, .int r1), (0, .ref 34), (1, .int x1)] dX4_weigh_4 (by decide) rfl ?_
  refine aw_aload_n C dX4_weigh_5 rfl ?_
  refine aw_getR C (r := 23) clX4 lo_X_34 0 rfl (by decide) kf_X4_29 dX4_weigh_6 ?_
  refine aw_cVIp C [] [] (m_X3_seenTogether 23 isHl_23 M) v_X3_seenTogether km_X4_104 (by decide) (hl_o isHl_23) rfl rfl rfl (Nat.le_of_ble_eq_true rfl) dX4_weigh_9 (fun r2 => ?_)
  refine aw_istore_n C [(3, .int r2), (2, .int r1), (0, .ref 34), (1, .int x1)] dX4_weigh_12 (by decide) rfl ?_
  refine aw_iload_n C dX4_weigh_13 rfl ?_
  refine aw_aload_n C dX4_weigh_14 rfl ?_
  refine aw_getI C clX4 lo_X_34 8 rfl (by decide) kf_X4_33 dX4_weigh_15 ?_
  refine aw_icmp_gt C (tgt := 37) dX4_weigh_18 (by decide) ?_ ?_
  · refine aw_sub [2, 3, 1, 0] rfl ?_
    exact m_X4_weigh_37 C hr x1 r1 r2 M
  · refine aw_iload_n C dX4_weigh_21 rfl ?_
    refine aw_aload_n C dX4_weigh_22 rfl ?_
    refine aw_getI C clX4 lo_X_34 8 rfl (by decide) kf_X4_33 dX4_weigh_23 ?_
    refine aw_icmp_ne C (tgt := 72) dX4_weigh_26 (by decide) ?_ ?_
    · refine aw_iload_n C dX4_weigh_29 rfl ?_
      refine aw_aload_n C dX4_weigh_30 rfl ?_
      refine aw_getI C clX4 lo_X_34 9 rfl (by decide) kf_X4_108 dX4_weigh_31 ?_
      refine aw_icmp_ge C (tgt := 72) dX4_weigh_34 (by decide) ?_ ?_
      · refine aw_sub [2, 3, 1, 0] rfl ?_
        exact m_X4_weigh_37 C hr x1 r1 r2 M
      · exact aw_vret C hr dX4_weigh_72
    · exact aw_vret C hr dX4_weigh_72
def X4_mayBeBetter_4 (M : Mem) : Nat → Int32 → Int32 → Option (Int32)
  | 0, _, _ => none
  | f + 1, x1, x2 =>
    if x2 < (M 23 1) then
      Option.bind (X3_hasOwn 23 M x2) fun r1 =>
      if r1 = 0 then
        Option.bind (X3_waits 23 M x2) fun r2 =>
        if r2 = 0 then
          X4_mayBeBetter_4 M f (x1 + (0 : Int32)) (x2 + (1 : Int32))
        else
          Option.bind (X3_isTaken 23 M x2) fun r3 =>
          if r3 = 0 then
            X4_mayBeBetter_4 M f (x1 + (1 : Int32)) (x2 + (1 : Int32))
          else
            X4_mayBeBetter_4 M f (x1 + (0 : Int32)) (x2 + (1 : Int32))
      else
        X4_mayBeBetter_4 M f (x1 + (1 : Int32)) (x2 + (1 : Int32))
    else
      if (M 34 8) < x1 then
        some (1 : Int32)
      else
        if x1 = (M 34 8) then
          Option.bind (X3_seenTogether 23 M) fun r4 =>
          if r4 < (M 34 9) then
            some (1 : Int32)
          else
            some (0 : Int32)
        else
          some (0 : Int32)
def X4_mayBeBetter (M : Mem)   : Option (Int32) :=
  X4_mayBeBetter_4 M am_fuel (0 : Int32) (0 : Int32)
theorem m_X4_mayBeBetter_4 {E : amE} (C : amC E 2 cX4_mayBeBetter 3 RX4) (hr : (eH E).sig.returnType = (some .boolean)) (M : Mem) : ∀ (f : Nat) (x1 : Int32) (x2 : Int32), AW E lyX 3 (qIp lyX M) (X4_mayBeBetter_4 M f x1 x2) 4 [(0, .ref 34), (1, .int x1), (2, .int x2)] [] M := by
  intro f
  induction f with
  | zero => exact (fun _ _ => aw_none)
  | succ f ih =>
    intro x1 x2
    rw [X4_mayBeBetter_4]
    refine aw_iload_n C dX4_mayBeBetter_4 rfl ?_
    refine aw_aload_n C dX4_mayBeBetter_5 rfl ?_
    refine aw_getR C (r := 23) clX4 lo_X_34 0 rfl (by decide) kf_X4_29 dX4_mayBeBetter_6 ?_
    refine aw_getI C clX3 (hl_o isHl_23) 1 rfl (by decide) kf_X4_82 dX4_mayBeBetter_9 ?_
    refine aw_icmp_ge C (tgt := 62) dX4_mayBeBetter_12 (by decide) ?_ ?_
    · refine aw_iload_n C dX4_mayBeBetter_15 rfl ?_
      refine aw_aload_n C dX4_mayBeBetter_16 rfl ?_
      refine aw_getR C (r := 23) clX4 lo_X_34 0 rfl (by decide) kf_X4_29 dX4_mayBeBetter_17 ?_
      refine aw_iload_n C dX4_mayBeBetter_20 rfl ?_
      refine aw_cVIp C [.int x2] [.int x1] (m_X3_hasOwn 23 isHl_23 M x2) v_X3_hasOwn km_X4_94 (by decide) (hl_o isHl_23) rfl rfl rfl (Nat.le_of_ble_eq_true rfl) dX4_mayBeBetter_21 (fun r1 => ?_)
      refine aw_if_ne C (tgt := 49) dX4_mayBeBetter_24 (by decide) ?_ ?_
      · refine aw_aload_n C dX4_mayBeBetter_27 rfl ?_
        refine aw_getR C (r := 23) clX4 lo_X_34 0 rfl (by decide) kf_X4_29 dX4_mayBeBetter_28 ?_
        refine aw_iload_n C dX4_mayBeBetter_31 rfl ?_
        refine aw_cVIp C [.int x2] [.int x1] (m_X3_waits 23 isHl_23 M x2) v_X3_waits km_X4_98 (by decide) (hl_o isHl_23) rfl rfl rfl (Nat.le_of_ble_eq_true rfl) dX4_mayBeBetter_32 (fun r2 => ?_)
        refine aw_if_eq C (tgt := 53) dX4_mayBeBetter_35 (by decide) ?_ ?_
        · refine aw_iconst C (0 : Int32) dX4_mayBeBetter_53 (by decide) ?_
          refine aw_iadd C dX4_mayBeBetter_54 ?_
          refine aw_istore_n C [(1, .int (x1 + (0 : Int32))), (0, .ref 34), (2, .int x2)] dX4_mayBeBetter_55 (by decide) rfl ?_
          refine aw_iinc C (v := (1 : Int32)) [(2, .int (x2 + (1 : Int32))), (1, .int (x1 + (0 : Int32))), (0, .ref 34)] dX4_mayBeBetter_56 rfl (by decide) (by decide) rfl ?_
          refine aw_goto C (tgt := 4) dX4_mayBeBetter_59 (by decide) ?_
          refine aw_sub [2, 1, 0] rfl ?_
          exact ih (x1 + (0 : Int32)) (x2 + (1 : Int32))
        · refine aw_aload_n C dX4_mayBeBetter_38 rfl ?_
          refine aw_getR C (r := 23) clX4 lo_X_34 0 rfl (by decide) kf_X4_29 dX4_mayBeBetter_39 ?_
          refine aw_iload_n C dX4_mayBeBetter_42 rfl ?_
          refine aw_cVIp C [.int x2] [.int x1] (m_X3_isTaken 23 isHl_23 M x2) v_X3_isTaken km_X4_101 (by decide) (hl_o isHl_23) rfl rfl rfl (Nat.le_of_ble_eq_true rfl) dX4_mayBeBetter_43 (fun r3 => ?_)
          refine aw_if_ne C (tgt := 53) dX4_mayBeBetter_46 (by decide) ?_ ?_
          · refine aw_iconst C (1 : Int32) dX4_mayBeBetter_49 (by decide) ?_
            refine aw_goto C (tgt := 54) dX4_mayBeBetter_50 (by decide) ?_
            refine aw_iadd C dX4_mayBeBetter_54 ?_
            refine aw_istore_n C [(1, .int (x1 + (1 : Int32))), (0, .ref 34), (2, .int x2)] dX4_mayBeBetter_55 (by decide) rfl ?_
            refine aw_iinc C (v := (1 : Int32)) [(2, .int (x2 + (1 : Int32))), (1, .int (x1 + (1 : Int32))), (0, .ref 34)] dX4_mayBeBetter_56 rfl (by decide) (by decide) rfl ?_
            refine aw_goto C (tgt := 4) dX4_mayBeBetter_59 (by decide) ?_
            refine aw_sub [2, 1, 0] rfl ?_
            exact ih (x1 + (1 : Int32)) (x2 + (1 : Int32))
          · refine aw_iconst C (0 : Int32) dX4_mayBeBetter_53 (by decide) ?_
            refine aw_iadd C dX4_mayBeBetter_54 ?_
            refine aw_istore_n C [(1, .int (x1 + (0 : Int32))), (0, .ref 34), (2, .int x2)] dX4_mayBeBetter_55 (by decide) rfl ?_
            refine aw_iinc C (v := (1 : Int32)) [(2, .int (x2 + (1 : Int32))), (1, .int (x1 + (0 : Int32))), (0, .ref 34)] dX4_mayBeBetter_56 rfl (by decide) (by decide) rfl ?_
            refine aw_goto C (tgt := 4) dX4_mayBeBetter_59 (by decide) ?_
            refine aw_sub [2, 1, 0] rfl ?_
            exact ih (x1 + (0 : Int32)) (x2 + (1 : Int32))
      · refine aw_iconst C (1 : Int32) dX4_mayBeBetter_49 (by decide) ?_
        refine aw_goto C (tgt := 54) dX4_mayBeBetter_50 (by decide) ?_
        refine aw_iadd C dX4_mayBeBetter_54 ?_
        refine aw_istore_n C [(1, .int (x1 + (1 : Int32))), (0, .ref 34), (2, .int x2)] dX4_mayBeBetter_55 (by decide) rfl ?_
        refine aw_iinc C (v := (1 : Int32)) [(2, .int (x2 + (1 : Int32))), (1, .int (x1 + (1 : Int32))), (0, .ref 34)] dX4_mayBeBetter_56 rfl (by decide) (by decide) rfl ?_
        refine aw_goto C (tgt := 4) dX4_mayBeBetter_59 (by decide) ?_
        refine aw_sub [2, 1, 0] rfl ?_
        exact ih (x1 + (1 : Int32)) (x2 + (1 : Int32))
    · refine aw_iload_n C dX4_mayBeBetter_62 rfl ?_
      refine aw_aload_n C dX4_mayBeBetter_63 rfl ?_
      refine aw_getI C clX4 lo_X_34 8 rfl (by decide) kf_X4_33 dX4_mayBeBetter_64 ?_
      refine aw_icmp_gt C (tgt := 92) dX4_mayBeBetter_67 (by decide) ?_ ?_
      · refine aw_iconst C (1 : Int32) dX4_mayBeBetter_92 (by decide) ?_
        refine aw_goto C (tgt := 97) dX4_mayBeBetter_93 (by decide) ?_
        exact aw_zretp C (Or.inr rfl) hr dX4_mayBeBetter_97
      · refine aw_iload_n C dX4_mayBeBetter_70 rfl ?_
        refine aw_aload_n C dX4_mayBeBetter_71 rfl ?_
        refine aw_getI C clX4 lo_X_34 8 rfl (by decide) kf_X4_33 dX4_mayBeBetter_72 ?_
        refine aw_icmp_ne C (tgt := 96) dX4_mayBeBetter_75 (by decide) ?_ ?_
        · refine aw_aload_n C dX4_mayBeBetter_78 rfl ?_
          refine aw_getR C (r := 23) clX4 lo_X_34 0 rfl (by decide) kf_X4_29 dX4_mayBeBetter_79 ?_
          refine aw_cVIp C [] [] (m_X3_seenTogether 23 isHl_23 M) v_X3_seenTogether km_X4_104 (by decide) (hl_o isHl_23) rfl rfl rfl (Nat.le_of_ble_eq_true rfl) dX4_mayBeBetter_82 (fun r4 => ?_)
          refine aw_aload_n C dX4_mayBeBetter_85 rfl ?_
          refine aw_getI C clX4 lo_X_34 9 rfl (by decide) kf_X4_108 dX4_mayBeBetter_86 ?_
          refine aw_icmp_ge C (tgt := 96) dX4_mayBeBetter_89 (by decide) ?_ ?_
          · refine aw_iconst C (1 : Int32) dX4_mayBeBetter_92 (by decide) ?_
            refine aw_goto C (tgt := 97) dX4_mayBeBetter_93 (by decide) ?_
            exact aw_zretp C (Or.inr rfl) hr dX4_mayBeBetter_97
          · refine aw_iconst C (0 : Int32) dX4_mayBeBetter_96 (by decide) ?_
            exact aw_zretp C (Or.inl rfl) hr dX4_mayBeBetter_97
        · refine aw_iconst C (0 : Int32) dX4_mayBeBetter_96 (by decide) ?_
          exact aw_zretp C (Or.inl rfl) hr dX4_mayBeBetter_97
theorem m_X4_mayBeBetter  (M : Mem)   : AMet 2 yX4_mayBeBetter cX4_mayBeBetter 3 (some .boolean) lyX [.ref 34] M (qIp lyX M) (X4_mayBeBetter M) := by
  refine am_ent pn_X4 (Nat.le_of_ble_eq_true rfl) (fun E C hr => ?_)
  refine aw_lv (lv' := [(0, .ref 34)]) rfl ?_
  unfold X4_mayBeBetter
  refine aw_iconst C (0 : Int32) dX4_mayBeBetter_0 (by decide) ?_
  refine aw_istore_n C [(1, .int (0 : Int32)), (0, .ref 34)] dX4_mayBeBetter_1 (by decide) rfl ?_
  refine aw_iconst C (0 : Int32) dX4_mayBeBetter_2 (by decide) ?_
  refine aw_istore_n C [(2, .int (0 : Int32)), (1, .int (0 : Int32)), (0, .ref 34)] dX4_mayBeBetter_3 (by decide) rfl ?_
  refine aw_sub [2, 1, 0] rfl ?_
  exact m_X4_mayBeBetter_4 C hr M am_fuel (0 : Int32) (0 : Int32)
def X4_tryFrom_b_2 (g_X4_tryFrom : Int32 → Int32 → Mem → Option (Mem)) (g_X4_tryEachFall : Int32 → Int32 → Mem → Option (Mem)) : Nat → Int32 → Int32 → Mem → Option (Mem)
  | 0, _, _, _ => none
  | f + 1, x2, x3, M =>
    if x3 < (M 34 7) then
      Option.bind (X3_turnBy 23 (1 : Int32) M) fun M1 =>
      Option.bind (X3_isFallDue 23 M1) fun r2 =>
      if r2 = 0 then
        Option.bind (X3_letTake 23 M1) fun M3 =>
        X4_tryFrom_b_2 g_X4_tryFrom g_X4_tryEachFall f x2 (x3 + (1 : Int32)) M3
      else
        Option.bind (g_X4_tryEachFall x3 x2 M1) fun M4 =>
        some M4
    else
      Option.bind (X4_weigh x2 M) fun M5 =>
      some M5
def X4_tryFrom_b (g_X4_tryFrom : Int32 → Int32 → Mem → Option (Mem)) (g_X4_tryEachFall : Int32 → Int32 → Mem → Option (Mem)) (x1 : Int32) (x2 : Int32) (M : Mem) : Option (Mem) :=
  X4_tryFrom_b_2 g_X4_tryFrom g_X4_tryEachFall am_fuel x2 x1 M
def X4_tryEachFall_b_38 (g_X4_tryFrom : Int32 → Int32 → Mem → Option (Mem)) (g_X4_tryEachFall : Int32 → Int32 → Mem → Option (Mem)) : Nat → Int32 → Int32 → Int32 → Int32 → Mem → Option (Mem)
  | 0, _, _, _, _, _ => none
  | f + 1, x1, x2, x3, x4, M =>
    if x4 < (M 23 1) then
      if ((x3 >>> (x4 &&& 31)) &&& (1 : Int32)) = (1 : Int32) then
        Option.bind (X3_loadFrom 23 35 240 (x2 * (40 : Int32)) M) fun M1 =>
        if am_in x2 6 = true then
          am_let (mset M1 38 (upd (M1 38) x2.toNatClampNeg x4)) fun M2 =>
          Option.bind (X3_fallDown 23 x4 M2) fun M3 =>
          Option.bind (X3_letTake 23 M3) fun M4 =>
          Option.bind (X4_mayBeBetter M4) fun r5 =>
          if r5 = 0 then
            X4_tryEachFall_b_38 g_X4_tryFrom g_X4_tryEachFall f x1 x2 x3 (x4 + (1 : Int32)) M4
          else
            Option.bind (g_X4_tryFrom (x1 + (1 : Int32)) (x2 + (1 : Int32)) M4) fun M6 =>
            X4_tryEachFall_b_38 g_X4_tryFrom g_X4_tryEachFall f x1 x2 x3 (x4 + (1 : Int32)) M6
        else none
      else
        X4_tryEachFall_b_38 g_X4_tryFrom g_X4_tryEachFall f x1 x2 x3 (x4 + (1 : Int32)) M
    else
      some M
def X4_tryEachFall_b (g_X4_tryFrom : Int32 → Int32 → Mem → Option (Mem)) (g_X4_tryEachFall : Int32 → Int32 → Mem → Option (Mem)) (x1 : Int32) (x2 : Int32) (M : Mem) : Option (Mem) :=
  if x2 < 0 then
    some M
  else
    if x2 < (6 : Int32) then
      Option.bind (X3_setOf 23 M (1 : Int32)) fun r1 =>
      Option.bind (X3_saveTo 23 35 240 (x2 * (40 : Int32)) M) fun M2 =>
      X4_tryEachFall_b_38 g_X4_tryFrom g_X4_tryEachFall am_fuel x1 x2 r1 (0 : Int32) M2
    else
      some M
def X4_rec : Nat → (Int32 → Int32 → Mem → Option (Mem)) × (Int32 → Int32 → Mem → Option (Mem))
  | 0 => (fun _ _ _ => none, fun _ _ _ => none)
  | f + 1 => (X4_tryFrom_b (X4_rec f).1 (X4_rec f).2, X4_tryEachFall_b (X4_rec f).1 (X4_rec f).2)
def X4_tryFrom (f : Nat) : Int32 → Int32 → Mem → Option (Mem) := (X4_rec f).1
def X4_tryEachFall (f : Nat) : Int32 → Int32 → Mem → Option (Mem) := (X4_rec f).2
theorem m_X4_tryFrom_b_2 {E : amE} {d dc : Nat} (C : amC E d cX4_tryFrom 4 RX4) (hr : (eH E).sig.returnType = none) (hdc : dc + 1 ≤ d) (hB : 5 ≤ d) (g_X4_tryFrom : Int32 → Int32 → Mem → Option (Mem)) (hg_X4_tryFrom : ∀ (a0 : Int32) (a1 : Int32) (M : Mem), AMet dc yX4_tryFrom cX4_tryFrom 4 none lyX [.ref 34, .int a0, .int a1] M (qV lyX) (g_X4_tryFrom a0 a1 M)) (g_X4_tryEachFall : Int32 → Int32 → Mem → Option (Mem)) (hg_X4_tryEachFall : ∀ (a0 : Int32) (a1 : Int32) (M : Mem), AMet dc yX4_tryEachFall cX4_tryEachFall 5 none lyX [.ref 34, .int a0, .int a1] M (qV lyX) (g_X4_tryEachFall a0 a1 M)) : ∀ (f : Nat) (x2 : Int32) (x3 : Int32) (M : Mem), AW E lyX 4 (qV lyX) (X4_tryFrom_b_2 g_X4_tryFrom g_X4_tryEachFall f x2 x3 M) 2 [(0, .ref 34), (2, .int x2), (3, .int x3)] [] M := by
  intro f
  induction f with
  | zero => exact (fun _ _ _ => aw_none)
  | succ f ih =>
    intro x2 x3 M
    rw [X4_tryFrom_b_2]
    refine aw_iload_n C dX4_tryFrom_2 rfl ?_
    refine aw_aload_n C dX4_tryFrom_3 rfl ?_
    refine aw_getI C clX4 lo_X_34 7 rfl (by decide) kf_X4_41 dX4_tryFrom_4 ?_
    refine aw_icmp_ge C (tgt := 48) dX4_tryFrom_7 (by decide) ?_ ?_
    · refine aw_aload_n C dX4_tryFrom_10 rfl ?_
      refine aw_getR C (r := 23) clX4 lo_X_34 0 rfl (by decide) kf_X4_29 dX4_tryFrom_11 ?_
      refine aw_iconst C (1 : Int32) dX4_tryFrom_14 (by decide) ?_
      refine aw_cVV C [.int (1 : Int32)] [] (m_X3_turnBy 23 isHl_23 (1 : Int32) M) v_X3_turnBy km_X4_62 (Nat.le_trans (by decide) hB) (hl_o isHl_23) rfl rfl rfl (Nat.le_of_ble_eq_true rfl) dX4_tryFrom_15 (fun M1 => ?_)
      refine aw_aload_n C dX4_tryFrom_18 rfl ?_
      refine aw_getR C (r := 23) clX4 lo_X_34 0 rfl (by decide) kf_X4_29 dX4_tryFrom_19 ?_
      refine aw_cVIp C [] [] (m_X3_isFallDue 23 isHl_23 M1) v_X3_isFallDue km_X4_66 (Nat.le_trans (by decide) hB) (hl_o isHl_23) rfl rfl rfl (Nat.le_of_ble_eq_true rfl) dX4_tryFrom_22 (fun r2 => ?_)
      refine aw_if_eq C (tgt := 35) dX4_tryFrom_25 (by decide) ?_ ?_
      · refine aw_aload_n C dX4_tryFrom_35 rfl ?_
        refine aw_getR C (r := 23) clX4 lo_X_34 0 rfl (by decide) kf_X4_29 dX4_tryFrom_36 ?_
        refine aw_cVV C [] [] (m_X3_letTake 23 isHl_23 M1) v_X3_letTake km_X4_72 (Nat.le_trans (by decide) hB) (hl_o isHl_23) rfl rfl rfl (Nat.le_of_ble_eq_true rfl) dX4_tryFrom_39 (fun M3 => ?_)
        refine aw_iinc C (v := (1 : Int32)) [(3, .int (x3 + (1 : Int32))), (0, .ref 34), (2, .int x2)] dX4_tryFrom_42 rfl (by decide) (by decide) rfl ?_
        refine aw_goto C (tgt := 2) dX4_tryFrom_45 (by decide) ?_
        refine aw_sub [1, 2, 0] rfl ?_
        exact ih x2 (x3 + (1 : Int32)) M3
      · refine aw_aload_n C dX4_tryFrom_28 rfl ?_
        refine aw_iload_n C dX4_tryFrom_29 rfl ?_
        refine aw_iload_n C dX4_tryFrom_30 rfl ?_
        refine aw_cVV C [.int x3, .int x2] [] (hg_X4_tryEachFall x3 x2 M1) v_X4_tryEachFall km_X4_69 hdc lo_X_34 rfl rfl rfl (Nat.le_of_ble_eq_true rfl) dX4_tryFrom_31 (fun M4 => ?_)
        exact aw_vret C hr dX4_tryFrom_34
    · refine aw_aload_n C dX4_tryFrom_48 rfl ?_
      refine aw_iload_n C dX4_tryFrom_49 rfl ?_
      refine aw_cVV C [.int x2] [] (m_X4_weigh x2 M) v_X4_weigh km_X4_75 (Nat.le_trans (by decide) hB) lo_X_34 rfl rfl rfl (Nat.le_of_ble_eq_true rfl) dX4_tryFrom_50 (fun M5 => ?_)
      exact aw_vret C hr dX4_tryFrom_53
theorem m_X4_tryFrom_b {d dc : Nat} (hdc : dc + 1 ≤ d) (hB : 5 ≤ d) (g_X4_tryFrom : Int32 → Int32 → Mem → Option (Mem)) (hg_X4_tryFrom : ∀ (a0 : Int32) (a1 : Int32) (M : Mem), AMet dc yX4_tryFrom cX4_tryFrom 4 none lyX [.ref 34, .int a0, .int a1] M (qV lyX) (g_X4_tryFrom a0 a1 M)) (g_X4_tryEachFall : Int32 → Int32 → Mem → Option (Mem)) (hg_X4_tryEachFall : ∀ (a0 : Int32) (a1 : Int32) (M : Mem), AMet dc yX4_tryEachFall cX4_tryEachFall 5 none lyX [.ref 34, .int a0, .int a1] M (qV lyX) (g_X4_tryEachFall a0 a1 M)) (x1 : Int32) (x2 : Int32) (M : Mem) : AMet d yX4_tryFrom cX4_tryFrom 4 none lyX [.ref 34, .int x1, .int x2] M (qV lyX) (X4_tryFrom_b g_X4_tryFrom g_X4_tryEachFall x1 x2 M) := by
  refine am_ent pn_X4 (Nat.le_of_ble_eq_true rfl) (fun E C hr => ?_)
  refine aw_lv (lv' := [(0, .ref 34), (1, .int x1), (2, .int x2)]) rfl ?_
  unfold X4_tryFrom_b
  refine aw_iload_n C dX4_tryFrom_0 rfl ?_
  refine aw_istore_n C [(3, .int x1), (0, .ref 34), (1, .int x1), (2, .int x2)] dX4_tryFrom_1 (by decide) rfl ?_
  refine aw_sub [1, 3, 0] rfl ?_
  exact m_X4_tryFrom_b_2 C hr hdc hB g_X4_tryFrom hg_X4_tryFrom g_X4_tryEachFall hg_X4_tryEachFall am_fuel x2 x1 M
theorem m_X4_tryEachFall_b_38 {E : amE} {d dc : Nat} (C : amC E d cX4_tryEachFall 5 RX4) (hr : (eH E).sig.returnType = none) (hdc : dc + 1 ≤ d) (hB : 5 ≤ d) (g_X4_tryFrom : Int32 → Int32 → Mem → Option (Mem)) (hg_X4_tryFrom : ∀ (a0 : Int32) (a1 : Int32) (M : Mem), AMet dc yX4_tryFrom cX4_tryFrom 4 none lyX [.ref 34, .int a0, .int a1] M (qV lyX) (g_X4_tryFrom a0 a1 M)) (g_X4_tryEachFall : Int32 → Int32 → Mem → Option (Mem)) (hg_X4_tryEachFall : ∀ (a0 : Int32) (a1 : Int32) (M : Mem), AMet dc yX4_tryEachFall cX4_tryEachFall 5 none lyX [.ref 34, .int a0, .int a1] M (qV lyX) (g_X4_tryEachFall a0 a1 M)) : ∀ (f : Nat) (x1 : Int32) (x2 : Int32) (x3 : Int32) (x4 : Int32) (M : Mem), AW E lyX 5 (qV lyX) (X4_tryEachFall_b_38 g_X4_tryFrom g_X4_tryEachFall f x1 x2 x3 x4 M) 38 [(0, .ref 34), (1, .int x1), (2, .int x2), (3, .int x3), (4, .int x4)] [] M := by
  intro f
  induction f with
  | zero => exact (fun _ _ _ _ _ => aw_none)
  | succ f ih =>
    intro x1 x2 x3 x4 M
    rw [X4_tryEachFall_b_38]
    refine aw_iload C dX4_tryEachFall_38 rfl ?_
    refine aw_aload_n C dX4_tryEachFall_40 rfl ?_
    refine aw_getR C (r := 23) clX4 lo_X_34 0 rfl (by decide) kf_X4_29 dX4_tryEachFall_41 ?_
    refine aw_getI C clX3 (hl_o isHl_23) 1 rfl (by decide) kf_X4_82 dX4_tryEachFall_44 ?_
    refine aw_icmp_ge C (tgt := 122) dX4_tryEachFall_47 (by decide) ?_ ?_
    · refine aw_iload_n C dX4_tryEachFall_50 rfl ?_
      refine aw_iload C dX4_tryEachFall_51 rfl ?_
      refine aw_ishr C dX4_tryEachFall_53 ?_
      refine aw_iconst C (1 : Int32) dX4_tryEachFall_54 (by decide) ?_
      refine aw_iand C dX4_tryEachFall_55 ?_
      refine aw_iconst C (1 : Int32) dX4_tryEachFall_56 (by decide) ?_
      refine aw_icmp_ne C (tgt := 116) dX4_tryEachFall_57 (by decide) ?_ ?_
      · refine aw_aload_n C dX4_tryEachFall_60 rfl ?_
        refine aw_getR C (r := 23) clX4 lo_X_34 0 rfl (by decide) kf_X4_29 dX4_tryEachFall_61 ?_
        refine aw_aload_n C dX4_tryEachFall_64 rfl ?_
        refine aw_getR C (r := 35) clX4 lo_X_34 1 rfl (by decide) kf_X4_11 dX4_tryEachFall_65 ?_
        refine aw_iload_n C dX4_tryEachFall_68 rfl ?_
        refine aw_bipush C (40 : Int32) dX4_tryEachFall_69 (by decide) ?_
        refine aw_imul C dX4_tryEachFall_71 ?_
        refine aw_cVV C [.ref 35, .int (x2 * (40 : Int32))] [] (m_X3_loadFrom 23 isHl_23 35 240 la_X_35 (x2 * (40 : Int32)) M) v_X3_loadFrom km_X4_85 (Nat.le_trans (by decide) hB) (hl_o isHl_23) rfl rfl rfl (Nat.le_of_ble_eq_true rfl) dX4_tryEachFall_72 (fun M1 => ?_)
        refine aw_aload_n C dX4_tryEachFall_75 rfl ?_
        refine aw_getR C (r := 38) clX4 lo_X_34 4 rfl (by decide) kf_X4_23 dX4_tryEachFall_76 ?_
        refine aw_iload_n C dX4_tryEachFall_79 rfl ?_
        refine aw_iload C dX4_tryEachFall_80 rfl ?_
        refine aw_iast C la_X_38 dX4_tryEachFall_82 ?_
        refine aw_mlet (fun M2 => ?_)
        refine aw_aload_n C dX4_tryEachFall_83 rfl ?_
        refine aw_getR C (r := 23) clX4 lo_X_34 0 rfl (by decide) kf_X4_29 dX4_tryEachFall_84 ?_
        refine aw_iload C dX4_tryEachFall_87 rfl ?_
        refine aw_cVV C [.int x4] [] (m_X3_fallDown 23 isHl_23 x4 M2) v_X3_fallDown km_X4_88 (Nat.le_trans (by decide) hB) (hl_o isHl_23) rfl rfl rfl (Nat.le_of_ble_eq_true rfl) dX4_tryEachFall_89 (fun M3 => ?_)
        refine aw_aload_n C dX4_tryEachFall_92 rfl ?_
        refine aw_getR C (r := 23) clX4 lo_X_34 0 rfl (by decide) kf_X4_29 dX4_tryEachFall_93 ?_
        refine aw_cVV C [] [] (m_X3_letTake 23 isHl_23 M3) v_X3_letTake km_X4_72 (Nat.le_trans (by decide) hB) (hl_o isHl_23) rfl rfl rfl (Nat.le_of_ble_eq_true rfl) dX4_tryEachFall_96 (fun M4 => ?_)
        refine aw_aload_n C dX4_tryEachFall_99 rfl ?_
        refine aw_cVIp C [] [] (m_X4_mayBeBetter M4) v_X4_mayBeBetter km_X4_91 (Nat.le_trans (by decide) hB) lo_X_34 rfl rfl rfl (Nat.le_of_ble_eq_true rfl) dX4_tryEachFall_100 (fun r5 => ?_)
        refine aw_if_eq C (tgt := 116) dX4_tryEachFall_103 (by decide) ?_ ?_
        · refine aw_iinc C (v := (1 : Int32)) [(4, .int (x4 + (1 : Int32))), (0, .ref 34), (1, .int x1), (2, .int x2), (3, .int x3)] dX4_tryEachFall_116 rfl (by decide) (by decide) rfl ?_
          refine aw_goto C (tgt := 38) dX4_tryEachFall_119 (by decide) ?_
          refine aw_sub [1, 2, 3, 4, 0] rfl ?_
          exact ih x1 x2 x3 (x4 + (1 : Int32)) M4
        · refine aw_aload_n C dX4_tryEachFall_106 rfl ?_
          refine aw_iload_n C dX4_tryEachFall_107 rfl ?_
          refine aw_iconst C (1 : Int32) dX4_tryEachFall_108 (by decide) ?_
          refine aw_iadd C dX4_tryEachFall_109 ?_
          refine aw_iload_n C dX4_tryEachFall_110 rfl ?_
          refine aw_iconst C (1 : Int32) dX4_tryEachFall_111 (by decide) ?_
          refine aw_iadd C dX4_tryEachFall_112 ?_
          refine aw_cVV C [.int (x1 + (1 : Int32)), .int (x2 + (1 : Int32))] [] (hg_X4_tryFrom (x1 + (1 : Int32)) (x2 + (1 : Int32)) M4) v_X4_tryFrom km_X4_58 hdc lo_X_34 rfl rfl rfl (Nat.le_of_ble_eq_true rfl) dX4_tryEachFall_113 (fun M6 => ?_)
          refine aw_iinc C (v := (1 : Int32)) [(4, .int (x4 + (1 : Int32))), (0, .ref 34), (1, .int x1), (2, .int x2), (3, .int x3)] dX4_tryEachFall_116 rfl (by decide) (by decide) rfl ?_
          refine aw_goto C (tgt := 38) dX4_tryEachFall_119 (by decide) ?_
          refine aw_sub [1, 2, 3, 4, 0] rfl ?_
          exact ih x1 x2 x3 (x4 + (1 : Int32)) M6
      · refine aw_iinc C (v := (1 : Int32)) [(4, .int (x4 + (1 : Int32))), (0, .ref 34), (1, .int x1), (2, .int x2), (3, .int x3)] dX4_tryEachFall_116 rfl (by decide) (by decide) rfl ?_
        refine aw_goto C (tgt := 38) dX4_tryEachFall_119 (by decide) ?_
        refine aw_sub [1, 2, 3, 4, 0] rfl ?_
        exact ih x1 x2 x3 (x4 + (1 : Int32)) M
    · exact aw_vret C hr dX4_tryEachFall_122
theorem m_X4_tryEachFall_b {d dc : Nat} (hdc : dc + 1 ≤ d) (hB : 5 ≤ d) (g_X4_tryFrom : Int32 → Int32 → Mem → Option (Mem)) (hg_X4_tryFrom : ∀ (a0 : Int32) (a1 : Int32) (M : Mem), AMet dc yX4_tryFrom cX4_tryFrom 4 none lyX [.ref 34, .int a0, .int a1] M (qV lyX) (g_X4_tryFrom a0 a1 M)) (g_X4_tryEachFall : Int32 → Int32 → Mem → Option (Mem)) (hg_X4_tryEachFall : ∀ (a0 : Int32) (a1 : Int32) (M : Mem), AMet dc yX4_tryEachFall cX4_tryEachFall 5 none lyX [.ref 34, .int a0, .int a1] M (qV lyX) (g_X4_tryEachFall a0 a1 M)) (x1 : Int32) (x2 : Int32) (M : Mem) : AMet d yX4_tryEachFall cX4_tryEachFall 5 none lyX [.ref 34, .int x1, .int x2] M (qV lyX) (X4_tryEachFall_b g_X4_tryFrom g_X4_tryEachFall x1 x2 M) := by
  refine am_ent pn_X4 (Nat.le_of_ble_eq_true rfl) (fun E C hr => ?_)
  refine aw_lv (lv' := [(0, .ref 34), (1, .int x1), (2, .int x2)]) rfl ?_
  unfold X4_tryEachFall_b
  refine aw_iload_n C dX4_tryEachFall_0 rfl ?_
  refine aw_if_lt C (tgt := 10) dX4_tryEachFall_1 (by decide) ?_ ?_
  · exact aw_vret C hr dX4_tryEachFall_10
  · refine aw_iload_n C dX4_tryEachFall_4 rfl ?_
    refine aw_bipush C (6 : Int32) dX4_tryEachFall_5 (by decide) ?_
    refine aw_icmp_lt C (tgt := 11) dX4_tryEachFall_7 (by decide) ?_ ?_
    · refine aw_aload_n C dX4_tryEachFall_11 rfl ?_
      refine aw_getR C (r := 23) clX4 lo_X_34 0 rfl (by decide) kf_X4_29 dX4_tryEachFall_12 ?_
      refine aw_iconst C (1 : Int32) dX4_tryEachFall_15 (by decide) ?_
      refine aw_cVIp C [.int (1 : Int32)] [] (m_X3_setOf 23 isHl_23 M (1 : Int32)) v_X3_setOf km_X4_78 (Nat.le_trans (by decide) hB) (hl_o isHl_23) rfl rfl rfl (Nat.le_of_ble_eq_true rfl) dX4_tryEachFall_16 (fun r1 => ?_)
      refine aw_istore_n C [(3, .int r1), (0, .ref 34), (1, .int x1), (2, .int x2)] dX4_tryEachFall_19 (by decide) rfl ?_
      refine aw_aload_n C dX4_tryEachFall_20 rfl ?_
      refine aw_getR C (r := 23) clX4 lo_X_34 0 rfl (by decide) kf_X4_29 dX4_tryEachFall_21 ?_
      refine aw_aload_n C dX4_tryEachFall_24 rfl ?_
      refine aw_getR C (r := 35) clX4 lo_X_34 1 rfl (by decide) kf_X4_11 dX4_tryEachFall_25 ?_
      refine aw_iload_n C dX4_tryEachFall_28 rfl ?_
      refine aw_bipush C (40 : Int32) dX4_tryEachFall_29 (by decide) ?_
      refine aw_imul C dX4_tryEachFall_31 ?_
      refine aw_cVV C [.ref 35, .int (x2 * (40 : Int32))] [] (m_X3_saveTo 23 isHl_23 35 240 la_X_35 (x2 * (40 : Int32)) M) v_X3_saveTo km_X4_37 (Nat.le_trans (by decide) hB) (hl_o isHl_23) rfl rfl rfl (Nat.le_of_ble_eq_true rfl) dX4_tryEachFall_32 (fun M2 => ?_)
      refine aw_iconst C (0 : Int32) dX4_tryEachFall_35 (by decide) ?_
      refine aw_istore C [(4, .int (0 : Int32)), (3, .int r1), (0, .ref 34), (1, .int x1), (2, .int x2)] dX4_tryEachFall_36 (by decide) rfl ?_
      refine aw_sub [2, 3, 4, 1, 0] rfl ?_
      exact m_X4_tryEachFall_b_38 C hr hdc hB g_X4_tryFrom hg_X4_tryFrom g_X4_tryEachFall hg_X4_tryEachFall am_fuel x1 x2 r1 (0 : Int32) M2
    · exact aw_vret C hr dX4_tryEachFall_10
theorem m_X4_rec : ∀ f : Nat, (∀ (a0 : Int32) (a1 : Int32) (M : Mem), AMet (5 + f) yX4_tryFrom cX4_tryFrom 4 none lyX [.ref 34, .int a0, .int a1] M (qV lyX) (X4_tryFrom f a0 a1 M)) ∧ (∀ (a0 : Int32) (a1 : Int32) (M : Mem), AMet (5 + f) yX4_tryEachFall cX4_tryEachFall 5 none lyX [.ref 34, .int a0, .int a1] M (qV lyX) (X4_tryEachFall f a0 a1 M))
  | 0 => ⟨(fun _ _ _ => amet_none), (fun _ _ _ => amet_none)⟩
  | f + 1 => by
    have ih := m_X4_rec f
    exact ⟨(fun a0 a1 M => m_X4_tryFrom_b (d := 5 + (f + 1)) (dc := 5 + f) (Nat.le_refl _) (Nat.le_add_right _ _) _ ih.1 _ ih.2 a0 a1 M), (fun a0 a1 M => m_X4_tryEachFall_b (d := 5 + (f + 1)) (dc := 5 + f) (Nat.le_refl _) (Nat.le_add_right _ _) _ ih.1 _ ih.2 a0 a1 M)⟩
theorem m_X4_tryFrom (a0 : Int32) (a1 : Int32) (M : Mem) : AMet (5 + 30) yX4_tryFrom cX4_tryFrom 4 none lyX [.ref 34, .int a0, .int a1] M (qV lyX) (X4_tryFrom 30 a0 a1 M) := (m_X4_rec 30).1 a0 a1 M
theorem m_X4_tryEachFall (a0 : Int32) (a1 : Int32) (M : Mem) : AMet (5 + 30) yX4_tryEachFall cX4_tryEachFall 5 none lyX [.ref 34, .int a0, .int a1] M (qV lyX) (X4_tryEachFall 30 a0 a1 M) := (m_X4_rec 30).2 a0 a1 M
def X4_search_25 (h1 : Nat) (x2 : Int32) (M : Mem) : Option (Mem) :=
  if am_cp (0 : Int32) (0 : Int32) (40 : Int32) 40 40 = true then
    am_let (mset M 37 (va_cpy (M 36) (M 37) (0 : Int32).toNatClampNeg (0 : Int32).toNatClampNeg (40 : Int32).toNatClampNeg)) fun M1 =>
    am_let (mset M1 34 (upd (M1 34) 7 x2)) fun M2 =>
    am_let (mset M2 34 (upd (M2 34) 8 (-1 : Int32))) fun M3 =>
    Option.bind (X3_become 23 h1 M3) fun M4 =>
    Option.bind (X4_tryFrom 30 (0 : Int32) (0 : Int32) M4) fun M5 =>
    some M5
  else none
def X4_search (h1 : Nat) (x2 : Int32) (M : Mem) : Option (Mem) :=
  Option.bind (X3_saveTo h1 36 40 (0 : Int32) M) fun M1 =>
  if x2 = (M1 34 7) then
    Option.bind (X4_isSearched M1) fun r2 =>
    if r2 = 0 then
      X4_search_25 h1 x2 M1
    else
      some M1
  else
    X4_search_25 h1 x2 M1
theorem m_X4_search_25 {E : amE} (C : amC E 36 cX4_search 3 RX4) (hr : (eH E).sig.returnType = none) (h1 : Nat) (hh1 : isHl h1) (x2 : Int32) (M : Mem) : AW E lyX 3 (qV lyX) (X4_search_25 h1 x2 M) 25 [(0, .ref 34), (1, .ref h1), (2, .int x2)] [] M := by
  unfold X4_search_25
  refine aw_aload_n C dX4_search_25 rfl ?_
  refine aw_getR C (r := 36) clX4 lo_X_34 2 rfl (by decide) kf_X4_17 dX4_search_26 ?_
  refine aw_iconst C (0 : Int32) dX4_search_29 (by decide) ?_
  refine aw_aload_n C dX4_search_30 rfl ?_
  refine aw_getR C (r := 37) clX4 lo_X_34 3 rfl (by decide) kf_X4_20 dX4_search_31 ?_
  refine aw_iconst C (0 : Int32) dX4_search_34 (by decide) ?_
  refine aw_bipush C (40 : Int32) dX4_search_35 (by decide) ?_
  refine aw_copy C la_X_36 la_X_37 km_X4_48 k_cp_nat k_cp_st k_cp_ini (by decide) (Nat.le_of_ble_eq_true rfl) dX4_search_37 ?_
  refine aw_mlet (fun M1 => ?_)
  refine aw_aload_n C dX4_search_40 rfl ?_
  refine aw_iload_n C dX4_search_41 rfl ?_
  refine aw_putI C clX4 lo_X_34 7 rfl (by decide) rfl rfl kf_X4_41 dX4_search_42 ?_
  refine aw_mlet (fun M2 => ?_)
  refine aw_aload_n C dX4_search_45 rfl ?_
  refine aw_iconst C (-1 : Int32) dX4_search_46 (by decide) ?_
  refine aw_putI C clX4 lo_X_34 8 rfl (by decide) rfl rfl kf_X4_33 dX4_search_47 ?_
  refine aw_mlet (fun M3 => ?_)
  refine aw_aload_n C dX4_search_50 rfl ?_
  refine aw_getR C (r := 23) clX4 lo_X_34 0 rfl (by decide) kf_X4_29 dX4_search_51 ?_
  refine aw_aload_n C dX4_search_54 rfl ?_
  refine aw_cVV C [.ref h1] [] (m_X3_become 23 isHl_23 h1 hh1 M3) v_X3_become km_X4_54 (by decide) (hl_o isHl_23) rfl rfl rfl (Nat.le_of_ble_eq_true rfl) dX4_search_55 (fun M4 => ?_)
  refine aw_aload_n C dX4_search_58 rfl ?_
  refine aw_iconst C (0 : Int32) dX4_search_59 (by decide) ?_
  refine aw_iconst C (0 : Int32) dX4_search_60 (by decide) ?_
  refine aw_cVV C [.int (0 : Int32), .int (0 : Int32)] [] (m_X4_tryFrom (0 : Int32) (0 : Int32) M4) v_X4_tryFrom km_X4_58 (by decide) lo_X_34 rfl rfl rfl (Nat.le_of_ble_eq_true rfl) dX4_search_61 (fun M5 => ?_)
  exact aw_vret C hr dX4_search_64
theorem m_X4_search  (h1 : Nat) (hh1 : isHl h1) (x2 : Int32) (M : Mem) : AMet 36 yX4_search cX4_search 3 none lyX [.ref 34, .ref h1, .int x2] M (qV lyX) (X4_search h1 x2 M) := by
  refine am_ent pn_X4 (Nat.le_of_ble_eq_true rfl) (fun E C hr => ?_)
  refine aw_lv (lv' := [(0, .ref 34), (1, .ref h1), (2, .int x2)]) rfl ?_
  unfold X4_search
  refine aw_aload_n C dX4_search_0 rfl ?_
  refine aw_aload_n C dX4_search_1 rfl ?_
  refine aw_getR C (r := 36) clX4 lo_X_34 2 rfl (by decide) kf_X4_17 dX4_search_2 ?_
  refine aw_iconst C (0 : Int32) dX4_search_5 (by decide) ?_
  refine aw_cVV C [.ref 36, .int (0 : Int32)] [] (m_X3_saveTo h1 hh1 36 40 la_X_36 (0 : Int32) M) v_X3_saveTo km_X4_37 (by decide) (hl_o hh1) rfl rfl rfl (Nat.le_of_ble_eq_true rfl) dX4_search_6 (fun M1 => ?_)
  refine aw_iload_n C dX4_search_9 rfl ?_
  refine aw_aload_n C dX4_search_10 rfl ?_
  refine aw_getI C clX4 lo_X_34 7 rfl (by decide) kf_X4_41 dX4_search_11 ?_
  refine aw_icmp_ne C (tgt := 25) dX4_search_14 (by decide) ?_ ?_
  · refine aw_aload_n C dX4_search_17 rfl ?_
    refine aw_cVIp C [] [] (m_X4_isSearched M1) v_X4_isSearched km_X4_44 (by decide) lo_X_34 rfl rfl rfl (Nat.le_of_ble_eq_true rfl) dX4_search_18 (fun r2 => ?_)
    refine aw_if_eq C (tgt := 25) dX4_search_21 (by decide) ?_ ?_
    · exact m_X4_search_25 C hr h1 hh1 x2 M1
    · exact aw_vret C hr dX4_search_24
  · exact m_X4_search_25 C hr h1 hh1 x2 M1
def X4_mostOwn (M : Mem)   : Option (Int32) :=
  some (M 34 8)
theorem m_X4_mostOwn  (M : Mem)   : AMet 1 yX4_mostOwn cX4_mostOwn 1 (some .int) lyX [.ref 34] M (qIp lyX M) (X4_mostOwn M) := by
  refine am_ent pn_X4 (Nat.le_of_ble_eq_true rfl) (fun E C hr => ?_)
  refine aw_lv (lv' := [(0, .ref 34)]) rfl ?_
  unfold X4_mostOwn
  refine aw_aload_n C dX4_mostOwn_0 rfl ?_
  refine aw_getI C clX4 lo_X_34 8 rfl (by decide) kf_X4_33 dX4_mostOwn_1 ?_
  exact aw_iretp C hr dX4_mostOwn_4
def X4_lowest_2  : Nat → Int32 → Int32 → Option (Int32)
  | 0, _, _ => none
  | f + 1, x0, x1 =>
    if x1 < (6 : Int32) then
      if ((x0 >>> (x1 &&& 31)) &&& (1 : Int32)) = (1 : Int32) then
        some x1
      else
        X4_lowest_2  f x0 (x1 + (1 : Int32))
    else
      some (-1000000 : Int32)
def X4_lowest  (x0 : Int32)  : Option (Int32) :=
  X4_lowest_2 am_fuel x0 (0 : Int32)
theorem m_X4_lowest_2 {E : amE} (C : amC E 1 cX4_lowest 2 RX4) (hr : (eH E).sig.returnType = (some .int)) (M : Mem) : ∀ (f : Nat) (x0 : Int32) (x1 : Int32), AW E lyX 2 (qIp lyX M) (X4_lowest_2 f x0 x1) 2 [(0, .int x0), (1, .int x1)] [] M := by
  intro f
  induction f with
  | zero => exact (fun _ _ => aw_none)
  | succ f ih =>
    intro x0 x1
    rw [X4_lowest_2]
    refine aw_iload_n C dX4_lowest_2 rfl ?_
    refine aw_bipush C (6 : Int32) dX4_lowest_3 (by decide) ?_
    refine aw_icmp_ge C (tgt := 25) dX4_lowest_5 (by decide) ?_ ?_
    · refine aw_iload_n C dX4_lowest_8 rfl ?_
      refine aw_iload_n C dX4_lowest_9 rfl ?_
      refine aw_ishr C dX4_lowest_10 ?_
      refine aw_iconst C (1 : Int32) dX4_lowest_11 (by decide) ?_
      refine aw_iand C dX4_lowest_12 ?_
      refine aw_iconst C (1 : Int32) dX4_lowest_13 (by decide) ?_
      refine aw_icmp_ne C (tgt := 19) dX4_lowest_14 (by decide) ?_ ?_
      · refine aw_iload_n C dX4_lowest_17 rfl ?_
        exact aw_iretp C hr dX4_lowest_18
      · refine aw_iinc C (v := (1 : Int32)) [(1, .int (x1 + (1 : Int32))), (0, .int x0)] dX4_lowest_19 rfl (by decide) (by decide) rfl ?_
        refine aw_goto C (tgt := 2) dX4_lowest_22 (by decide) ?_
        refine aw_sub [1, 0] rfl ?_
        exact ih x0 (x1 + (1 : Int32))
    · refine aw_ldc C kc_X4_123 dX4_lowest_25 ?_
      exact aw_iretp C hr dX4_lowest_27
theorem m_X4_lowest  (M : Mem) (x0 : Int32)  : AMet 1 yX4_lowest cX4_lowest 2 (some .int) lyX [.int x0] M (qIp lyX M) (X4_lowest x0) := by
  refine am_ent pn_X4 (Nat.le_of_ble_eq_true rfl) (fun E C hr => ?_)
  refine aw_lv (lv' := [(0, .int x0)]) rfl ?_
  unfold X4_lowest
  refine aw_iconst C (0 : Int32) dX4_lowest_0 (by decide) ?_
  refine aw_istore_n C [(1, .int (0 : Int32)), (0, .int x0)] dX4_lowest_1 (by decide) rfl ?_
  refine aw_sub [1, 0] rfl ?_
  exact m_X4_lowest_2 C hr M am_fuel x0 (0 : Int32)
def X4_bagInOrder_114 (h1 : Nat) (M : Mem) (K66 : Int32 → Int32 → Int32 → Int32 → Int32 → Int32 → Option (Int32)) (x2 : Int32) (x4 : Int32) (x5 : Int32) (x6 : Int32) (x8 : Int32) (x9 : Int32) (s0 : Int32) : Option (Int32) :=
  Option.bind (X4_lowest s0) fun r1 =>
  if x9 = 0 then
    if r1 = (-1000000 : Int32) then
      if am_in x6 6 = true then
        K66 x2 x4 x5 (x6 + (1 : Int32)) (M 39 x6.toNatClampNeg) (x8 + (1 : Int32))
      else none
    else
      if am_in x6 6 = true then
        if r1 < (M 39 x6.toNatClampNeg) then
          K66 x2 (x4 &&& (((1 : Int32) <<< (r1 &&& 31)) ^^^ (-1 : Int32))) x5 x6 r1 (x8 + (1 : Int32))
        else
          if am_in x6 6 = true then
            K66 x2 x4 x5 (x6 + (1 : Int32)) (M 39 x6.toNatClampNeg) (x8 + (1 : Int32))
          else none
      else none
  else
    K66 x2 (x4 &&& (((1 : Int32) <<< (r1 &&& 31)) ^^^ (-1 : Int32))) x5 x6 r1 (x8 + (1 : Int32))
def X4_bagInOrder_66 (h1 : Nat) (M : Mem) : Nat → Int32 → Int32 → Int32 → Int32 → Int32 → Int32 → Option (Int32)
  | 0, _, _, _, _, _, _ => none
  | f + 1, x2, x4, x5, x6, x7, x8 =>
    if x2 < x8 then
      some x7
    else
      if x8 < (M h1 1) then
        if x6 < (M 34 6) then
          if (0 : Int32) = 0 then
            X4_bagInOrder_114 h1 M (X4_bagInOrder_66 h1 M f) x2 x4 x5 x6 x8 (0 : Int32) (x4 &&& (x5 ^^^ (-1 : Int32)))
          else
            X4_bagInOrder_114 h1 M (X4_bagInOrder_66 h1 M f) x2 x4 x5 x6 x8 (0 : Int32) x4
        else
          if (1 : Int32) = 0 then
            X4_bagInOrder_114 h1 M (X4_bagInOrder_66 h1 M f) x2 x4 x5 x6 x8 (1 : Int32) (x4 &&& (x5 ^^^ (-1 : Int32)))
          else
            X4_bagInOrder_114 h1 M (X4_bagInOrder_66 h1 M f) x2 x4 x5 x6 x8 (1 : Int32) x4
      else
        some x7
def X4_bagInOrder_5 (h1 : Nat) (M : Mem) : Nat → Int32 → Int32 → Int32 → Option (Int32)
  | 0, _, _, _ => none
  | f + 1, x2, x3, x4 =>
    if x4 < (M 34 6) then
      if am_in x4 6 = true then
        X4_bagInOrder_5 h1 M f x2 (x3 ||| ((1 : Int32) <<< ((M 39 x4.toNatClampNeg) &&& 31))) (x4 + (1 : Int32))
      else none
    else
      am_let ((((1 : Int32) <<< ((M h1 1) &&& 31)) - (1 : Int32)) &&& (x3 ^^^ (-1 : Int32))) fun v1 =>
      Option.bind (X3_setOf h1 M (1 : Int32)) fun r2 =>
      X4_bagInOrder_66 h1 M am_fuel x2 v1 (v1 &&& r2) (0 : Int32) (-1000000 : Int32) (0 : Int32)
def X4_bagInOrder (h1 : Nat) (M : Mem) (x2 : Int32)  : Option (Int32) :=
  X4_bagInOrder_5 h1 M am_fuel x2 (0 : Int32) (0 : Int32)
theorem m_X4_bagInOrder_114 {E : amE} (C : amC E 5 cX4_bagInOrder 11 RX4) (hr : (eH E).sig.returnType = (some .int)) (h1 : Nat) (hh1 : isHl h1) (M : Mem) (K66 : Int32 → Int32 → Int32 → Int32 → Int32 → Int32 → Option (Int32)) (hK66 : ∀ (x2 : Int32) (x4 : Int32) (x5 : Int32) (x6 : Int32) (x7 : Int32) (x8 : Int32), AW E lyX 11 (qIp lyX M) (K66 x2 x4 x5 x6 x7 x8) 66 [(0, .ref 34), (1, .ref h1), (2, .int x2), (4, .int x4), (5, .int x5), (6, .int x6), (7, .int x7), (8, .int x8)] [] M) (x2 : Int32) (x4 : Int32) (x5 : Int32) (x6 : Int32) (x8 : Int32) (x9 : Int32) (s0 : Int32) : AW E lyX 11 (qIp lyX M) (X4_bagInOrder_114 h1 M K66 x2 x4 x5 x6 x8 x9 s0) 114 [(0, .ref 34), (1, .ref h1), (2, .int x2), (4, .int x4), (5, .int x5), (6, .int x6), (8, .int x8), (9, .int x9)] [.int s0] M := by
  unfold X4_bagInOrder_114
  refine aw_cSIp C [.int s0] [] (m_X4_lowest M s0) t_X4_lowest km_X4_124 (by decide) rfl rfl (Nat.le_of_ble_eq_true rfl) dX4_bagInOrder_114 (fun r1 => ?_)
  refine aw_istore C [(10, .int r1), (0, .ref 34), (1, .ref h1), (2, .int x2), (4, .int x4), (5, .int x5), (6, .int x6), (8, .int x8), (9, .int x9)] dX4_bagInOrder_117 (by decide) rfl ?_
  refine aw_iload C dX4_bagInOrder_119 rfl ?_
  refine aw_if_ne C (tgt := 143) dX4_bagInOrder_121 (by decide) ?_ ?_
  · refine aw_iload C dX4_bagInOrder_124 rfl ?_
    refine aw_ldc C kc_X4_123 dX4_bagInOrder_126 ?_
    refine aw_icmp_eq C (tgt := 161) dX4_bagInOrder_128 (by decide) ?_ ?_
    · refine aw_aload_n C dX4_bagInOrder_161 rfl ?_
      refine aw_getR C (r := 39) clX4 lo_X_34 5 rfl (by decide) kf_X4_26 dX4_bagInOrder_162 ?_
      refine aw_iload C dX4_bagInOrder_165 rfl ?_
      refine aw_iald C la_X_39 dX4_bagInOrder_167 ?_
      refine aw_istore C [(7, .int (M 39 x6.toNatClampNeg)), (10, .int r1), (0, .ref 34), (1, .ref h1), (2, .int x2), (4, .int x4), (5, .int x5), (6, .int x6), (8, .int x8), (9, .int x9)] dX4_bagInOrder_168 (by decide) rfl ?_
      refine aw_iinc C (v := (1 : Int32)) [(6, .int (x6 + (1 : Int32))), (7, .int (M 39 x6.toNatClampNeg)), (10, .int r1), (0, .ref 34), (1, .ref h1), (2, .int x2), (4, .int x4), (5, .int x5), (8, .int x8), (9, .int x9)] dX4_bagInOrder_170 rfl (by decide) (by decide) rfl ?_
      refine aw_iinc C (v := (1 : Int32)) [(8, .int (x8 + (1 : Int32))), (6, .int (x6 + (1 : Int32))), (7, .int (M 39 x6.toNatClampNeg)), (10, .int r1), (0, .ref 34), (1, .ref h1), (2, .int x2), (4, .int x4), (5, .int x5), (9, .int x9)] dX4_bagInOrder_173 rfl (by decide) (by decide) rfl ?_
      refine aw_goto C (tgt := 66) dX4_bagInOrder_176 (by decide) ?_
      refine aw_sub [4, 5, 6, 7, 8, 1, 2, 0] rfl ?_
      exact hK66 x2 x4 x5 (x6 + (1 : Int32)) (M 39 x6.toNatClampNeg) (x8 + (1 : Int32))
    · refine aw_iload C dX4_bagInOrder_131 rfl ?_
      refine aw_aload_n C dX4_bagInOrder_133 rfl ?_
      refine aw_getR C (r := 39) clX4 lo_X_34 5 rfl (by decide) kf_X4_26 dX4_bagInOrder_134 ?_
      refine aw_iload C dX4_bagInOrder_137 rfl ?_
      refine aw_iald C la_X_39 dX4_bagInOrder_139 ?_
      refine aw_icmp_ge C (tgt := 161) dX4_bagInOrder_140 (by decide) ?_ ?_
      · refine aw_iload C dX4_bagInOrder_143 rfl ?_
        refine aw_istore C [(7, .int r1), (10, .int r1), (0, .ref 34), (1, .ref h1), (2, .int x2), (4, .int x4), (5, .int x5), (6, .int x6), (8, .int x8), (9, .int x9)] dX4_bagInOrder_145 (by decide) rfl ?_
        refine aw_iload C dX4_bagInOrder_147 rfl ?_
        refine aw_iconst C (1 : Int32) dX4_bagInOrder_149 (by decide) ?_
        refine aw_iload C dX4_bagInOrder_150 rfl ?_
        refine aw_ishl C dX4_bagInOrder_152 ?_
        refine aw_iconst C (-1 : Int32) dX4_bagInOrder_153 (by decide) ?_
        refine aw_ixor C dX4_bagInOrder_154 ?_
        refine aw_iand C dX4_bagInOrder_155 ?_
        refine aw_istore C [(4, .int (x4 &&& (((1 : Int32) <<< (r1 &&& 31)) ^^^ (-1 : Int32)))), (7, .int r1), (10, .int r1), (0, .ref 34), (1, .ref h1), (2, .int x2), (5, .int x5), (6, .int x6), (8, .int x8), (9, .int x9)] dX4_bagInOrder_156 (by decide) rfl ?_
        refine aw_goto C (tgt := 173) dX4_bagInOrder_158 (by decide) ?_
        refine aw_iinc C (v := (1 : Int32)) [(8, .int (x8 + (1 : Int32))), (4, .int (x4 &&& (((1 : Int32) <<< (r1 &&& 31)) ^^^ (-1 : Int32)))), (7, .int r1), (10, .int r1), (0, .ref 34), (1, .ref h1), (2, .int x2), (5, .int x5), (6, .int x6), (9, .int x9)] dX4_bagInOrder_173 rfl (by decide) (by decide) rfl ?_
        refine aw_goto C (tgt := 66) dX4_bagInOrder_176 (by decide) ?_
        refine aw_sub [4, 5, 6, 1, 7, 8, 2, 0] rfl ?_
        exact hK66 x2 (x4 &&& (((1 : Int32) <<< (r1 &&& 31)) ^^^ (-1 : Int32))) x5 x6 r1 (x8 + (1 : Int32))
      · refine aw_aload_n C dX4_bagInOrder_161 rfl ?_
        refine aw_getR C (r := 39) clX4 lo_X_34 5 rfl (by decide) kf_X4_26 dX4_bagInOrder_162 ?_
        refine aw_iload C dX4_bagInOrder_165 rfl ?_
        refine aw_iald C la_X_39 dX4_bagInOrder_167 ?_
        refine aw_istore C [(7, .int (M 39 x6.toNatClampNeg)), (10, .int r1), (0, .ref 34), (1, .ref h1), (2, .int x2), (4, .int x4), (5, .int x5), (6, .int x6), (8, .int x8), (9, .int x9)] dX4_bagInOrder_168 (by decide) rfl ?_
        refine aw_iinc C (v := (1 : Int32)) [(6, .int (x6 + (1 : Int32))), (7, .int (M 39 x6.toNatClampNeg)), (10, .int r1), (0, .ref 34), (1, .ref h1), (2, .int x2), (4, .int x4), (5, .int x5), (8, .int x8), (9, .int x9)] dX4_bagInOrder_170 rfl (by decide) (by decide) rfl ?_
        refine aw_iinc C (v := (1 : Int32)) [(8, .int (x8 + (1 : Int32))), (6, .int (x6 + (1 : Int32))), (7, .int (M 39 x6.toNatClampNeg)), (10, .int r1), (0, .ref 34), (1, .ref h1), (2, .int x2), (4, .int x4), (5, .int x5), (9, .int x9)] dX4_bagInOrder_173 rfl (by decide) (by decide) rfl ?_
        refine aw_goto C (tgt := 66) dX4_bagInOrder_176 (by decide) ?_
        refine aw_sub [4, 5, 6, 7, 8, 1, 2, 0] rfl ?_
        exact hK66 x2 x4 x5 (x6 + (1 : Int32)) (M 39 x6.toNatClampNeg) (x8 + (1 : Int32))
  · refine aw_iload C dX4_bagInOrder_143 rfl ?_
    refine aw_istore C [(7, .int r1), (10, .int r1), (0, .ref 34), (1, .ref h1), (2, .int x2), (4, .int x4), (5, .int x5), (6, .int x6), (8, .int x8), (9, .int x9)] dX4_bagInOrder_145 (by decide) rfl ?_
    refine aw_iload C dX4_bagInOrder_147 rfl ?_
    refine aw_iconst C (1 : Int32) dX4_bagInOrder_149 (by decide) ?_
    refine aw_iload C dX4_bagInOrder_150 rfl ?_
    refine aw_ishl C dX4_bagInOrder_152 ?_
    refine aw_iconst C (-1 : Int32) dX4_bagInOrder_153 (by decide) ?_
    refine aw_ixor C dX4_bagInOrder_154 ?_
    refine aw_iand C dX4_bagInOrder_155 ?_
    refine aw_istore C [(4, .int (x4 &&& (((1 : Int32) <<< (r1 &&& 31)) ^^^ (-1 : Int32)))), (7, .int r1), (10, .int r1), (0, .ref 34), (1, .ref h1), (2, .int x2), (5, .int x5), (6, .int x6), (8, .int x8), (9, .int x9)] dX4_bagInOrder_156 (by decide) rfl ?_
    refine aw_goto C (tgt := 173) dX4_bagInOrder_158 (by decide) ?_
    refine aw_iinc C (v := (1 : Int32)) [(8, .int (x8 + (1 : Int32))), (4, .int (x4 &&& (((1 : Int32) <<< (r1 &&& 31)) ^^^ (-1 : Int32)))), (7, .int r1), (10, .int r1), (0, .ref 34), (1, .ref h1), (2, .int x2), (5, .int x5), (6, .int x6), (9, .int x9)] dX4_bagInOrder_173 rfl (by decide) (by decide) rfl ?_
    refine aw_goto C (tgt := 66) dX4_bagInOrder_176 (by decide) ?_
    refine aw_sub [4, 5, 6, 1, 7, 8, 2, 0] rfl ?_
    exact hK66 x2 (x4 &&& (((1 : Int32) <<< (r1 &&& 31)) ^^^ (-1 : Int32))) x5 x6 r1 (x8 + (1 : Int32))
theorem m_X4_bagInOrder_66 {E : amE} (C : amC E 5 cX4_bagInOrder 11 RX4) (hr : (eH E).sig.returnType = (some .int)) (h1 : Nat) (hh1 : isHl h1) (M : Mem) : ∀ (f : Nat) (x2 : Int32) (x4 : Int32) (x5 : Int32) (x6 : Int32) (x7 : Int32) (x8 : Int32), AW E lyX 11 (qIp lyX M) (X4_bagInOrder_66 h1 M f x2 x4 x5 x6 x7 x8) 66 [(0, .ref 34), (1, .ref h1), (2, .int x2), (4, .int x4), (5, .int x5), (6, .int x6), (7, .int x7), (8, .int x8)] [] M := by
  intro f
  induction f with
  | zero => exact (fun _ _ _ _ _ _ => aw_none)
  | succ f ih =>
    intro x2 x4 x5 x6 x7 x8
    rw [X4_bagInOrder_66]
    refine aw_iload C dX4_bagInOrder_66 rfl ?_
    refine aw_iload_n C dX4_bagInOrder_68 rfl ?_
    refine aw_icmp_gt C (tgt := 179) dX4_bagInOrder_69 (by decide) ?_ ?_
    · refine aw_iload C dX4_bagInOrder_179 rfl ?_
      exact aw_iretp C hr dX4_bagInOrder_181
    · refine aw_iload C dX4_bagInOrder_72 rfl ?_
      refine aw_aload_n C dX4_bagInOrder_74 rfl ?_
      refine aw_getI C clX3 (hl_o hh1) 1 rfl (by decide) kf_X4_82 dX4_bagInOrder_75 ?_
      refine aw_icmp_ge C (tgt := 179) dX4_bagInOrder_78 (by decide) ?_ ?_
      · refine aw_iload C dX4_bagInOrder_81 rfl ?_
        refine aw_aload_n C dX4_bagInOrder_83 rfl ?_
        refine aw_getI C clX4 lo_X_34 6 rfl (by decide) kf_X4_120 dX4_bagInOrder_84 ?_
        refine aw_icmp_lt C (tgt := 94) dX4_bagInOrder_87 (by decide) ?_ ?_
        · refine aw_iconst C (0 : Int32) dX4_bagInOrder_94 (by decide) ?_
          refine aw_istore C [(9, .int (0 : Int32)), (0, .ref 34), (1, .ref h1), (2, .int x2), (4, .int x4), (5, .int x5), (6, .int x6), (7, .int x7), (8, .int x8)] dX4_bagInOrder_95 (by decide) rfl ?_
          refine aw_iload C dX4_bagInOrder_97 rfl ?_
          refine aw_if_eq C (tgt := 107) dX4_bagInOrder_99 (by decide) ?_ ?_
          · refine aw_iload C dX4_bagInOrder_107 rfl ?_
            refine aw_iload C dX4_bagInOrder_109 rfl ?_
            refine aw_iconst C (-1 : Int32) dX4_bagInOrder_111 (by decide) ?_
            refine aw_ixor C dX4_bagInOrder_112 ?_
            refine aw_iand C dX4_bagInOrder_113 ?_
            refine aw_sub [1, 2, 3, 4, 5, 6, 8, 0] rfl ?_
            exact m_X4_bagInOrder_114 C hr h1 hh1 M (X4_bagInOrder_66 h1 M f) ih x2 x4 x5 x6 x8 (0 : Int32) (x4 &&& (x5 ^^^ (-1 : Int32)))
          · refine aw_iload C dX4_bagInOrder_102 rfl ?_
            refine aw_goto C (tgt := 114) dX4_bagInOrder_104 (by decide) ?_
            refine aw_sub [1, 2, 3, 4, 5, 6, 8, 0] rfl ?_
            exact m_X4_bagInOrder_114 C hr h1 hh1 M (X4_bagInOrder_66 h1 M f) ih x2 x4 x5 x6 x8 (0 : Int32) x4
        · refine aw_iconst C (1 : Int32) dX4_bagInOrder_90 (by decide) ?_
          refine aw_goto C (tgt := 95) dX4_bagInOrder_91 (by decide) ?_
          refine aw_istore C [(9, .int (1 : Int32)), (0, .ref 34), (1, .ref h1), (2, .int x2), (4, .int x4), (5, .int x5), (6, .int x6), (7, .int x7), (8, .int x8)] dX4_bagInOrder_95 (by decide) rfl ?_
          refine aw_iload C dX4_bagInOrder_97 rfl ?_
          refine aw_if_eq C (tgt := 107) dX4_bagInOrder_99 (by decide) ?_ ?_
          · refine aw_iload C dX4_bagInOrder_107 rfl ?_
            refine aw_iload C dX4_bagInOrder_109 rfl ?_
            refine aw_iconst C (-1 : Int32) dX4_bagInOrder_111 (by decide) ?_
            refine aw_ixor C dX4_bagInOrder_112 ?_
            refine aw_iand C dX4_bagInOrder_113 ?_
            refine aw_sub [1, 2, 3, 4, 5, 6, 8, 0] rfl ?_
            exact m_X4_bagInOrder_114 C hr h1 hh1 M (X4_bagInOrder_66 h1 M f) ih x2 x4 x5 x6 x8 (1 : Int32) (x4 &&& (x5 ^^^ (-1 : Int32)))
          · refine aw_iload C dX4_bagInOrder_102 rfl ?_
            refine aw_goto C (tgt := 114) dX4_bagInOrder_104 (by decide) ?_
            refine aw_sub [1, 2, 3, 4, 5, 6, 8, 0] rfl ?_
            exact m_X4_bagInOrder_114 C hr h1 hh1 M (X4_bagInOrder_66 h1 M f) ih x2 x4 x5 x6 x8 (1 : Int32) x4
      · refine aw_iload C dX4_bagInOrder_179 rfl ?_
        exact aw_iretp C hr dX4_bagInOrder_181
theorem m_X4_bagInOrder_5 {E : amE} (C : amC E 5 cX4_bagInOrder 11 RX4) (hr : (eH E).sig.returnType = (some .int)) (h1 : Nat) (hh1 : isHl h1) (M : Mem) : ∀ (f : Nat) (x2 : Int32) (x3 : Int32) (x4 : Int32), AW E lyX 11 (qIp lyX M) (X4_bagInOrder_5 h1 M f x2 x3 x4) 5 [(0, .ref 34), (1, .ref h1), (2, .int x2), (3, .int x3), (4, .int x4)] [] M := by
  intro f
  induction f with
  | zero => exact (fun _ _ _ => aw_none)
  | succ f ih =>
    intro x2 x3 x4
    rw [X4_bagInOrder_5]
    refine aw_iload C dX4_bagInOrder_5 rfl ?_
    refine aw_aload_n C dX4_bagInOrder_7 rfl ?_
    refine aw_getI C clX4 lo_X_34 6 rfl (by decide) kf_X4_120 dX4_bagInOrder_8 ?_
    refine aw_icmp_ge C (tgt := 32) dX4_bagInOrder_11 (by decide) ?_ ?_
    · refine aw_iload_n C dX4_bagInOrder_14 rfl ?_
      refine aw_iconst C (1 : Int32) dX4_bagInOrder_15 (by decide) ?_
      refine aw_aload_n C dX4_bagInOrder_16 rfl ?_
      refine aw_getR C (r := 39) clX4 lo_X_34 5 rfl (by decide) kf_X4_26 dX4_bagInOrder_17 ?_
      refine aw_iload C dX4_bagInOrder_20 rfl ?_
      refine aw_iald C la_X_39 dX4_bagInOrder_22 ?_
      refine aw_ishl C dX4_bagInOrder_23 ?_
      refine aw_ior C dX4_bagInOrder_24 ?_
      refine aw_istore_n C [(3, .int (x3 ||| ((1 : Int32) <<< ((M 39 x4.toNatClampNeg) &&& 31)))), (0, .ref 34), (1, .ref h1), (2, .int x2), (4, .int x4)] dX4_bagInOrder_25 (by decide) rfl ?_
      refine aw_iinc C (v := (1 : Int32)) [(4, .int (x4 + (1 : Int32))), (3, .int (x3 ||| ((1 : Int32) <<< ((M 39 x4.toNatClampNeg) &&& 31)))), (0, .ref 34), (1, .ref h1), (2, .int x2)] dX4_bagInOrder_26 rfl (by decide) (by decide) rfl ?_
      refine aw_goto C (tgt := 5) dX4_bagInOrder_29 (by decide) ?_
      refine aw_sub [2, 3, 4, 1, 0] rfl ?_
      exact ih x2 (x3 ||| ((1 : Int32) <<< ((M 39 x4.toNatClampNeg) &&& 31))) (x4 + (1 : Int32))
    · refine aw_iconst C (1 : Int32) dX4_bagInOrder_32 (by decide) ?_
      refine aw_aload_n C dX4_bagInOrder_33 rfl ?_
      refine aw_getI C clX3 (hl_o hh1) 1 rfl (by decide) kf_X4_82 dX4_bagInOrder_34 ?_
      refine aw_ishl C dX4_bagInOrder_37 ?_
      refine aw_iconst C (1 : Int32) dX4_bagInOrder_38 (by decide) ?_
      refine aw_isub C dX4_bagInOrder_39 ?_
      refine aw_iload_n C dX4_bagInOrder_40 rfl ?_
      refine aw_iconst C (-1 : Int32) dX4_bagInOrder_41 (by decide) ?_
      refine aw_ixor C dX4_bagInOrder_42 ?_
      refine aw_iand C dX4_bagInOrder_43 ?_
      refine aw_ilet (fun v1 => ?_)
      refine aw_istore C [(4, .int v1), (0, .ref 34), (1, .ref h1), (2, .int x2), (3, .int x3)] dX4_bagInOrder_44 (by decide) rfl ?_
      refine aw_iload C dX4_bagInOrder_46 rfl ?_
      refine aw_aload_n C dX4_bagInOrder_48 rfl ?_
      refine aw_iconst C (1 : Int32) dX4_bagInOrder_49 (by decide) ?_
      refine aw_cVIp C [.int (1 : Int32)] [.int v1] (m_X3_setOf h1 hh1 M (1 : Int32)) v_X3_setOf km_X4_78 (by decide) (hl_o hh1) rfl rfl rfl (Nat.le_of_ble_eq_true rfl) dX4_bagInOrder_50 (fun r2 => ?_)
      refine aw_iand C dX4_bagInOrder_53 ?_
      refine aw_istore C [(5, .int (v1 &&& r2)), (4, .int v1), (0, .ref 34), (1, .ref h1), (2, .int x2), (3, .int x3)] dX4_bagInOrder_54 (by decide) rfl ?_
      refine aw_iconst C (0 : Int32) dX4_bagInOrder_56 (by decide) ?_
      refine aw_istore C [(6, .int (0 : Int32)), (5, .int (v1 &&& r2)), (4, .int v1), (0, .ref 34), (1, .ref h1), (2, .int x2), (3, .int x3)] dX4_bagInOrder_57 (by decide) rfl ?_
      refine aw_ldc C kc_X4_123 dX4_bagInOrder_59 ?_
      refine aw_istore C [(7, .int (-1000000 : Int32)), (6, .int (0 : Int32)), (5, .int (v1 &&& r2)), (4, .int v1), (0, .ref 34), (1, .ref h1), (2, .int x2), (3, .int x3)] dX4_bagInOrder_61 (by decide) rfl ?_
      refine aw_iconst C (0 : Int32) dX4_bagInOrder_63 (by decide) ?_
      refine aw_istore C [(8, .int (0 : Int32)), (7, .int (-1000000 : Int32)), (6, .int (0 : Int32)), (5, .int (v1 &&& r2)), (4, .int v1), (0, .ref 34), (1, .ref h1), (2, .int x2), (3, .int x3)] dX4_bagInOrder_64 (by decide) rfl ?_
      refine aw_sub [5, 6, 7, 4, 3, 2, 1, 0] rfl ?_
      exact m_X4_bagInOrder_66 C hr h1 hh1 M am_fuel x2 v1 (v1 &&& r2) (0 : Int32) (-1000000 : Int32) (0 : Int32)
theorem m_X4_bagInOrder  (h1 : Nat) (hh1 : isHl h1) (M : Mem) (x2 : Int32)  : AMet 5 yX4_bagInOrder cX4_bagInOrder 11 (some .int) lyX [.ref 34, .ref h1, .int x2] M (qIp lyX M) (X4_bagInOrder h1 M x2) := by
  refine am_ent pn_X4 (Nat.le_of_ble_eq_true rfl) (fun E C hr => ?_)
  refine aw_lv (lv' := [(0, .ref 34), (1, .ref h1), (2, .int x2)]) rfl ?_
  unfold X4_bagInOrder
  refine aw_iconst C (0 : Int32) dX4_bagInOrder_0 (by decide) ?_
  refine aw_istore_n C [(3, .int (0 : Int32)), (0, .ref 34), (1, .ref h1), (2, .int x2)] dX4_bagInOrder_1 (by decide) rfl ?_
  refine aw_iconst C (0 : Int32) dX4_bagInOrder_2 (by decide) ?_
  refine aw_istore C [(4, .int (0 : Int32)), (3, .int (0 : Int32)), (0, .ref 34), (1, .ref h1), (2, .int x2)] dX4_bagInOrder_3 (by decide) rfl ?_
  refine aw_sub [2, 3, 4, 1, 0] rfl ?_
  exact m_X4_bagInOrder_5 C hr h1 hh1 M am_fuel x2 (0 : Int32) (0 : Int32)
