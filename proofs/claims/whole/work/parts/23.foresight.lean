def X2_goOn_2  : Nat → Int32 → Int32 → Mem → Option (Nat × Mem)
  | 0, _, _, _ => none
  | f + 1, x1, x2, M =>
    if x2 < x1 then
      Option.bind (X3_tickOnce 23 M) fun M1 =>
      X2_goOn_2  f x1 (x2 + (1 : Int32)) M1
    else
      some (23, M)
def X2_goOn  (x1 : Int32) (M : Mem) : Option (Nat × Mem) :=
  X2_goOn_2 am_fuel x1 (0 : Int32) M
theorem m_X2_goOn_2 {E : amE} (C : amC E 6 cX2_goOn 3 RX2) (hr : (eH E).sig.returnType = (some (.object "LuggageBelt$Hall")))  : ∀ (f : Nat) (x1 : Int32) (x2 : Int32) (M : Mem), AW E lyX 3 (qR lyX) (X2_goOn_2 f x1 x2 M) 2 [(0, .ref 33), (1, .int x1), (2, .int x2)] [] M := by
  intro f
  induction f with
  | zero => exact (fun _ _ _ => aw_none)
  | succ f ih =>
    intro x1 x2 M
    rw [X2_goOn_2]
    refine aw_iload_n C dX2_goOn_2 rfl ?_
    refine aw_iload_n C dX2_goOn_3 rfl ?_
    refine aw_icmp_ge C (tgt := 20) dX2_goOn_4 (by decide) ?_ ?_
    · refine aw_aload_n C dX2_goOn_7 rfl ?_
      refine aw_getR C (r := 23) clX2 lo_X_33 1 rfl (by decide) kf_X2_19 dX2_goOn_8 ?_
      refine aw_cVV C [] [] (m_X3_tickOnce 23 isHl_23 M) v_X3_tickOnce km_X2_32 (by decide) (hl_o isHl_23) rfl rfl rfl (Nat.le_of_ble_eq_true rfl) dX2_goOn_11 (fun M1 => ?_)
      refine aw_iinc C (v := (1 : Int32)) [(2, .int (x2 + (1 : Int32))), (0, .ref 33), (1, .int x1)] dX2_goOn_14 rfl (by decide) (by decide) rfl ?_
      refine aw_goto C (tgt := 2) dX2_goOn_17 (by decide) ?_
      refine aw_sub [1, 2, 0] rfl ?_
      exact ih x1 (x2 + (1 : Int32)) M1
    · refine aw_aload_n C dX2_goOn_20 rfl ?_
      refine aw_getR C (r := 23) clX2 lo_X_33 1 rfl (by decide) kf_X2_19 dX2_goOn_21 ?_
      exact aw_aret C hr (Or.inl ⟨_, rfl⟩) dX2_goOn_24
theorem m_X2_goOn   (x1 : Int32) (M : Mem) : AMet 6 yX2_goOn cX2_goOn 3 (some (.object "LuggageBelt$Hall")) lyX [.ref 33, .int x1] M (qR lyX) (X2_goOn x1 M) := by
  refine am_ent pn_X2 (Nat.le_of_ble_eq_true rfl) (fun E C hr => ?_)
  refine aw_lv (lv' := [(0, .ref 33), (1, .int x1)]) rfl ?_
  unfold X2_goOn
  refine aw_iconst C (0 : Int32) dX2_goOn_0 (by decide) ?_
  refine aw_istore_n C [(2, .int (0 : Int32)), (0, .ref 33), (1, .int x1)] dX2_goOn_1 (by decide) rfl ?_
  refine aw_sub [1, 2, 0] rfl ?_
  exact m_X2_goOn_2 C hr am_fuel x1 (0 : Int32) M
def X2_behind  (x1 : Int32) (M : Mem) : Option (Nat × Mem) :=
  Option.bind (X3_become 23 15 M) fun M1 =>
  Option.bind (X2_goOn x1 M1) fun u2 =>
  if u2.1 = 23 then
    some (23, u2.2)
  else none
theorem m_X2_behind   (x1 : Int32) (M : Mem) : AMet 7 yX2_behind cX2_behind 2 (some (.object "LuggageBelt$Hall")) lyX [.ref 33, .int x1] M (qR lyX) (X2_behind x1 M) := by
  refine am_ent pn_X2 (Nat.le_of_ble_eq_true rfl) (fun E C hr => ?_)
  refine aw_lv (lv' := [(0, .ref 33), (1, .int x1)]) rfl ?_
  unfold X2_behind
  refine aw_aload_n C dX2_behind_0 rfl ?_
  refine aw_getR C (r := 23) clX2 lo_X_33 1 rfl (by decide) kf_X2_19 dX2_behind_1 ?_
  refine aw_aload_n C dX2_behind_4 rfl ?_
  refine aw_getR C (r := 15) clX2 lo_X_33 0 rfl (by decide) kf_X2_15 dX2_behind_5 ?_
  refine aw_cVV C [.ref 15] [] (m_X3_become 23 isHl_23 15 isHl_15 M) v_X3_become km_X2_22 (by decide) (hl_o isHl_23) rfl rfl rfl (Nat.le_of_ble_eq_true rfl) dX2_behind_8 (fun M1 => ?_)
  refine aw_aload_n C dX2_behind_11 rfl ?_
  refine aw_iload_n C dX2_behind_12 rfl ?_
  refine aw_cVR C [.int x1] [] (m_X2_goOn x1 M1) v_X2_goOn km_X2_28 (by decide) lo_X_33 rfl rfl rfl (Nat.le_of_ble_eq_true rfl) dX2_behind_13 (fun u2 => ?_)
  refine aw_ite (fun h3 => ?_) (fun _ => aw_none)
  refine aw_st (st' := [.ref 23]) (by rw [h3]) ?_
  exact aw_aret C hr (Or.inl ⟨_, rfl⟩) dX2_behind_16
def X2_whenGone_13  : Nat → Int32 → Int32 → Mem → Option (Int32 × Mem)
  | 0, _, _, _ => none
  | f + 1, x1, x2, M =>
    if (60 : Int32) < x2 then
      some ((-1000000 : Int32), M)
    else
      Option.bind (X3_waits 23 M x1) fun r1 =>
      if r1 = 0 then
        some (x2, M)
      else
        Option.bind (X3_tickOnce 23 M) fun M2 =>
        X2_whenGone_13  f x1 (x2 + (1 : Int32)) M2
def X2_whenGone  (x1 : Int32) (M : Mem) : Option (Int32 × Mem) :=
  Option.bind (X3_become 23 15 M) fun M1 =>
  X2_whenGone_13 am_fuel x1 (0 : Int32) M1
theorem m_X2_whenGone_13 {E : amE} (C : amC E 6 cX2_whenGone 3 RX2) (hr : (eH E).sig.returnType = (some .int))  : ∀ (f : Nat) (x1 : Int32) (x2 : Int32) (M : Mem), AW E lyX 3 (qI lyX) (X2_whenGone_13 f x1 x2 M) 13 [(0, .ref 33), (1, .int x1), (2, .int x2)] [] M := by
  intro f
  induction f with
  | zero => exact (fun _ _ _ => aw_none)
  | succ f ih =>
    intro x1 x2 M
    rw [X2_whenGone_13]
    refine aw_iload_n C dX2_whenGone_13 rfl ?_
    refine aw_bipush C (60 : Int32) dX2_whenGone_14 (by decide) ?_
    refine aw_icmp_gt C (tgt := 45) dX2_whenGone_16 (by decide) ?_ ?_
    · refine aw_ldc C kc_X2_39 dX2_whenGone_45 ?_
      exact aw_iret C hr dX2_whenGone_47
    · refine aw_aload_n C dX2_whenGone_19 rfl ?_
      refine aw_getR C (r := 23) clX2 lo_X_33 1 rfl (by decide) kf_X2_19 dX2_whenGone_20 ?_
      refine aw_iload_n C dX2_whenGone_23 rfl ?_
      refine aw_cVIp C [.int x1] [] (m_X3_waits 23 isHl_23 M x1) v_X3_waits km_X2_35 (by decide) (hl_o isHl_23) rfl rfl rfl (Nat.le_of_ble_eq_true rfl) dX2_whenGone_24 (fun r1 => ?_)
      refine aw_if_ne C (tgt := 32) dX2_whenGone_27 (by decide) ?_ ?_
      · refine aw_iload_n C dX2_whenGone_30 rfl ?_
        exact aw_iret C hr dX2_whenGone_31
      · refine aw_aload_n C dX2_whenGone_32 rfl ?_
        refine aw_getR C (r := 23) clX2 lo_X_33 1 rfl (by decide) kf_X2_19 dX2_whenGone_33 ?_
        refine aw_cVV C [] [] (m_X3_tickOnce 23 isHl_23 M) v_X3_tickOnce km_X2_32 (by decide) (hl_o isHl_23) rfl rfl rfl (Nat.le_of_ble_eq_true rfl) dX2_whenGone_36 (fun M2 => ?_)
        refine aw_iinc C (v := (1 : Int32)) [(2, .int (x2 + (1 : Int32))), (0, .ref 33), (1, .int x1)] dX2_whenGone_39 rfl (by decide) (by decide) rfl ?_
        refine aw_goto C (tgt := 13) dX2_whenGone_42 (by decide) ?_
        refine aw_sub [1, 2, 0] rfl ?_
        exact ih x1 (x2 + (1 : Int32)) M2
theorem m_X2_whenGone   (x1 : Int32) (M : Mem) : AMet 6 yX2_whenGone cX2_whenGone 3 (some .int) lyX [.ref 33, .int x1] M (qI lyX) (X2_whenGone x1 M) := by
  refine am_ent pn_X2 (Nat.le_of_ble_eq_true rfl) (fun E C hr => ?_)
  refine aw_lv (lv' := [(0, .ref 33), (1, .int x1)]) rfl ?_
  unfold X2_whenGone
  refine aw_aload_n C dX2_whenGone_0 rfl ?_
  refine aw_getR C (r := 23) clX2 lo_X_33 1 rfl (by decide) kf_X2_19 dX2_whenGone_1 ?_
  refine aw_aload_n C dX2_whenGone_4 rfl ?_
  refine aw_getR C (r := 15) clX2 lo_X_33 0 rfl (by decide) kf_X2_15 dX2_whenGone_5 ?_
  refine aw_cVV C [.ref 15] [] (m_X3_become 23 isHl_23 15 isHl_15 M) v_X3_become km_X2_22 (by decide) (hl_o isHl_23) rfl rfl rfl (Nat.le_of_ble_eq_true rfl) dX2_whenGone_8 (fun M1 => ?_)
  refine aw_iconst C (0 : Int32) dX2_whenGone_11 (by decide) ?_
  refine aw_istore_n C [(2, .int (0 : Int32)), (0, .ref 33), (1, .int x1)] dX2_whenGone_12 (by decide) rfl ?_
  refine aw_sub [1, 2, 0] rfl ?_
  exact m_X2_whenGone_13 C hr am_fuel x1 (0 : Int32) M1
def X2_whenEmpty_25  : Nat → Int32 → Int32 → Mem → Option (Int32 × Mem)
  | 0, _, _, _ => none
  | f + 1, x1, x2, M =>
    if (60 : Int32) < x2 then
      some ((-1000000 : Int32), M)
    else
      Option.bind (X3_setOf 23 M (3 : Int32)) fun r1 =>
      if r1 = x1 then
        some (x2, M)
      else
        Option.bind (X3_tickOnce 23 M) fun M2 =>
        X2_whenEmpty_25  f x1 (x2 + (1 : Int32)) M2
def X2_whenEmpty   (M : Mem) : Option (Int32 × Mem) :=
  Option.bind (X3_become 23 15 M) fun M1 =>
  X2_whenEmpty_25 am_fuel (((1 : Int32) <<< ((M 15 1) &&& 31)) - (1 : Int32)) (0 : Int32) M1
theorem m_X2_whenEmpty_25 {E : amE} (C : amC E 6 cX2_whenEmpty 3 RX2) (hr : (eH E).sig.returnType = (some .int))  : ∀ (f : Nat) (x1 : Int32) (x2 : Int32) (M : Mem), AW E lyX 3 (qI lyX) (X2_whenEmpty_25 f x1 x2 M) 25 [(0, .ref 33), (1, .int x1), (2, .int x2)] [] M := by
  intro f
  induction f with
  | zero => exact (fun _ _ _ => aw_none)
  | succ f ih =>
    intro x1 x2 M
    rw [X2_whenEmpty_25]
    refine aw_iload_n C dX2_whenEmpty_25 rfl ?_
    refine aw_bipush C (60 : Int32) dX2_whenEmpty_26 (by decide) ?_
    refine aw_icmp_gt C (tgt := 58) dX2_whenEmpty_28 (by decide) ?_ ?_
    · refine aw_ldc C kc_X2_39 dX2_whenEmpty_58 ?_
      exact aw_iret C hr dX2_whenEmpty_60
    · refine aw_aload_n C dX2_whenEmpty_31 rfl ?_
      refine aw_getR C (r := 23) clX2 lo_X_33 1 rfl (by decide) kf_X2_19 dX2_whenEmpty_32 ?_
      refine aw_iconst C (3 : Int32) dX2_whenEmpty_35 (by decide) ?_
      refine aw_cVIp C [.int (3 : Int32)] [] (m_X3_setOf 23 isHl_23 M (3 : Int32)) v_X3_setOf km_X2_44 (by decide) (hl_o isHl_23) rfl rfl rfl (Nat.le_of_ble_eq_true rfl) dX2_whenEmpty_36 (fun r1 => ?_)
      refine aw_iload_n C dX2_whenEmpty_39 rfl ?_
      refine aw_icmp_ne C (tgt := 45) dX2_whenEmpty_40 (by decide) ?_ ?_
      · refine aw_iload_n C dX2_whenEmpty_43 rfl ?_
        exact aw_iret C hr dX2_whenEmpty_44
      · refine aw_aload_n C dX2_whenEmpty_45 rfl ?_
        refine aw_getR C (r := 23) clX2 lo_X_33 1 rfl (by decide) kf_X2_19 dX2_whenEmpty_46 ?_
        refine aw_cVV C [] [] (m_X3_tickOnce 23 isHl_23 M) v_X3_tickOnce km_X2_32 (by decide) (hl_o isHl_23) rfl rfl rfl (Nat.le_of_ble_eq_true rfl) dX2_whenEmpty_49 (fun M2 => ?_)
        refine aw_iinc C (v := (1 : Int32)) [(2, .int (x2 + (1 : Int32))), (0, .ref 33), (1, .int x1)] dX2_whenEmpty_52 rfl (by decide) (by decide) rfl ?_
        refine aw_goto C (tgt := 25) dX2_whenEmpty_55 (by decide) ?_
        refine aw_sub [1, 2, 0] rfl ?_
        exact ih x1 (x2 + (1 : Int32)) M2
theorem m_X2_whenEmpty    (M : Mem) : AMet 6 yX2_whenEmpty cX2_whenEmpty 3 (some .int) lyX [.ref 33] M (qI lyX) (X2_whenEmpty M) := by
  refine am_ent pn_X2 (Nat.le_of_ble_eq_true rfl) (fun E C hr => ?_)
  refine aw_lv (lv' := [(0, .ref 33)]) rfl ?_
  unfold X2_whenEmpty
  refine aw_iconst C (1 : Int32) dX2_whenEmpty_0 (by decide) ?_
  refine aw_aload_n C dX2_whenEmpty_1 rfl ?_
  refine aw_getR C (r := 15) clX2 lo_X_33 0 rfl (by decide) kf_X2_15 dX2_whenEmpty_2 ?_
  refine aw_getI C clX3 (hl_o isHl_15) 1 rfl (by decide) kf_X2_40 dX2_whenEmpty_5 ?_
  refine aw_ishl C dX2_whenEmpty_8 ?_
  refine aw_iconst C (1 : Int32) dX2_whenEmpty_9 (by decide) ?_
  refine aw_isub C dX2_whenEmpty_10 ?_
  refine aw_istore_n C [(1, .int (((1 : Int32) <<< ((M 15 1) &&& 31)) - (1 : Int32))), (0, .ref 33)] dX2_whenEmpty_11 (by decide) rfl ?_
  refine aw_aload_n C dX2_whenEmpty_12 rfl ?_
  refine aw_getR C (r := 23) clX2 lo_X_33 1 rfl (by decide) kf_X2_19 dX2_whenEmpty_13 ?_
  refine aw_aload_n C dX2_whenEmpty_16 rfl ?_
  refine aw_getR C (r := 15) clX2 lo_X_33 0 rfl (by decide) kf_X2_15 dX2_whenEmpty_17 ?_
  refine aw_cVV C [.ref 15] [] (m_X3_become 23 isHl_23 15 isHl_15 M) v_X3_become km_X2_22 (by decide) (hl_o isHl_23) rfl rfl rfl (Nat.le_of_ble_eq_true rfl) dX2_whenEmpty_20 (fun M1 => ?_)
  refine aw_iconst C (0 : Int32) dX2_whenEmpty_23 (by decide) ?_
  refine aw_istore_n C [(2, .int (0 : Int32)), (1, .int (((1 : Int32) <<< ((M 15 1) &&& 31)) - (1 : Int32))), (0, .ref 33)] dX2_whenEmpty_24 (by decide) rfl ?_
  refine aw_sub [2, 1, 0] rfl ?_
  exact m_X2_whenEmpty_25 C hr am_fuel (((1 : Int32) <<< ((M 15 1) &&& 31)) - (1 : Int32)) (0 : Int32) M1
def X2_whenGoneWithOwn_24  : Nat → Int32 → Int32 → Int32 → Mem → Option (Int32 × Mem)
  | 0, _, _, _, _ => none
  | f + 1, x1, x3, x4, M =>
    if x3 < x4 then
      some ((-1000000 : Int32), M)
    else
      Option.bind (X3_tickOnce 23 M) fun M1 =>
      Option.bind (X3_waits 23 M1 x1) fun r2 =>
      if r2 = 0 then
        Option.bind (X3_isWrong 23 M1 x1) fun r3 =>
        if r3 = 0 then
          some (x4, M1)
        else
          some ((-1000000 : Int32), M1)
      else
        X2_whenGoneWithOwn_24  f x1 x3 (x4 + (1 : Int32)) M1
def X2_whenGoneWithOwn  (x1 : Int32) (x2 : Int32) (x3 : Int32) (M : Mem) : Option (Int32 × Mem) :=
  Option.bind (X3_become 23 15 M) fun M1 =>
  if am_in x1 6 = true then
    am_let (mset M1 25 (upd (M1 25) x1.toNatClampNeg x2)) fun M2 =>
    X2_whenGoneWithOwn_24 am_fuel x1 x3 (1 : Int32) M2
  else none
theorem m_X2_whenGoneWithOwn_24 {E : amE} (C : amC E 6 cX2_whenGoneWithOwn 5 RX2) (hr : (eH E).sig.returnType = (some .int))  : ∀ (f : Nat) (x1 : Int32) (x3 : Int32) (x4 : Int32) (M : Mem), AW E lyX 5 (qI lyX) (X2_whenGoneWithOwn_24 f x1 x3 x4 M) 24 [(0, .ref 33), (1, .int x1), (3, .int x3), (4, .int x4)] [] M := by
  intro f
  induction f with
  | zero => exact (fun _ _ _ _ => aw_none)
  | succ f ih =>
    intro x1 x3 x4 M
    rw [X2_whenGoneWithOwn_24]
    refine aw_iload C dX2_whenGoneWithOwn_24 rfl ?_
    refine aw_iload_n C dX2_whenGoneWithOwn_26 rfl ?_
    refine aw_icmp_gt C (tgt := 73) dX2_whenGoneWithOwn_27 (by decide) ?_ ?_
    · refine aw_ldc C kc_X2_39 dX2_whenGoneWithOwn_73 ?_
      exact aw_iret C hr dX2_whenGoneWithOwn_75
    · refine aw_aload_n C dX2_whenGoneWithOwn_30 rfl ?_
      refine aw_getR C (r := 23) clX2 lo_X_33 1 rfl (by decide) kf_X2_19 dX2_whenGoneWithOwn_31 ?_
      refine aw_cVV C [] [] (m_X3_tickOnce 23 isHl_23 M) v_X3_tickOnce km_X2_32 (by decide) (hl_o isHl_23) rfl rfl rfl (Nat.le_of_ble_eq_true rfl) dX2_whenGoneWithOwn_34 (fun M1 => ?_)
      refine aw_aload_n C dX2_whenGoneWithOwn_37 rfl ?_
      refine aw_getR C (r := 23) clX2 lo_X_33 1 rfl (by decide) kf_X2_19 dX2_whenGoneWithOwn_38 ?_
      refine aw_iload_n C dX2_whenGoneWithOwn_41 rfl ?_
      refine aw_cVIp C [.int x1] [] (m_X3_waits 23 isHl_23 M1 x1) v_X3_waits km_X2_35 (by decide) (hl_o isHl_23) rfl rfl rfl (Nat.le_of_ble_eq_true rfl) dX2_whenGoneWithOwn_42 (fun r2 => ?_)
      refine aw_if_ne C (tgt := 67) dX2_whenGoneWithOwn_45 (by decide) ?_ ?_
      · refine aw_aload_n C dX2_whenGoneWithOwn_48 rfl ?_
        refine aw_getR C (r := 23) clX2 lo_X_33 1 rfl (by decide) kf_X2_19 dX2_whenGoneWithOwn_49 ?_
        refine aw_iload_n C dX2_whenGoneWithOwn_52 rfl ?_
        refine aw_cVIp C [.int x1] [] (m_X3_isWrong 23 isHl_23 M1 x1) v_X3_isWrong km_X2_58 (by decide) (hl_o isHl_23) rfl rfl rfl (Nat.le_of_ble_eq_true rfl) dX2_whenGoneWithOwn_53 (fun r3 => ?_)
        refine aw_if_eq C (tgt := 64) dX2_whenGoneWithOwn_56 (by decide) ?_ ?_
        · refine aw_iload C dX2_whenGoneWithOwn_64 rfl ?_
          exact aw_iret C hr dX2_whenGoneWithOwn_66
        · refine aw_ldc C kc_X2_39 dX2_whenGoneWithOwn_59 ?_
          refine aw_goto C (tgt := 66) dX2_whenGoneWithOwn_61 (by decide) ?_
          exact aw_iret C hr dX2_whenGoneWithOwn_66
      · refine aw_iinc C (v := (1 : Int32)) [(4, .int (x4 + (1 : Int32))), (0, .ref 33), (1, .int x1), (3, .int x3)] dX2_whenGoneWithOwn_67 rfl (by decide) (by decide) rfl ?_
        refine aw_goto C (tgt := 24) dX2_whenGoneWithOwn_70 (by decide) ?_
        refine aw_sub [1, 2, 3, 0] rfl ?_
        exact ih x1 x3 (x4 + (1 : Int32)) M1
theorem m_X2_whenGoneWithOwn   (x1 : Int32) (x2 : Int32) (x3 : Int32) (M : Mem) : AMet 6 yX2_whenGoneWithOwn cX2_whenGoneWithOwn 5 (some .int) lyX [.ref 33, .int x1, .int x2, .int x3] M (qI lyX) (X2_whenGoneWithOwn x1 x2 x3 M) := by
  refine am_ent pn_X2 (Nat.le_of_ble_eq_true rfl) (fun E C hr => ?_)
  refine aw_lv (lv' := [(0, .ref 33), (1, .int x1), (2, .int x2), (3, .int x3)]) rfl ?_
  unfold X2_whenGoneWithOwn
  refine aw_aload_n C dX2_whenGoneWithOwn_0 rfl ?_
  refine aw_getR C (r := 23) clX2 lo_X_33 1 rfl (by decide) kf_X2_19 dX2_whenGoneWithOwn_1 ?_
  refine aw_aload_n C dX2_whenGoneWithOwn_4 rfl ?_
  refine aw_getR C (r := 15) clX2 lo_X_33 0 rfl (by decide) kf_X2_15 dX2_whenGoneWithOwn_5 ?_
  refine aw_cVV C [.ref 15] [] (m_X3_become 23 isHl_23 15 isHl_15 M) v_X3_become km_X2_22 (by decide) (hl_o isHl_23) rfl rfl rfl (Nat.le_of_ble_eq_true rfl) dX2_whenGoneWithOwn_8 (fun M1 => ?_)
  refine aw_aload_n C dX2_whenGoneWithOwn_11 rfl ?_
  refine aw_getR C (r := 23) clX2 lo_X_33 1 rfl (by decide) kf_X2_19 dX2_whenGoneWithOwn_12 ?_
  refine aw_getR C (r := 25) clX3 (hl_o isHl_23) 7 rfl (by decide) kf_X2_55 dX2_whenGoneWithOwn_15 ?_
  refine aw_iload_n C dX2_whenGoneWithOwn_18 rfl ?_
  refine aw_iload_n C dX2_whenGoneWithOwn_19 rfl ?_
  refine aw_iast C (hl_2 isHl_23) dX2_whenGoneWithOwn_20 ?_
  refine aw_mlet (fun M2 => ?_)
  refine aw_iconst C (1 : Int32) dX2_whenGoneWithOwn_21 (by decide) ?_
  refine aw_istore C [(4, .int (1 : Int32)), (0, .ref 33), (1, .int x1), (2, .int x2), (3, .int x3)] dX2_whenGoneWithOwn_22 (by decide) rfl ?_
  refine aw_sub [1, 2, 4, 0] rfl ?_
  exact m_X2_whenGoneWithOwn_24 C hr am_fuel x1 x3 (1 : Int32) M2
def X2_bestStand_38 (K11 : Int32 → Int32 → Int32 → Int32 → Int32 → Int32 → Mem → Option (Int32 × Mem)) (x1 : Int32) (x2 : Int32) (x3 : Int32) (x4 : Int32) (x5 : Int32) (x6 : Int32) (s0 : Int32) (M : Mem) : Option (Int32 × Mem) :=
  Option.bind (X2_whenGoneWithOwn x1 x6 s0 M) fun u1 =>
  if u1.1 = (-1000000 : Int32) then
    K11 x1 x2 x3 x4 x5 (x6 + (1 : Int32)) u1.2
  else
    K11 x1 x2 x3 x6 u1.1 (x6 + (1 : Int32)) u1.2
def X2_bestStand_11  : Nat → Int32 → Int32 → Int32 → Int32 → Int32 → Int32 → Mem → Option (Int32 × Mem)
  | 0, _, _, _, _, _, _, _ => none
  | f + 1, x1, x2, x3, x4, x5, x6, M =>
    if x6 < (M 15 0) then
      if x5 = (-1000000 : Int32) then
        X2_bestStand_38 (X2_bestStand_11  f) x1 x2 x3 x4 x5 x6 x2 M
      else
        X2_bestStand_38 (X2_bestStand_11  f) x1 x2 x3 x4 x5 x6 (x5 - (1 : Int32)) M
    else
      if x3 = 0 then
        some (x4, M)
      else
        some (x5, M)
def X2_bestStand  (x1 : Int32) (x2 : Int32) (x3 : Int32) (M : Mem) : Option (Int32 × Mem) :=
  X2_bestStand_11 am_fuel x1 x2 x3 (-1000000 : Int32) (-1000000 : Int32) (0 : Int32) M
theorem m_X2_bestStand_38 {E : amE} (C : amC E 7 cX2_bestStand 9 RX2) (hr : (eH E).sig.returnType = (some .int)) (K11 : Int32 → Int32 → Int32 → Int32 → Int32 → Int32 → Mem → Option (Int32 × Mem)) (hK11 : ∀ (x1 : Int32) (x2 : Int32) (x3 : Int32) (x4 : Int32) (x5 : Int32) (x6 : Int32) (M : Mem), AW E lyX 9 (qI lyX) (K11 x1 x2 x3 x4 x5 x6 M) 11 [(0, .ref 33), (1, .int x1), (2, .int x2), (3, .int x3), (4, .int x4), (5, .int x5), (6, .int x6)] [] M) (x1 : Int32) (x2 : Int32) (x3 : Int32) (x4 : Int32) (x5 : Int32) (x6 : Int32) (s0 : Int32) (M : Mem) : AW E lyX 9 (qI lyX) (X2_bestStand_38 K11 x1 x2 x3 x4 x5 x6 s0 M) 38 [(0, .ref 33), (1, .int x1), (2, .int x2), (3, .int x3), (4, .int x4), (5, .int x5), (6, .int x6)] [.int s0] M := by
  unfold X2_bestStand_38
  refine aw_istore C [(7, .int s0), (0, .ref 33), (1, .int x1), (2, .int x2), (3, .int x3), (4, .int x4), (5, .int x5), (6, .int x6)] dX2_bestStand_38 (by decide) rfl ?_
  refine aw_aload_n C dX2_bestStand_40 rfl ?_
  refine aw_iload_n C dX2_bestStand_41 rfl ?_
  refine aw_iload C dX2_bestStand_42 rfl ?_
  refine aw_iload C dX2_bestStand_44 rfl ?_
  refine aw_cVI C [.int x1, .int x6, .int s0] [] (m_X2_whenGoneWithOwn x1 x6 s0 M) v_X2_whenGoneWithOwn km_X2_51 (by decide) lo_X_33 rfl rfl rfl (Nat.le_of_ble_eq_true rfl) dX2_bestStand_46 (fun u1 => ?_)
  refine aw_istore C [(8, .int u1.1), (7, .int s0), (0, .ref 33), (1, .int x1), (2, .int x2), (3, .int x3), (4, .int x4), (5, .int x5), (6, .int x6)] dX2_bestStand_49 (by decide) rfl ?_
  refine aw_iload C dX2_bestStand_51 rfl ?_
  refine aw_ldc C kc_X2_39 dX2_bestStand_53 ?_
  refine aw_icmp_eq C (tgt := 66) dX2_bestStand_55 (by decide) ?_ ?_
  · refine aw_iinc C (v := (1 : Int32)) [(6, .int (x6 + (1 : Int32))), (8, .int u1.1), (7, .int s0), (0, .ref 33), (1, .int x1), (2, .int x2), (3, .int x3), (4, .int x4), (5, .int x5)] dX2_bestStand_66 rfl (by decide) (by decide) rfl ?_
    refine aw_goto C (tgt := 11) dX2_bestStand_69 (by decide) ?_
    refine aw_sub [3, 4, 5, 6, 7, 8, 0] rfl ?_
    exact hK11 x1 x2 x3 x4 x5 (x6 + (1 : Int32)) u1.2
  · refine aw_iload C dX2_bestStand_58 rfl ?_
    refine aw_istore C [(4, .int x6), (8, .int u1.1), (7, .int s0), (0, .ref 33), (1, .int x1), (2, .int x2), (3, .int x3), (5, .int x5), (6, .int x6)] dX2_bestStand_60 (by decide) rfl ?_
    refine aw_iload C dX2_bestStand_62 rfl ?_
    refine aw_istore C [(5, .int u1.1), (4, .int x6), (8, .int u1.1), (7, .int s0), (0, .ref 33), (1, .int x1), (2, .int x2), (3, .int x3), (6, .int x6)] dX2_bestStand_64 (by decide) rfl ?_
    refine aw_iinc C (v := (1 : Int32)) [(6, .int (x6 + (1 : Int32))), (5, .int u1.1), (4, .int x6), (8, .int u1.1), (7, .int s0), (0, .ref 33), (1, .int x1), (2, .int x2), (3, .int x3)] dX2_bestStand_66 rfl (by decide) (by decide) rfl ?_
    refine aw_goto C (tgt := 11) dX2_bestStand_69 (by decide) ?_
    refine aw_sub [5, 6, 7, 8, 2, 1, 0] rfl ?_
    exact hK11 x1 x2 x3 x6 u1.1 (x6 + (1 : Int32)) u1.2
theorem m_X2_bestStand_11 {E : amE} (C : amC E 7 cX2_bestStand 9 RX2) (hr : (eH E).sig.returnType = (some .int))  : ∀ (f : Nat) (x1 : Int32) (x2 : Int32) (x3 : Int32) (x4 : Int32) (x5 : Int32) (x6 : Int32) (M : Mem), AW E lyX 9 (qI lyX) (X2_bestStand_11 f x1 x2 x3 x4 x5 x6 M) 11 [(0, .ref 33), (1, .int x1), (2, .int x2), (3, .int x3), (4, .int x4), (5, .int x5), (6, .int x6)] [] M := by
  intro f
  induction f with
  | zero => exact (fun _ _ _ _ _ _ _ => aw_none)
  | succ f ih =>
    intro x1 x2 x3 x4 x5 x6 M
    rw [X2_bestStand_11]
    refine aw_iload C dX2_bestStand_11 rfl ?_
    refine aw_aload_n C dX2_bestStand_13 rfl ?_
    refine aw_getR C (r := 15) clX2 lo_X_33 0 rfl (by decide) kf_X2_15 dX2_bestStand_14 ?_
    refine aw_getI C clX3 (hl_o isHl_15) 0 rfl (by decide) kf_X2_48 dX2_bestStand_17 ?_
    refine aw_icmp_ge C (tgt := 72) dX2_bestStand_20 (by decide) ?_ ?_
    · refine aw_iload C dX2_bestStand_23 rfl ?_
      refine aw_ldc C kc_X2_39 dX2_bestStand_25 ?_
      refine aw_icmp_ne C (tgt := 34) dX2_bestStand_27 (by decide) ?_ ?_
      · refine aw_iload_n C dX2_bestStand_30 rfl ?_
        refine aw_goto C (tgt := 38) dX2_bestStand_31 (by decide) ?_
        exact m_X2_bestStand_38 C hr (X2_bestStand_11  f) ih x1 x2 x3 x4 x5 x6 x2 M
      · refine aw_iload C dX2_bestStand_34 rfl ?_
        refine aw_iconst C (1 : Int32) dX2_bestStand_36 (by decide) ?_
        refine aw_isub C dX2_bestStand_37 ?_
        exact m_X2_bestStand_38 C hr (X2_bestStand_11  f) ih x1 x2 x3 x4 x5 x6 (x5 - (1 : Int32)) M
    · refine aw_iload_n C dX2_bestStand_72 rfl ?_
      refine aw_if_ne C (tgt := 81) dX2_bestStand_73 (by decide) ?_ ?_
      · refine aw_iload C dX2_bestStand_76 rfl ?_
        refine aw_goto C (tgt := 83) dX2_bestStand_78 (by decide) ?_
        exact aw_iret C hr dX2_bestStand_83
      · refine aw_iload C dX2_bestStand_81 rfl ?_
        exact aw_iret C hr dX2_bestStand_83
theorem m_X2_bestStand   (x1 : Int32) (x2 : Int32) (x3 : Int32) (M : Mem) : AMet 7 yX2_bestStand cX2_bestStand 9 (some .int) lyX [.ref 33, .int x1, .int x2, .int x3] M (qI lyX) (X2_bestStand x1 x2 x3 M) := by
  refine am_ent pn_X2 (Nat.le_of_ble_eq_true rfl) (fun E C hr => ?_)
  refine aw_lv (lv' := [(0, .ref 33), (1, .int x1), (2, .int x2), (3, .int x3)]) rfl ?_
  unfold X2_bestStand
  refine aw_ldc C kc_X2_39 dX2_bestStand_0 ?_
  refine aw_istore C [(4, .int (-1000000 : Int32)), (0, .ref 33), (1, .int x1), (2, .int x2), (3, .int x3)] dX2_bestStand_2 (by decide) rfl ?_
  refine aw_ldc C kc_X2_39 dX2_bestStand_4 ?_
  refine aw_istore C [(5, .int (-1000000 : Int32)), (4, .int (-1000000 : Int32)), (0, .ref 33), (1, .int x1), (2, .int x2), (3, .int x3)] dX2_bestStand_6 (by decide) rfl ?_
  refine aw_iconst C (0 : Int32) dX2_bestStand_8 (by decide) ?_
  refine aw_istore C [(6, .int (0 : Int32)), (5, .int (-1000000 : Int32)), (4, .int (-1000000 : Int32)), (0, .ref 33), (1, .int x1), (2, .int x2), (3, .int x3)] dX2_bestStand_9 (by decide) rfl ?_
  refine aw_sub [3, 4, 5, 6, 2, 1, 0] rfl ?_
  exact m_X2_bestStand_11 C hr am_fuel x1 x2 x3 (-1000000 : Int32) (-1000000 : Int32) (0 : Int32) M
def X2_markEach_2  : Nat → Int32 → Int32 → Mem → Option (Mem)
  | 0, _, _, _ => none
  | f + 1, x1, x2, M =>
    if x2 < (M 23 1) then
      if ((x1 >>> (x2 &&& 31)) &&& (1 : Int32)) = (1 : Int32) then
        if am_in x2 6 = true then
          am_let (mset M 28 (upd (M 28) x2.toNatClampNeg ((10 : Int32) + x2))) fun M1 =>
          X2_markEach_2  f x1 (x2 + (1 : Int32)) M1
        else none
      else
        X2_markEach_2  f x1 (x2 + (1 : Int32)) M
    else
      some M
def X2_markEach  (x1 : Int32) (M : Mem) : Option (Mem) :=
  X2_markEach_2 am_fuel x1 (0 : Int32) M
theorem m_X2_markEach_2 {E : amE} (C : amC E 1 cX2_markEach 3 RX2) (hr : (eH E).sig.returnType = none)  : ∀ (f : Nat) (x1 : Int32) (x2 : Int32) (M : Mem), AW E lyX 3 (qV lyX) (X2_markEach_2 f x1 x2 M) 2 [(0, .ref 33), (1, .int x1), (2, .int x2)] [] M := by
  intro f
  induction f with
  | zero => exact (fun _ _ _ => aw_none)
  | succ f ih =>
    intro x1 x2 M
    rw [X2_markEach_2]
    refine aw_iload_n C dX2_markEach_2 rfl ?_
    refine aw_aload_n C dX2_markEach_3 rfl ?_
    refine aw_getR C (r := 23) clX2 lo_X_33 1 rfl (by decide) kf_X2_19 dX2_markEach_4 ?_
    refine aw_getI C clX3 (hl_o isHl_23) 1 rfl (by decide) kf_X2_40 dX2_markEach_7 ?_
    refine aw_icmp_ge C (tgt := 41) dX2_markEach_10 (by decide) ?_ ?_
    · refine aw_iload_n C dX2_markEach_13 rfl ?_
      refine aw_iload_n C dX2_markEach_14 rfl ?_
      refine aw_ishr C dX2_markEach_15 ?_
      refine aw_iconst C (1 : Int32) dX2_markEach_16 (by decide) ?_
      refine aw_iand C dX2_markEach_17 ?_
      refine aw_iconst C (1 : Int32) dX2_markEach_18 (by decide) ?_
      refine aw_icmp_ne C (tgt := 35) dX2_markEach_19 (by decide) ?_ ?_
      · refine aw_aload_n C dX2_markEach_22 rfl ?_
        refine aw_getR C (r := 23) clX2 lo_X_33 1 rfl (by decide) kf_X2_19 dX2_markEach_23 ?_
        refine aw_getR C (r := 28) clX3 (hl_o isHl_23) 10 rfl (by decide) kf_X2_70 dX2_markEach_26 ?_
        refine aw_iload_n C dX2_markEach_29 rfl ?_
        refine aw_bipush C (10 : Int32) dX2_markEach_30 (by decide) ?_
        refine aw_iload_n C dX2_markEach_32 rfl ?_
        refine aw_iadd C dX2_markEach_33 ?_
        refine aw_iast C (hl_5 isHl_23) dX2_markEach_34 ?_
        refine aw_mlet (fun M1 => ?_)
        refine aw_iinc C (v := (1 : Int32)) [(2, .int (x2 + (1 : Int32))), (0, .ref 33), (1, .int x1)] dX2_markEach_35 rfl (by decide) (by decide) rfl ?_
        refine aw_goto C (tgt := 2) dX2_markEach_38 (by decide) ?_
        refine aw_sub [1, 2, 0] rfl ?_
        exact ih x1 (x2 + (1 : Int32)) M1
      · refine aw_iinc C (v := (1 : Int32)) [(2, .int (x2 + (1 : Int32))), (0, .ref 33), (1, .int x1)] dX2_markEach_35 rfl (by decide) (by decide) rfl ?_
        refine aw_goto C (tgt := 2) dX2_markEach_38 (by decide) ?_
        refine aw_sub [1, 2, 0] rfl ?_
        exact ih x1 (x2 + (1 : Int32)) M
    · exact aw_vret C hr dX2_markEach_41
theorem m_X2_markEach   (x1 : Int32) (M : Mem) : AMet 1 yX2_markEach cX2_markEach 3 none lyX [.ref 33, .int x1] M (qV lyX) (X2_markEach x1 M) := by
  refine am_ent pn_X2 (Nat.le_of_ble_eq_true rfl) (fun E C hr => ?_)
  refine aw_lv (lv' := [(0, .ref 33), (1, .int x1)]) rfl ?_
  unfold X2_markEach
  refine aw_iconst C (0 : Int32) dX2_markEach_0 (by decide) ?_
  refine aw_istore_n C [(2, .int (0 : Int32)), (0, .ref 33), (1, .int x1)] dX2_markEach_1 (by decide) rfl ?_
  refine aw_sub [1, 2, 0] rfl ?_
  exact m_X2_markEach_2 C hr am_fuel x1 (0 : Int32) M
def X2_fewestMarks_24  : Nat → Int32 → Int32 → Int32 → Int32 → Mem → Option (Int32 × Mem)
  | 0, _, _, _, _, _ => none
  | f + 1, x1, x2, x3, x4, M =>
    if x4 < ((1 : Int32) <<< ((M 15 1) &&& 31)) then
      Option.bind (J6_bitCount_0f7a4 x4) fun r1 =>
      Option.bind (J6_bitCount_0f7a4 x3) fun r2 =>
      if r1 < r2 then
        Option.bind (X3_become 23 15 M) fun M3 =>
        Option.bind (X2_markEach x4 M3) fun M4 =>
        Option.bind (X2_goOn x1 M4) fun u5 =>
        if u5.1 = 23 then
          Option.bind (X3_setOf 23 u5.2 (5 : Int32)) fun r7 =>
          if (r7 &&& (x2 ^^^ (-1 : Int32))) = 0 then
            X2_fewestMarks_24  f x1 x2 x4 (x4 + (1 : Int32)) u5.2
          else
            X2_fewestMarks_24  f x1 x2 x3 (x4 + (1 : Int32)) u5.2
        else none
      else
        X2_fewestMarks_24  f x1 x2 x3 (x4 + (1 : Int32)) M
    else
      some (x3, M)
def X2_fewestMarks  (x1 : Int32) (M : Mem) : Option (Int32 × Mem) :=
  Option.bind (X3_setOf 15 M (5 : Int32)) fun r1 =>
  X2_fewestMarks_24 am_fuel x1 r1 (((1 : Int32) <<< ((M 15 1) &&& 31)) - (1 : Int32)) (0 : Int32) M
theorem m_X2_fewestMarks_24 {E : amE} (C : amC E 7 cX2_fewestMarks 5 RX2) (hr : (eH E).sig.returnType = (some .int))  : ∀ (f : Nat) (x1 : Int32) (x2 : Int32) (x3 : Int32) (x4 : Int32) (M : Mem), AW E lyX 5 (qI lyX) (X2_fewestMarks_24 f x1 x2 x3 x4 M) 24 [(0, .ref 33), (1, .int x1), (2, .int x2), (3, .int x3), (4, .int x4)] [] M := by
  intro f
  induction f with
  | zero => exact (fun _ _ _ _ _ => aw_none)
  | succ f ih =>
    intro x1 x2 x3 x4 M
    rw [X2_fewestMarks_24]
    refine aw_iload C dX2_fewestMarks_24 rfl ?_
    refine aw_iconst C (1 : Int32) dX2_fewestMarks_26 (by decide) ?_
    refine aw_aload_n C dX2_fewestMarks_27 rfl ?_
    refine aw_getR C (r := 15) clX2 lo_X_33 0 rfl (by decide) kf_X2_15 dX2_fewestMarks_28 ?_
    refine aw_getI C clX3 (hl_o isHl_15) 1 rfl (by decide) kf_X2_40 dX2_fewestMarks_31 ?_
    refine aw_ishl C dX2_fewestMarks_34 ?_
    refine aw_icmp_ge C (tgt := 96) dX2_fewestMarks_35 (by decide) ?_ ?_
    · refine aw_iload C dX2_fewestMarks_38 rfl ?_
      refine aw_cSIp C [.int x4] [] (m_J6_bitCount_0f7a4 M x4) t_J6_bitCount_0f7a4 km_X2_61 (by decide) rfl rfl (Nat.le_of_ble_eq_true rfl) dX2_fewestMarks_40 (fun r1 => ?_)
      refine aw_iload_n C dX2_fewestMarks_43 rfl ?_
      refine aw_cSIp C [.int x3] [.int r1] (m_J6_bitCount_0f7a4 M x3) t_J6_bitCount_0f7a4 km_X2_61 (by decide) rfl rfl (Nat.le_of_ble_eq_true rfl) dX2_fewestMarks_44 (fun r2 => ?_)
      refine aw_icmp_ge C (tgt := 90) dX2_fewestMarks_47 (by decide) ?_ ?_
      · refine aw_aload_n C dX2_fewestMarks_50 rfl ?_
        refine aw_getR C (r := 23) clX2 lo_X_33 1 rfl (by decide) kf_X2_19 dX2_fewestMarks_51 ?_
        refine aw_aload_n C dX2_fewestMarks_54 rfl ?_
        refine aw_getR C (r := 15) clX2 lo_X_33 0 rfl (by decide) kf_X2_15 dX2_fewestMarks_55 ?_
        refine aw_cVV C [.ref 15] [] (m_X3_become 23 isHl_23 15 isHl_15 M) v_X3_become km_X2_22 (by decide) (hl_o isHl_23) rfl rfl rfl (Nat.le_of_ble_eq_true rfl) dX2_fewestMarks_58 (fun M3 => ?_)
        refine aw_aload_n C dX2_fewestMarks_61 rfl ?_
        refine aw_iload C dX2_fewestMarks_62 rfl ?_
        refine aw_cVV C [.int x4] [] (m_X2_markEach x4 M3) v_X2_markEach km_X2_66 (by decide) lo_X_33 rfl rfl rfl (Nat.le_of_ble_eq_true rfl) dX2_fewestMarks_64 (fun M4 => ?_)
        refine aw_aload_n C dX2_fewestMarks_67 rfl ?_
        refine aw_iload_n C dX2_fewestMarks_68 rfl ?_
        refine aw_cVR C [.int x1] [] (m_X2_goOn x1 M4) v_X2_goOn km_X2_28 (by decide) lo_X_33 rfl rfl rfl (Nat.le_of_ble_eq_true rfl) dX2_fewestMarks_69 (fun u5 => ?_)
        refine aw_ite (fun h6 => ?_) (fun _ => aw_none)
        refine aw_st (st' := [.ref 23]) (by rw [h6]) ?_
        refine aw_iconst C (5 : Int32) dX2_fewestMarks_72 (by decide) ?_
        refine aw_cVIp C [.int (5 : Int32)] [] (m_X3_setOf 23 isHl_23 u5.2 (5 : Int32)) v_X3_setOf km_X2_44 (by decide) (hl_o isHl_23) rfl rfl rfl (Nat.le_of_ble_eq_true rfl) dX2_fewestMarks_73 (fun r7 => ?_)
        refine aw_iload_n C dX2_fewestMarks_76 rfl ?_
        refine aw_iconst C (-1 : Int32) dX2_fewestMarks_77 (by decide) ?_
        refine aw_ixor C dX2_fewestMarks_78 ?_
        refine aw_iand C dX2_fewestMarks_79 ?_
        refine aw_if_ne C (tgt := 88) dX2_fewestMarks_80 (by decide) ?_ ?_
        · refine aw_iload C dX2_fewestMarks_83 rfl ?_
          refine aw_goto C (tgt := 89) dX2_fewestMarks_85 (by decide) ?_
          refine aw_istore_n C [(3, .int x4), (0, .ref 33), (1, .int x1), (2, .int x2), (4, .int x4)] dX2_fewestMarks_89 (by decide) rfl ?_
          refine aw_iinc C (v := (1 : Int32)) [(4, .int (x4 + (1 : Int32))), (3, .int x4), (0, .ref 33), (1, .int x1), (2, .int x2)] dX2_fewestMarks_90 rfl (by decide) (by decide) rfl ?_
          refine aw_goto C (tgt := 24) dX2_fewestMarks_93 (by decide) ?_
          refine aw_sub [2, 3, 4, 1, 0] rfl ?_
          exact ih x1 x2 x4 (x4 + (1 : Int32)) u5.2
        · refine aw_iload_n C dX2_fewestMarks_88 rfl ?_
          refine aw_istore_n C [(3, .int x3), (0, .ref 33), (1, .int x1), (2, .int x2), (4, .int x4)] dX2_fewestMarks_89 (by decide) rfl ?_
          refine aw_iinc C (v := (1 : Int32)) [(4, .int (x4 + (1 : Int32))), (3, .int x3), (0, .ref 33), (1, .int x1), (2, .int x2)] dX2_fewestMarks_90 rfl (by decide) (by decide) rfl ?_
          refine aw_goto C (tgt := 24) dX2_fewestMarks_93 (by decide) ?_
          refine aw_sub [2, 3, 4, 1, 0] rfl ?_
          exact ih x1 x2 x3 (x4 + (1 : Int32)) u5.2
      · refine aw_iinc C (v := (1 : Int32)) [(4, .int (x4 + (1 : Int32))), (0, .ref 33), (1, .int x1), (2, .int x2), (3, .int x3)] dX2_fewestMarks_90 rfl (by decide) (by decide) rfl ?_
        refine aw_goto C (tgt := 24) dX2_fewestMarks_93 (by decide) ?_
        refine aw_sub [1, 2, 3, 4, 0] rfl ?_
        exact ih x1 x2 x3 (x4 + (1 : Int32)) M
    · refine aw_iload_n C dX2_fewestMarks_96 rfl ?_
      exact aw_iret C hr dX2_fewestMarks_97
theorem m_X2_fewestMarks   (x1 : Int32) (M : Mem) : AMet 7 yX2_fewestMarks cX2_fewestMarks 5 (some .int) lyX [.ref 33, .int x1] M (qI lyX) (X2_fewestMarks x1 M) := by
  refine am_ent pn_X2 (Nat.le_of_ble_eq_true rfl) (fun E C hr => ?_)
  refine aw_lv (lv' := [(0, .ref 33), (1, .int x1)]) rfl ?_
  unfold X2_fewestMarks
  refine aw_aload_n C dX2_fewestMarks_0 rfl ?_
  refine aw_getR C (r := 15) clX2 lo_X_33 0 rfl (by decide) kf_X2_15 dX2_fewestMarks_1 ?_
  refine aw_iconst C (5 : Int32) dX2_fewestMarks_4 (by decide) ?_
  refine aw_cVIp C [.int (5 : Int32)] [] (m_X3_setOf 15 isHl_15 M (5 : Int32)) v_X3_setOf km_X2_44 (by decide) (hl_o isHl_15) rfl rfl rfl (Nat.le_of_ble_eq_true rfl) dX2_fewestMarks_5 (fun r1 => ?_)
  refine aw_istore_n C [(2, .int r1), (0, .ref 33), (1, .int x1)] dX2_fewestMarks_8 (by decide) rfl ?_
  refine aw_iconst C (1 : Int32) dX2_fewestMarks_9 (by decide) ?_
  refine aw_aload_n C dX2_fewestMarks_10 rfl ?_
  refine aw_getR C (r := 15) clX2 lo_X_33 0 rfl (by decide) kf_X2_15 dX2_fewestMarks_11 ?_
  refine aw_getI C clX3 (hl_o isHl_15) 1 rfl (by decide) kf_X2_40 dX2_fewestMarks_14 ?_
  refine aw_ishl C dX2_fewestMarks_17 ?_
  refine aw_iconst C (1 : Int32) dX2_fewestMarks_18 (by decide) ?_
  refine aw_isub C dX2_fewestMarks_19 ?_
  refine aw_istore_n C [(3, .int (((1 : Int32) <<< ((M 15 1) &&& 31)) - (1 : Int32))), (2, .int r1), (0, .ref 33), (1, .int x1)] dX2_fewestMarks_20 (by decide) rfl ?_
  refine aw_iconst C (0 : Int32) dX2_fewestMarks_21 (by decide) ?_
  refine aw_istore C [(4, .int (0 : Int32)), (3, .int (((1 : Int32) <<< ((M 15 1) &&& 31)) - (1 : Int32))), (2, .int r1), (0, .ref 33), (1, .int x1)] dX2_fewestMarks_22 (by decide) rfl ?_
  refine aw_sub [3, 4, 2, 1, 0] rfl ?_
  exact m_X2_fewestMarks_24 C hr am_fuel x1 r1 (((1 : Int32) <<< ((M 15 1) &&& 31)) - (1 : Int32)) (0 : Int32) M
def X2_seenBy_4 (M : Mem) : Nat → Int32 → Int32 → Int32 → Option (Int32)
  | 0, _, _, _ => none
  | f + 1, x1, x2, x3 =>
    if x3 < (M 15 1) then
      if ((x1 >>> (x3 &&& 31)) &&& (1 : Int32)) = (1 : Int32) then
        if am_in x3 6 = true then
          X2_seenBy_4 M f x1 (x2 + (M 18 x3.toNatClampNeg)) (x3 + (1 : Int32))
        else none
      else
        X2_seenBy_4 M f x1 (x2 + (0 : Int32)) (x3 + (1 : Int32))
    else
      some x2
def X2_seenBy (M : Mem) (x1 : Int32)  : Option (Int32) :=
  X2_seenBy_4 M am_fuel x1 (0 : Int32) (0 : Int32)
theorem m_X2_seenBy_4 {E : amE} (C : amC E 1 cX2_seenBy 4 RX2) (hr : (eH E).sig.returnType = (some .int)) (M : Mem) : ∀ (f : Nat) (x1 : Int32) (x2 : Int32) (x3 : Int32), AW E lyX 4 (qIp lyX M) (X2_seenBy_4 M f x1 x2 x3) 4 [(0, .ref 33), (1, .int x1), (2, .int x2), (3, .int x3)] [] M := by
  intro f
  induction f with
  | zero => exact (fun _ _ _ => aw_none)
  | succ f ih =>
    intro x1 x2 x3
    rw [X2_seenBy_4]
    refine aw_iload_n C dX2_seenBy_4 rfl ?_
    refine aw_aload_n C dX2_seenBy_5 rfl ?_
    refine aw_getR C (r := 15) clX2 lo_X_33 0 rfl (by decide) kf_X2_15 dX2_seenBy_6 ?_
    refine aw_getI C clX3 (hl_o isHl_15) 1 rfl (by decide) kf_X2_40 dX2_seenBy_9 ?_
    refine aw_icmp_ge C (tgt := 46) dX2_seenBy_12 (by decide) ?_ ?_
    · refine aw_iload_n C dX2_seenBy_15 rfl ?_
      refine aw_iload_n C dX2_seenBy_16 rfl ?_
      refine aw_iload_n C dX2_seenBy_17 rfl ?_
      refine aw_ishr C dX2_seenBy_18 ?_
      refine aw_iconst C (1 : Int32) dX2_seenBy_19 (by decide) ?_
      refine aw_iand C dX2_seenBy_20 ?_
      refine aw_iconst C (1 : Int32) dX2_seenBy_21 (by decide) ?_
      refine aw_icmp_ne C (tgt := 37) dX2_seenBy_22 (by decide) ?_ ?_
      · refine aw_aload_n C dX2_seenBy_25 rfl ?_
        refine aw_getR C (r := 15) clX2 lo_X_33 0 rfl (by decide) kf_X2_15 dX2_seenBy_26 ?_
        refine aw_getR C (r := 18) clX3 (hl_o isHl_15) 8 rfl (by decide) kf_X2_76 dX2_seenBy_29 ?_
        refine aw_iload_n C dX2_seenBy_32 rfl ?_
        refine aw_iald C (hl_3 isHl_15) dX2_seenBy_33 ?_
        refine aw_goto C (tgt := 38) dX2_seenBy_34 (by decide) ?_
        refine aw_iadd C dX2_seenBy_38 ?_
        refine aw_istore_n C [(2, .int (x2 + (M 18 x3.toNatClampNeg))), (0, .ref 33), (1, .int x1), (3, .int x3)] dX2_seenBy_39 (by decide) rfl ?_
        refine aw_iinc C (v := (1 : Int32)) [(3, .int (x3 + (1 : Int32))), (2, .int (x2 + (M 18 x3.toNatClampNeg))), (0, .ref 33), (1, .int x1)] dX2_seenBy_40 rfl (by decide) (by decide) rfl ?_
        refine aw_goto C (tgt := 4) dX2_seenBy_43 (by decide) ?_
        refine aw_sub [2, 3, 1, 0] rfl ?_
        exact ih x1 (x2 + (M 18 x3.toNatClampNeg)) (x3 + (1 : Int32))
      · refine aw_iconst C (0 : Int32) dX2_seenBy_37 (by decide) ?_
        refine aw_iadd C dX2_seenBy_38 ?_
        refine aw_istore_n C [(2, .int (x2 + (0 : Int32))), (0, .ref 33), (1, .int x1), (3, .int x3)] dX2_seenBy_39 (by decide) rfl ?_
        refine aw_iinc C (v := (1 : Int32)) [(3, .int (x3 + (1 : Int32))), (2, .int (x2 + (0 : Int32))), (0, .ref 33), (1, .int x1)] dX2_seenBy_40 rfl (by decide) (by decide) rfl ?_
        refine aw_goto C (tgt := 4) dX2_seenBy_43 (by decide) ?_
        refine aw_sub [2, 3, 1, 0] rfl ?_
        exact ih x1 (x2 + (0 : Int32)) (x3 + (1 : Int32))
    · refine aw_iload_n C dX2_seenBy_46 rfl ?_
      exact aw_iretp C hr dX2_seenBy_47
theorem m_X2_seenBy  (M : Mem) (x1 : Int32)  : AMet 1 yX2_seenBy cX2_seenBy 4 (some .int) lyX [.ref 33, .int x1] M (qIp lyX M) (X2_seenBy M x1) := by
  refine am_ent pn_X2 (Nat.le_of_ble_eq_true rfl) (fun E C hr => ?_)
  refine aw_lv (lv' := [(0, .ref 33), (1, .int x1)]) rfl ?_
  unfold X2_seenBy
  refine aw_iconst C (0 : Int32) dX2_seenBy_0 (by decide) ?_
  refine aw_istore_n C [(2, .int (0 : Int32)), (0, .ref 33), (1, .int x1)] dX2_seenBy_1 (by decide) rfl ?_
  refine aw_iconst C (0 : Int32) dX2_seenBy_2 (by decide) ?_
  refine aw_istore_n C [(3, .int (0 : Int32)), (2, .int (0 : Int32)), (0, .ref 33), (1, .int x1)] dX2_seenBy_3 (by decide) rfl ?_
  refine aw_sub [2, 3, 1, 0] rfl ?_
  exact m_X2_seenBy_4 C hr M am_fuel x1 (0 : Int32) (0 : Int32)
def X2_setsThatSaw_21 (M : Mem) : Nat → Int32 → Int32 → Int32 → Int32 → Int32 → Int32 → Int32 → Option (Int32)
  | 0, _, _, _, _, _, _, _ => none
  | f + 1, x1, x2, x3, x4, x5, x6, x7 =>
    if x3 < x7 then
      if x2 = 0 then
        some x4
      else
        if x4 = 0 then
          some (0 : Int32)
        else
          if x2 = (1 : Int32) then
            some x5
          else
            some x6
    else
      if (x7 &&& (x3 ^^^ (-1 : Int32))) = 0 then
        Option.bind (X2_seenBy M x7) fun r1 =>
        if r1 = x1 then
          X2_setsThatSaw_21 M f x1 x2 x3 (x4 + (1 : Int32)) (x5 &&& x7) (x6 ||| x7) (x7 + (1 : Int32))
        else
          X2_setsThatSaw_21 M f x1 x2 x3 x4 x5 x6 (x7 + (1 : Int32))
      else
        X2_setsThatSaw_21 M f x1 x2 x3 x4 x5 x6 (x7 + (1 : Int32))
def X2_setsThatSaw (M : Mem) (x1 : Int32) (x2 : Int32)  : Option (Int32) :=
  Option.bind (X3_setOf 15 M (4 : Int32)) fun r1 =>
  X2_setsThatSaw_21 M am_fuel x1 x2 r1 (0 : Int32) r1 (0 : Int32) (0 : Int32)
theorem m_X2_setsThatSaw_21 {E : amE} (C : amC E 5 cX2_setsThatSaw 8 RX2) (hr : (eH E).sig.returnType = (some .int)) (M : Mem) : ∀ (f : Nat) (x1 : Int32) (x2 : Int32) (x3 : Int32) (x4 : Int32) (x5 : Int32) (x6 : Int32) (x7 : Int32), AW E lyX 8 (qIp lyX M) (X2_setsThatSaw_21 M f x1 x2 x3 x4 x5 x6 x7) 21 [(0, .ref 33), (1, .int x1), (2, .int x2), (3, .int x3), (4, .int x4), (5, .int x5), (6, .int x6), (7, .int x7)] [] M := by
  intro f
  induction f with
  | zero => exact (fun _ _ _ _ _ _ _ => aw_none)
  | succ f ih =>
    intro x1 x2 x3 x4 x5 x6 x7
    rw [X2_setsThatSaw_21]
    refine aw_iload C dX2_setsThatSaw_21 rfl ?_
    refine aw_iload_n C dX2_setsThatSaw_23 rfl ?_
    refine aw_icmp_gt C (tgt := 69) dX2_setsThatSaw_24 (by decide) ?_ ?_
    · refine aw_iload_n C dX2_setsThatSaw_69 rfl ?_
      refine aw_if_ne C (tgt := 76) dX2_setsThatSaw_70 (by decide) ?_ ?_
      · refine aw_iload C dX2_setsThatSaw_73 rfl ?_
        exact aw_iretp C hr dX2_setsThatSaw_75
      · refine aw_iload C dX2_setsThatSaw_76 rfl ?_
        refine aw_if_ne C (tgt := 85) dX2_setsThatSaw_78 (by decide) ?_ ?_
        · refine aw_iconst C (0 : Int32) dX2_setsThatSaw_81 (by decide) ?_
          refine aw_goto C (tgt := 97) dX2_setsThatSaw_82 (by decide) ?_
          exact aw_iretp C hr dX2_setsThatSaw_97
        · refine aw_iload_n C dX2_setsThatSaw_85 rfl ?_
          refine aw_iconst C (1 : Int32) dX2_setsThatSaw_86 (by decide) ?_
          refine aw_icmp_ne C (tgt := 95) dX2_setsThatSaw_87 (by decide) ?_ ?_
          · refine aw_iload C dX2_setsThatSaw_90 rfl ?_
            refine aw_goto C (tgt := 97) dX2_setsThatSaw_92 (by decide) ?_
            exact aw_iretp C hr dX2_setsThatSaw_97
          · refine aw_iload C dX2_setsThatSaw_95 rfl ?_
            exact aw_iretp C hr dX2_setsThatSaw_97
    · refine aw_iload C dX2_setsThatSaw_27 rfl ?_
      refine aw_iload_n C dX2_setsThatSaw_29 rfl ?_
      refine aw_iconst C (-1 : Int32) dX2_setsThatSaw_30 (by decide) ?_
      refine aw_ixor C dX2_setsThatSaw_31 ?_
      refine aw_iand C dX2_setsThatSaw_32 ?_
      refine aw_if_ne C (tgt := 63) dX2_setsThatSaw_33 (by decide) ?_ ?_
      · refine aw_aload_n C dX2_setsThatSaw_36 rfl ?_
        refine aw_iload C dX2_setsThatSaw_37 rfl ?_
        refine aw_cVIp C [.int x7] [] (m_X2_seenBy M x7) v_X2_seenBy km_X2_73 (by decide) lo_X_33 rfl rfl rfl (Nat.le_of_ble_eq_true rfl) dX2_setsThatSaw_39 (fun r1 => ?_)
        refine aw_iload_n C dX2_setsThatSaw_42 rfl ?_
        refine aw_icmp_ne C (tgt := 63) dX2_setsThatSaw_43 (by decide) ?_ ?_
        · refine aw_iinc C (v := (1 : Int32)) [(4, .int (x4 + (1 : Int32))), (0, .ref 33), (1, .int x1), (2, .int x2), (3, .int x3), (5, .int x5), (6, .int x6), (7, .int x7)] dX2_setsThatSaw_46 rfl (by decide) (by decide) rfl ?_
          refine aw_iload C dX2_setsThatSaw_49 rfl ?_
          refine aw_iload C dX2_setsThatSaw_51 rfl ?_
          refine aw_iand C dX2_setsThatSaw_53 ?_
          refine aw_istore C [(5, .int (x5 &&& x7)), (4, .int (x4 + (1 : Int32))), (0, .ref 33), (1, .int x1), (2, .int x2), (3, .int x3), (6, .int x6), (7, .int x7)] dX2_setsThatSaw_54 (by decide) rfl ?_
          refine aw_iload C dX2_setsThatSaw_56 rfl ?_
          refine aw_iload C dX2_setsThatSaw_58 rfl ?_
          refine aw_ior C dX2_setsThatSaw_60 ?_
          refine aw_istore C [(6, .int (x6 ||| x7)), (5, .int (x5 &&& x7)), (4, .int (x4 + (1 : Int32))), (0, .ref 33), (1, .int x1), (2, .int x2), (3, .int x3), (7, .int x7)] dX2_setsThatSaw_61 (by decide) rfl ?_
          refine aw_iinc C (v := (1 : Int32)) [(7, .int (x7 + (1 : Int32))), (6, .int (x6 ||| x7)), (5, .int (x5 &&& x7)), (4, .int (x4 + (1 : Int32))), (0, .ref 33), (1, .int x1), (2, .int x2), (3, .int x3)] dX2_setsThatSaw_63 rfl (by decide) (by decide) rfl ?_
          refine aw_goto C (tgt := 21) dX2_setsThatSaw_66 (by decide) ?_
          refine aw_sub [4, 5, 6, 7, 3, 2, 1, 0] rfl ?_
          exact ih x1 x2 x3 (x4 + (1 : Int32)) (x5 &&& x7) (x6 ||| x7) (x7 + (1 : Int32))
        · refine aw_iinc C (v := (1 : Int32)) [(7, .int (x7 + (1 : Int32))), (0, .ref 33), (1, .int x1), (2, .int x2), (3, .int x3), (4, .int x4), (5, .int x5), (6, .int x6)] dX2_setsThatSaw_63 rfl (by decide) (by decide) rfl ?_
          refine aw_goto C (tgt := 21) dX2_setsThatSaw_66 (by decide) ?_
          refine aw_sub [1, 2, 3, 4, 5, 6, 7, 0] rfl ?_
          exact ih x1 x2 x3 x4 x5 x6 (x7 + (1 : Int32))
      · refine aw_iinc C (v := (1 : Int32)) [(7, .int (x7 + (1 : Int32))), (0, .ref 33), (1, .int x1), (2, .int x2), (3, .int x3), (4, .int x4), (5, .int x5), (6, .int x6)] dX2_setsThatSaw_63 rfl (by decide) (by decide) rfl ?_
        refine aw_goto C (tgt := 21) dX2_setsThatSaw_66 (by decide) ?_
        refine aw_sub [1, 2, 3, 4, 5, 6, 7, 0] rfl ?_
        exact ih x1 x2 x3 x4 x5 x6 (x7 + (1 : Int32))
theorem m_X2_setsThatSaw  (M : Mem) (x1 : Int32) (x2 : Int32)  : AMet 5 yX2_setsThatSaw cX2_setsThatSaw 8 (some .int) lyX [.ref 33, .int x1, .int x2] M (qIp lyX M) (X2_setsThatSaw M x1 x2) := by
  refine am_ent pn_X2 (Nat.le_of_ble_eq_true rfl) (fun E C hr => ?_)
  refine aw_lv (lv' := [(0, .ref 33), (1, .int x1), (2, .int x2)]) rfl ?_
  unfold X2_setsThatSaw
  refine aw_aload_n C dX2_setsThatSaw_0 rfl ?_
  refine aw_getR C (r := 15) clX2 lo_X_33 0 rfl (by decide) kf_X2_15 dX2_setsThatSaw_1 ?_
  refine aw_iconst C (4 : Int32) dX2_setsThatSaw_4 (by decide) ?_
  refine aw_cVIp C [.int (4 : Int32)] [] (m_X3_setOf 15 isHl_15 M (4 : Int32)) v_X3_setOf km_X2_44 (by decide) (hl_o isHl_15) rfl rfl rfl (Nat.le_of_ble_eq_true rfl) dX2_setsThatSaw_5 (fun r1 => ?_)
  refine aw_istore_n C [(3, .int r1), (0, .ref 33), (1, .int x1), (2, .int x2)] dX2_setsThatSaw_8 (by decide) rfl ?_
  refine aw_iconst C (0 : Int32) dX2_setsThatSaw_9 (by decide) ?_
  refine aw_istore C [(4, .int (0 : Int32)), (3, .int r1), (0, .ref 33), (1, .int x1), (2, .int x2)] dX2_setsThatSaw_10 (by decide) rfl ?_
  refine aw_iload_n C dX2_setsThatSaw_12 rfl ?_
  refine aw_istore C [(5, .int r1), (4, .int (0 : Int32)), (3, .int r1), (0, .ref 33), (1, .int x1), (2, .int x2)] dX2_setsThatSaw_13 (by decide) rfl ?_
  refine aw_iconst C (0 : Int32) dX2_setsThatSaw_15 (by decide) ?_
  refine aw_istore C [(6, .int (0 : Int32)), (5, .int r1), (4, .int (0 : Int32)), (3, .int r1), (0, .ref 33), (1, .int x1), (2, .int x2)] dX2_setsThatSaw_16 (by decide) rfl ?_
  refine aw_iconst C (0 : Int32) dX2_setsThatSaw_18 (by decide) ?_
  refine aw_istore C [(7, .int (0 : Int32)), (6, .int (0 : Int32)), (5, .int r1), (4, .int (0 : Int32)), (3, .int r1), (0, .ref 33), (1, .int x1), (2, .int x2)] dX2_setsThatSaw_19 (by decide) rfl ?_
  refine aw_sub [5, 6, 7, 4, 3, 2, 1, 0] rfl ?_
  exact m_X2_setsThatSaw_21 C hr M am_fuel x1 x2 r1 (0 : Int32) r1 (0 : Int32) (0 : Int32)
def X2_outcomeOfTurns_91 (K71 : Int32 → Mem → Option (Int32 × Mem)) : Nat → Int32 → Int32 → Int32 → Mem → Option (Int32 × Mem)
  | 0, _, _, _, _ => none
  | f + 1, x3, x4, x5, M =>
    if x3 < x5 then
      K71 (x3 + (-1 : Int32)) M
    else
      if am_in x5 5 = true then
        if am_in (x5 + (1 : Int32)) 5 = true then
          am_let (if (M 43 x5.toNatClampNeg) < (M 43 (x5 + (1 : Int32)).toNatClampNeg) then (M 43 (x5 + (1 : Int32)).toNatClampNeg) else (M 43 x5.toNatClampNeg)) fun v1 =>
          if am_in x5 5 = true then
            if am_in (x5 + (1 : Int32)) 5 = true then
              am_let (if (M 43 (x5 + (1 : Int32)).toNatClampNeg) < (M 43 x5.toNatClampNeg) then (M 43 (x5 + (1 : Int32)).toNatClampNeg) else (M 43 x5.toNatClampNeg)) fun v2 =>
              if x4 = 0 then
                if am_in x5 5 = true then
                  am_let (mset M 43 (upd (M 43) x5.toNatClampNeg v2)) fun M3 =>
                  X2_outcomeOfTurns_91 K71 f x3 x4 (x5 + (1 : Int32)) M3
                else none
              else
                if am_in x5 5 = true then
                  am_let (mset M 43 (upd (M 43) x5.toNatClampNeg v1)) fun M4 =>
                  X2_outcomeOfTurns_91 K71 f x3 x4 (x5 + (1 : Int32)) M4
                else none
            else none
          else none
        else none
      else none
def X2_outcomeOfTurns_71  : Nat → Int32 → Mem → Option (Int32 × Mem)
  | 0, _, _ => none
  | f + 1, x3, M =>
    if x3 < 0 then
      if am_in (0 : Int32) 5 = true then
        some (M 43 (0 : Int32).toNatClampNeg, M)
      else none
    else
      if (x3 &&& (1 : Int32)) = 0 then
        X2_outcomeOfTurns_91 (X2_outcomeOfTurns_71  f) am_fuel x3 (1 : Int32) (0 : Int32) M
      else
        X2_outcomeOfTurns_91 (X2_outcomeOfTurns_71  f) am_fuel x3 (0 : Int32) (0 : Int32) M
def X2_outcomeOfTurns_14  : Nat → Int32 → Int32 → Int32 → Mem → Option (Int32 × Mem)
  | 0, _, _, _, _ => none
  | f + 1, x1, x2, x3, M =>
    if x1 < x3 then
      X2_outcomeOfTurns_71 am_fuel (x1 - (1 : Int32)) M
    else
      Option.bind (X3_become 23 15 M) fun M5 =>
      if (2 : Int32) = 0 then none else
      Option.bind (X3_turnBy 23 (x3 - (x1 / (2 : Int32))) M5) fun M6 =>
      Option.bind (X2_goOn x2 M6) fun u7 =>
      if u7.1 = 23 then
        Option.bind (X3_setOf 23 u7.2 (7 : Int32)) fun r9 =>
        Option.bind (J6_bitCount_0f7a4 r9) fun r10 =>
        if am_in x3 5 = true then
          am_let (mset u7.2 43 (upd (u7.2 43) x3.toNatClampNeg r10)) fun M11 =>
          X2_outcomeOfTurns_14  f x1 x2 (x3 + (1 : Int32)) M11
        else none
      else none
def X2_outcomeOfTurns  (x1 : Int32) (x2 : Int32) (M : Mem) : Option (Int32 × Mem) :=
  if x1 < 0 then
    some ((-1000000 : Int32), M)
  else
    if (4 : Int32) < x1 then
      some ((-1000000 : Int32), M)
    else
      X2_outcomeOfTurns_14 am_fuel x1 x2 (0 : Int32) M
theorem m_X2_outcomeOfTurns_91 {E : amE} (C : amC E 7 cX2_outcomeOfTurns 8 RX2) (hr : (eH E).sig.returnType = (some .int)) (K71 : Int32 → Mem → Option (Int32 × Mem)) (hK71 : ∀ (x3 : Int32) (M : Mem), AW E lyX 8 (qI lyX) (K71 x3 M) 71 [(0, .ref 33), (3, .int x3)] [] M) : ∀ (f : Nat) (x3 : Int32) (x4 : Int32) (x5 : Int32) (M : Mem), AW E lyX 8 (qI lyX) (X2_outcomeOfTurns_91 K71 f x3 x4 x5 M) 91 [(0, .ref 33), (3, .int x3), (4, .int x4), (5, .int x5)] [] M := by
  intro f
  induction f with
  | zero => exact (fun _ _ _ _ => aw_none)
  | succ f ih =>
    intro x3 x4 x5 M
    rw [X2_outcomeOfTurns_91]
    refine aw_iload C dX2_outcomeOfTurns_91 rfl ?_
    refine aw_iload_n C dX2_outcomeOfTurns_93 rfl ?_
    refine aw_icmp_gt C (tgt := 164) dX2_outcomeOfTurns_94 (by decide) ?_ ?_
    · refine aw_iinc C (v := (-1 : Int32)) [(3, .int (x3 + (-1 : Int32))), (0, .ref 33), (4, .int x4), (5, .int x5)] dX2_outcomeOfTurns_164 rfl (by decide) (by decide) rfl ?_
      refine aw_goto C (tgt := 71) dX2_outcomeOfTurns_167 (by decide) ?_
      refine aw_sub [1, 0] rfl ?_
      exact hK71 (x3 + (-1 : Int32)) M
    · refine aw_aload_n C dX2_outcomeOfTurns_97 rfl ?_
      refine aw_getR C (r := 43) clX2 lo_X_33 2 rfl (by decide) kf_X2_11 dX2_outcomeOfTurns_98 ?_
      refine aw_iload C dX2_outcomeOfTurns_101 rfl ?_
      refine aw_iald C la_X_43 dX2_outcomeOfTurns_103 ?_
      refine aw_aload_n C dX2_outcomeOfTurns_104 rfl ?_
      refine aw_getR C (r := 43) clX2 lo_X_33 2 rfl (by decide) kf_X2_11 dX2_outcomeOfTurns_105 ?_
      refine aw_iload C dX2_outcomeOfTurns_108 rfl ?_
      refine aw_iconst C (1 : Int32) dX2_outcomeOfTurns_110 (by decide) ?_
      refine aw_iadd C dX2_outcomeOfTurns_111 ?_
      refine aw_iald C la_X_43 dX2_outcomeOfTurns_112 ?_
      refine aw_mmax C km_X2_82 k_max_st k_m_ini k_max_code (by decide) (Nat.le_of_ble_eq_true rfl) dX2_outcomeOfTurns_113 ?_
      refine aw_ilet (fun v1 => ?_)
      refine aw_istore C [(6, .int v1), (0, .ref 33), (3, .int x3), (4, .int x4), (5, .int x5)] dX2_outcomeOfTurns_116 (by decide) rfl ?_
      refine aw_aload_n C dX2_outcomeOfTurns_118 rfl ?_
      refine aw_getR C (r := 43) clX2 lo_X_33 2 rfl (by decide) kf_X2_11 dX2_outcomeOfTurns_119 ?_
      refine aw_iload C dX2_outcomeOfTurns_122 rfl ?_
      refine aw_iald C la_X_43 dX2_outcomeOfTurns_124 ?_
      refine aw_aload_n C dX2_outcomeOfTurns_125 rfl ?_
      refine aw_getR C (r := 43) clX2 lo_X_33 2 rfl (by decide) kf_X2_11 dX2_outcomeOfTurns_126 ?_
      refine aw_iload C dX2_outcomeOfTurns_129 rfl ?_
      refine aw_iconst C (1 : Int32) dX2_outcomeOfTurns_131 (by decide) ?_
      refine aw_iadd C dX2_outcomeOfTurns_132 ?_
      refine aw_iald C la_X_43 dX2_outcomeOfTurns_133 ?_
      refine aw_mmin C km_X2_88 k_min_st k_m_ini k_min_code (by decide) (Nat.le_of_ble_eq_true rfl) dX2_outcomeOfTurns_134 ?_
      refine aw_ilet (fun v2 => ?_)
      refine aw_istore C [(7, .int v2), (6, .int v1), (0, .ref 33), (3, .int x3), (4, .int x4), (5, .int x5)] dX2_outcomeOfTurns_137 (by decide) rfl ?_
      refine aw_aload_n C dX2_outcomeOfTurns_139 rfl ?_
      refine aw_getR C (r := 43) clX2 lo_X_33 2 rfl (by decide) kf_X2_11 dX2_outcomeOfTurns_140 ?_
      refine aw_iload C dX2_outcomeOfTurns_143 rfl ?_
      refine aw_iload C dX2_outcomeOfTurns_145 rfl ?_
      refine aw_if_eq C (tgt := 155) dX2_outcomeOfTurns_147 (by decide) ?_ ?_
      · refine aw_iload C dX2_outcomeOfTurns_155 rfl ?_
        refine aw_iast C la_X_43 dX2_outcomeOfTurns_157 ?_
        refine aw_mlet (fun M3 => ?_)
        refine aw_iinc C (v := (1 : Int32)) [(5, .int (x5 + (1 : Int32))), (7, .int v2), (6, .int v1), (0, .ref 33), (3, .int x3), (4, .int x4)] dX2_outcomeOfTurns_158 rfl (by decide) (by decide) rfl ?_
        refine aw_goto C (tgt := 91) dX2_outcomeOfTurns_161 (by decide) ?_
        refine aw_sub [3, 4, 5, 0] rfl ?_
        exact ih x3 x4 (x5 + (1 : Int32)) M3
      · refine aw_iload C dX2_outcomeOfTurns_150 rfl ?_
        refine aw_goto C (tgt := 157) dX2_outcomeOfTurns_152 (by decide) ?_
        refine aw_iast C la_X_43 dX2_outcomeOfTurns_157 ?_
        refine aw_mlet (fun M4 => ?_)
        refine aw_iinc C (v := (1 : Int32)) [(5, .int (x5 + (1 : Int32))), (7, .int v2), (6, .int v1), (0, .ref 33), (3, .int x3), (4, .int x4)] dX2_outcomeOfTurns_158 rfl (by decide) (by decide) rfl ?_
        refine aw_goto C (tgt := 91) dX2_outcomeOfTurns_161 (by decide) ?_
        refine aw_sub [3, 4, 5, 0] rfl ?_
        exact ih x3 x4 (x5 + (1 : Int32)) M4
theorem m_X2_outcomeOfTurns_71 {E : amE} (C : amC E 7 cX2_outcomeOfTurns 8 RX2) (hr : (eH E).sig.returnType = (some .int))  : ∀ (f : Nat) (x3 : Int32) (M : Mem), AW E lyX 8 (qI lyX) (X2_outcomeOfTurns_71 f x3 M) 71 [(0, .ref 33), (3, .int x3)] [] M := by
  intro f
  induction f with
  | zero => exact (fun _ _ => aw_none)
  | succ f ih =>
    intro x3 M
    rw [X2_outcomeOfTurns_71]
    refine aw_iload_n C dX2_outcomeOfTurns_71 rfl ?_
    refine aw_if_lt C (tgt := 170) dX2_outcomeOfTurns_72 (by decide) ?_ ?_
    · refine aw_aload_n C dX2_outcomeOfTurns_170 rfl ?_
      refine aw_getR C (r := 43) clX2 lo_X_33 2 rfl (by decide) kf_X2_11 dX2_outcomeOfTurns_171 ?_
      refine aw_iconst C (0 : Int32) dX2_outcomeOfTurns_174 (by decide) ?_
      refine aw_iald C la_X_43 dX2_outcomeOfTurns_175 ?_
      exact aw_iret C hr dX2_outcomeOfTurns_176
    · refine aw_iload_n C dX2_outcomeOfTurns_75 rfl ?_
      refine aw_iconst C (1 : Int32) dX2_outcomeOfTurns_76 (by decide) ?_
      refine aw_iand C dX2_outcomeOfTurns_77 ?_
      refine aw_if_ne C (tgt := 85) dX2_outcomeOfTurns_78 (by decide) ?_ ?_
      · refine aw_iconst C (1 : Int32) dX2_outcomeOfTurns_81 (by decide) ?_
        refine aw_goto C (tgt := 86) dX2_outcomeOfTurns_82 (by decide) ?_
        refine aw_istore C [(4, .int (1 : Int32)), (0, .ref 33), (3, .int x3)] dX2_outcomeOfTurns_86 (by decide) rfl ?_
        refine aw_iconst C (0 : Int32) dX2_outcomeOfTurns_88 (by decide) ?_
        refine aw_istore C [(5, .int (0 : Int32)), (4, .int (1 : Int32)), (0, .ref 33), (3, .int x3)] dX2_outcomeOfTurns_89 (by decide) rfl ?_
        refine aw_sub [2, 3, 1, 0] rfl ?_
        exact m_X2_outcomeOfTurns_91 C hr (X2_outcomeOfTurns_71  f) ih am_fuel x3 (1 : Int32) (0 : Int32) M
      · refine aw_iconst C (0 : Int32) dX2_outcomeOfTurns_85 (by decide) ?_
        refine aw_istore C [(4, .int (0 : Int32)), (0, .ref 33), (3, .int x3)] dX2_outcomeOfTurns_86 (by decide) rfl ?_
        refine aw_iconst C (0 : Int32) dX2_outcomeOfTurns_88 (by decide) ?_
        refine aw_istore C [(5, .int (0 : Int32)), (4, .int (0 : Int32)), (0, .ref 33), (3, .int x3)] dX2_outcomeOfTurns_89 (by decide) rfl ?_
        refine aw_sub [2, 3, 1, 0] rfl ?_
        exact m_X2_outcomeOfTurns_91 C hr (X2_outcomeOfTurns_71  f) ih am_fuel x3 (0 : Int32) (0 : Int32) M
theorem m_X2_outcomeOfTurns_14 {E : amE} (C : amC E 7 cX2_outcomeOfTurns 8 RX2) (hr : (eH E).sig.returnType = (some .int))  : ∀ (f : Nat) (x1 : Int32) (x2 : Int32) (x3 : Int32) (M : Mem), AW E lyX 8 (qI lyX) (X2_outcomeOfTurns_14 f x1 x2 x3 M) 14 [(0, .ref 33), (1, .int x1), (2, .int x2), (3, .int x3)] [] M := by
  intro f
  induction f with
  | zero => exact (fun _ _ _ _ => aw_none)
  | succ f ih =>
    intro x1 x2 x3 M
    rw [X2_outcomeOfTurns_14]
    refine aw_iload_n C dX2_outcomeOfTurns_14 rfl ?_
    refine aw_iload_n C dX2_outcomeOfTurns_15 rfl ?_
    refine aw_icmp_gt C (tgt := 67) dX2_outcomeOfTurns_16 (by decide) ?_ ?_
    · refine aw_iload_n C dX2_outcomeOfTurns_67 rfl ?_
      refine aw_iconst C (1 : Int32) dX2_outcomeOfTurns_68 (by decide) ?_
      refine aw_isub C dX2_outcomeOfTurns_69 ?_
      refine aw_istore_n C [(3, .int (x1 - (1 : Int32))), (0, .ref 33), (1, .int x1), (2, .int x2)] dX2_outcomeOfTurns_70 (by decide) rfl ?_
      refine aw_sub [1, 0] rfl ?_
      exact m_X2_outcomeOfTurns_71 C hr am_fuel (x1 - (1 : Int32)) M
    · refine aw_aload_n C dX2_outcomeOfTurns_19 rfl ?_
      refine aw_getR C (r := 23) clX2 lo_X_33 1 rfl (by decide) kf_X2_19 dX2_outcomeOfTurns_20 ?_
      refine aw_aload_n C dX2_outcomeOfTurns_23 rfl ?_
      refine aw_getR C (r := 15) clX2 lo_X_33 0 rfl (by decide) kf_X2_15 dX2_outcomeOfTurns_24 ?_
      refine aw_cVV C [.ref 15] [] (m_X3_become 23 isHl_23 15 isHl_15 M) v_X3_become km_X2_22 (by decide) (hl_o isHl_23) rfl rfl rfl (Nat.le_of_ble_eq_true rfl) dX2_outcomeOfTurns_27 (fun M5 => ?_)
      refine aw_aload_n C dX2_outcomeOfTurns_30 rfl ?_
      refine aw_getR C (r := 23) clX2 lo_X_33 1 rfl (by decide) kf_X2_19 dX2_outcomeOfTurns_31 ?_
      refine aw_iload_n C dX2_outcomeOfTurns_34 rfl ?_
      refine aw_iload_n C dX2_outcomeOfTurns_35 rfl ?_
      refine aw_iconst C (2 : Int32) dX2_outcomeOfTurns_36 (by decide) ?_
      refine aw_idiv C dX2_outcomeOfTurns_37 ?_
      refine aw_isub C dX2_outcomeOfTurns_38 ?_
      refine aw_cVV C [.int (x3 - (x1 / (2 : Int32)))] [] (m_X3_turnBy 23 isHl_23 (x3 - (x1 / (2 : Int32))) M5) v_X3_turnBy km_X2_79 (by decide) (hl_o isHl_23) rfl rfl rfl (Nat.le_of_ble_eq_true rfl) dX2_outcomeOfTurns_39 (fun M6 => ?_)
      refine aw_aload_n C dX2_outcomeOfTurns_42 rfl ?_
      refine aw_getR C (r := 43) clX2 lo_X_33 2 rfl (by decide) kf_X2_11 dX2_outcomeOfTurns_43 ?_
      refine aw_iload_n C dX2_outcomeOfTurns_46 rfl ?_
      refine aw_aload_n C dX2_outcomeOfTurns_47 rfl ?_
      refine aw_iload_n C dX2_outcomeOfTurns_48 rfl ?_
      refine aw_cVR C [.int x2] [.int x3, .ref 43] (m_X2_goOn x2 M6) v_X2_goOn km_X2_28 (by decide) lo_X_33 rfl rfl rfl (Nat.le_of_ble_eq_true rfl) dX2_outcomeOfTurns_49 (fun u7 => ?_)
      refine aw_ite (fun h8 => ?_) (fun _ => aw_none)
      refine aw_st (st' := [.ref 23, .int x3, .ref 43]) (by rw [h8]) ?_
      refine aw_bipush C (7 : Int32) dX2_outcomeOfTurns_52 (by decide) ?_
      refine aw_cVIp C [.int (7 : Int32)] [.int x3, .ref 43] (m_X3_setOf 23 isHl_23 u7.2 (7 : Int32)) v_X3_setOf km_X2_44 (by decide) (hl_o isHl_23) rfl rfl rfl (Nat.le_of_ble_eq_true rfl) dX2_outcomeOfTurns_54 (fun r9 => ?_)
      refine aw_cSIp C [.int r9] [.int x3, .ref 43] (m_J6_bitCount_0f7a4 u7.2 r9) t_J6_bitCount_0f7a4 km_X2_61 (by decide) rfl rfl (Nat.le_of_ble_eq_true rfl) dX2_outcomeOfTurns_57 (fun r10 => ?_)
      refine aw_iast C la_X_43 dX2_outcomeOfTurns_60 ?_
      refine aw_mlet (fun M11 => ?_)
      refine aw_iinc C (v := (1 : Int32)) [(3, .int (x3 + (1 : Int32))), (0, .ref 33), (1, .int x1), (2, .int x2)] dX2_outcomeOfTurns_61 rfl (by decide) (by decide) rfl ?_
      refine aw_goto C (tgt := 14) dX2_outcomeOfTurns_64 (by decide) ?_
      refine aw_sub [1, 2, 3, 0] rfl ?_
      exact ih x1 x2 (x3 + (1 : Int32)) M11
theorem m_X2_outcomeOfTurns   (x1 : Int32) (x2 : Int32) (M : Mem) : AMet 7 yX2_outcomeOfTurns cX2_outcomeOfTurns 8 (some .int) lyX [.ref 33, .int x1, .int x2] M (qI lyX) (X2_outcomeOfTurns x1 x2 M) := by
  refine am_ent pn_X2 (Nat.le_of_ble_eq_true rfl) (fun E C hr => ?_)
  refine aw_lv (lv' := [(0, .ref 33), (1, .int x1), (2, .int x2)]) rfl ?_
  unfold X2_outcomeOfTurns
  refine aw_iload_n C dX2_outcomeOfTurns_0 rfl ?_
  refine aw_if_lt C (tgt := 9) dX2_outcomeOfTurns_1 (by decide) ?_ ?_
  · refine aw_ldc C kc_X2_39 dX2_outcomeOfTurns_9 ?_
    exact aw_iret C hr dX2_outcomeOfTurns_11
  · refine aw_iload_n C dX2_outcomeOfTurns_4 rfl ?_
    refine aw_iconst C (4 : Int32) dX2_outcomeOfTurns_5 (by decide) ?_
    refine aw_icmp_le C (tgt := 12) dX2_outcomeOfTurns_6 (by decide) ?_ ?_
    · refine aw_ldc C kc_X2_39 dX2_outcomeOfTurns_9 ?_
      exact aw_iret C hr dX2_outcomeOfTurns_11
    · refine aw_iconst C (0 : Int32) dX2_outcomeOfTurns_12 (by decide) ?_
      refine aw_istore_n C [(3, .int (0 : Int32)), (0, .ref 33), (1, .int x1), (2, .int x2)] dX2_outcomeOfTurns_13 (by decide) rfl ?_
      refine aw_sub [1, 2, 3, 0] rfl ?_
      exact m_X2_outcomeOfTurns_14 C hr am_fuel x1 x2 (0 : Int32) M
def X2_goesAsTold_23 (p2 n2 : Nat) : Nat → Int32 → Int32 → Int32 → Int32 → Mem → Option (Int32 × Mem)
  | 0, _, _, _, _, _ => none
  | f + 1, x1, x3, x4, x5, M =>
    if x5 < x4 then
      Option.bind (X3_tickOnce 23 M) fun M1 =>
      Option.bind (X3_whereIs 23 M1 x1) fun r2 =>
      if am_in (x3 + x5) n2 = true then
        if r2 = (M1 p2 (x3 + x5).toNatClampNeg) then
          X2_goesAsTold_23 p2 n2 f x1 x3 x4 (x5 + (1 : Int32)) M1
        else
          some ((0 : Int32), M1)
      else none
    else
      some ((1 : Int32), M)
def X2_goesAsTold (p2 n2 : Nat) (x1 : Int32) (x3 : Int32) (x4 : Int32) (M : Mem) : Option (Int32 × Mem) :=
  if x3 < 0 then
    some ((0 : Int32), M)
  else
    if x4 < 0 then
      some ((0 : Int32), M)
    else
      if ((Int32.ofNat n2) - x4) < x3 then
        some ((0 : Int32), M)
      else
        X2_goesAsTold_23 p2 n2 am_fuel x1 x3 x4 (0 : Int32) M
theorem m_X2_goesAsTold_23 {E : amE} (C : amC E 6 cX2_goesAsTold 6 RX2) (hr : (eH E).sig.returnType = (some .boolean)) (p2 n2 : Nat) (hp2 : lyX[p2]? = some (.inr (.inl n2))) : ∀ (f : Nat) (x1 : Int32) (x3 : Int32) (x4 : Int32) (x5 : Int32) (M : Mem), AW E lyX 6 (qI lyX) (X2_goesAsTold_23 p2 n2 f x1 x3 x4 x5 M) 23 [(0, .ref 33), (1, .int x1), (2, .ref p2), (3, .int x3), (4, .int x4), (5, .int x5)] [] M := by
  intro f
  induction f with
  | zero => exact (fun _ _ _ _ _ => aw_none)
  | succ f ih =>
    intro x1 x3 x4 x5 M
    rw [X2_goesAsTold_23]
    refine aw_iload C dX2_goesAsTold_23 rfl ?_
    refine aw_iload C dX2_goesAsTold_25 rfl ?_
    refine aw_icmp_ge C (tgt := 62) dX2_goesAsTold_27 (by decide) ?_ ?_
    · refine aw_aload_n C dX2_goesAsTold_30 rfl ?_
      refine aw_getR C (r := 23) clX2 lo_X_33 1 rfl (by decide) kf_X2_19 dX2_goesAsTold_31 ?_
      refine aw_cVV C [] [] (m_X3_tickOnce 23 isHl_23 M) v_X3_tickOnce km_X2_32 (by decide) (hl_o isHl_23) rfl rfl rfl (Nat.le_of_ble_eq_true rfl) dX2_goesAsTold_34 (fun M1 => ?_)
      refine aw_aload_n C dX2_goesAsTold_37 rfl ?_
      refine aw_getR C (r := 23) clX2 lo_X_33 1 rfl (by decide) kf_X2_19 dX2_goesAsTold_38 ?_
      refine aw_iload_n C dX2_goesAsTold_41 rfl ?_
      refine aw_cVIp C [.int x1] [] (m_X3_whereIs 23 isHl_23 M1 x1) v_X3_whereIs km_X2_98 (by decide) (hl_o isHl_23) rfl rfl rfl (Nat.le_of_ble_eq_true rfl) dX2_goesAsTold_42 (fun r2 => ?_)
      refine aw_aload_n C dX2_goesAsTold_45 rfl ?_
      refine aw_iload_n C dX2_goesAsTold_46 rfl ?_
      refine aw_iload C dX2_goesAsTold_47 rfl ?_
      refine aw_iadd C dX2_goesAsTold_49 ?_
      refine aw_iald C hp2 dX2_goesAsTold_50 ?_
      refine aw_icmp_eq C (tgt := 56) dX2_goesAsTold_51 (by decide) ?_ ?_
      · refine aw_iinc C (v := (1 : Int32)) [(5, .int (x5 + (1 : Int32))), (0, .ref 33), (1, .int x1), (2, .ref p2), (3, .int x3), (4, .int x4)] dX2_goesAsTold_56 rfl (by decide) (by decide) rfl ?_
        refine aw_goto C (tgt := 23) dX2_goesAsTold_59 (by decide) ?_
        refine aw_sub [1, 2, 3, 4, 5, 0] rfl ?_
        exact ih x1 x3 x4 (x5 + (1 : Int32)) M1
      · refine aw_iconst C (0 : Int32) dX2_goesAsTold_54 (by decide) ?_
        exact aw_zret C (Or.inl rfl) hr dX2_goesAsTold_55
    · refine aw_iconst C (1 : Int32) dX2_goesAsTold_62 (by decide) ?_
      exact aw_zret C (Or.inr rfl) hr dX2_goesAsTold_63
theorem m_X2_goesAsTold  (p2 n2 : Nat) (hp2 : lyX[p2]? = some (.inr (.inl n2))) (x1 : Int32) (x3 : Int32) (x4 : Int32) (M : Mem) : AMet 6 yX2_goesAsTold cX2_goesAsTold 6 (some .boolean) lyX [.ref 33, .int x1, .ref p2, .int x3, .int x4] M (qI lyX) (X2_goesAsTold p2 n2 x1 x3 x4 M) := by
  refine am_ent pn_X2 (Nat.le_of_ble_eq_true rfl) (fun E C hr => ?_)
  refine aw_lv (lv' := [(0, .ref 33), (1, .int x1), (2, .ref p2), (3, .int x3), (4, .int x4)]) rfl ?_
  unfold X2_goesAsTold
  refine aw_iload_n C dX2_goesAsTold_0 rfl ?_
  refine aw_if_lt C (tgt := 18) dX2_goesAsTold_1 (by decide) ?_ ?_
  · refine aw_iconst C (0 : Int32) dX2_goesAsTold_18 (by decide) ?_
    exact aw_zret C (Or.inl rfl) hr dX2_goesAsTold_19
  · refine aw_iload C dX2_goesAsTold_4 rfl ?_
    refine aw_if_lt C (tgt := 18) dX2_goesAsTold_6 (by decide) ?_ ?_
    · refine aw_iconst C (0 : Int32) dX2_goesAsTold_18 (by decide) ?_
      exact aw_zret C (Or.inl rfl) hr dX2_goesAsTold_19
    · refine aw_iload_n C dX2_goesAsTold_9 rfl ?_
      refine aw_aload_n C dX2_goesAsTold_10 rfl ?_
      refine aw_alen C (Int32.ofNat n2) hp2 rfl dX2_goesAsTold_11 ?_
      refine aw_iload C dX2_goesAsTold_12 rfl ?_
      refine aw_isub C dX2_goesAsTold_14 ?_
      refine aw_icmp_le C (tgt := 20) dX2_goesAsTold_15 (by decide) ?_ ?_
      · refine aw_iconst C (0 : Int32) dX2_goesAsTold_18 (by decide) ?_
        exact aw_zret C (Or.inl rfl) hr dX2_goesAsTold_19
      · refine aw_iconst C (0 : Int32) dX2_goesAsTold_20 (by decide) ?_
        refine aw_istore C [(5, .int (0 : Int32)), (0, .ref 33), (1, .int x1), (2, .ref p2), (3, .int x3), (4, .int x4)] dX2_goesAsTold_21 (by decide) rfl ?_
        refine aw_sub [1, 2, 3, 4, 5, 0] rfl ?_
        exact m_X2_goesAsTold_23 C hr p2 n2 hp2 am_fuel x1 x3 x4 (0 : Int32) M
def X2_kindsThatFit_6 (p3 n3 : Nat) : Nat → Int32 → Int32 → Int32 → Int32 → Int32 → Int32 → Mem → Option (Int32 × Mem)
  | 0, _, _, _, _, _, _, _ => none
  | f + 1, x1, x2, x4, x5, x6, x7, M =>
    if (5 : Int32) < x7 then
      some (x6, M)
    else
      Option.bind (X3_become 23 15 M) fun M1 =>
      if am_in x1 6 = true then
        am_let (mset M1 24 (upd (M1 24) x1.toNatClampNeg x7)) fun M2 =>
        Option.bind (X2_goesAsTold p3 n3 x2 x4 x5 M2) fun u3 =>
        if u3.1 = 0 then
          X2_kindsThatFit_6 p3 n3 f x1 x2 x4 x5 (x6 ||| (0 : Int32)) (x7 + (1 : Int32)) u3.2
        else
          X2_kindsThatFit_6 p3 n3 f x1 x2 x4 x5 (x6 ||| ((1 : Int32) <<< (x7 &&& 31))) (x7 + (1 : Int32)) u3.2
      else none
def X2_kindsThatFit (p3 n3 : Nat) (x1 : Int32) (x2 : Int32) (x4 : Int32) (x5 : Int32) (M : Mem) : Option (Int32 × Mem) :=
  X2_kindsThatFit_6 p3 n3 am_fuel x1 x2 x4 x5 (0 : Int32) (1 : Int32) M
theorem m_X2_kindsThatFit_6 {E : amE} (C : amC E 7 cX2_kindsThatFit 8 RX2) (hr : (eH E).sig.returnType = (some .int)) (p3 n3 : Nat) (hp3 : lyX[p3]? = some (.inr (.inl n3))) : ∀ (f : Nat) (x1 : Int32) (x2 : Int32) (x4 : Int32) (x5 : Int32) (x6 : Int32) (x7 : Int32) (M : Mem), AW E lyX 8 (qI lyX) (X2_kindsThatFit_6 p3 n3 f x1 x2 x4 x5 x6 x7 M) 6 [(0, .ref 33), (1, .int x1), (2, .int x2), (3, .ref p3), (4, .int x4), (5, .int x5), (6, .int x6), (7, .int x7)] [] M := by
  intro f
  induction f with
  | zero => exact (fun _ _ _ _ _ _ _ => aw_none)
  | succ f ih =>
    intro x1 x2 x4 x5 x6 x7 M
    rw [X2_kindsThatFit_6]
    refine aw_iload C dX2_kindsThatFit_6 rfl ?_
    refine aw_iconst C (5 : Int32) dX2_kindsThatFit_8 (by decide) ?_
    refine aw_icmp_gt C (tgt := 66) dX2_kindsThatFit_9 (by decide) ?_ ?_
    · refine aw_iload C dX2_kindsThatFit_66 rfl ?_
      exact aw_iret C hr dX2_kindsThatFit_68
    · refine aw_aload_n C dX2_kindsThatFit_12 rfl ?_
      refine aw_getR C (r := 23) clX2 lo_X_33 1 rfl (by decide) kf_X2_19 dX2_kindsThatFit_13 ?_
      refine aw_aload_n C dX2_kindsThatFit_16 rfl ?_
      refine aw_getR C (r := 15) clX2 lo_X_33 0 rfl (by decide) kf_X2_15 dX2_kindsThatFit_17 ?_
      refine aw_cVV C [.ref 15] [] (m_X3_become 23 isHl_23 15 isHl_15 M) v_X3_become km_X2_22 (by decide) (hl_o isHl_23) rfl rfl rfl (Nat.le_of_ble_eq_true rfl) dX2_kindsThatFit_20 (fun M1 => ?_)
      refine aw_aload_n C dX2_kindsThatFit_23 rfl ?_
      refine aw_getR C (r := 23) clX2 lo_X_33 1 rfl (by decide) kf_X2_19 dX2_kindsThatFit_24 ?_
      refine aw_getR C (r := 24) clX3 (hl_o isHl_23) 6 rfl (by decide) kf_X2_91 dX2_kindsThatFit_27 ?_
      refine aw_iload_n C dX2_kindsThatFit_30 rfl ?_
      refine aw_iload C dX2_kindsThatFit_31 rfl ?_
      refine aw_iast C (hl_1 isHl_23) dX2_kindsThatFit_33 ?_
      refine aw_mlet (fun M2 => ?_)
      refine aw_iload C dX2_kindsThatFit_34 rfl ?_
      refine aw_aload_n C dX2_kindsThatFit_36 rfl ?_
      refine aw_iload_n C dX2_kindsThatFit_37 rfl ?_
      refine aw_aload_n C dX2_kindsThatFit_38 rfl ?_
      refine aw_iload C dX2_kindsThatFit_39 rfl ?_
      refine aw_iload C dX2_kindsThatFit_41 rfl ?_
      refine aw_cVI C [.int x2, .ref p3, .int x4, .int x5] [.int x6] (m_X2_goesAsTold p3 n3 hp3 x2 x4 x5 M2) v_X2_goesAsTold km_X2_94 (by decide) lo_X_33 rfl rfl rfl (Nat.le_of_ble_eq_true rfl) dX2_kindsThatFit_43 (fun u3 => ?_)
      refine aw_if_eq C (tgt := 56) dX2_kindsThatFit_46 (by decide) ?_ ?_
      · refine aw_iconst C (0 : Int32) dX2_kindsThatFit_56 (by decide) ?_
        refine aw_ior C dX2_kindsThatFit_57 ?_
        refine aw_istore C [(6, .int (x6 ||| (0 : Int32))), (0, .ref 33), (1, .int x1), (2, .int x2), (3, .ref p3), (4, .int x4), (5, .int x5), (7, .int x7)] dX2_kindsThatFit_58 (by decide) rfl ?_
        refine aw_iinc C (v := (1 : Int32)) [(7, .int (x7 + (1 : Int32))), (6, .int (x6 ||| (0 : Int32))), (0, .ref 33), (1, .int x1), (2, .int x2), (3, .ref p3), (4, .int x4), (5, .int x5)] dX2_kindsThatFit_60 rfl (by decide) (by decide) rfl ?_
        refine aw_goto C (tgt := 6) dX2_kindsThatFit_63 (by decide) ?_
        refine aw_sub [2, 3, 4, 5, 6, 7, 1, 0] rfl ?_
        exact ih x1 x2 x4 x5 (x6 ||| (0 : Int32)) (x7 + (1 : Int32)) u3.2
      · refine aw_iconst C (1 : Int32) dX2_kindsThatFit_49 (by decide) ?_
        refine aw_iload C dX2_kindsThatFit_50 rfl ?_
        refine aw_ishl C dX2_kindsThatFit_52 ?_
        refine aw_goto C (tgt := 57) dX2_kindsThatFit_53 (by decide) ?_
        refine aw_ior C dX2_kindsThatFit_57 ?_
        refine aw_istore C [(6, .int (x6 ||| ((1 : Int32) <<< (x7 &&& 31)))), (0, .ref 33), (1, .int x1), (2, .int x2), (3, .ref p3), (4, .int x4), (5, .int x5), (7, .int x7)] dX2_kindsThatFit_58 (by decide) rfl ?_
        refine aw_iinc C (v := (1 : Int32)) [(7, .int (x7 + (1 : Int32))), (6, .int (x6 ||| ((1 : Int32) <<< (x7 &&& 31)))), (0, .ref 33), (1, .int x1), (2, .int x2), (3, .ref p3), (4, .int x4), (5, .int x5)] dX2_kindsThatFit_60 rfl (by decide) (by decide) rfl ?_
        refine aw_goto C (tgt := 6) dX2_kindsThatFit_63 (by decide) ?_
        refine aw_sub [2, 3, 4, 5, 6, 7, 1, 0] rfl ?_
        exact ih x1 x2 x4 x5 (x6 ||| ((1 : Int32) <<< (x7 &&& 31))) (x7 + (1 : Int32)) u3.2
theorem m_X2_kindsThatFit  (p3 n3 : Nat) (hp3 : lyX[p3]? = some (.inr (.inl n3))) (x1 : Int32) (x2 : Int32) (x4 : Int32) (x5 : Int32) (M : Mem) : AMet 7 yX2_kindsThatFit cX2_kindsThatFit 8 (some .int) lyX [.ref 33, .int x1, .int x2, .ref p3, .int x4, .int x5] M (qI lyX) (X2_kindsThatFit p3 n3 x1 x2 x4 x5 M) := by
  refine am_ent pn_X2 (Nat.le_of_ble_eq_true rfl) (fun E C hr => ?_)
  refine aw_lv (lv' := [(0, .ref 33), (1, .int x1), (2, .int x2), (3, .ref p3), (4, .int x4), (5, .int x5)]) rfl ?_
  unfold X2_kindsThatFit
  refine aw_iconst C (0 : Int32) dX2_kindsThatFit_0 (by decide) ?_
  refine aw_istore C [(6, .int (0 : Int32)), (0, .ref 33), (1, .int x1), (2, .int x2), (3, .ref p3), (4, .int x4), (5, .int x5)] dX2_kindsThatFit_1 (by decide) rfl ?_
  refine aw_iconst C (1 : Int32) dX2_kindsThatFit_3 (by decide) ?_
  refine aw_istore C [(7, .int (1 : Int32)), (6, .int (0 : Int32)), (0, .ref 33), (1, .int x1), (2, .int x2), (3, .ref p3), (4, .int x4), (5, .int x5)] dX2_kindsThatFit_4 (by decide) rfl ?_
  refine aw_sub [2, 3, 4, 5, 6, 7, 1, 0] rfl ?_
  exact m_X2_kindsThatFit_6 C hr p3 n3 hp3 am_fuel x1 x2 x4 x5 (0 : Int32) (1 : Int32) M
def X2_standsThatFit_6 (p3 n3 : Nat) : Nat → Int32 → Int32 → Int32 → Int32 → Int32 → Int32 → Mem → Option (Int32 × Mem)
  | 0, _, _, _, _, _, _, _ => none
  | f + 1, x1, x2, x4, x5, x6, x7, M =>
    if x7 < (M 15 0) then
      Option.bind (X3_become 23 15 M) fun M1 =>
      if am_in x1 6 = true then
        am_let (mset M1 25 (upd (M1 25) x1.toNatClampNeg x7)) fun M2 =>
        Option.bind (X2_goesAsTold p3 n3 x2 x4 x5 M2) fun u3 =>
        if u3.1 = 0 then
          X2_standsThatFit_6 p3 n3 f x1 x2 x4 x5 (x6 ||| (0 : Int32)) (x7 + (1 : Int32)) u3.2
        else
          X2_standsThatFit_6 p3 n3 f x1 x2 x4 x5 (x6 ||| ((1 : Int32) <<< (x7 &&& 31))) (x7 + (1 : Int32)) u3.2
      else none
    else
      some (x6, M)
def X2_standsThatFit (p3 n3 : Nat) (x1 : Int32) (x2 : Int32) (x4 : Int32) (x5 : Int32) (M : Mem) : Option (Int32 × Mem) :=
  X2_standsThatFit_6 p3 n3 am_fuel x1 x2 x4 x5 (0 : Int32) (0 : Int32) M
theorem m_X2_standsThatFit_6 {E : amE} (C : amC E 7 cX2_standsThatFit 8 RX2) (hr : (eH E).sig.returnType = (some .int)) (p3 n3 : Nat) (hp3 : lyX[p3]? = some (.inr (.inl n3))) : ∀ (f : Nat) (x1 : Int32) (x2 : Int32) (x4 : Int32) (x5 : Int32) (x6 : Int32) (x7 : Int32) (M : Mem), AW E lyX 8 (qI lyX) (X2_standsThatFit_6 p3 n3 f x1 x2 x4 x5 x6 x7 M) 6 [(0, .ref 33), (1, .int x1), (2, .int x2), (3, .ref p3), (4, .int x4), (5, .int x5), (6, .int x6), (7, .int x7)] [] M := by
  intro f
  induction f with
  | zero => exact (fun _ _ _ _ _ _ _ => aw_none)
  | succ f ih =>
    intro x1 x2 x4 x5 x6 x7 M
    rw [X2_standsThatFit_6]
    refine aw_iload C dX2_standsThatFit_6 rfl ?_
    refine aw_aload_n C dX2_standsThatFit_8 rfl ?_
    refine aw_getR C (r := 15) clX2 lo_X_33 0 rfl (by decide) kf_X2_15 dX2_standsThatFit_9 ?_
    refine aw_getI C clX3 (hl_o isHl_15) 0 rfl (by decide) kf_X2_48 dX2_standsThatFit_12 ?_
    refine aw_icmp_ge C (tgt := 72) dX2_standsThatFit_15 (by decide) ?_ ?_
    · refine aw_aload_n C dX2_standsThatFit_18 rfl ?_
      refine aw_getR C (r := 23) clX2 lo_X_33 1 rfl (by decide) kf_X2_19 dX2_standsThatFit_19 ?_
      refine aw_aload_n C dX2_standsThatFit_22 rfl ?_
      refine aw_getR C (r := 15) clX2 lo_X_33 0 rfl (by decide) kf_X2_15 dX2_standsThatFit_23 ?_
      refine aw_cVV C [.ref 15] [] (m_X3_become 23 isHl_23 15 isHl_15 M) v_X3_become km_X2_22 (by decide) (hl_o isHl_23) rfl rfl rfl (Nat.le_of_ble_eq_true rfl) dX2_standsThatFit_26 (fun M1 => ?_)
      refine aw_aload_n C dX2_standsThatFit_29 rfl ?_
      refine aw_getR C (r := 23) clX2 lo_X_33 1 rfl (by decide) kf_X2_19 dX2_standsThatFit_30 ?_
      refine aw_getR C (r := 25) clX3 (hl_o isHl_23) 7 rfl (by decide) kf_X2_55 dX2_standsThatFit_33 ?_
      refine aw_iload_n C dX2_standsThatFit_36 rfl ?_
      refine aw_iload C dX2_standsThatFit_37 rfl ?_
      refine aw_iast C (hl_2 isHl_23) dX2_standsThatFit_39 ?_
      refine aw_mlet (fun M2 => ?_)
      refine aw_iload C dX2_standsThatFit_40 rfl ?_
      refine aw_aload_n C dX2_standsThatFit_42 rfl ?_
      refine aw_iload_n C dX2_standsThatFit_43 rfl ?_
      refine aw_aload_n C dX2_standsThatFit_44 rfl ?_
      refine aw_iload C dX2_standsThatFit_45 rfl ?_
      refine aw_iload C dX2_standsThatFit_47 rfl ?_
      refine aw_cVI C [.int x2, .ref p3, .int x4, .int x5] [.int x6] (m_X2_goesAsTold p3 n3 hp3 x2 x4 x5 M2) v_X2_goesAsTold km_X2_94 (by decide) lo_X_33 rfl rfl rfl (Nat.le_of_ble_eq_true rfl) dX2_standsThatFit_49 (fun u3 => ?_)
      refine aw_if_eq C (tgt := 62) dX2_standsThatFit_52 (by decide) ?_ ?_
      · refine aw_iconst C (0 : Int32) dX2_standsThatFit_62 (by decide) ?_
        refine aw_ior C dX2_standsThatFit_63 ?_
        refine aw_istore C [(6, .int (x6 ||| (0 : Int32))), (0, .ref 33), (1, .int x1), (2, .int x2), (3, .ref p3), (4, .int x4), (5, .int x5), (7, .int x7)] dX2_standsThatFit_64 (by decide) rfl ?_
        refine aw_iinc C (v := (1 : Int32)) [(7, .int (x7 + (1 : Int32))), (6, .int (x6 ||| (0 : Int32))), (0, .ref 33), (1, .int x1), (2, .int x2), (3, .ref p3), (4, .int x4), (5, .int x5)] dX2_standsThatFit_66 rfl (by decide) (by decide) rfl ?_
        refine aw_goto C (tgt := 6) dX2_standsThatFit_69 (by decide) ?_
        refine aw_sub [2, 3, 4, 5, 6, 7, 1, 0] rfl ?_
        exact ih x1 x2 x4 x5 (x6 ||| (0 : Int32)) (x7 + (1 : Int32)) u3.2
      · refine aw_iconst C (1 : Int32) dX2_standsThatFit_55 (by decide) ?_
        refine aw_iload C dX2_standsThatFit_56 rfl ?_
        refine aw_ishl C dX2_standsThatFit_58 ?_
        refine aw_goto C (tgt := 63) dX2_standsThatFit_59 (by decide) ?_
        refine aw_ior C dX2_standsThatFit_63 ?_
        refine aw_istore C [(6, .int (x6 ||| ((1 : Int32) <<< (x7 &&& 31)))), (0, .ref 33), (1, .int x1), (2, .int x2), (3, .ref p3), (4, .int x4), (5, .int x5), (7, .int x7)] dX2_standsThatFit_64 (by decide) rfl ?_
        refine aw_iinc C (v := (1 : Int32)) [(7, .int (x7 + (1 : Int32))), (6, .int (x6 ||| ((1 : Int32) <<< (x7 &&& 31)))), (0, .ref 33), (1, .int x1), (2, .int x2), (3, .ref p3), (4, .int x4), (5, .int x5)] dX2_standsThatFit_66 rfl (by decide) (by decide) rfl ?_
        refine aw_goto C (tgt := 6) dX2_standsThatFit_69 (by decide) ?_
        refine aw_sub [2, 3, 4, 5, 6, 7, 1, 0] rfl ?_
        exact ih x1 x2 x4 x5 (x6 ||| ((1 : Int32) <<< (x7 &&& 31))) (x7 + (1 : Int32)) u3.2
    · refine aw_iload C dX2_standsThatFit_72 rfl ?_
      exact aw_iret C hr dX2_standsThatFit_74
theorem m_X2_standsThatFit  (p3 n3 : Nat) (hp3 : lyX[p3]? = some (.inr (.inl n3))) (x1 : Int32) (x2 : Int32) (x4 : Int32) (x5 : Int32) (M : Mem) : AMet 7 yX2_standsThatFit cX2_standsThatFit 8 (some .int) lyX [.ref 33, .int x1, .int x2, .ref p3, .int x4, .int x5] M (qI lyX) (X2_standsThatFit p3 n3 x1 x2 x4 x5 M) := by
  refine am_ent pn_X2 (Nat.le_of_ble_eq_true rfl) (fun E C hr => ?_)
  refine aw_lv (lv' := [(0, .ref 33), (1, .int x1), (2, .int x2), (3, .ref p3), (4, .int x4), (5, .int x5)]) rfl ?_
  unfold X2_standsThatFit
  refine aw_iconst C (0 : Int32) dX2_standsThatFit_0 (by decide) ?_
  refine aw_istore C [(6, .int (0 : Int32)), (0, .ref 33), (1, .int x1), (2, .int x2), (3, .ref p3), (4, .int x4), (5, .int x5)] dX2_standsThatFit_1 (by decide) rfl ?_
  refine aw_iconst C (0 : Int32) dX2_standsThatFit_3 (by decide) ?_
  refine aw_istore C [(7, .int (0 : Int32)), (6, .int (0 : Int32)), (0, .ref 33), (1, .int x1), (2, .int x2), (3, .ref p3), (4, .int x4), (5, .int x5)] dX2_standsThatFit_4 (by decide) rfl ?_
  refine aw_sub [2, 3, 4, 5, 6, 7, 1, 0] rfl ?_
  exact m_X2_standsThatFit_6 C hr p3 n3 hp3 am_fuel x1 x2 x4 x5 (0 : Int32) (0 : Int32) M
def X2_coloursThatFit_6 (p2 n2 : Nat) : Nat → Int32 → Int32 → Int32 → Int32 → Int32 → Mem → Option (Int32 × Mem)
  | 0, _, _, _, _, _, _ => none
  | f + 1, x1, x3, x4, x5, x6, M =>
    if x6 < (4 : Int32) then
      Option.bind (X3_become 23 15 M) fun M1 =>
      if am_in x1 6 = true then
        am_let (mset M1 28 (upd (M1 28) x1.toNatClampNeg x6)) fun M2 =>
        Option.bind (X2_goesAsTold p2 n2 x1 x3 x4 M2) fun u3 =>
        if u3.1 = 0 then
          X2_coloursThatFit_6 p2 n2 f x1 x3 x4 (x5 ||| (0 : Int32)) (x6 + (1 : Int32)) u3.2
        else
          X2_coloursThatFit_6 p2 n2 f x1 x3 x4 (x5 ||| ((1 : Int32) <<< (x6 &&& 31))) (x6 + (1 : Int32)) u3.2
      else none
    else
      some (x5, M)
def X2_coloursThatFit (p2 n2 : Nat) (x1 : Int32) (x3 : Int32) (x4 : Int32) (M : Mem) : Option (Int32 × Mem) :=
  X2_coloursThatFit_6 p2 n2 am_fuel x1 x3 x4 (0 : Int32) (0 : Int32) M
theorem m_X2_coloursThatFit_6 {E : amE} (C : amC E 7 cX2_coloursThatFit 7 RX2) (hr : (eH E).sig.returnType = (some .int)) (p2 n2 : Nat) (hp2 : lyX[p2]? = some (.inr (.inl n2))) : ∀ (f : Nat) (x1 : Int32) (x3 : Int32) (x4 : Int32) (x5 : Int32) (x6 : Int32) (M : Mem), AW E lyX 7 (qI lyX) (X2_coloursThatFit_6 p2 n2 f x1 x3 x4 x5 x6 M) 6 [(0, .ref 33), (1, .int x1), (2, .ref p2), (3, .int x3), (4, .int x4), (5, .int x5), (6, .int x6)] [] M := by
  intro f
  induction f with
  | zero => exact (fun _ _ _ _ _ _ => aw_none)
  | succ f ih =>
    intro x1 x3 x4 x5 x6 M
    rw [X2_coloursThatFit_6]
    refine aw_iload C dX2_coloursThatFit_6 rfl ?_
    refine aw_iconst C (4 : Int32) dX2_coloursThatFit_8 (by decide) ?_
    refine aw_icmp_ge C (tgt := 65) dX2_coloursThatFit_9 (by decide) ?_ ?_
    · refine aw_aload_n C dX2_coloursThatFit_12 rfl ?_
      refine aw_getR C (r := 23) clX2 lo_X_33 1 rfl (by decide) kf_X2_19 dX2_coloursThatFit_13 ?_
      refine aw_aload_n C dX2_coloursThatFit_16 rfl ?_
      refine aw_getR C (r := 15) clX2 lo_X_33 0 rfl (by decide) kf_X2_15 dX2_coloursThatFit_17 ?_
      refine aw_cVV C [.ref 15] [] (m_X3_become 23 isHl_23 15 isHl_15 M) v_X3_become km_X2_22 (by decide) (hl_o isHl_23) rfl rfl rfl (Nat.le_of_ble_eq_true rfl) dX2_coloursThatFit_20 (fun M1 => ?_)
      refine aw_aload_n C dX2_coloursThatFit_23 rfl ?_
      refine aw_getR C (r := 23) clX2 lo_X_33 1 rfl (by decide) kf_X2_19 dX2_coloursThatFit_24 ?_
      refine aw_getR C (r := 28) clX3 (hl_o isHl_23) 10 rfl (by decide) kf_X2_70 dX2_coloursThatFit_27 ?_
      refine aw_iload_n C dX2_coloursThatFit_30 rfl ?_
      refine aw_iload C dX2_coloursThatFit_31 rfl ?_
      refine aw_iast C (hl_5 isHl_23) dX2_coloursThatFit_33 ?_
      refine aw_mlet (fun M2 => ?_)
      refine aw_iload C dX2_coloursThatFit_34 rfl ?_
      refine aw_aload_n C dX2_coloursThatFit_36 rfl ?_
      refine aw_iload_n C dX2_coloursThatFit_37 rfl ?_
      refine aw_aload_n C dX2_coloursThatFit_38 rfl ?_
      refine aw_iload_n C dX2_coloursThatFit_39 rfl ?_
      refine aw_iload C dX2_coloursThatFit_40 rfl ?_
      refine aw_cVI C [.int x1, .ref p2, .int x3, .int x4] [.int x5] (m_X2_goesAsTold p2 n2 hp2 x1 x3 x4 M2) v_X2_goesAsTold km_X2_94 (by decide) lo_X_33 rfl rfl rfl (Nat.le_of_ble_eq_true rfl) dX2_coloursThatFit_42 (fun u3 => ?_)
      refine aw_if_eq C (tgt := 55) dX2_coloursThatFit_45 (by decide) ?_ ?_
      · refine aw_iconst C (0 : Int32) dX2_coloursThatFit_55 (by decide) ?_
        refine aw_ior C dX2_coloursThatFit_56 ?_
        refine aw_istore C [(5, .int (x5 ||| (0 : Int32))), (0, .ref 33), (1, .int x1), (2, .ref p2), (3, .int x3), (4, .int x4), (6, .int x6)] dX2_coloursThatFit_57 (by decide) rfl ?_
        refine aw_iinc C (v := (1 : Int32)) [(6, .int (x6 + (1 : Int32))), (5, .int (x5 ||| (0 : Int32))), (0, .ref 33), (1, .int x1), (2, .ref p2), (3, .int x3), (4, .int x4)] dX2_coloursThatFit_59 rfl (by decide) (by decide) rfl ?_
        refine aw_goto C (tgt := 6) dX2_coloursThatFit_62 (by decide) ?_
        refine aw_sub [2, 3, 4, 5, 6, 1, 0] rfl ?_
        exact ih x1 x3 x4 (x5 ||| (0 : Int32)) (x6 + (1 : Int32)) u3.2
      · refine aw_iconst C (1 : Int32) dX2_coloursThatFit_48 (by decide) ?_
        refine aw_iload C dX2_coloursThatFit_49 rfl ?_
        refine aw_ishl C dX2_coloursThatFit_51 ?_
        refine aw_goto C (tgt := 56) dX2_coloursThatFit_52 (by decide) ?_
        refine aw_ior C dX2_coloursThatFit_56 ?_
        refine aw_istore C [(5, .int (x5 ||| ((1 : Int32) <<< (x6 &&& 31)))), (0, .ref 33), (1, .int x1), (2, .ref p2), (3, .int x3), (4, .int x4), (6, .int x6)] dX2_coloursThatFit_57 (by decide) rfl ?_
        refine aw_iinc C (v := (1 : Int32)) [(6, .int (x6 + (1 : Int32))), (5, .int (x5 ||| ((1 : Int32) <<< (x6 &&& 31)))), (0, .ref 33), (1, .int x1), (2, .ref p2), (3, .int x3), (4, .int x4)] dX2_coloursThatFit_59 rfl (by decide) (by decide) rfl ?_
        refine aw_goto C (tgt := 6) dX2_coloursThatFit_62 (by decide) ?_
        refine aw_sub [2, 3, 4, 5, 6, 1, 0] rfl ?_
        exact ih x1 x3 x4 (x5 ||| ((1 : Int32) <<< (x6 &&& 31))) (x6 + (1 : Int32)) u3.2
    · refine aw_iload C dX2_coloursThatFit_65 rfl ?_
      exact aw_iret C hr dX2_coloursThatFit_67
theorem m_X2_coloursThatFit  (p2 n2 : Nat) (hp2 : lyX[p2]? = some (.inr (.inl n2))) (x1 : Int32) (x3 : Int32) (x4 : Int32) (M : Mem) : AMet 7 yX2_coloursThatFit cX2_coloursThatFit 7 (some .int) lyX [.ref 33, .int x1, .ref p2, .int x3, .int x4] M (qI lyX) (X2_coloursThatFit p2 n2 x1 x3 x4 M) := by
  refine am_ent pn_X2 (Nat.le_of_ble_eq_true rfl) (fun E C hr => ?_)
  refine aw_lv (lv' := [(0, .ref 33), (1, .int x1), (2, .ref p2), (3, .int x3), (4, .int x4)]) rfl ?_
  unfold X2_coloursThatFit
  refine aw_iconst C (0 : Int32) dX2_coloursThatFit_0 (by decide) ?_
  refine aw_istore C [(5, .int (0 : Int32)), (0, .ref 33), (1, .int x1), (2, .ref p2), (3, .int x3), (4, .int x4)] dX2_coloursThatFit_1 (by decide) rfl ?_
  refine aw_iconst C (0 : Int32) dX2_coloursThatFit_3 (by decide) ?_
  refine aw_istore C [(6, .int (0 : Int32)), (5, .int (0 : Int32)), (0, .ref 33), (1, .int x1), (2, .ref p2), (3, .int x3), (4, .int x4)] dX2_coloursThatFit_4 (by decide) rfl ?_
  refine aw_sub [2, 3, 4, 5, 6, 1, 0] rfl ?_
  exact m_X2_coloursThatFit_6 C hr p2 n2 hp2 am_fuel x1 x3 x4 (0 : Int32) (0 : Int32) M
def X2_power_5  : Nat → Int32 → Int32 → Int64 → Int32 → Option (Int64)
  | 0, _, _, _, _ => none
  | f + 1, x0, x1, x2, x4 =>
    if x4 < x1 then
      X2_power_5  f x0 x1 (x2 * x0.toInt64) (x4 + (1 : Int32))
    else
      some x2
def X2_power  (x0 : Int32) (x1 : Int32)  : Option (Int64) :=
  X2_power_5 am_fuel x0 x1 (1 : Int64) (0 : Int32)
theorem m_X2_power_5 {E : amE} (C : amC E 1 cX2_power 5 RX2) (hr : (eH E).sig.returnType = (some .long)) (M : Mem) : ∀ (f : Nat) (x0 : Int32) (x1 : Int32) (x2 : Int64) (x4 : Int32), AW E lyX 5 (qLp lyX M) (X2_power_5 f x0 x1 x2 x4) 5 [(0, .int x0), (1, .int x1), (2, .long x2), (4, .int x4)] [] M := by
  intro f
  induction f with
  | zero => exact (fun _ _ _ _ => aw_none)
  | succ f ih =>
    intro x0 x1 x2 x4
    rw [X2_power_5]
    refine aw_iload C dX2_power_5 rfl ?_
    refine aw_iload_n C dX2_power_7 rfl ?_
    refine aw_icmp_ge C (tgt := 22) dX2_power_8 (by decide) ?_ ?_
    · refine aw_lload_n C dX2_power_11 rfl ?_
      refine aw_iload_n C dX2_power_12 rfl ?_
      refine aw_i2l C dX2_power_13 ?_
      refine aw_lmul C dX2_power_14 ?_
      refine aw_lstore_n C [(2, .long (x2 * x0.toInt64)), (0, .int x0), (1, .int x1), (4, .int x4)] dX2_power_15 (by decide) rfl ?_
      refine aw_iinc C (v := (1 : Int32)) [(4, .int (x4 + (1 : Int32))), (2, .long (x2 * x0.toInt64)), (0, .int x0), (1, .int x1)] dX2_power_16 rfl (by decide) (by decide) rfl ?_
      refine aw_goto C (tgt := 5) dX2_power_19 (by decide) ?_
      refine aw_sub [2, 3, 1, 0] rfl ?_
      exact ih x0 x1 (x2 * x0.toInt64) (x4 + (1 : Int32))
    · refine aw_lload_n C dX2_power_22 rfl ?_
      exact aw_lretp C hr dX2_power_23
theorem m_X2_power  (M : Mem) (x0 : Int32) (x1 : Int32)  : AMet 1 yX2_power cX2_power 5 (some .long) lyX [.int x0, .int x1] M (qLp lyX M) (X2_power x0 x1) := by
  refine am_ent pn_X2 (Nat.le_of_ble_eq_true rfl) (fun E C hr => ?_)
  refine aw_lv (lv' := [(0, .int x0), (1, .int x1)]) rfl ?_
  unfold X2_power
  refine aw_lconst C (1 : Int64) dX2_power_0 (by decide) ?_
  refine aw_lstore_n C [(2, .long (1 : Int64)), (0, .int x0), (1, .int x1)] dX2_power_1 (by decide) rfl ?_
  refine aw_iconst C (0 : Int32) dX2_power_2 (by decide) ?_
  refine aw_istore C [(4, .int (0 : Int32)), (2, .long (1 : Int64)), (0, .int x0), (1, .int x1)] dX2_power_3 (by decide) rfl ?_
  refine aw_sub [2, 3, 1, 0] rfl ?_
  exact m_X2_power_5 C hr M am_fuel x0 x1 (1 : Int64) (0 : Int32)
def X2_commonDivisor_9  : Nat → Int64 → Int64 → Int32 → Option (Int64)
  | 0, _, _, _ => none
  | f + 1, x4, x6, x8 =>
    if x8 < (100 : Int32) then
      if (lg_cmp x6 (0 : Int64)) = 0 then
        some x4
      else
        if x6 = 0 then none else
        X2_commonDivisor_9  f x6 (x4 - x4 / x6 * x6) (x8 + (1 : Int32))
    else
      some x4
def X2_commonDivisor  (x0 : Int64) (x2 : Int64)  : Option (Int64) :=
  X2_commonDivisor_9 am_fuel x0 x2 (0 : Int32)
theorem m_X2_commonDivisor_9 {E : amE} (C : amC E 1 cX2_commonDivisor 11 RX2) (hr : (eH E).sig.returnType = (some .long)) (M : Mem) : ∀ (f : Nat) (x4 : Int64) (x6 : Int64) (x8 : Int32), AW E lyX 11 (qLp lyX M) (X2_commonDivisor_9 f x4 x6 x8) 9 [(4, .long x4), (6, .long x6), (8, .int x8)] [] M := by
  intro f
  induction f with
  | zero => exact (fun _ _ _ => aw_none)
  | succ f ih =>
    intro x4 x6 x8
    rw [X2_commonDivisor_9]
    refine aw_iload C dX2_commonDivisor_9 rfl ?_
    refine aw_bipush C (100 : Int32) dX2_commonDivisor_11 (by decide) ?_
    refine aw_icmp_ge C (tgt := 44) dX2_commonDivisor_13 (by decide) ?_ ?_
    · refine aw_lload C dX2_commonDivisor_16 rfl ?_
      refine aw_lconst C (0 : Int64) dX2_commonDivisor_18 (by decide) ?_
      refine aw_lcmp C dX2_commonDivisor_19 ?_
      refine aw_if_eq C (tgt := 44) dX2_commonDivisor_20 (by decide) ?_ ?_
      · refine aw_lload C dX2_commonDivisor_44 rfl ?_
        exact aw_lretp C hr dX2_commonDivisor_46
      · refine aw_lload C dX2_commonDivisor_23 rfl ?_
        refine aw_lload C dX2_commonDivisor_25 rfl ?_
        refine aw_lrem C dX2_commonDivisor_27 ?_
        refine aw_lstore C [(9, .long (x4 - x4 / x6 * x6)), (4, .long x4), (6, .long x6), (8, .int x8)] dX2_commonDivisor_28 (by decide) rfl ?_
        refine aw_lload C dX2_commonDivisor_30 rfl ?_
        refine aw_lstore C [(4, .long x6), (9, .long (x4 - x4 / x6 * x6)), (6, .long x6), (8, .int x8)] dX2_commonDivisor_32 (by decide) rfl ?_
        refine aw_lload C dX2_commonDivisor_34 rfl ?_
        refine aw_lstore C [(6, .long (x4 - x4 / x6 * x6)), (4, .long x6), (9, .long (x4 - x4 / x6 * x6)), (8, .int x8)] dX2_commonDivisor_36 (by decide) rfl ?_
        refine aw_iinc C (v := (1 : Int32)) [(8, .int (x8 + (1 : Int32))), (6, .long (x4 - x4 / x6 * x6)), (4, .long x6), (9, .long (x4 - x4 / x6 * x6))] dX2_commonDivisor_38 rfl (by decide) (by decide) rfl ?_
        refine aw_goto C (tgt := 9) dX2_commonDivisor_41 (by decide) ?_
        refine aw_sub [2, 1, 0] rfl ?_
        exact ih x6 (x4 - x4 / x6 * x6) (x8 + (1 : Int32))
    · refine aw_lload C dX2_commonDivisor_44 rfl ?_
      exact aw_lretp C hr dX2_commonDivisor_46
theorem m_X2_commonDivisor  (M : Mem) (x0 : Int64) (x2 : Int64)  : AMet 1 yX2_commonDivisor cX2_commonDivisor 11 (some .long) lyX [.long x0, .long x2] M (qLp lyX M) (X2_commonDivisor x0 x2) := by
  refine am_ent pn_X2 (Nat.le_of_ble_eq_true rfl) (fun E C hr => ?_)
  refine aw_lv (lv' := [(0, .long x0), (2, .long x2)]) rfl ?_
  unfold X2_commonDivisor
  refine aw_lload_n C dX2_commonDivisor_0 rfl ?_
  refine aw_lstore C [(4, .long x0), (0, .long x0), (2, .long x2)] dX2_commonDivisor_1 (by decide) rfl ?_
  refine aw_lload_n C dX2_commonDivisor_3 rfl ?_
  refine aw_lstore C [(6, .long x2), (4, .long x0), (0, .long x0), (2, .long x2)] dX2_commonDivisor_4 (by decide) rfl ?_
  refine aw_iconst C (0 : Int32) dX2_commonDivisor_6 (by decide) ?_
  refine aw_istore C [(8, .int (0 : Int32)), (6, .long x2), (4, .long x0), (0, .long x0), (2, .long x2)] dX2_commonDivisor_7 (by decide) rfl ?_
  refine aw_sub [2, 1, 0] rfl ?_
  exact m_X2_commonDivisor_9 C hr M am_fuel x0 x2 (0 : Int32)
def X2_likelyOnBelt_19  : Nat → Int32 → Int32 → Int32 → Int32 → Int32 → Int64 → Int64 → Int32 → Mem → Option (Int64 × Mem)
  | 0, _, _, _, _, _, _, _, _, _ => none
  | f + 1, x1, x2, x3, x4, x5, x6, x8, x10, M =>
    if x5 < x10 then
      Option.bind (X2_commonDivisor x8 x6) fun r1 =>
      if (lg_cmp r1 (0 : Int64)) = 0 then
        some ((-1000000 : Int64), M)
      else
        if x4 = 0 then
          if r1 = 0 then none else
          some (x6 / r1, M)
        else
          if r1 = 0 then none else
          some (x8 / r1, M)
    else
      if (x10 &&& (x5 ^^^ (-1 : Int32))) = 0 then
        Option.bind (J6_bitCount_0f7a4 x10) fun r2 =>
        Option.bind (X2_power x3 r2) fun r3 =>
        Option.bind (J6_bitCount_0f7a4 (x5 - x10)) fun r4 =>
        Option.bind (X2_power ((10 : Int32) - x3) r4) fun r5 =>
        Option.bind (X3_become 23 15 M) fun M6 =>
        am_let (mset M6 23 (upd (M6 23) 3 x10)) fun M7 =>
        Option.bind (X2_goOn x2 M7) fun u8 =>
        if u8.1 = 23 then
          Option.bind (X3_isOnBelt 23 u8.2 x1) fun r10 =>
          if r10 = 0 then
            X2_likelyOnBelt_19  f x1 x2 x3 x4 x5 (x6 + (0 : Int64)) (x8 + (r3 * r5)) (x10 + (1 : Int32)) u8.2
          else
            X2_likelyOnBelt_19  f x1 x2 x3 x4 x5 (x6 + (r3 * r5)) (x8 + (r3 * r5)) (x10 + (1 : Int32)) u8.2
        else none
      else
        X2_likelyOnBelt_19  f x1 x2 x3 x4 x5 x6 x8 (x10 + (1 : Int32)) M
def X2_likelyOnBelt  (x1 : Int32) (x2 : Int32) (x3 : Int32) (x4 : Int32) (M : Mem) : Option (Int64 × Mem) :=
  Option.bind (X3_setOf 15 M (4 : Int32)) fun r1 =>
  X2_likelyOnBelt_19 am_fuel x1 x2 x3 x4 r1 (0 : Int64) (0 : Int64) (0 : Int32) M
theorem m_X2_likelyOnBelt_19 {E : amE} (C : amC E 7 cX2_likelyOnBelt 13 RX2) (hr : (eH E).sig.returnType = (some .long))  : ∀ (f : Nat) (x1 : Int32) (x2 : Int32) (x3 : Int32) (x4 : Int32) (x5 : Int32) (x6 : Int64) (x8 : Int64) (x10 : Int32) (M : Mem), AW E lyX 13 (qL lyX) (X2_likelyOnBelt_19 f x1 x2 x3 x4 x5 x6 x8 x10 M) 19 [(0, .ref 33), (1, .int x1), (2, .int x2), (3, .int x3), (4, .int x4), (5, .int x5), (6, .long x6), (8, .long x8), (10, .int x10)] [] M := by
  intro f
  induction f with
  | zero => exact (fun _ _ _ _ _ _ _ _ _ => aw_none)
  | succ f ih =>
    intro x1 x2 x3 x4 x5 x6 x8 x10 M
    rw [X2_likelyOnBelt_19]
    refine aw_iload C dX2_likelyOnBelt_19 rfl ?_
    refine aw_iload C dX2_likelyOnBelt_21 rfl ?_
    refine aw_icmp_gt C (tgt := 119) dX2_likelyOnBelt_23 (by decide) ?_ ?_
    · refine aw_lload C dX2_likelyOnBelt_119 rfl ?_
      refine aw_lload C dX2_likelyOnBelt_121 rfl ?_
      refine aw_cSLp C [.long x8, .long x6] [] (m_X2_commonDivisor M x8 x6) t_X2_commonDivisor km_X2_111 (by decide) rfl rfl (Nat.le_of_ble_eq_true rfl) dX2_likelyOnBelt_123 (fun r1 => ?_)
      refine aw_lstore C [(10, .long r1), (0, .ref 33), (1, .int x1), (2, .int x2), (3, .int x3), (4, .int x4), (5, .int x5), (6, .long x6), (8, .long x8)] dX2_likelyOnBelt_126 (by decide) rfl ?_
      refine aw_lload C dX2_likelyOnBelt_128 rfl ?_
      refine aw_lconst C (0 : Int64) dX2_likelyOnBelt_130 (by decide) ?_
      refine aw_lcmp C dX2_likelyOnBelt_131 ?_
      refine aw_if_ne C (tgt := 141) dX2_likelyOnBelt_132 (by decide) ?_ ?_
      · refine aw_ldc2 C kd_X2_115 dX2_likelyOnBelt_135 ?_
        refine aw_goto C (tgt := 156) dX2_likelyOnBelt_138 (by decide) ?_
        exact aw_lret C hr dX2_likelyOnBelt_156
      · refine aw_iload C dX2_likelyOnBelt_141 rfl ?_
        refine aw_if_ne C (tgt := 151) dX2_likelyOnBelt_143 (by decide) ?_ ?_
        · refine aw_lload C dX2_likelyOnBelt_146 rfl ?_
          refine aw_goto C (tgt := 153) dX2_likelyOnBelt_148 (by decide) ?_
          refine aw_lload C dX2_likelyOnBelt_153 rfl ?_
          refine aw_ldiv C dX2_likelyOnBelt_155 ?_
          exact aw_lret C hr dX2_likelyOnBelt_156
        · refine aw_lload C dX2_likelyOnBelt_151 rfl ?_
          refine aw_lload C dX2_likelyOnBelt_153 rfl ?_
          refine aw_ldiv C dX2_likelyOnBelt_155 ?_
          exact aw_lret C hr dX2_likelyOnBelt_156
    · refine aw_iload C dX2_likelyOnBelt_26 rfl ?_
      refine aw_iload C dX2_likelyOnBelt_28 rfl ?_
      refine aw_iconst C (-1 : Int32) dX2_likelyOnBelt_30 (by decide) ?_
      refine aw_ixor C dX2_likelyOnBelt_31 ?_
      refine aw_iand C dX2_likelyOnBelt_32 ?_
      refine aw_if_ne C (tgt := 113) dX2_likelyOnBelt_33 (by decide) ?_ ?_
      · refine aw_iload_n C dX2_likelyOnBelt_36 rfl ?_
        refine aw_iload C dX2_likelyOnBelt_37 rfl ?_
        refine aw_cSIp C [.int x10] [.int x3] (m_J6_bitCount_0f7a4 M x10) t_J6_bitCount_0f7a4 km_X2_61 (by decide) rfl rfl (Nat.le_of_ble_eq_true rfl) dX2_likelyOnBelt_39 (fun r2 => ?_)
        refine aw_cSLp C [.int x3, .int r2] [] (m_X2_power M x3 r2) t_X2_power km_X2_101 (by decide) rfl rfl (Nat.le_of_ble_eq_true rfl) dX2_likelyOnBelt_42 (fun r3 => ?_)
        refine aw_bipush C (10 : Int32) dX2_likelyOnBelt_45 (by decide) ?_
        refine aw_iload_n C dX2_likelyOnBelt_47 rfl ?_
        refine aw_isub C dX2_likelyOnBelt_48 ?_
        refine aw_iload C dX2_likelyOnBelt_49 rfl ?_
        refine aw_iload C dX2_likelyOnBelt_51 rfl ?_
        refine aw_isub C dX2_likelyOnBelt_53 ?_
        refine aw_cSIp C [.int (x5 - x10)] [.int ((10 : Int32) - x3), .long r3] (m_J6_bitCount_0f7a4 M (x5 - x10)) t_J6_bitCount_0f7a4 km_X2_61 (by decide) rfl rfl (Nat.le_of_ble_eq_true rfl) dX2_likelyOnBelt_54 (fun r4 => ?_)
        refine aw_cSLp C [.int ((10 : Int32) - x3), .int r4] [.long r3] (m_X2_power M ((10 : Int32) - x3) r4) t_X2_power km_X2_101 (by decide) rfl rfl (Nat.le_of_ble_eq_true rfl) dX2_likelyOnBelt_57 (fun r5 => ?_)
        refine aw_lmul C dX2_likelyOnBelt_60 ?_
        refine aw_lstore C [(11, .long (r3 * r5)), (0, .ref 33), (1, .int x1), (2, .int x2), (3, .int x3), (4, .int x4), (5, .int x5), (6, .long x6), (8, .long x8), (10, .int x10)] dX2_likelyOnBelt_61 (by decide) rfl ?_
        refine aw_lload C dX2_likelyOnBelt_63 rfl ?_
        refine aw_lload C dX2_likelyOnBelt_65 rfl ?_
        refine aw_ladd C dX2_likelyOnBelt_67 ?_
        refine aw_lstore C [(8, .long (x8 + (r3 * r5))), (11, .long (r3 * r5)), (0, .ref 33), (1, .int x1), (2, .int x2), (3, .int x3), (4, .int x4), (5, .int x5), (6, .long x6), (10, .int x10)] dX2_likelyOnBelt_68 (by decide) rfl ?_
        refine aw_aload_n C dX2_likelyOnBelt_70 rfl ?_
        refine aw_getR C (r := 23) clX2 lo_X_33 1 rfl (by decide) kf_X2_19 dX2_likelyOnBelt_71 ?_
        refine aw_aload_n C dX2_likelyOnBelt_74 rfl ?_
        refine aw_getR C (r := 15) clX2 lo_X_33 0 rfl (by decide) kf_X2_15 dX2_likelyOnBelt_75 ?_
        refine aw_cVV C [.ref 15] [] (m_X3_become 23 isHl_23 15 isHl_15 M) v_X3_become km_X2_22 (by decide) (hl_o isHl_23) rfl rfl rfl (Nat.le_of_ble_eq_true rfl) dX2_likelyOnBelt_78 (fun M6 => ?_)
        refine aw_aload_n C dX2_likelyOnBelt_81 rfl ?_
        refine aw_getR C (r := 23) clX2 lo_X_33 1 rfl (by decide) kf_X2_19 dX2_likelyOnBelt_82 ?_
        refine aw_iload C dX2_likelyOnBelt_85 rfl ?_
        refine aw_putI C clX3 (hl_o isHl_23) 3 rfl (by decide) rfl rfl kf_X2_105 dX2_likelyOnBelt_87 ?_
        refine aw_mlet (fun M7 => ?_)
        refine aw_lload C dX2_likelyOnBelt_90 rfl ?_
        refine aw_aload_n C dX2_likelyOnBelt_92 rfl ?_
        refine aw_iload_n C dX2_likelyOnBelt_93 rfl ?_
        refine aw_cVR C [.int x2] [.long x6] (m_X2_goOn x2 M7) v_X2_goOn km_X2_28 (by decide) lo_X_33 rfl rfl rfl (Nat.le_of_ble_eq_true rfl) dX2_likelyOnBelt_94 (fun u8 => ?_)
        refine aw_ite (fun h9 => ?_) (fun _ => aw_none)
        refine aw_st (st' := [.ref 23, .long x6]) (by rw [h9]) ?_
        refine aw_iload_n C dX2_likelyOnBelt_97 rfl ?_
        refine aw_cVIp C [.int x1] [.long x6] (m_X3_isOnBelt 23 isHl_23 u8.2 x1) v_X3_isOnBelt km_X2_108 (by decide) (hl_o isHl_23) rfl rfl rfl (Nat.le_of_ble_eq_true rfl) dX2_likelyOnBelt_98 (fun r10 => ?_)
        refine aw_if_eq C (tgt := 109) dX2_likelyOnBelt_101 (by decide) ?_ ?_
        · refine aw_lconst C (0 : Int64) dX2_likelyOnBelt_109 (by decide) ?_
          refine aw_ladd C dX2_likelyOnBelt_110 ?_
          refine aw_lstore C [(6, .long (x6 + (0 : Int64))), (8, .long (x8 + (r3 * r5))), (11, .long (r3 * r5)), (0, .ref 33), (1, .int x1), (2, .int x2), (3, .int x3), (4, .int x4), (5, .int x5), (10, .int x10)] dX2_likelyOnBelt_111 (by decide) rfl ?_
          refine aw_iinc C (v := (1 : Int32)) [(10, .int (x10 + (1 : Int32))), (6, .long (x6 + (0 : Int64))), (8, .long (x8 + (r3 * r5))), (11, .long (r3 * r5)), (0, .ref 33), (1, .int x1), (2, .int x2), (3, .int x3), (4, .int x4), (5, .int x5)] dX2_likelyOnBelt_113 rfl (by decide) (by decide) rfl ?_
          refine aw_goto C (tgt := 19) dX2_likelyOnBelt_116 (by decide) ?_
          refine aw_sub [4, 5, 6, 7, 8, 9, 1, 2, 0] rfl ?_
          exact ih x1 x2 x3 x4 x5 (x6 + (0 : Int64)) (x8 + (r3 * r5)) (x10 + (1 : Int32)) u8.2
        · refine aw_lload C dX2_likelyOnBelt_104 rfl ?_
          refine aw_goto C (tgt := 110) dX2_likelyOnBelt_106 (by decide) ?_
          refine aw_ladd C dX2_likelyOnBelt_110 ?_
          refine aw_lstore C [(6, .long (x6 + (r3 * r5))), (8, .long (x8 + (r3 * r5))), (11, .long (r3 * r5)), (0, .ref 33), (1, .int x1), (2, .int x2), (3, .int x3), (4, .int x4), (5, .int x5), (10, .int x10)] dX2_likelyOnBelt_111 (by decide) rfl ?_
          refine aw_iinc C (v := (1 : Int32)) [(10, .int (x10 + (1 : Int32))), (6, .long (x6 + (r3 * r5))), (8, .long (x8 + (r3 * r5))), (11, .long (r3 * r5)), (0, .ref 33), (1, .int x1), (2, .int x2), (3, .int x3), (4, .int x4), (5, .int x5)] dX2_likelyOnBelt_113 rfl (by decide) (by decide) rfl ?_
          refine aw_goto C (tgt := 19) dX2_likelyOnBelt_116 (by decide) ?_
          refine aw_sub [4, 5, 6, 7, 8, 9, 1, 2, 0] rfl ?_
          exact ih x1 x2 x3 x4 x5 (x6 + (r3 * r5)) (x8 + (r3 * r5)) (x10 + (1 : Int32)) u8.2
      · refine aw_iinc C (v := (1 : Int32)) [(10, .int (x10 + (1 : Int32))), (0, .ref 33), (1, .int x1), (2, .int x2), (3, .int x3), (4, .int x4), (5, .int x5), (6, .long x6), (8, .long x8)] dX2_likelyOnBelt_113 rfl (by decide) (by decide) rfl ?_
        refine aw_goto C (tgt := 19) dX2_likelyOnBelt_116 (by decide) ?_
        refine aw_sub [1, 2, 3, 4, 5, 6, 7, 8, 0] rfl ?_
        exact ih x1 x2 x3 x4 x5 x6 x8 (x10 + (1 : Int32)) M
theorem m_X2_likelyOnBelt   (x1 : Int32) (x2 : Int32) (x3 : Int32) (x4 : Int32) (M : Mem) : AMet 7 yX2_likelyOnBelt cX2_likelyOnBelt 13 (some .long) lyX [.ref 33, .int x1, .int x2, .int x3, .int x4] M (qL lyX) (X2_likelyOnBelt x1 x2 x3 x4 M) := by
  refine am_ent pn_X2 (Nat.le_of_ble_eq_true rfl) (fun E C hr => ?_)
  refine aw_lv (lv' := [(0, .ref 33), (1, .int x1), (2, .int x2), (3, .int x3), (4, .int x4)]) rfl ?_
  unfold X2_likelyOnBelt
  refine aw_aload_n C dX2_likelyOnBelt_0 rfl ?_
  refine aw_getR C (r := 15) clX2 lo_X_33 0 rfl (by decide) kf_X2_15 dX2_likelyOnBelt_1 ?_
  refine aw_iconst C (4 : Int32) dX2_likelyOnBelt_4 (by decide) ?_
  refine aw_cVIp C [.int (4 : Int32)] [] (m_X3_setOf 15 isHl_15 M (4 : Int32)) v_X3_setOf km_X2_44 (by decide) (hl_o isHl_15) rfl rfl rfl (Nat.le_of_ble_eq_true rfl) dX2_likelyOnBelt_5 (fun r1 => ?_)
  refine aw_istore C [(5, .int r1), (0, .ref 33), (1, .int x1), (2, .int x2), (3, .int x3), (4, .int x4)] dX2_likelyOnBelt_8 (by decide) rfl ?_
  refine aw_lconst C (0 : Int64) dX2_likelyOnBelt_10 (by decide) ?_
  refine aw_lstore C [(6, .long (0 : Int64)), (5, .int r1), (0, .ref 33), (1, .int x1), (2, .int x2), (3, .int x3), (4, .int x4)] dX2_likelyOnBelt_11 (by decide) rfl ?_
  refine aw_lconst C (0 : Int64) dX2_likelyOnBelt_13 (by decide) ?_
  refine aw_lstore C [(8, .long (0 : Int64)), (6, .long (0 : Int64)), (5, .int r1), (0, .ref 33), (1, .int x1), (2, .int x2), (3, .int x3), (4, .int x4)] dX2_likelyOnBelt_14 (by decide) rfl ?_
  refine aw_iconst C (0 : Int32) dX2_likelyOnBelt_16 (by decide) ?_
  refine aw_istore C [(10, .int (0 : Int32)), (8, .long (0 : Int64)), (6, .long (0 : Int64)), (5, .int r1), (0, .ref 33), (1, .int x1), (2, .int x2), (3, .int x3), (4, .int x4)] dX2_likelyOnBelt_17 (by decide) rfl ?_
  refine aw_sub [4, 5, 6, 7, 8, 3, 2, 1, 0] rfl ?_
  exact m_X2_likelyOnBelt_19 C hr am_fuel x1 x2 x3 x4 r1 (0 : Int64) (0 : Int64) (0 : Int32) M
def X2_drawOne  (x1 : Int64) (M : Mem) : Option (Mem) :=
  if (M 23 1) < (1 : Int32) then
    some M
  else
    if (M 23 0) < (1 : Int32) then
      some M
    else
      if (M 23 1).toInt64 = 0 then none else
      Option.bind (X3_has 23 M ((x1 - x1 / ((M 23 1).toInt64) * ((M 23 1).toInt64)).toInt32)) fun r1 =>
      if r1 = 0 then
        some M
      else
        Option.bind (X3_waits 23 M ((x1 - x1 / ((M 23 1).toInt64) * ((M 23 1).toInt64)).toInt32)) fun r2 =>
        if r2 = 0 then
          Option.bind (X3_comeBack 23 ((x1 - x1 / ((M 23 1).toInt64) * ((M 23 1).toInt64)).toInt32) M) fun M3 =>
          some M3
        else
          if (3 : Int64) = 0 then none else
          if (lg_cmp (x1 - x1 / (3 : Int64) * (3 : Int64)) (0 : Int64)) = 0 then
            if (M 23 0).toInt64 = 0 then none else
            if am_in ((x1 - x1 / ((M 23 1).toInt64) * ((M 23 1).toInt64)).toInt32) 6 = true then
              am_let (mset M 25 (upd (M 25) ((x1 - x1 / ((M 23 1).toInt64) * ((M 23 1).toInt64)).toInt32).toNatClampNeg ((x1 - x1 / ((M 23 0).toInt64) * ((M 23 0).toInt64)).toInt32))) fun M4 =>
              some M4
            else none
          else
            some M
theorem m_X2_drawOne   (x1 : Int64) (M : Mem) : AMet 3 yX2_drawOne cX2_drawOne 4 none lyX [.ref 33, .long x1] M (qV lyX) (X2_drawOne x1 M) := by
  refine am_ent pn_X2 (Nat.le_of_ble_eq_true rfl) (fun E C hr => ?_)
  refine aw_lv (lv' := [(0, .ref 33), (1, .long x1)]) rfl ?_
  unfold X2_drawOne
  refine aw_aload_n C dX2_drawOne_0 rfl ?_
  refine aw_getR C (r := 23) clX2 lo_X_33 1 rfl (by decide) kf_X2_19 dX2_drawOne_1 ?_
  refine aw_getI C clX3 (hl_o isHl_23) 1 rfl (by decide) kf_X2_40 dX2_drawOne_4 ?_
  refine aw_iconst C (1 : Int32) dX2_drawOne_7 (by decide) ?_
  refine aw_icmp_lt C (tgt := 22) dX2_drawOne_8 (by decide) ?_ ?_
  · exact aw_vret C hr dX2_drawOne_22
  · refine aw_aload_n C dX2_drawOne_11 rfl ?_
    refine aw_getR C (r := 23) clX2 lo_X_33 1 rfl (by decide) kf_X2_19 dX2_drawOne_12 ?_
    refine aw_getI C clX3 (hl_o isHl_23) 0 rfl (by decide) kf_X2_48 dX2_drawOne_15 ?_
    refine aw_iconst C (1 : Int32) dX2_drawOne_18 (by decide) ?_
    refine aw_icmp_ge C (tgt := 23) dX2_drawOne_19 (by decide) ?_ ?_
    · exact aw_vret C hr dX2_drawOne_22
    · refine aw_lload_n C dX2_drawOne_23 rfl ?_
      refine aw_aload_n C dX2_drawOne_24 rfl ?_
      refine aw_getR C (r := 23) clX2 lo_X_33 1 rfl (by decide) kf_X2_19 dX2_drawOne_25 ?_
      refine aw_getI C clX3 (hl_o isHl_23) 1 rfl (by decide) kf_X2_40 dX2_drawOne_28 ?_
      refine aw_i2l C dX2_drawOne_31 ?_
      refine aw_lrem C dX2_drawOne_32 ?_
      refine aw_l2i C dX2_drawOne_33 ?_
      refine aw_istore_n C [(3, .int ((x1 - x1 / ((M 23 1).toInt64) * ((M 23 1).toInt64)).toInt32)), (0, .ref 33), (1, .long x1)] dX2_drawOne_34 (by decide) rfl ?_
      refine aw_aload_n C dX2_drawOne_35 rfl ?_
      refine aw_getR C (r := 23) clX2 lo_X_33 1 rfl (by decide) kf_X2_19 dX2_drawOne_36 ?_
      refine aw_iload_n C dX2_drawOne_39 rfl ?_
      refine aw_cVIp C [.int ((x1 - x1 / ((M 23 1).toInt64) * ((M 23 1).toInt64)).toInt32)] [] (m_X3_has 23 isHl_23 M ((x1 - x1 / ((M 23 1).toInt64) * ((M 23 1).toInt64)).toInt32)) v_X3_has km_X2_125 (by decide) (hl_o isHl_23) rfl rfl rfl (Nat.le_of_ble_eq_true rfl) dX2_drawOne_40 (fun r1 => ?_)
      refine aw_if_ne C (tgt := 47) dX2_drawOne_43 (by decide) ?_ ?_
      · exact aw_vret C hr dX2_drawOne_46
      · refine aw_aload_n C dX2_drawOne_47 rfl ?_
        refine aw_getR C (r := 23) clX2 lo_X_33 1 rfl (by decide) kf_X2_19 dX2_drawOne_48 ?_
        refine aw_iload_n C dX2_drawOne_51 rfl ?_
        refine aw_cVIp C [.int ((x1 - x1 / ((M 23 1).toInt64) * ((M 23 1).toInt64)).toInt32)] [] (m_X3_waits 23 isHl_23 M ((x1 - x1 / ((M 23 1).toInt64) * ((M 23 1).toInt64)).toInt32)) v_X3_waits km_X2_35 (by decide) (hl_o isHl_23) rfl rfl rfl (Nat.le_of_ble_eq_true rfl) dX2_drawOne_52 (fun r2 => ?_)
        refine aw_if_ne C (tgt := 69) dX2_drawOne_55 (by decide) ?_ ?_
        · refine aw_aload_n C dX2_drawOne_58 rfl ?_
          refine aw_getR C (r := 23) clX2 lo_X_33 1 rfl (by decide) kf_X2_19 dX2_drawOne_59 ?_
          refine aw_iload_n C dX2_drawOne_62 rfl ?_
          refine aw_cVV C [.int ((x1 - x1 / ((M 23 1).toInt64) * ((M 23 1).toInt64)).toInt32)] [] (m_X3_comeBack 23 isHl_23 ((x1 - x1 / ((M 23 1).toInt64) * ((M 23 1).toInt64)).toInt32) M) v_X3_comeBack km_X2_128 (by decide) (hl_o isHl_23) rfl rfl rfl (Nat.le_of_ble_eq_true rfl) dX2_drawOne_63 (fun M3 => ?_)
          refine aw_goto C (tgt := 99) dX2_drawOne_66 (by decide) ?_
          exact aw_vret C hr dX2_drawOne_99
        · refine aw_lload_n C dX2_drawOne_69 rfl ?_
          refine aw_ldc2 C kd_X2_131 dX2_drawOne_70 ?_
          refine aw_lrem C dX2_drawOne_73 ?_
          refine aw_lconst C (0 : Int64) dX2_drawOne_74 (by decide) ?_
          refine aw_lcmp C dX2_drawOne_75 ?_
          refine aw_if_ne C (tgt := 99) dX2_drawOne_76 (by decide) ?_ ?_
          · refine aw_aload_n C dX2_drawOne_79 rfl ?_
            refine aw_getR C (r := 23) clX2 lo_X_33 1 rfl (by decide) kf_X2_19 dX2_drawOne_80 ?_
            refine aw_getR C (r := 25) clX3 (hl_o isHl_23) 7 rfl (by decide) kf_X2_55 dX2_drawOne_83 ?_
            refine aw_iload_n C dX2_drawOne_86 rfl ?_
            refine aw_lload_n C dX2_drawOne_87 rfl ?_
            refine aw_aload_n C dX2_drawOne_88 rfl ?_
            refine aw_getR C (r := 23) clX2 lo_X_33 1 rfl (by decide) kf_X2_19 dX2_drawOne_89 ?_
            refine aw_getI C clX3 (hl_o isHl_23) 0 rfl (by decide) kf_X2_48 dX2_drawOne_92 ?_
            refine aw_i2l C dX2_drawOne_95 ?_
            refine aw_lrem C dX2_drawOne_96 ?_
            refine aw_l2i C dX2_drawOne_97 ?_
            refine aw_iast C (hl_2 isHl_23) dX2_drawOne_98 ?_
            refine aw_mlet (fun M4 => ?_)
            exact aw_vret C hr dX2_drawOne_99
          · exact aw_vret C hr dX2_drawOne_99
def X2_goneInDays_24  : Nat → Int32 → Int32 → Int64 → Int32 → Int32 → Int32 → Mem → Option (Int32 × Mem)
  | 0, _, _, _, _, _, _, _ => none
  | f + 1, x1, x3, x4, x6, x7, x8, M =>
    if x8 < x1 then
      if (2147483647 : Int64) = 0 then none else
      am_let ((x4 * (16807 : Int64)) - (x4 * (16807 : Int64)) / (2147483647 : Int64) * (2147483647 : Int64)) fun v1 =>
      Option.bind (X2_drawOne v1 M) fun M2 =>
      Option.bind (X3_setOf 23 M2 (7 : Int32)) fun r3 =>
      Option.bind (X3_tickOnce 23 M2) fun M4 =>
      Option.bind (X3_setOf 23 M4 (7 : Int32)) fun r5 =>
      Option.bind (J6_bitCount_0f7a4 (r5 &&& (r3 ^^^ (-1 : Int32)))) fun r6 =>
      Option.bind (X3_setOf 23 M4 (5 : Int32)) fun r7 =>
      Option.bind (J6_bitCount_0f7a4 (r7 &&& (r3 ^^^ (-1 : Int32)))) fun r8 =>
      X2_goneInDays_24  f x1 x3 v1 (x6 + r6) (x7 + r8) (x8 + (1 : Int32)) M4
    else
      if x3 = 0 then
        some (x6, M)
      else
        some (x7, M)
def X2_goneInDays  (x1 : Int32) (x2 : Int32) (x3 : Int32) (M : Mem) : Option (Int32 × Mem) :=
  Option.bind (X3_become 23 15 M) fun M1 =>
  X2_goneInDays_24 am_fuel x1 x3 x2.toInt64 (0 : Int32) (0 : Int32) (0 : Int32) M1
theorem m_X2_goneInDays_24 {E : amE} (C : amC E 6 cX2_goneInDays 10 RX2) (hr : (eH E).sig.returnType = (some .int))  : ∀ (f : Nat) (x1 : Int32) (x3 : Int32) (x4 : Int64) (x6 : Int32) (x7 : Int32) (x8 : Int32) (M : Mem), AW E lyX 10 (qI lyX) (X2_goneInDays_24 f x1 x3 x4 x6 x7 x8 M) 24 [(0, .ref 33), (1, .int x1), (3, .int x3), (4, .long x4), (6, .int x6), (7, .int x7), (8, .int x8)] [] M := by
  intro f
  induction f with
  | zero => exact (fun _ _ _ _ _ _ _ => aw_none)
  | succ f ih =>
    intro x1 x3 x4 x6 x7 x8 M
    rw [X2_goneInDays_24]
    refine aw_iload C dX2_goneInDays_24 rfl ?_
    refine aw_iload_n C dX2_goneInDays_26 rfl ?_
    refine aw_icmp_ge C (tgt := 115) dX2_goneInDays_27 (by decide) ?_ ?_
    · refine aw_lload C dX2_goneInDays_30 rfl ?_
      refine aw_ldc2 C kd_X2_117 dX2_goneInDays_32 ?_
      refine aw_lmul C dX2_goneInDays_35 ?_
      refine aw_ldc2 C kd_X2_119 dX2_goneInDays_36 ?_
      refine aw_lrem C dX2_goneInDays_39 ?_
      refine aw_llet (fun v1 => ?_)
      refine aw_lstore C [(4, .long v1), (0, .ref 33), (1, .int x1), (3, .int x3), (6, .int x6), (7, .int x7), (8, .int x8)] dX2_goneInDays_40 (by decide) rfl ?_
      refine aw_aload_n C dX2_goneInDays_42 rfl ?_
      refine aw_lload C dX2_goneInDays_43 rfl ?_
      refine aw_cVV C [.long v1] [] (m_X2_drawOne v1 M) v_X2_drawOne km_X2_121 (by decide) lo_X_33 rfl rfl rfl (Nat.le_of_ble_eq_true rfl) dX2_goneInDays_45 (fun M2 => ?_)
      refine aw_aload_n C dX2_goneInDays_48 rfl ?_
      refine aw_getR C (r := 23) clX2 lo_X_33 1 rfl (by decide) kf_X2_19 dX2_goneInDays_49 ?_
      refine aw_bipush C (7 : Int32) dX2_goneInDays_52 (by decide) ?_
      refine aw_cVIp C [.int (7 : Int32)] [] (m_X3_setOf 23 isHl_23 M2 (7 : Int32)) v_X3_setOf km_X2_44 (by decide) (hl_o isHl_23) rfl rfl rfl (Nat.le_of_ble_eq_true rfl) dX2_goneInDays_54 (fun r3 => ?_)
      refine aw_istore C [(9, .int r3), (4, .long v1), (0, .ref 33), (1, .int x1), (3, .int x3), (6, .int x6), (7, .int x7), (8, .int x8)] dX2_goneInDays_57 (by decide) rfl ?_
      refine aw_aload_n C dX2_goneInDays_59 rfl ?_
      refine aw_getR C (r := 23) clX2 lo_X_33 1 rfl (by decide) kf_X2_19 dX2_goneInDays_60 ?_
      refine aw_cVV C [] [] (m_X3_tickOnce 23 isHl_23 M2) v_X3_tickOnce km_X2_32 (by decide) (hl_o isHl_23) rfl rfl rfl (Nat.le_of_ble_eq_true rfl) dX2_goneInDays_63 (fun M4 => ?_)
      refine aw_iload C dX2_goneInDays_66 rfl ?_
      refine aw_aload_n C dX2_goneInDays_68 rfl ?_
      refine aw_getR C (r := 23) clX2 lo_X_33 1 rfl (by decide) kf_X2_19 dX2_goneInDays_69 ?_
      refine aw_bipush C (7 : Int32) dX2_goneInDays_72 (by decide) ?_
      refine aw_cVIp C [.int (7 : Int32)] [.int x6] (m_X3_setOf 23 isHl_23 M4 (7 : Int32)) v_X3_setOf km_X2_44 (by decide) (hl_o isHl_23) rfl rfl rfl (Nat.le_of_ble_eq_true rfl) dX2_goneInDays_74 (fun r5 => ?_)
      refine aw_iload C dX2_goneInDays_77 rfl ?_
      refine aw_iconst C (-1 : Int32) dX2_goneInDays_79 (by decide) ?_
      refine aw_ixor C dX2_goneInDays_80 ?_
      refine aw_iand C dX2_goneInDays_81 ?_
      refine aw_cSIp C [.int (r5 &&& (r3 ^^^ (-1 : Int32)))] [.int x6] (m_J6_bitCount_0f7a4 M4 (r5 &&& (r3 ^^^ (-1 : Int32)))) t_J6_bitCount_0f7a4 km_X2_61 (by decide) rfl rfl (Nat.le_of_ble_eq_true rfl) dX2_goneInDays_82 (fun r6 => ?_)
      refine aw_iadd C dX2_goneInDays_85 ?_
      refine aw_istore C [(6, .int (x6 + r6)), (9, .int r3), (4, .long v1), (0, .ref 33), (1, .int x1), (3, .int x3), (7, .int x7), (8, .int x8)] dX2_goneInDays_86 (by decide) rfl ?_
      refine aw_iload C dX2_goneInDays_88 rfl ?_
      refine aw_aload_n C dX2_goneInDays_90 rfl ?_
      refine aw_getR C (r := 23) clX2 lo_X_33 1 rfl (by decide) kf_X2_19 dX2_goneInDays_91 ?_
      refine aw_iconst C (5 : Int32) dX2_goneInDays_94 (by decide) ?_
      refine aw_cVIp C [.int (5 : Int32)] [.int x7] (m_X3_setOf 23 isHl_23 M4 (5 : Int32)) v_X3_setOf km_X2_44 (by decide) (hl_o isHl_23) rfl rfl rfl (Nat.le_of_ble_eq_true rfl) dX2_goneInDays_95 (fun r7 => ?_)
      refine aw_iload C dX2_goneInDays_98 rfl ?_
      refine aw_iconst C (-1 : Int32) dX2_goneInDays_100 (by decide) ?_
      refine aw_ixor C dX2_goneInDays_101 ?_
      refine aw_iand C dX2_goneInDays_102 ?_
      refine aw_cSIp C [.int (r7 &&& (r3 ^^^ (-1 : Int32)))] [.int x7] (m_J6_bitCount_0f7a4 M4 (r7 &&& (r3 ^^^ (-1 : Int32)))) t_J6_bitCount_0f7a4 km_X2_61 (by decide) rfl rfl (Nat.le_of_ble_eq_true rfl) dX2_goneInDays_103 (fun r8 => ?_)
      refine aw_iadd C dX2_goneInDays_106 ?_
      refine aw_istore C [(7, .int (x7 + r8)), (6, .int (x6 + r6)), (9, .int r3), (4, .long v1), (0, .ref 33), (1, .int x1), (3, .int x3), (8, .int x8)] dX2_goneInDays_107 (by decide) rfl ?_
      refine aw_iinc C (v := (1 : Int32)) [(8, .int (x8 + (1 : Int32))), (7, .int (x7 + r8)), (6, .int (x6 + r6)), (9, .int r3), (4, .long v1), (0, .ref 33), (1, .int x1), (3, .int x3)] dX2_goneInDays_109 rfl (by decide) (by decide) rfl ?_
      refine aw_goto C (tgt := 24) dX2_goneInDays_112 (by decide) ?_
      refine aw_sub [5, 6, 7, 4, 2, 1, 0] rfl ?_
      exact ih x1 x3 v1 (x6 + r6) (x7 + r8) (x8 + (1 : Int32)) M4
    · refine aw_iload_n C dX2_goneInDays_115 rfl ?_
      refine aw_if_ne C (tgt := 124) dX2_goneInDays_116 (by decide) ?_ ?_
      · refine aw_iload C dX2_goneInDays_119 rfl ?_
        refine aw_goto C (tgt := 126) dX2_goneInDays_121 (by decide) ?_
        exact aw_iret C hr dX2_goneInDays_126
      · refine aw_iload C dX2_goneInDays_124 rfl ?_
        exact aw_iret C hr dX2_goneInDays_126
theorem m_X2_goneInDays   (x1 : Int32) (x2 : Int32) (x3 : Int32) (M : Mem) : AMet 6 yX2_goneInDays cX2_goneInDays 10 (some .int) lyX [.ref 33, .int x1, .int x2, .int x3] M (qI lyX) (X2_goneInDays x1 x2 x3 M) := by
  refine am_ent pn_X2 (Nat.le_of_ble_eq_true rfl) (fun E C hr => ?_)
  refine aw_lv (lv' := [(0, .ref 33), (1, .int x1), (2, .int x2), (3, .int x3)]) rfl ?_
  unfold X2_goneInDays
  refine aw_aload_n C dX2_goneInDays_0 rfl ?_
  refine aw_getR C (r := 23) clX2 lo_X_33 1 rfl (by decide) kf_X2_19 dX2_goneInDays_1 ?_
  refine aw_aload_n C dX2_goneInDays_4 rfl ?_
  refine aw_getR C (r := 15) clX2 lo_X_33 0 rfl (by decide) kf_X2_15 dX2_goneInDays_5 ?_
  refine aw_cVV C [.ref 15] [] (m_X3_become 23 isHl_23 15 isHl_15 M) v_X3_become km_X2_22 (by decide) (hl_o isHl_23) rfl rfl rfl (Nat.le_of_ble_eq_true rfl) dX2_goneInDays_8 (fun M1 => ?_)
  refine aw_iload_n C dX2_goneInDays_11 rfl ?_
  refine aw_i2l C dX2_goneInDays_12 ?_
  refine aw_lstore C [(4, .long x2.toInt64), (0, .ref 33), (1, .int x1), (2, .int x2), (3, .int x3)] dX2_goneInDays_13 (by decide) rfl ?_
  refine aw_iconst C (0 : Int32) dX2_goneInDays_15 (by decide) ?_
  refine aw_istore C [(6, .int (0 : Int32)), (4, .long x2.toInt64), (0, .ref 33), (1, .int x1), (2, .int x2), (3, .int x3)] dX2_goneInDays_16 (by decide) rfl ?_
  refine aw_iconst C (0 : Int32) dX2_goneInDays_18 (by decide) ?_
  refine aw_istore C [(7, .int (0 : Int32)), (6, .int (0 : Int32)), (4, .long x2.toInt64), (0, .ref 33), (1, .int x1), (2, .int x2), (3, .int x3)] dX2_goneInDays_19 (by decide) rfl ?_
  refine aw_iconst C (0 : Int32) dX2_goneInDays_21 (by decide) ?_
  refine aw_istore C [(8, .int (0 : Int32)), (7, .int (0 : Int32)), (6, .int (0 : Int32)), (4, .long x2.toInt64), (0, .ref 33), (1, .int x1), (2, .int x2), (3, .int x3)] dX2_goneInDays_22 (by decide) rfl ?_
  refine aw_sub [4, 5, 7, 3, 2, 1, 0] rfl ?_
  exact m_X2_goneInDays_24 C hr am_fuel x1 x3 x2.toInt64 (0 : Int32) (0 : Int32) (0 : Int32) M1
