def J7_fill_53178_5 (p0 n0 : Nat) : Nat → Int32 → Int32 → Int32 → Mem → Option (Mem)
  | 0, _, _, _, _ => none
  | f + 1, x1, x2, x3, M =>
    if x2 < x3 then
      if am_in x2 n0 = true then
        am_let (mset M p0 (upd (M p0) x2.toNatClampNeg x1)) fun M1 =>
        J7_fill_53178_5 p0 n0 f x1 (x2 + (1 : Int32)) x3 M1
      else none
    else
      some M
def J7_fill_53178 (p0 n0 : Nat) (x1 : Int32) (M : Mem) : Option (Mem) :=
  J7_fill_53178_5 p0 n0 am_fuel x1 (0 : Int32) (Int32.ofNat n0) M
theorem m_J7_fill_53178_5 {E : amE} (C : amC E 1 cJ7_fill_53178 4 RJ7) (hr : (eH E).sig.returnType = none) (p0 n0 : Nat) (hp0 : lyX[p0]? = some (.inr (.inl n0))) : ∀ (f : Nat) (x1 : Int32) (x2 : Int32) (x3 : Int32) (M : Mem), AW E lyX 4 (qV lyX) (J7_fill_53178_5 p0 n0 f x1 x2 x3 M) 5 [(0, .ref p0), (1, .int x1), (2, .int x2), (3, .int x3)] [] M := by
  intro f
  induction f with
  | zero => exact (fun _ _ _ _ => aw_none)
  | succ f ih =>
    intro x1 x2 x3 M
    rw [J7_fill_53178_5]
    refine aw_iload_n C dJ7_fill_53178_5 rfl ?_
    refine aw_iload_n C dJ7_fill_53178_6 rfl ?_
    refine aw_icmp_ge C (tgt := 20) dJ7_fill_53178_7 (by decide) ?_ ?_
    · refine aw_aload_n C dJ7_fill_53178_10 rfl ?_
      refine aw_iload_n C dJ7_fill_53178_11 rfl ?_
      refine aw_iload_n C dJ7_fill_53178_12 rfl ?_
      refine aw_iast C hp0 dJ7_fill_53178_13 ?_
      refine aw_mlet (fun M1 => ?_)
      refine aw_iinc C (v := (1 : Int32)) [(2, .int (x2 + (1 : Int32))), (0, .ref p0), (1, .int x1), (3, .int x3)] dJ7_fill_53178_14 rfl (by decide) (by decide) rfl ?_
      refine aw_goto C (tgt := 5) dJ7_fill_53178_17 (by decide) ?_
      refine aw_sub [1, 2, 0, 3] rfl ?_
      exact ih x1 (x2 + (1 : Int32)) x3 M1
    · exact aw_vret C hr dJ7_fill_53178_20
theorem m_J7_fill_53178  (p0 n0 : Nat) (hp0 : lyX[p0]? = some (.inr (.inl n0))) (x1 : Int32) (M : Mem) : AMet 1 yJ7_fill_53178 cJ7_fill_53178 4 none lyX [.ref p0, .int x1] M (qV lyX) (J7_fill_53178 p0 n0 x1 M) := by
  refine am_ent pn_J7 (Nat.le_of_ble_eq_true rfl) (fun E C hr => ?_)
  refine aw_lv (lv' := [(0, .ref p0), (1, .int x1)]) rfl ?_
  unfold J7_fill_53178
  refine aw_iconst C (0 : Int32) dJ7_fill_53178_0 (by decide) ?_
  refine aw_istore_n C [(2, .int (0 : Int32)), (0, .ref p0), (1, .int x1)] dJ7_fill_53178_1 (by decide) rfl ?_
  refine aw_aload_n C dJ7_fill_53178_2 rfl ?_
  refine aw_alen C (Int32.ofNat n0) hp0 rfl dJ7_fill_53178_3 ?_
  refine aw_istore_n C [(3, .int (Int32.ofNat n0)), (2, .int (0 : Int32)), (0, .ref p0), (1, .int x1)] dJ7_fill_53178_4 (by decide) rfl ?_
  refine aw_sub [2, 3, 1, 0] rfl ?_
  exact m_J7_fill_53178_5 C hr p0 n0 hp0 am_fuel x1 (0 : Int32) (Int32.ofNat n0) M
def J0_isLatin1_aae02 (M : Mem)   : Option (Int32) :=
  if (1 : Int32) = 0 then
    some (0 : Int32)
  else
    if (0 : Int32) = 0 then
      some (1 : Int32)
    else
      some (0 : Int32)
theorem m_J0_isLatin1_aae02  (M : Mem)   : AMet 1 yJ0_isLatin1_aae02 cJ0_isLatin1_aae02 1 (some .boolean) lyX [.ref 1003] M (qIp lyX M) (J0_isLatin1_aae02 M) := by
  refine am_ent pn_J0 (Nat.le_of_ble_eq_true rfl) (fun E C hr => ?_)
  refine aw_lv (lv' := [(0, .ref 1003)]) rfl ?_
  unfold J0_isLatin1_aae02
  refine aw_getsCS C kf_J0_38 dJ0_isLatin1_aae02_0 ?_
  refine aw_if_eq C (tgt := 17) dJ0_isLatin1_aae02_3 (by decide) ?_ ?_
  · refine aw_iconst C (0 : Int32) dJ0_isLatin1_aae02_17 (by decide) ?_
    exact aw_zretp C (Or.inl rfl) hr dJ0_isLatin1_aae02_18
  · refine aw_aload_n C dJ0_isLatin1_aae02_6 rfl ?_
    refine aw_sgetC C kf_J0_15 dJ0_isLatin1_aae02_7 ?_
    refine aw_if_ne C (tgt := 17) dJ0_isLatin1_aae02_10 (by decide) ?_ ?_
    · refine aw_iconst C (1 : Int32) dJ0_isLatin1_aae02_13 (by decide) ?_
      refine aw_goto C (tgt := 18) dJ0_isLatin1_aae02_14 (by decide) ?_
      exact aw_zretp C (Or.inr rfl) hr dJ0_isLatin1_aae02_18
    · refine aw_iconst C (0 : Int32) dJ0_isLatin1_aae02_17 (by decide) ?_
      exact aw_zretp C (Or.inl rfl) hr dJ0_isLatin1_aae02_18
def J0_coder_7d493 (M : Mem)   : Option (Int32) :=
  if (1 : Int32) = 0 then
    some (1 : Int32)
  else
    some (0 : Int32)
theorem m_J0_coder_7d493  (M : Mem)   : AMet 1 yJ0_coder_7d493 cJ0_coder_7d493 1 (some .byte) lyX [.ref 1003] M (qIp lyX M) (J0_coder_7d493 M) := by
  refine am_ent pn_J0 (Nat.le_of_ble_eq_true rfl) (fun E C hr => ?_)
  refine aw_lv (lv' := [(0, .ref 1003)]) rfl ?_
  unfold J0_coder_7d493
  refine aw_getsCS C kf_J0_38 dJ0_coder_7d493_0 ?_
  refine aw_if_eq C (tgt := 13) dJ0_coder_7d493_3 (by decide) ?_ ?_
  · refine aw_iconst C (1 : Int32) dJ0_coder_7d493_13 (by decide) ?_
    exact aw_bretp C (by decide) hr dJ0_coder_7d493_14
  · refine aw_aload_n C dJ0_coder_7d493_6 rfl ?_
    refine aw_sgetC C kf_J0_15 dJ0_coder_7d493_7 ?_
    refine aw_goto C (tgt := 14) dJ0_coder_7d493_10 (by decide) ?_
    exact aw_bretp C (by decide) hr dJ0_coder_7d493_14
def J0_length_8abf5 (M : Mem)   : Option (Int32) :=
  Option.bind (J0_coder_7d493 M) fun r1 =>
  some ((5 : Int32) >>> (r1 &&& 31))
theorem m_J0_length_8abf5  (M : Mem)   : AMet 2 yJ0_length_8abf5 cJ0_length_8abf5 1 (some .int) lyX [.ref 1003] M (qIp lyX M) (J0_length_8abf5 M) := by
  refine am_ent pn_J0 (Nat.le_of_ble_eq_true rfl) (fun E C hr => ?_)
  refine aw_lv (lv' := [(0, .ref 1003)]) rfl ?_
  unfold J0_length_8abf5
  refine aw_aload_n C dJ0_length_8abf5_0 rfl ?_
  refine aw_sgetV C kf_J0_9 dJ0_length_8abf5_1 ?_
  refine aw_btlen C dJ0_length_8abf5_4 ?_
  refine aw_aload_n C dJ0_length_8abf5_5 rfl ?_
  refine aw_cUIp C [] [.int (5 : Int32)] (m_J0_coder_7d493 M) v_J0_coder_7d493 km_J0_335 (by decide) rfl rfl (Nat.le_of_ble_eq_true rfl) dJ0_length_8abf5_6 (fun r1 => ?_)
  refine aw_ishr C dJ0_length_8abf5_9 ?_
  exact aw_iretp C hr dJ0_length_8abf5_10
def J1_canEncode_9a6ad  (x0 : Int32)  : Option (Int32) :=
  if x0 < 0 then
    some (0 : Int32)
  else
    if (255 : Int32) < x0 then
      some (0 : Int32)
    else
      some (1 : Int32)
theorem m_J1_canEncode_9a6ad  (M : Mem) (x0 : Int32)  : AMet 1 yJ1_canEncode_9a6ad cJ1_canEncode_9a6ad 1 (some .boolean) lyX [.int x0] M (qIp lyX M) (J1_canEncode_9a6ad x0) := by
  refine am_ent pn_J1 (Nat.le_of_ble_eq_true rfl) (fun E C hr => ?_)
  refine aw_lv (lv' := [(0, .int x0)]) rfl ?_
  unfold J1_canEncode_9a6ad
  refine aw_iload_n C dJ1_canEncode_9a6ad_0 rfl ?_
  refine aw_if_lt C (tgt := 15) dJ1_canEncode_9a6ad_1 (by decide) ?_ ?_
  · refine aw_iconst C (0 : Int32) dJ1_canEncode_9a6ad_15 (by decide) ?_
    exact aw_zretp C (Or.inl rfl) hr dJ1_canEncode_9a6ad_16
  · refine aw_iload_n C dJ1_canEncode_9a6ad_4 rfl ?_
    refine aw_sipush C (255 : Int32) dJ1_canEncode_9a6ad_5 (by decide) ?_
    refine aw_icmp_gt C (tgt := 15) dJ1_canEncode_9a6ad_8 (by decide) ?_ ?_
    · refine aw_iconst C (0 : Int32) dJ1_canEncode_9a6ad_15 (by decide) ?_
      exact aw_zretp C (Or.inl rfl) hr dJ1_canEncode_9a6ad_16
    · refine aw_iconst C (1 : Int32) dJ1_canEncode_9a6ad_11 (by decide) ?_
      refine aw_goto C (tgt := 16) dJ1_canEncode_9a6ad_12 (by decide) ?_
      exact aw_zretp C (Or.inr rfl) hr dJ1_canEncode_9a6ad_16
def J1_indexOfChar_4cfef_7 (M : Mem) : Nat → Int32 → Int32 → Int32 → Option (Int32)
  | 0, _, _, _ => none
  | f + 1, x3, x4, x5 =>
    if x5 < x3 then
      if am_in x5 5 = true then
        if (am_bt x5.toNatClampNeg) = x4 then
          some x5
        else
          J1_indexOfChar_4cfef_7 M f x3 x4 (x5 + (1 : Int32))
      else none
    else
      some (-1 : Int32)
def J1_indexOfChar_4cfef (M : Mem) (x1 : Int32) (x2 : Int32) (x3 : Int32)  : Option (Int32) :=
  J1_indexOfChar_4cfef_7 M am_fuel x3 x1.toInt8.toInt32 x2
theorem m_J1_indexOfChar_4cfef_7 {E : amE} (C : amC E 1 cJ1_indexOfChar_4cfef 6 RJ1) (hr : (eH E).sig.returnType = (some .int)) (M : Mem) : ∀ (f : Nat) (x3 : Int32) (x4 : Int32) (x5 : Int32), AW E lyX 6 (qIp lyX M) (J1_indexOfChar_4cfef_7 M f x3 x4 x5) 7 [(0, .ref 1004), (3, .int x3), (4, .int x4), (5, .int x5)] [] M := by
  intro f
  induction f with
  | zero => exact (fun _ _ _ => aw_none)
  | succ f ih =>
    intro x3 x4 x5
    rw [J1_indexOfChar_4cfef_7]
    refine aw_iload C dJ1_indexOfChar_4cfef_7 rfl ?_
    refine aw_iload_n C dJ1_indexOfChar_4cfef_9 rfl ?_
    refine aw_icmp_ge C (tgt := 31) dJ1_indexOfChar_4cfef_10 (by decide) ?_ ?_
    · refine aw_aload_n C dJ1_indexOfChar_4cfef_13 rfl ?_
      refine aw_iload C dJ1_indexOfChar_4cfef_14 rfl ?_
      refine aw_btald C dJ1_indexOfChar_4cfef_16 ?_
      refine aw_iload C dJ1_indexOfChar_4cfef_17 rfl ?_
      refine aw_icmp_ne C (tgt := 25) dJ1_indexOfChar_4cfef_19 (by decide) ?_ ?_
      · refine aw_iload C dJ1_indexOfChar_4cfef_22 rfl ?_
        exact aw_iretp C hr dJ1_indexOfChar_4cfef_24
      · refine aw_iinc C (v := (1 : Int32)) [(5, .int (x5 + (1 : Int32))), (0, .ref 1004), (3, .int x3), (4, .int x4)] dJ1_indexOfChar_4cfef_25 rfl (by decide) (by decide) rfl ?_
        refine aw_goto C (tgt := 7) dJ1_indexOfChar_4cfef_28 (by decide) ?_
        refine aw_sub [1, 2, 3, 0] rfl ?_
        exact ih x3 x4 (x5 + (1 : Int32))
    · refine aw_iconst C (-1 : Int32) dJ1_indexOfChar_4cfef_31 (by decide) ?_
      exact aw_iretp C hr dJ1_indexOfChar_4cfef_32
theorem m_J1_indexOfChar_4cfef  (M : Mem) (x1 : Int32) (x2 : Int32) (x3 : Int32)  : AMet 1 yJ1_indexOfChar_4cfef cJ1_indexOfChar_4cfef 6 (some .int) lyX [.ref 1004, .int x1, .int x2, .int x3] M (qIp lyX M) (J1_indexOfChar_4cfef M x1 x2 x3) := by
  refine am_ent pn_J1 (Nat.le_of_ble_eq_true rfl) (fun E C hr => ?_)
  refine aw_lv (lv' := [(0, .ref 1004), (1, .int x1), (2, .int x2), (3, .int x3)]) rfl ?_
  unfold J1_indexOfChar_4cfef
  refine aw_iload_n C dJ1_indexOfChar_4cfef_0 rfl ?_
  refine aw_i2b C dJ1_indexOfChar_4cfef_1 ?_
  refine aw_istore C [(4, .int x1.toInt8.toInt32), (0, .ref 1004), (1, .int x1), (2, .int x2), (3, .int x3)] dJ1_indexOfChar_4cfef_2 (by decide) rfl ?_
  refine aw_iload_n C dJ1_indexOfChar_4cfef_4 rfl ?_
  refine aw_istore C [(5, .int x2), (4, .int x1.toInt8.toInt32), (0, .ref 1004), (1, .int x1), (2, .int x2), (3, .int x3)] dJ1_indexOfChar_4cfef_5 (by decide) rfl ?_
  refine aw_sub [2, 5, 1, 0] rfl ?_
  exact m_J1_indexOfChar_4cfef_7 C hr M am_fuel x3 x1.toInt8.toInt32 x2
def J1_indexOf_4cfef (M : Mem) (x1 : Int32) (x2 : Int32) (x3 : Int32)  : Option (Int32) :=
  Option.bind (J1_canEncode_9a6ad x1) fun r1 =>
  if r1 = 0 then
    some (-1 : Int32)
  else
    if (if x2 < (0 : Int32) then (0 : Int32) else x2) < (if (5 : Int32) < x3 then (5 : Int32) else x3) then
      Option.bind (J1_indexOfChar_4cfef M x1 (if x2 < (0 : Int32) then (0 : Int32) else x2) (if (5 : Int32) < x3 then (5 : Int32) else x3)) fun r2 =>
      some r2
    else
      some (-1 : Int32)
theorem m_J1_indexOf_4cfef  (M : Mem) (x1 : Int32) (x2 : Int32) (x3 : Int32)  : AMet 2 yJ1_indexOf_4cfef cJ1_indexOf_4cfef 4 (some .int) lyX [.ref 1004, .int x1, .int x2, .int x3] M (qIp lyX M) (J1_indexOf_4cfef M x1 x2 x3) := by
  refine am_ent pn_J1 (Nat.le_of_ble_eq_true rfl) (fun E C hr => ?_)
  refine aw_lv (lv' := [(0, .ref 1004), (1, .int x1), (2, .int x2), (3, .int x3)]) rfl ?_
  unfold J1_indexOf_4cfef
  refine aw_iload_n C dJ1_indexOf_4cfef_0 rfl ?_
  refine aw_cSIp C [.int x1] [] (m_J1_canEncode_9a6ad M x1) t_J1_canEncode_9a6ad km_J1_88 (by decide) rfl rfl (Nat.le_of_ble_eq_true rfl) dJ1_indexOf_4cfef_1 (fun r1 => ?_)
  refine aw_if_ne C (tgt := 9) dJ1_indexOf_4cfef_4 (by decide) ?_ ?_
  · refine aw_iconst C (-1 : Int32) dJ1_indexOf_4cfef_7 (by decide) ?_
    exact aw_iretp C hr dJ1_indexOf_4cfef_8
  · refine aw_iload_n C dJ1_indexOf_4cfef_9 rfl ?_
    refine aw_iconst C (0 : Int32) dJ1_indexOf_4cfef_10 (by decide) ?_
    refine aw_mmax C km_J1_92 k_max_st k_m_ini k_max_code (by decide) (Nat.le_of_ble_eq_true rfl) dJ1_indexOf_4cfef_11 ?_
    refine aw_istore_n C [(2, .int (if x2 < (0 : Int32) then (0 : Int32) else x2)), (0, .ref 1004), (1, .int x1), (3, .int x3)] dJ1_indexOf_4cfef_14 (by decide) rfl ?_
    refine aw_iload_n C dJ1_indexOf_4cfef_15 rfl ?_
    refine aw_aload_n C dJ1_indexOf_4cfef_16 rfl ?_
    refine aw_btlen C dJ1_indexOf_4cfef_17 ?_
    refine aw_mmin C km_J1_38 k_min_st k_m_ini k_min_code (by decide) (Nat.le_of_ble_eq_true rfl) dJ1_indexOf_4cfef_18 ?_
    refine aw_istore_n C [(3, .int (if (5 : Int32) < x3 then (5 : Int32) else x3)), (2, .int (if x2 < (0 : Int32) then (0 : Int32) else x2)), (0, .ref 1004), (1, .int x1)] dJ1_indexOf_4cfef_21 (by decide) rfl ?_
    refine aw_iload_n C dJ1_indexOf_4cfef_22 rfl ?_
    refine aw_iload_n C dJ1_indexOf_4cfef_23 rfl ?_
    refine aw_icmp_lt C (tgt := 29) dJ1_indexOf_4cfef_24 (by decide) ?_ ?_
    · refine aw_aload_n C dJ1_indexOf_4cfef_29 rfl ?_
      refine aw_iload_n C dJ1_indexOf_4cfef_30 rfl ?_
      refine aw_iload_n C dJ1_indexOf_4cfef_31 rfl ?_
      refine aw_iload_n C dJ1_indexOf_4cfef_32 rfl ?_
      refine aw_cSIp C [.ref 1004, .int x1, .int (if x2 < (0 : Int32) then (0 : Int32) else x2), .int (if (5 : Int32) < x3 then (5 : Int32) else x3)] [] (m_J1_indexOfChar_4cfef M x1 (if x2 < (0 : Int32) then (0 : Int32) else x2) (if (5 : Int32) < x3 then (5 : Int32) else x3)) t_J1_indexOfChar_4cfef km_J1_95 (by decide) rfl rfl (Nat.le_of_ble_eq_true rfl) dJ1_indexOf_4cfef_33 (fun r2 => ?_)
      exact aw_iretp C hr dJ1_indexOf_4cfef_36
    · refine aw_iconst C (-1 : Int32) dJ1_indexOf_4cfef_27 (by decide) ?_
      exact aw_iretp C hr dJ1_indexOf_4cfef_28
def J0_indexOf_7cf53 (M : Mem) (x1 : Int32) (x2 : Int32)  : Option (Int32) :=
  Option.bind (J0_isLatin1_aae02 M) fun r1 =>
  if r1 = 0 then
    Option.bind (J0_length_8abf5 M) fun r2 =>
    none
  else
    Option.bind (J0_length_8abf5 M) fun r3 =>
    Option.bind (J1_indexOf_4cfef M x1 x2 r3) fun r4 =>
    some r4
theorem m_J0_indexOf_7cf53  (M : Mem) (x1 : Int32) (x2 : Int32)  : AMet 3 yJ0_indexOf_7cf53 cJ0_indexOf_7cf53 3 (some .int) lyX [.ref 1003, .int x1, .int x2] M (qIp lyX M) (J0_indexOf_7cf53 M x1 x2) := by
  refine am_ent pn_J0 (Nat.le_of_ble_eq_true rfl) (fun E C hr => ?_)
  refine aw_lv (lv' := [(0, .ref 1003), (1, .int x1), (2, .int x2)]) rfl ?_
  unfold J0_indexOf_7cf53
  refine aw_aload_n C dJ0_indexOf_7cf53_0 rfl ?_
  refine aw_cUIp C [] [] (m_J0_isLatin1_aae02 M) v_J0_isLatin1_aae02 km_J0_492 (by decide) rfl rfl (Nat.le_of_ble_eq_true rfl) dJ0_indexOf_7cf53_1 (fun r1 => ?_)
  refine aw_if_eq C (tgt := 23) dJ0_indexOf_7cf53_4 (by decide) ?_ ?_
  · refine aw_aload_n C dJ0_indexOf_7cf53_23 rfl ?_
    refine aw_sgetV C kf_J0_9 dJ0_indexOf_7cf53_24 ?_
    refine aw_iload_n C dJ0_indexOf_7cf53_27 rfl ?_
    refine aw_iload_n C dJ0_indexOf_7cf53_28 rfl ?_
    refine aw_aload_n C dJ0_indexOf_7cf53_29 rfl ?_
    refine aw_cUIp C [] [.int x2, .int x1, .ref 1004] (m_J0_length_8abf5 M) v_J0_length_8abf5 km_J0_505 (by decide) rfl rfl (Nat.le_of_ble_eq_true rfl) dJ0_indexOf_7cf53_30 (fun r2 => ?_)
    exact aw_none
  · refine aw_aload_n C dJ0_indexOf_7cf53_7 rfl ?_
    refine aw_sgetV C kf_J0_9 dJ0_indexOf_7cf53_8 ?_
    refine aw_iload_n C dJ0_indexOf_7cf53_11 rfl ?_
    refine aw_iload_n C dJ0_indexOf_7cf53_12 rfl ?_
    refine aw_aload_n C dJ0_indexOf_7cf53_13 rfl ?_
    refine aw_cUIp C [] [.int x2, .int x1, .ref 1004] (m_J0_length_8abf5 M) v_J0_length_8abf5 km_J0_505 (by decide) rfl rfl (Nat.le_of_ble_eq_true rfl) dJ0_indexOf_7cf53_14 (fun r3 => ?_)
    refine aw_cSIp C [.ref 1004, .int x1, .int x2, .int r3] [] (m_J1_indexOf_4cfef M x1 x2 r3) t_J1_indexOf_4cfef km_J0_637 (by decide) rfl rfl (Nat.le_of_ble_eq_true rfl) dJ0_indexOf_7cf53_17 (fun r4 => ?_)
    refine aw_goto C (tgt := 36) dJ0_indexOf_7cf53_20 (by decide) ?_
    exact aw_iretp C hr dJ0_indexOf_7cf53_36
def J0_indexOf_0f7a4 (M : Mem) (x1 : Int32)  : Option (Int32) :=
  Option.bind (J0_indexOf_7cf53 M x1 (0 : Int32)) fun r1 =>
  some r1
theorem m_J0_indexOf_0f7a4  (M : Mem) (x1 : Int32)  : AMet 4 yJ0_indexOf_0f7a4 cJ0_indexOf_0f7a4 2 (some .int) lyX [.ref 1003, .int x1] M (qIp lyX M) (J0_indexOf_0f7a4 M x1) := by
  refine am_ent pn_J0 (Nat.le_of_ble_eq_true rfl) (fun E C hr => ?_)
  refine aw_lv (lv' := [(0, .ref 1003), (1, .int x1)]) rfl ?_
  unfold J0_indexOf_0f7a4
  refine aw_aload_n C dJ0_indexOf_0f7a4_0 rfl ?_
  refine aw_iload_n C dJ0_indexOf_0f7a4_1 rfl ?_
  refine aw_iconst C (0 : Int32) dJ0_indexOf_0f7a4_2 (by decide) ?_
  refine aw_cUIp C [.int x1, .int (0 : Int32)] [] (m_J0_indexOf_7cf53 M x1 (0 : Int32)) v_J0_indexOf_7cf53 km_J0_633 (by decide) rfl rfl (Nat.le_of_ble_eq_true rfl) dJ0_indexOf_0f7a4_3 (fun r1 => ?_)
  exact aw_iretp C hr dJ0_indexOf_0f7a4_6
def J6_bitCount_0f7a4  (x0 : Int32)  : Option (Int32) :=
  am_let (x0 - (((x0.toUInt32 >>> ((1 : Int32).toUInt32 &&& Int32.toUInt32 31)).toInt32) &&& (1431655765 : Int32))) fun v1 =>
  am_let ((v1 &&& (858993459 : Int32)) + (((v1.toUInt32 >>> ((2 : Int32).toUInt32 &&& Int32.toUInt32 31)).toInt32) &&& (858993459 : Int32))) fun v2 =>
  am_let ((v2 + ((v2.toUInt32 >>> ((4 : Int32).toUInt32 &&& Int32.toUInt32 31)).toInt32)) &&& (252645135 : Int32)) fun v3 =>
  am_let (v3 + ((v3.toUInt32 >>> ((8 : Int32).toUInt32 &&& Int32.toUInt32 31)).toInt32)) fun v4 =>
  am_let (v4 + ((v4.toUInt32 >>> ((16 : Int32).toUInt32 &&& Int32.toUInt32 31)).toInt32)) fun v5 =>
  some (v5 &&& (63 : Int32))
theorem m_J6_bitCount_0f7a4  (M : Mem) (x0 : Int32)  : AMet 1 yJ6_bitCount_0f7a4 cJ6_bitCount_0f7a4 1 (some .int) lyX [.int x0] M (qIp lyX M) (J6_bitCount_0f7a4 x0) := by
  refine am_ent pn_J6 (Nat.le_of_ble_eq_true rfl) (fun E C hr => ?_)
  refine aw_lv (lv' := [(0, .int x0)]) rfl ?_
  unfold J6_bitCount_0f7a4
  refine aw_iload_n C dJ6_bitCount_0f7a4_0 rfl ?_
  refine aw_iload_n C dJ6_bitCount_0f7a4_1 rfl ?_
  refine aw_iconst C (1 : Int32) dJ6_bitCount_0f7a4_2 (by decide) ?_
  refine aw_iushr C dJ6_bitCount_0f7a4_3 ?_
  refine aw_ldc_w C kc_J6_265 dJ6_bitCount_0f7a4_4 ?_
  refine aw_iand C dJ6_bitCount_0f7a4_7 ?_
  refine aw_isub C dJ6_bitCount_0f7a4_8 ?_
  refine aw_ilet (fun v1 => ?_)
  refine aw_istore_n C [(0, .int v1)] dJ6_bitCount_0f7a4_9 (by decide) rfl ?_
  refine aw_iload_n C dJ6_bitCount_0f7a4_10 rfl ?_
  refine aw_ldc_w C kc_J6_266 dJ6_bitCount_0f7a4_11 ?_
  refine aw_iand C dJ6_bitCount_0f7a4_14 ?_
  refine aw_iload_n C dJ6_bitCount_0f7a4_15 rfl ?_
  refine aw_iconst C (2 : Int32) dJ6_bitCount_0f7a4_16 (by decide) ?_
  refine aw_iushr C dJ6_bitCount_0f7a4_17 ?_
  refine aw_ldc_w C kc_J6_266 dJ6_bitCount_0f7a4_18 ?_
  refine aw_iand C dJ6_bitCount_0f7a4_21 ?_
  refine aw_iadd C dJ6_bitCount_0f7a4_22 ?_
  refine aw_ilet (fun v2 => ?_)
  refine aw_istore_n C [(0, .int v2)] dJ6_bitCount_0f7a4_23 (by decide) rfl ?_
  refine aw_iload_n C dJ6_bitCount_0f7a4_24 rfl ?_
  refine aw_iload_n C dJ6_bitCount_0f7a4_25 rfl ?_
  refine aw_iconst C (4 : Int32) dJ6_bitCount_0f7a4_26 (by decide) ?_
  refine aw_iushr C dJ6_bitCount_0f7a4_27 ?_
  refine aw_iadd C dJ6_bitCount_0f7a4_28 ?_
  refine aw_ldc_w C kc_J6_267 dJ6_bitCount_0f7a4_29 ?_
  refine aw_iand C dJ6_bitCount_0f7a4_32 ?_
  refine aw_ilet (fun v3 => ?_)
  refine aw_istore_n C [(0, .int v3)] dJ6_bitCount_0f7a4_33 (by decide) rfl ?_
  refine aw_iload_n C dJ6_bitCount_0f7a4_34 rfl ?_
  refine aw_iload_n C dJ6_bitCount_0f7a4_35 rfl ?_
  refine aw_bipush C (8 : Int32) dJ6_bitCount_0f7a4_36 (by decide) ?_
  refine aw_iushr C dJ6_bitCount_0f7a4_38 ?_
  refine aw_iadd C dJ6_bitCount_0f7a4_39 ?_
  refine aw_ilet (fun v4 => ?_)
  refine aw_istore_n C [(0, .int v4)] dJ6_bitCount_0f7a4_40 (by decide) rfl ?_
  refine aw_iload_n C dJ6_bitCount_0f7a4_41 rfl ?_
  refine aw_iload_n C dJ6_bitCount_0f7a4_42 rfl ?_
  refine aw_bipush C (16 : Int32) dJ6_bitCount_0f7a4_43 (by decide) ?_
  refine aw_iushr C dJ6_bitCount_0f7a4_45 ?_
  refine aw_iadd C dJ6_bitCount_0f7a4_46 ?_
  refine aw_ilet (fun v5 => ?_)
  refine aw_istore_n C [(0, .int v5)] dJ6_bitCount_0f7a4_47 (by decide) rfl ?_
  refine aw_iload_n C dJ6_bitCount_0f7a4_48 rfl ?_
  refine aw_bipush C (63 : Int32) dJ6_bitCount_0f7a4_49 (by decide) ?_
  refine aw_iand C dJ6_bitCount_0f7a4_51 ?_
  exact aw_iretp C hr dJ6_bitCount_0f7a4_52
