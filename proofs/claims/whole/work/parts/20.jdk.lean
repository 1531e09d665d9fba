def J7_fill_53178_5 (p0 n0 : Nat) : Nat → Int32 → Int32 → Int32 → Mem → Option (Mem)
  | 0, _, _, _, _ => none
  | f + 1, x1, x2, x3, M =>
    if x2 < x3 then
      if am_in x2 n0 = true then
        am_let (mset M p0 (upd (M p0) x2.toNatClampNeg x1)) fun M1 =>
        J7_fill_53178_5 p0 n0 f x1 (x2 + (1 : Int32)) x3 M1
      else none
    else
      some M
def J7_fill_53178 (p0 n0 : Nat) (x1 : Int32) (M : Mem) : Option (Mem) :=
  J7_fill_53178_5 p0 n0 am_fuel x1 (0 : Int32) (Int32.ofNat n0) M
theorem m_J7_fill_53178_5 {E : amE} (C : amC E 1 cJ7_fill_53178 4 RJ7) (hr : (eH E).sig.returnType = none) (p0 n0 : Nat) (hp0 : lyX[p0]? = some (.inr (.inl n0))) : ∀ (f : Nat) (x1 : Int32) (x2 : Int32) (x3 : Int32) (M : Mem), AW E lyX 4 (qV lyX) (J7_fill_53178_5 p0 n0 f x1 x2 x3 M) 5 [(0, .ref p0), (1, .int x1), (2, .int x2), (3, .int x3)] [] M := by
  intro f
  induction f with
  | zero => exact (fun _ _ _ _ => aw_none)
  | succ f ih =>
    intro x1 x2 x3 M
    rw [J7_fill_53178_5]
    refine aw_iload_n C dJ7_fill_53178_5 rfl ?_
    refine aw_iload_n C dJ7_fill_53178_6 rfl ?_
    refine aw_icmp_ge C (tgt := 20) dJ7_fill_53178_7 (by decide) ?_ ?_
    · refine aw_aload_n C dJ7_fill_53178_10 rfl ?_
      refine aw_iload_n C dJ7_fill_53178_11 rfl ?_
      refine aw_iload_n C dJ7_fill_53178_12 rfl ?_
      refine aw_iast C hp0 dJ7_fill_53178_13 ?_
      refine aw_mlet (fun M1 => ?_)
      refine aw_iinc C (v := (1 : Int32)) [(2, .int (x2 + (1 : Int32))), (0, .ref p0), (1, .int x1), (3, .int x3)] dJ7_fill_53178_14 rfl (by decide) (by decide) rfl ?_
      refine aw_goto C (tgt := 5) dJ7_fill_53178_17 (by decide) ?_
      refine aw_sub [1, 2, 0, 3] rfl ?_
      exact ih x1 (x2 + (1 : Int32)) x3 M1
    · exact aw_vret C hr dJ7_fill_53178_20
theorem m_J7_fill_53178  (p0 n0 : Nat) (hp0 : lyX[p0]? = some (.inr (.inl n0))) (x1 : Int32) (M : Mem) : AMet 1 yJ7_fill_53178 cJ7_fill_53178 4 none lyX [.ref p0, .int x1] M (qV lyX) (J7_fill_53178 p0 n0 x1 M) := by
  refine am_ent pn_J7 (Nat.le_of_ble_eq_true rfl) (fun E C hr => ?_)
  refine aw_lv (lv' := [(0, .ref p0), (1, .int x1)]) rfl ?_
  unfold J7_fill_53178
  refine aw_iconst C (0 : Int32) dJ7_fill_53178_0 (by decide) ?_
  refine aw_istore_n C [(2, .int (0 : Int32)), (0, .ref p0), (1, .int x1)] dJ7_fill_53178_1 (by decide) rfl ?_
  refine aw_aload_n C dJ7_fill_53178_2 rfl ?_
  refine aw_alen C (Int32.ofNat n0) hp0 rfl dJ7_fill_53178_3 ?_
  refine aw_istore_n C [(3, .int (Int32.ofNat n0)), (2, .int (0 : Int32)), (0, .ref p0), (1, .int x1)] dJ7_fill_53178_4 (by decide) rfl ?_
  refine aw_sub [2, 3, 1, 0] rfl ?_
  exact m_J7_fill_53178_5 C hr p0 n0 hp0 am_fuel x1 (0 : Int32) (Int32.ofNat n0) M
def J6_bitCount_0f7a4  (x0 : Int32)  : Option (Int32) :=
  am_let (x0 - (((x0.toUInt32 >>> ((1 : Int32).toUInt32 &&& Int32.toUInt32 31)).toInt32) &&& (1431655765 : Int32))) fun v1 =>
  am_let ((v1 &&& (858993459 : Int32)) + (((v1.toUInt32 >>> ((2 : Int32).toUInt32 &&& Int32.toUInt32 31)).toInt32) &&& (858993459 : Int32))) fun v2 =>
  am_let ((v2 + ((v2.toUInt32 >>> ((4 : Int32).toUInt32 &&& Int32.toUInt32 31)).toInt32)) &&& (252645135 : Int32)) fun v3 =>
  am_let (v3 + ((v3.toUInt32 >>> ((8 : Int32).toUInt32 &&& Int32.toUInt32 31)).toInt32)) fun v4 =>
  am_let (v4 + ((v4.toUInt32 >>> ((16 : Int32).toUInt32 &&& Int32.toUInt32 31)).toInt32)) fun v5 =>
  some (v5 &&& (63 : Int32))
theorem m_J6_bitCount_0f7a4  (M : Mem) (x0 : Int32)  : AMet 1 yJ6_bitCount_0f7a4 cJ6_bitCount_0f7a4 1 (some .int) lyX [.int x0] M (qIp lyX M) (J6_bitCount_0f7a4 x0) := by
  refine am_ent pn_J6 (Nat.le_of_ble_eq_true rfl) (fun E C hr => ?_)
  refine aw_lv (lv' := [(0, .int x0)]) rfl ?_
  unfold J6_bitCount_0f7a4
  refine aw_iload_n C dJ6_bitCount_0f7a4_0 rfl ?_
  refine aw_iload_n C dJ6_bitCount_0f7a4_1 rfl ?_
  refine aw_iconst C (1 : Int32) dJ6_bitCount_0f7a4_2 (by decide) ?_
  refine aw_iushr C dJ6_bitCount_0f7a4_3 ?_
  refine aw_ldc_w C kc_J6_265 dJ6_bitCount_0f7a4_4 ?_
  refine aw_iand C dJ6_bitCount_0f7a4_7 ?_
  refine aw_isub C dJ6_bitCount_0f7a4_8 ?_
  refine aw_ilet (fun v1 => ?_)
  refine aw_istore_n C [(0, .int v1)] dJ6_bitCount_0f7a4_9 (by decide) rfl ?_
  refine aw_iload_n C dJ6_bitCount_0f7a4_10 rfl ?_
  refine aw_ldc_w C kc_J6_266 dJ6_bitCount_0f7a4_11 ?_
  refine aw_iand C dJ6_bitCount_0f7a4_14 ?_
  refine aw_iload_n C dJ6_bitCount_0f7a4_15 rfl ?_
  refine aw_iconst C (2 : Int32) dJ6_bitCount_0f7a4_16 (by decide) ?_
  refine aw_iushr C dJ6_bitCount_0f7a4_17 ?_
  refine aw_ldc_w C kc_J6_266 dJ6_bitCount_0f7a4_18 ?_
  refine aw_iand C dJ6_bitCount_0f7a4_21 ?_
  refine aw_iadd C dJ6_bitCount_0f7a4_22 ?_
  refine aw_ilet (fun v2 => ?_)
  refine aw_istore_n C [(0, .int v2)] dJ6_bitCount_0f7a4_23 (by decide) rfl ?_
  refine aw_iload_n C dJ6_bitCount_0f7a4_24 rfl ?_
  refine aw_iload_n C dJ6_bitCount_0f7a4_25 rfl ?_
  refine aw_iconst C (4 : Int32) dJ6_bitCount_0f7a4_26 (by decide) ?_
  refine aw_iushr C dJ6_bitCount_0f7a4_27 ?_
  refine aw_iadd C dJ6_bitCount_0f7a4_28 ?_
  refine aw_ldc_w C kc_J6_267 dJ6_bitCount_0f7a4_29 ?_
  refine aw_iand C dJ6_bitCount_0f7a4_32 ?_
  refine aw_ilet (fun v3 => ?_)
  refine aw_istore_n C [(0, .int v3)] dJ6_bitCount_0f7a4_33 (by decide) rfl ?_
  refine aw_iload_n C dJ6_bitCount_0f7a4_34 rfl ?_
  refine aw_iload_n C dJ6_bitCount_0f7a4_35 rfl ?_
  refine aw_bipush C (8 : Int32) dJ6_bitCount_0f7a4_36 (by decide) ?_
  refine aw_iushr C dJ6_bitCount_0f7a4_38 ?_
  refine aw_iadd C dJ6_bitCount_0f7a4_39 ?_
  refine aw_ilet (fun v4 => ?_)
  refine aw_istore_n C [(0, .int v4)] dJ6_bitCount_0f7a4_40 (by decide) rfl ?_
  refine aw_iload_n C dJ6_bitCount_0f7a4_41 rfl ?_
  refine aw_iload_n C dJ6_bitCount_0f7a4_42 rfl ?_
  refine aw_bipush C (16 : Int32) dJ6_bitCount_0f7a4_43 (by decide) ?_
  refine aw_iushr C dJ6_bitCount_0f7a4_45 ?_
  refine aw_iadd C dJ6_bitCount_0f7a4_46 ?_
  refine aw_ilet (fun v5 => ?_)
  refine aw_istore_n C [(0, .int v5)] dJ6_bitCount_0f7a4_47 (by decide) rfl ?_
  refine aw_iload_n C dJ6_bitCount_0f7a4_48 rfl ?_
  refine aw_bipush C (63 : Int32) dJ6_bitCount_0f7a4_49 (by decide) ?_
  refine aw_iand C dJ6_bitCount_0f7a4_51 ?_
  exact aw_iretp C hr dJ6_bitCount_0f7a4_52
