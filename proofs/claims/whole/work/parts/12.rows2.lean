theorem am_nlt {x y : Int32} (h : y ≤ x) : ¬ x < y := by rw [Int32.lt_iff_toInt_lt]; rw [Int32.le_iff_toInt_le] at h; omega
theorem am_lt {x y : Int32} (h : ¬ y ≤ x) : x < y := by rw [Int32.lt_iff_toInt_lt]; rw [Int32.le_iff_toInt_le] at h; omega
section AR
variable {E : amE} {lay : List lyE} {d nL : Nat} {cc : ByteArray} {own : String} {ρ : Type} {Qc : amQ ρ} {F F1 F2 : Option ρ} {pc : Nat} {lv : List (Nat × Value)} {st : List Value} {M : Mem}
theorem aw_if_eq (C : amC E d cc nL own) {x : Int32} {off : Int} {tgt : Nat} (dg : decode cc pc = .ok (.ifCond .eq off, 3)) (htg : (pc : Int) + off = (tgt : Int)) (k1 : AW E lay nL Qc F1 tgt lv st M) (k2 : AW E lay nL Qc F2 (pc + 3) lv st M) : AW E lay nL Qc (if x = 0 then F1 else F2) pc lv (.int x :: st) M := by
  intro t ht H locs ls hS hh
  exact lv_if_eq C.1 C.2.1 dg htg (fun h => k1 t (by rw [if_pos h] at ht; exact ht) H locs ls hS hh) (fun h => k2 t (by rw [if_neg h] at ht; exact ht) H locs ls hS hh)
theorem aw_if_ne (C : amC E d cc nL own) {x : Int32} {off : Int} {tgt : Nat} (dg : decode cc pc = .ok (.ifCond .ne off, 3)) (htg : (pc : Int) + off = (tgt : Int)) (k1 : AW E lay nL Qc F1 (pc + 3) lv st M) (k2 : AW E lay nL Qc F2 tgt lv st M) : AW E lay nL Qc (if x = 0 then F1 else F2) pc lv (.int x :: st) M := by
  intro t ht H locs ls hS hh
  exact lv_if_ne C.1 C.2.1 dg htg (fun h => k2 t (by rw [if_neg h] at ht; exact ht) H locs ls hS hh) (fun h => k1 t (by rw [if_pos h] at ht; exact ht) H locs ls hS hh)
theorem aw_if_lt (C : amC E d cc nL own) {x : Int32} {off : Int} {tgt : Nat} (dg : decode cc pc = .ok (.ifCond .lt off, 3)) (htg : (pc : Int) + off = (tgt : Int)) (k1 : AW E lay nL Qc F1 tgt lv st M) (k2 : AW E lay nL Qc F2 (pc + 3) lv st M) : AW E lay nL Qc (if x < 0 then F1 else F2) pc lv (.int x :: st) M := by
  intro t ht H locs ls hS hh
  exact lv_if_lt C.1 C.2.1 dg htg (fun h => k1 t (by rw [if_pos h] at ht; exact ht) H locs ls hS hh) (fun h => k2 t (by rw [if_neg h] at ht; exact ht) H locs ls hS hh)
theorem aw_if_ge (C : amC E d cc nL own) {x : Int32} {off : Int} {tgt : Nat} (dg : decode cc pc = .ok (.ifCond .ge off, 3)) (htg : (pc : Int) + off = (tgt : Int)) (k1 : AW E lay nL Qc F1 (pc + 3) lv st M) (k2 : AW E lay nL Qc F2 tgt lv st M) : AW E lay nL Qc (if x < 0 then F1 else F2) pc lv (.int x :: st) M := by
  intro t ht H locs ls hS hh
  exact lv_if_ge C.1 C.2.1 dg htg (fun h => k2 t (by rw [if_neg (am_nlt h)] at ht; exact ht) H locs ls hS hh) (fun h => k1 t (by rw [if_pos (am_lt h)] at ht; exact ht) H locs ls hS hh)
theorem aw_if_gt (C : amC E d cc nL own) {x : Int32} {off : Int} {tgt : Nat} (dg : decode cc pc = .ok (.ifCond .gt off, 3)) (htg : (pc : Int) + off = (tgt : Int)) (k1 : AW E lay nL Qc F1 tgt lv st M) (k2 : AW E lay nL Qc F2 (pc + 3) lv st M) : AW E lay nL Qc (if 0 < x then F1 else F2) pc lv (.int x :: st) M := by
  intro t ht H locs ls hS hh
  exact lv_if_gt C.1 C.2.1 dg htg (fun h => k1 t (by rw [if_pos h] at ht; exact ht) H locs ls hS hh) (fun h => k2 t (by rw [if_neg h] at ht; exact ht) H locs ls hS hh)
theorem aw_if_le (C : amC E d cc nL own) {x : Int32} {off : Int} {tgt : Nat} (dg : decode cc pc = .ok (.ifCond .le off, 3)) (htg : (pc : Int) + off = (tgt : Int)) (k1 : AW E lay nL Qc F1 (pc + 3) lv st M) (k2 : AW E lay nL Qc F2 tgt lv st M) : AW E lay nL Qc (if 0 < x then F1 else F2) pc lv (.int x :: st) M := by
  intro t ht H locs ls hS hh
  exact lv_if_le C.1 C.2.1 dg htg (fun h => k2 t (by rw [if_neg (am_nlt h)] at ht; exact ht) H locs ls hS hh) (fun h => k1 t (by rw [if_pos (am_lt h)] at ht; exact ht) H locs ls hS hh)
theorem aw_icmp_eq (C : amC E d cc nL own) {x y : Int32} {off : Int} {tgt : Nat} (dg : decode cc pc = .ok (.if_icmp .eq off, 3)) (htg : (pc : Int) + off = (tgt : Int)) (k1 : AW E lay nL Qc F1 tgt lv st M) (k2 : AW E lay nL Qc F2 (pc + 3) lv st M) : AW E lay nL Qc (if x = y then F1 else F2) pc lv (.int y :: .int x :: st) M := by
  intro t ht H locs ls hS hh
  exact lv_icmp_eq C.1 C.2.1 dg htg (fun h => k1 t (by rw [if_pos h] at ht; exact ht) H locs ls hS hh) (fun h => k2 t (by rw [if_neg h] at ht; exact ht) H locs ls hS hh)
theorem aw_icmp_ne (C : amC E d cc nL own) {x y : Int32} {off : Int} {tgt : Nat} (dg : decode cc pc = .ok (.if_icmp .ne off, 3)) (htg : (pc : Int) + off = (tgt : Int)) (k1 : AW E lay nL Qc F1 (pc + 3) lv st M) (k2 : AW E lay nL Qc F2 tgt lv st M) : AW E lay nL Qc (if x = y then F1 else F2) pc lv (.int y :: .int x :: st) M := by
  intro t ht H locs ls hS hh
  exact lv_icmp_ne C.1 C.2.1 dg htg (fun h => k2 t (by rw [if_neg h] at ht; exact ht) H locs ls hS hh) (fun h => k1 t (by rw [if_pos h] at ht; exact ht) H locs ls hS hh)
theorem aw_icmp_lt (C : amC E d cc nL own) {x y : Int32} {off : Int} {tgt : Nat} (dg : decode cc pc = .ok (.if_icmp .lt off, 3)) (htg : (pc : Int) + off = (tgt : Int)) (k1 : AW E lay nL Qc F1 tgt lv st M) (k2 : AW E lay nL Qc F2 (pc + 3) lv st M) : AW E lay nL Qc (if x < y then F1 else F2) pc lv (.int y :: .int x :: st) M := by
  intro t ht H locs ls hS hh
  exact lv_icmp_lt C.1 C.2.1 dg htg (fun h => k1 t (by rw [if_pos h] at ht; exact ht) H locs ls hS hh) (fun h => k2 t (by rw [if_neg h] at ht; exact ht) H locs ls hS hh)
theorem aw_icmp_ge (C : amC E d cc nL own) {x y : Int32} {off : Int} {tgt : Nat} (dg : decode cc pc = .ok (.if_icmp .ge off, 3)) (htg : (pc : Int) + off = (tgt : Int)) (k1 : AW E lay nL Qc F1 (pc + 3) lv st M) (k2 : AW E lay nL Qc F2 tgt lv st M) : AW E lay nL Qc (if x < y then F1 else F2) pc lv (.int y :: .int x :: st) M := by
  intro t ht H locs ls hS hh
  exact lv_icmp_ge C.1 C.2.1 dg htg (fun h => k2 t (by rw [if_neg (am_nlt h)] at ht; exact ht) H locs ls hS hh) (fun h => k1 t (by rw [if_pos (am_lt h)] at ht; exact ht) H locs ls hS hh)
theorem aw_icmp_gt (C : amC E d cc nL own) {x y : Int32} {off : Int} {tgt : Nat} (dg : decode cc pc = .ok (.if_icmp .gt off, 3)) (htg : (pc : Int) + off = (tgt : Int)) (k1 : AW E lay nL Qc F1 tgt lv st M) (k2 : AW E lay nL Qc F2 (pc + 3) lv st M) : AW E lay nL Qc (if y < x then F1 else F2) pc lv (.int y :: .int x :: st) M := by
  intro t ht H locs ls hS hh
  exact lv_icmp_gt C.1 C.2.1 dg htg (fun h => k1 t (by rw [if_pos h] at ht; exact ht) H locs ls hS hh) (fun h => k2 t (by rw [if_neg h] at ht; exact ht) H locs ls hS hh)
theorem aw_icmp_le (C : amC E d cc nL own) {x y : Int32} {off : Int} {tgt : Nat} (dg : decode cc pc = .ok (.if_icmp .le off, 3)) (htg : (pc : Int) + off = (tgt : Int)) (k1 : AW E lay nL Qc F1 (pc + 3) lv st M) (k2 : AW E lay nL Qc F2 tgt lv st M) : AW E lay nL Qc (if y < x then F1 else F2) pc lv (.int y :: .int x :: st) M := by
  intro t ht H locs ls hS hh
  exact lv_icmp_le C.1 C.2.1 dg htg (fun h => k2 t (by rw [if_neg (am_nlt h)] at ht; exact ht) H locs ls hS hh) (fun h => k1 t (by rw [if_pos (am_lt h)] at ht; exact ht) H locs ls hS hh)
theorem aw_goto (C : amC E d cc nL own) {off : Int} {tgt : Nat} (dg : decode cc pc = .ok (.goto off, 3)) (htg : (pc : Int) + off = (tgt : Int)) (k : AW E lay nL Qc F tgt lv st M) : AW E lay nL Qc F pc lv st M := fun t ht H locs ls hS hh => lv_goto C.1 C.2.1 dg htg (k t ht H locs ls hS hh)
theorem aw_tswIn (C : amC E d cc nL own) {dflt lo hi off : Int} {offs : Array Int} {len tgt : Nat} {x : Int32} (z : Int32) (hx : x = z) (dg : decode cc pc = .ok (.tableswitch dflt lo hi offs, len)) (h1 : ¬ z.toInt < lo) (h2 : ¬ hi < z.toInt) (ho : offs[(z.toInt - lo).toNat]? = some off) (htg : (pc : Int) + off = (tgt : Int)) (k : AW E lay nL Qc F tgt lv st M) : AW E lay nL Qc F pc lv (.int x :: st) M := fun t ht H locs ls hS hh => lv_tableIn C.1 C.2.1 dg (by rw [hx]; exact h1) (by rw [hx]; exact h2) (by rw [hx]; exact ho) htg (k t ht H locs ls hS hh)
theorem aw_tswOut (C : amC E d cc nL own) {dflt lo hi : Int} {offs : Array Int} {len tgt : Nat} {x : Int32} (dg : decode cc pc = .ok (.tableswitch dflt lo hi offs, len)) (h : x.toInt < lo ∨ hi < x.toInt) (htg : (pc : Int) + dflt = (tgt : Int)) (k : AW E lay nL Qc F tgt lv st M) : AW E lay nL Qc F pc lv (.int x :: st) M := fun t ht H locs ls hS hh => lv_tableOut C.1 C.2.1 dg h htg (k t ht H locs ls hS hh)
theorem aw_lsw (C : amC E d cc nL own) {dflt off : Int} {ps : Array (Int × Int)} {len tgt : Nat} {x : Int32} (dg : decode cc pc = .ok (.lookupswitch dflt ps, len)) (hp : (ps.toList.zip (ps.toList.drop 1)).all (fun (a, next) => a.1 < next.1) = true) (ho : Op.lookupswitch.offset ps.toList dflt x.toInt = off) (htg : (pc : Int) + off = (tgt : Int)) (k : AW E lay nL Qc F tgt lv st M) : AW E lay nL Qc F pc lv (.int x :: st) M := fun t ht H locs ls hS hh => lv_lookup C.1 C.2.1 dg hp ho htg (k t ht H locs ls hS hh)
/-! fields -/
def amCls (ci : Nat) (Cn : String) (T : u_T) (N : Nat) (ty : Nat → FieldType) : Prop := vwCl[ci]? = some (Cn, T, N) ∧ (∀ w ∈ u_ws Cn T N, w ∈ lw_t) ∧ (∀ k, k < N → parseFieldDescriptor (T k).2.2.1 = some (ty k)) ∧ ∀ a, a < N → ∀ b, b < N → a ≠ b → (T a).2.1 ≠ (T b).2.1
theorem aw_getI (C : amC E d cc nL own) {ci N idx q : Nat} {Cn : String} {T : u_T} {ty : Nat → FieldType} {fs : List (Option Nat)} (cl : amCls ci Cn T N ty) (hq : lay[q]? = some (.inl (ci, fs))) (j : Nat) (hk : fs[j]? = some none) (hN : j < N) (hl : Cond.fieldLink own idx (T j).1 (T j).2.1 (T j).2.2.1 ∈ lw_t) (dg : decode cc pc = .ok (.getfield idx, 3)) (k : AW E lay nL Qc F (pc + 3) lv (.int (M q j) :: st) M) : AW E lay nL Qc F pc lv (.ref q :: st) M := by
  intro t ht H locs ls hS hh
  refine va_get C.1 C.2.1 C.2.2.2.2.1 cl.2.1 C.2.2.2.1 C.2.2.2.2.2.2.1 hS.1 q (ly_w_at hq) cl.1 j hN (C.2.2.2.2.1 _ hl) (fun _ h9 => h9) (v := .int (M q j)) ?_ dg (k t ht H locs ls hS hh)
  show (ly_fv (eX E) (M q) 0 fs)[j]? = _
  rw [ly_fv_get, hk]
  simp [ly_v]
theorem aw_getR (C : amC E d cc nL own) {ci N idx q r : Nat} {Cn : String} {T : u_T} {ty : Nat → FieldType} {fs : List (Option Nat)} (cl : amCls ci Cn T N ty) (hq : lay[q]? = some (.inl (ci, fs))) (j : Nat) (hk : fs[j]? = some (some r)) (hN : j < N) (hl : Cond.fieldLink own idx (T j).1 (T j).2.1 (T j).2.2.1 ∈ lw_t) (dg : decode cc pc = .ok (.getfield idx, 3)) (k : AW E lay nL Qc F (pc + 3) lv (.ref r :: st) M) : AW E lay nL Qc F pc lv (.ref q :: st) M := by
  intro t ht H locs ls hS hh
  refine va_get C.1 C.2.1 C.2.2.2.2.1 cl.2.1 C.2.2.2.1 C.2.2.2.2.2.2.1 hS.1 q (ly_w_at hq) cl.1 j hN (C.2.2.2.2.1 _ hl) (fun _ h9 => h9) (v := .ref (eX E r)) ?_ dg (k t ht H locs ls hS hh)
  show (ly_fv (eX E) (M q) 0 fs)[j]? = _
  rw [ly_fv_get, hk]
  rfl
theorem aw_putI (C : amC E d cc nL own) {ci N idx q : Nat} {Cn : String} {T : u_T} {ty : Nat → FieldType} {fs : List (Option Nat)} {v : Int32} (cl : amCls ci Cn T N ty) (hq : lay[q]? = some (.inl (ci, fs))) (j : Nat) (hk : fs[j]? = some none) (hN : j < N) (hty : ty j = .int) (hf : (T j).2.2.2 = false) (hl : Cond.fieldLink own idx (T j).1 (T j).2.1 (T j).2.2.1 ∈ lw_t) (dg : decode cc pc = .ok (.putfield idx, 3)) (k : AW E lay nL Qc F (pc + 3) lv st (mset M q (upd (M q) j v))) : AW E lay nL Qc F pc lv (.int v :: .ref q :: st) M := by
  intro t ht H locs ls hS hh
  have hd : parseFieldDescriptor (T j).2.2.1 = some .int := by rw [cl.2.2.1 j hN, hty]
  refine va_put C.1 C.2.1 C.2.2.2.2.1 cl.2.1 ty cl.2.2.1 cl.2.2.2 C.2.2.2.1 C.2.2.2.2.2.2.1 hS.1 hS.2.1 hS.2.2 q (ly_w_at hq) cl.1 j hN (C.2.2.2.2.1 _ hl) (fun _ h9 => h9) hf (v := .int v) hd rfl rfl ?_ dg (fun H1 locs1 hP hD hS1 => ?_)
  · show j < (ly_fv (eX E) (M q) 0 fs).length
    rw [ly_fv_len]
    exact (List.getElem?_eq_some_iff.mp hk).1
  · have e1 : (ly_w (eK E) (eX E) M lay).set q (eX E q, .inr (ci, (ly_fv (eX E) (M q) 0 fs).set j (.int v))) = ly_w (eK E) (eX E) (mset M q (upd (M q) j v)) lay := by
      rw [← ly_w_set hq]
      simp only [ly_c, mset_self]
      rw [ly_fv_set _ _ _ _ _ hk]
    rw [e1] at hP hD
    exact k t ht H1 locs1 ls ⟨hP, hD, hS1⟩ hh
/-! rows -/
theorem am_in_or {i : Int32} {n : Nat} (h : ¬ am_in i n = true) : i < 0 ∨ n ≤ i.toNatClampNeg := by
  unfold am_in at h
  simp only [Bool.and_eq_true, Bool.not_eq_true', decide_eq_false_iff_not, decide_eq_true_eq] at h
  by_cases q : i < 0
  · exact Or.inl q
  · exact Or.inr (Nat.le_of_not_lt (fun q2 => h ⟨q, q2⟩))
theorem aw_iald (C : amC E d cc nL own) {q n : Nat} {i : Int32} (hq : lay[q]? = some (.inr (.inl n))) (dg : decode cc pc = .ok (.iaload, 1)) (k : AW E lay nL Qc F (pc + 1) lv (.int (M q i.toNatClampNeg) :: st) M) : AW E lay nL Qc (if am_in i n = true then F else none) pc lv (.int i :: .ref q :: st) M := by
  refine aw_ite (fun hi => ?_) (fun _ => aw_none)
  exact fun t ht H locs ls hS hh => va_iald C.1 C.2.1 C.2.2.2.2.2.2.1 hS.1 q 0 (ly_w_at hq) rfl (am_in_vp hi) dg (k t ht H locs ls hS hh)
theorem aw_iast (C : amC E d cc nL own) {q n : Nat} {i v : Int32} (hq : lay[q]? = some (.inr (.inl n))) (dg : decode cc pc = .ok (.iastore, 1)) (k : AW E lay nL Qc F (pc + 1) lv st (mset M q (upd (M q) i.toNatClampNeg v))) : AW E lay nL Qc (if am_in i n = true then F else none) pc lv (.int v :: .int i :: .ref q :: st) M := by
  refine aw_ite (fun hi => ?_) (fun _ => aw_none)
  intro t ht H locs ls hS hh
  refine va_iast C.1 C.2.1 C.2.2.2.2.2.2.1 hS.1 hS.2.1 hS.2.2 q 0 (ly_w_at hq) rfl (am_in_vp hi) dg (fun H1 locs1 hP hD hS1 => ?_)
  have e1 : (ly_w (eK E) (eX E) M lay).set q (eX E q, .inl ((eK E).1, n, .inl (upd (M q) i.toNatClampNeg v))) = ly_w (eK E) (eX E) (mset M q (upd (M q) i.toNatClampNeg v)) lay := by
    rw [← ly_w_set hq]
    simp only [ly_c, mset_self]
  rw [e1] at hP hD
  exact k t ht H1 locs1 ls ⟨hP, hD, hS1⟩ hh
theorem aw_zald (C : amC E d cc nL own) {q n : Nat} {i : Int32} (hq : lay[q]? = some (.inr (.inr (.inl n)))) (dg : decode cc pc = .ok (.baload, 1)) (k : AW E lay nL Qc F (pc + 1) lv (.int (M q i.toNatClampNeg) :: st) M) : AW E lay nL Qc (if am_in i n = true then F else none) pc lv (.int i :: .ref q :: st) M := by
  refine aw_ite (fun hi => ?_) (fun _ => aw_none)
  exact fun t ht H locs ls hS hh => va_zald C.1 C.2.1 C.2.2.2.2.2.2.1 hS.1 q 1 (ly_w_at hq) rfl (am_in_vp hi) dg (k t ht H locs ls hS hh)
theorem aw_zast (C : amC E d cc nL own) {q n : Nat} {i v : Int32} (hq : lay[q]? = some (.inr (.inr (.inl n)))) (hv : vp_nar .boolean v = v) (dg : decode cc pc = .ok (.bastore, 1)) (k : AW E lay nL Qc F (pc + 1) lv st (mset M q (upd (M q) i.toNatClampNeg v))) : AW E lay nL Qc (if am_in i n = true then F else none) pc lv (.int v :: .int i :: .ref q :: st) M := by
  refine aw_ite (fun hi => ?_) (fun _ => aw_none)
  intro t ht H locs ls hS hh
  refine va_zast C.1 C.2.1 C.2.2.2.2.2.2.1 hS.1 hS.2.1 hS.2.2 q 1 (ly_w_at hq) rfl (am_in_vp hi) dg (fun H1 locs1 hP hD hS1 => ?_)
  have e1 : (ly_w (eK E) (eX E) M lay).set q (eX E q, .inl ((eK E).2.1, n, .inl (upd (M q) i.toNatClampNeg (vp_nar .boolean v)))) = ly_w (eK E) (eX E) (mset M q (upd (M q) i.toNatClampNeg v)) lay := by
    rw [← ly_w_set hq, hv]
    simp only [ly_c, mset_self]
  rw [e1] at hP hD
  exact k t ht H1 locs1 ls ⟨hP, hD, hS1⟩ hh
theorem aw_alen (C : amC E d cc nL own) {q n : Nat} (v : Int32) (hq : lay[q]? = some (.inr (.inl n))) (hv : Int32.ofNat n = v) (dg : decode cc pc = .ok (.arraylength, 1)) (k : AW E lay nL Qc F (pc + 1) lv (.int v :: st) M) : AW E lay nL Qc F pc lv (.ref q :: st) M := fun t ht H locs ls hS hh => va_alen C.1 C.2.1 C.2.2.2.2.2.2.1 hS.1 q 0 (ly_w_at hq) rfl hv dg (k t ht H locs ls hS hh)
theorem aw_aald (C : amC E d cc nL own) {q b : Nat} {qs : List Nat} {i : Int32} (hq : lay[q]? = some (.inr (.inr (.inr qs)))) (n : Nat) (hn : qs.length = n) (hqs : ∀ j, j < n → qs[j]? = some (b + j)) (dg : decode cc pc = .ok (.aaload, 1)) (k : AW E lay nL Qc F (pc + 1) lv (.ref (b + i.toNatClampNeg) :: st) M) : AW E lay nL Qc (if am_in i n = true then F else none) pc lv (.int i :: .ref q :: st) M := by
  refine aw_ite (fun hi => ?_) (fun _ => aw_none)
  intro t ht H locs ls hS hh
  have hin := am_in_vp hi
  have hlt : i.toNatClampNeg < n := Nat.lt_of_not_le (fun h => hin (Or.inr h))
  have hc := hS.1 q _ (ly_w_at hq)
  have hk := (C.2.2.2.2.2.2.1.2 2 _ rfl).1 n (fun j => va_rf ((qs[j]?).map (eX E)))
  subst hn
  refine W.aald (v := .ref (eX E (b + i.toNatClampNeg))) (ty := .array .int) C.1 C.2.1 hc hk rfl (fun h => by cases h) ?_ ?_ rfl rfl dg (k t ht H locs ls hS hh)
  · show ¬ (i < 0 ∨ (arrV _ _ _).slots.size ≤ _)
    rw [arrV_size]
    exact hin
  · show (arrV _ _ _).slots[_]? = _
    rw [arrV_read _ _ hlt]
    show some (va_rf ((qs[i.toNatClampNeg]?).map (eX E))) = _
    rw [hqs _ hlt]
    rfl
end AR
