def ly1 : List lyE := [.inr (.inl 8)]
theorem m1_J7_fill_53178_5 {E : amE} (C : amC E 1 cJ7_fill_53178 4 RJ7) (hr : (eH E).sig.returnType = none) (p0 n0 : Nat) (hp0 : ly1[p0]? = some (.inr (.inl n0))) : ∀ (f : Nat) (x1 : Int32) (x2 : Int32) (x3 : Int32) (M : Mem), AW E ly1 4 (qV ly1) (J7_fill_53178_5 p0 n0 f x1 x2 x3 M) 5 [(0, .ref p0), (1, .int x1), (2, .int x2), (3, .int x3)] [] M := by
  intro f
  induction f with
  | zero => exact (fun _ _ _ _ => aw_none)
  | succ f ih =>
    intro x1 x2 x3 M
    rw [J7_fill_53178_5]
    refine aw_iload_n C dJ7_fill_53178_5 rfl ?_
    refine aw_iload_n C dJ7_fill_53178_6 rfl ?_
    refine aw_icmp_ge C (tgt := 20) dJ7_fill_53178_7 (by decide) ?_ ?_
    · refine aw_aload_n C dJ7_fill_53178_10 rfl ?_
      refine aw_iload_n C dJ7_fill_53178_11 rfl ?_
      refine aw_iload_n C dJ7_fill_53178_12 rfl ?_
      refine aw_iast C hp0 dJ7_fill_53178_13 ?_
      refine aw_mlet (fun M1 => ?_)
      refine aw_iinc C (v := (1 : Int32)) [(2, .int (x2 + (1 : Int32))), (0, .ref p0), (1, .int x1), (3, .int x3)] dJ7_fill_53178_14 rfl (by decide) (by decide) rfl ?_
      refine aw_goto C (tgt := 5) dJ7_fill_53178_17 (by decide) ?_
      refine aw_sub [1, 2, 0, 3] rfl ?_
      exact ih x1 (x2 + (1 : Int32)) x3 M1
    · exact aw_vret C hr dJ7_fill_53178_20
theorem m1_J7_fill_53178  (p0 n0 : Nat) (hp0 : ly1[p0]? = some (.inr (.inl n0))) (x1 : Int32) (M : Mem) : AMet 1 yJ7_fill_53178 cJ7_fill_53178 4 none ly1 [.ref p0, .int x1] M (qV ly1) (J7_fill_53178 p0 n0 x1 M) := by
  refine am_ent pn_J7 (Nat.le_of_ble_eq_true rfl) (fun E C hr => ?_)
  refine aw_lv (lv' := [(0, .ref p0), (1, .int x1)]) rfl ?_
  unfold J7_fill_53178
  refine aw_iconst C (0 : Int32) dJ7_fill_53178_0 (by decide) ?_
  refine aw_istore_n C [(2, .int (0 : Int32)), (0, .ref p0), (1, .int x1)] dJ7_fill_53178_1 (by decide) rfl ?_
  refine aw_aload_n C dJ7_fill_53178_2 rfl ?_
  refine aw_alen C (Int32.ofNat n0) hp0 rfl dJ7_fill_53178_3 ?_
  refine aw_istore_n C [(3, .int (Int32.ofNat n0)), (2, .int (0 : Int32)), (0, .ref p0), (1, .int x1)] dJ7_fill_53178_4 (by decide) rfl ?_
  refine aw_sub [2, 3, 1, 0] rfl ?_
  exact m1_J7_fill_53178_5 C hr p0 n0 hp0 am_fuel x1 (0 : Int32) (Int32.ofNat n0) M

/-- int[][] is an array class over int[] -/
def ao (U : State) : Prop := (Cond.arrayOver (.array .int)).before #[] U = true
theorem ao.moved {u U : State} (hvm : u.vm.Alike U.vm) (h : ao u) : ao U := by
  unfold ao Cond.before Cond.holds at h
  simp only [Cond.value, beq_iff_eq] at h
  cases hc : u.vm.findClass (FieldType.array .int).toString with
  | none => simp [hc] at h
  | some comp =>
    rw [hc, Option.bind_some] at h
    obtain ⟨c, h2, h⟩ := Option.bind_eq_some_iff.mp h
    obtain ⟨k, h3, h4⟩ := Option.map_eq_some_iff.mp h
    obtain ⟨k', hk', he⟩ := hvm.2.2 _ _ h3
    have hi : (U.vm.classes.findIdx? fun (x : Class) => match x.kind with | .array component _ => component == comp | _ => false) = some c := by
      have e1 := va_idx_bare U.vm comp
      have e2 := va_idx_bare u.vm comp
      have e3 : U.vm.bare = u.vm.bare := by first | exact hvm.bare_eq | exact hvm.bare_eq.symm
      rw [e3] at e1
      exact (e1.symm.trans e2).trans h2
    have f1 : U.vm.findClass (FieldType.array .int).toString = some comp := by rw [hvm.findClass]; exact hc
    have f2 : U.vm.findClass ("[" ++ (FieldType.array .int).toString) = u.vm.findClass ("[" ++ (FieldType.array .int).toString) := hvm.findClass _ _
    unfold ao Cond.before Cond.holds
    simp only [Cond.value]
    rw [f1, Option.bind_some]
    refine (congrArg (fun o : Option Nat => (o.bind (fun c => (U.vm.classes[c]?).map fun (k : Class) => match k.kind with | .array _ ty => decide (ty = FieldType.array .int) && decide (U.vm.findClass ("[" ++ (FieldType.array .int).toString) = some c) | _ => false) == some true)) hi).trans ?_
    have hkk : k'.kind = k.kind := by rw [he]
    rw [Option.bind_some, hk', Option.map_some, hkk, f2]
    have hb : ∀ b : Bool, b = true → (some b == some true) = true := by rintro _ rfl; rfl
    exact hb _ h4
theorem cn_outer (c : ClassId) (h0 : Nat) : ∀ i : Nat, i ≤ 8 → mnOut c h0 i = arrV c 8 (fun j => va_rf (if j < i then some (h0 + 1 + j) else none))
  | 0, _ => by
    show ({ cls := c, slots := Array.replicate 8 .null, vm := .none } : Cell) = _
    rw [arrV_new]
    refine congrArg (arrV c 8) (funext fun j => ?_)
    simp [va_rf]
  | i + 1, hi => by
    show (mnOut c h0 i).setSlot i (.ref (h0 + 1 + i)) = _
    rw [cn_outer c h0 i (by omega), arrV_store]
    refine congrArg (arrV c 8) (funext fun j => ?_)
    by_cases e : j = i
    · subst e
      simp [updV, va_rf]
    · by_cases h : j < i
      · simp [updV, e, h, Nat.lt_succ_of_lt h]
      · simp [updV, e, h, show ¬ j < i + 1 by omega]
theorem cn_row (b : ClassId) : mnRow b = vp_cell b (40, .inl (fun _ => 0)) := by
  show ({ cls := b, slots := Array.replicate 40 (.int 0), vm := .none } : Cell) = _
  rw [arrV_new]
  rfl
section CN
variable {p : Program} {l : Launch} {e : Env} {R : Room} {s : State} {m : MethodId} {args : Array Value} {below : List Frame} {meth : Method} {c : Code} {H : Heap} {locs : List Loc} {cells slots : Nat} {Q : State → Prop}
variable {cc : ByteArray} {pc : Nat} {ls : Array Slot} {rest : List Value} {D : va_G} {cl : List vw_C} {A : Nat → Prop} {ws : va_W} {H0 : Heap} {K : amK}
/-- new int[8][40] -/
theorem cn_mna (hexec : p.tables.exec = Jvm.exec) (hb : c.code = cc) {own : String} {index : Nat} (hown : s.vm.findClass own = some m.cls) (hclink : (Cond.classLink own index "[[I").before args s = true) (hao : ao s) (harr : (Cond.arrayClass .int).before args s = true)
    (hK : va_K D cl (am_tys K) s) (hP : va_P D cl ws H) (hD : va_D A ws) (hS : va_S A H0 H locs) (hA : ∀ q, H0.size ≤ q → A q) (hcells : cells + 9 ≤ R.cells) (hslots : slots + 328 ≤ R.slots) (hdg : decode cc pc = .ok (.multianewarray index 2, 4))
    (kk : ∀ (q : Nat) (r : Nat → Nat) (H1 : Heap), va_P D cl (ws ++ ([(q, .inl (K.2.2, 8, .inr (.inr (.inr (.inr (fun i => if i < 8 then some (r i) else none))))))] ++ (List.range 8).map (fun i => (r i, .inl (K.1, 40, .inl (fun _ => 0)))))) H1 → va_D A (ws ++ ([(q, .inl (K.2.2, 8, .inr (.inr (.inr (.inr (fun i => if i < 8 then some (r i) else none))))))] ++ (List.range 8).map (fun i => (r i, .inl (K.1, 40, .inl (fun _ => 0)))))) → va_S A H0 H1 locs →
      W p l e R s m args below meth c H1 locs (cells + 9) (slots + 328) Q (F0 m (pc + 4) ls (.ref q :: rest))) : W p l e R s m args below meth c H locs cells slots Q (F0 m pc ls (.int 40 :: .int 8 :: rest)) := by
  intro T hT Xs
  obtain ⟨vm₁, cA, comp, fA, fC, X', step⟩ := mn_step Xs hexec hown hclink hao harr (g := F0 m pc ls (.int 40 :: .int 8 :: rest)) rfl (by rw [hb]; exact hdg) rfl hcells hslots
  have g1 : s.vm.findClass "[[I" = some K.2.2 := (hK.2 2 _ rfl).2
  have g2 : s.vm.findClass "[I" = some K.1 := (hK.2 0 _ rfl).2
  have e1 : cA = K.2.2 := Option.some.inj (fA.symm.trans g1)
  have e2 : comp = K.1 := Option.some.inj (fC.symm.trans g2)
  subst e1
  subst e2
  have hTh : (T.setVm vm₁).heap = H := hT
  have f1 := mnSt_size (T.setVm vm₁) K.2.2 K.1 8
  have f2 := mnSt_out (T.setVm vm₁) K.2.2 K.1 8
  have f3 := fun j hj => mnSt_row (T.setVm vm₁) K.2.2 K.1 j 8 hj
  have f4 := fun x hx => mnSt_old (T.setVm vm₁) K.2.2 K.1 x hx 8
  rw [hTh] at f1 f2
  generalize mnSt (T.setVm vm₁) K.2.2 K.1 8 = F at X' step f1 f2 f3 f4
  have hold : ∀ x : Nat, x < H.size → F.heap[x]? = H[x]? := fun x hx => by
    have := f4 x (by rw [hTh]; exact hx)
    rw [hTh] at this
    exact this
  have hrow : ∀ j : Nat, j < 8 → F.heap[H.size + 1 + j]? = some (vp_cell K.1 (40, .inl (fun _ => 0))) := fun j hj => by
    have := f3 j hj
    rw [hTh, cn_row] at this
    exact this
  rw [cn_outer _ _ 8 (Nat.le_refl _)] at f2
  have hlt : ∀ (k : Nat) (x : Nat × va_E), ws[k]? = some x → x.1 < H.size := fun k x hx => (hP k x hx).lt
  have hP0 : va_P D cl ws F.heap := hP.kept (fun k9 x hx => hold x.1 (hlt k9 x hx))
  have hP1 : va_P D cl ([(H.size, .inl (K.2.2, 8, .inr (.inr (.inr (.inr (fun i => if i < 8 then some (H.size + 1 + i) else none))))))] ++ (List.range 8).map (fun i => (H.size + 1 + i, .inl (K.1, 40, .inl (fun _ => 0))))) F.heap := by
    refine va_P.app ?_ ?_
    · intro k9 x hx
      have h0 : k9 < 1 := (List.getElem?_eq_some_iff.mp hx).1
      rw [show k9 = 0 by omega] at hx
      cases hx
      exact f2
    · intro k9 x hx
      obtain ⟨i, hi, rfl⟩ := List.mem_map.mp (List.mem_of_getElem? hx)
      exact hrow i (List.mem_range.mp hi)
  have hSz : H0.size ≤ H.size := hS.1
  have hall : ∀ (k : Nat) (x : Nat × va_E), ([(H.size, (.inl (K.2.2, 8, .inr (.inr (.inr (.inr (fun i => if i < 8 then some (H.size + 1 + i) else none))))) : va_E))] ++ (List.range 8).map (fun i => (H.size + 1 + i, (.inl (K.1, 40, .inl (fun _ => 0)) : va_E))))[k]? = some x → x.1 = H.size + k := by
    intro k x hx
    have hk : k < 9 := by
      have := (List.getElem?_eq_some_iff.mp hx).1
      simpa using this
    rcases (show k = 0 ∨ k = 1 ∨ k = 2 ∨ k = 3 ∨ k = 4 ∨ k = 5 ∨ k = 6 ∨ k = 7 ∨ k = 8 by omega) with rfl | rfl | rfl | rfl | rfl | rfl | rfl | rfl | rfl <;> (cases hx; first | rfl | (show _ + 1 + _ = _ + _; omega))
  have hD1 : va_D A (ws ++ ([(H.size, .inl (K.2.2, 8, .inr (.inr (.inr (.inr (fun i => if i < 8 then some (H.size + 1 + i) else none))))))] ++ (List.range 8).map (fun i => (H.size + 1 + i, .inl (K.1, 40, .inl (fun _ => 0)))))) := by
    constructor
    · intro i j x y hx hy he
      rw [List.getElem?_append] at hx hy
      by_cases h1 : i < ws.length <;> by_cases h2 : j < ws.length
      · rw [if_pos h1] at hx; rw [if_pos h2] at hy
        exact hD.1 i j x y hx hy he
      · rw [if_pos h1] at hx; rw [if_neg h2] at hy
        have a1 := hlt _ _ hx
        have a2 := hall _ _ hy
        omega
      · rw [if_neg h1] at hx; rw [if_pos h2] at hy
        have a1 := hlt _ _ hy
        have a2 := hall _ _ hx
        omega
      · rw [if_neg h1] at hx; rw [if_neg h2] at hy
        have a1 := hall _ _ hx
        have a2 := hall _ _ hy
        omega
    · intro k x hx
      rw [List.getElem?_append] at hx
      by_cases h1 : k < ws.length
      · rw [if_pos h1] at hx
        exact hD.2 k x hx
      · rw [if_neg h1] at hx
        have a2 := hall _ _ hx
        exact hA _ (by omega)
  have hS1 : va_S A H0 F.heap locs := ⟨by rw [f1]; omega, fun q hq hn => by rw [hold q (by omega)]; exact hS.2.1 q hq hn, hS.2.2⟩
  obtain ⟨t, a1, b1⟩ := kk H.size (fun i => H.size + 1 + i) F.heap (hP0.app hP1) hD1 hS1 F rfl X'
  refine ⟨t, step t ?_, b1⟩
  rw [hT]
  exact a1
end CN
