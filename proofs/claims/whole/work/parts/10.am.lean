/-! THE ABSTRACT WORLD: places instead of addresses. A layout says of each place what lies there (an object with its constant references; a row of ints, of booleans, of rows); a memory holds the ints. -/
abbrev Mem : Type := Nat → Nat → Int32
abbrev lyE : Type := (Nat × List (Option Nat)) ⊕ (Nat ⊕ (Nat ⊕ List Nat))
abbrev amK : Type := ClassId × ClassId × ClassId
def mset (M : Mem) (p : Nat) (f : Nat → Int32) : Mem := fun q => if q = p then f else M q
theorem mset_self (M : Mem) (p : Nat) (f : Nat → Int32) : mset M p f p = f := if_pos rfl
theorem mset_ne (M : Mem) {p q : Nat} (f : Nat → Int32) (h : q ≠ p) : mset M p f q = M q := if_neg h
def ly_fv (ad : Nat → Nat) (row : Nat → Int32) : Nat → List (Option Nat) → List Value
  | _, [] => []
  | j, none :: r => .int (row j) :: ly_fv ad row (j + 1) r
  | j, some q :: r => .ref (ad q) :: ly_fv ad row (j + 1) r
def ly_v (ad : Nat → Nat) (row : Nat → Int32) (j : Nat) (o : Option Nat) : Value := match o with
  | none => .int (row j)
  | some q => .ref (ad q)
theorem ly_fv_get (ad : Nat → Nat) (row : Nat → Int32) : ∀ (fs : List (Option Nat)) (j k : Nat), (ly_fv ad row j fs)[k]? = (fs[k]?).map (ly_v ad row (j + k))
  | [], j, k => by simp [ly_fv]
  | none :: r, j, 0 => by simp [ly_fv, ly_v]
  | some q :: r, j, 0 => by simp [ly_fv, ly_v]
  | none :: r, j, k + 1 => by
    simp only [ly_fv, List.getElem?_cons_succ, ly_fv_get ad row r]
    rw [show j + 1 + k = j + (k + 1) by omega]
  | some q :: r, j, k + 1 => by
    simp only [ly_fv, List.getElem?_cons_succ, ly_fv_get ad row r]
    rw [show j + 1 + k = j + (k + 1) by omega]
theorem ly_fv_len (ad : Nat → Nat) (row : Nat → Int32) : ∀ (fs : List (Option Nat)) (j : Nat), (ly_fv ad row j fs).length = fs.length
  | [], j => rfl
  | none :: r, j => by simp [ly_fv, ly_fv_len ad row r]
  | some q :: r, j => by simp [ly_fv, ly_fv_len ad row r]
theorem ly_fv_set (ad : Nat → Nat) (row : Nat → Int32) (fs : List (Option Nat)) (k : Nat) (v : Int32) (h : fs[k]? = some none) : (ly_fv ad row 0 fs).set k (.int v) = ly_fv ad (upd row k v) 0 fs := by
  apply List.ext_getElem?
  intro i
  rw [List.getElem?_set, ly_fv_get, ly_fv_get, ly_fv_len]
  by_cases hi : k = i
  · subst hi
    have hk : k < fs.length := (List.getElem?_eq_some_iff.mp h).1
    rw [if_pos rfl, if_pos hk, h]
    simp [ly_v, upd]
  · rw [if_neg hi]
    cases he : fs[i]? with
    | none => rfl
    | some o =>
      cases o with
      | none => simp [ly_v, upd, show ¬ i = k from fun q => hi q.symm]
      | some q => rfl
def ly_c (K : amK) (ad : Nat → Nat) (M : Mem) (k : Nat) (e : lyE) : va_E := match e with
  | .inl o => .inr (o.1, ly_fv ad (M k) 0 o.2)
  | .inr (.inl n) => .inl (K.1, n, .inl (M k))
  | .inr (.inr (.inl n)) => .inl (K.2.1, n, .inl (M k))
  | .inr (.inr (.inr qs)) => .inl (K.2.2, qs.length, .inr (.inr (.inr (.inr (fun j => (qs[j]?).map ad)))))
def ly_w (K : amK) (ad : Nat → Nat) (M : Mem) (lay : List lyE) : va_W := lay.mapIdx (fun k e => (ad k, ly_c K ad M k e))
theorem ly_w_get (K : amK) (ad : Nat → Nat) (M : Mem) (lay : List lyE) (k : Nat) : (ly_w K ad M lay)[k]? = (lay[k]?).map (fun e => (ad k, ly_c K ad M k e)) := by
  unfold ly_w
  rw [List.getElem?_mapIdx]
theorem ly_w_at {K : amK} {ad : Nat → Nat} {M : Mem} {lay : List lyE} {k : Nat} {e : lyE} (h : lay[k]? = some e) : (ly_w K ad M lay)[k]? = some (ad k, ly_c K ad M k e) := by
  rw [ly_w_get, h]; rfl
theorem ly_c_ne {K : amK} {ad : Nat → Nat} {M : Mem} {p k : Nat} {f : Nat → Int32} {e : lyE} (h : k ≠ p) : ly_c K ad (mset M p f) k e = ly_c K ad M k e := by
  unfold ly_c
  rw [mset_ne M f h]
theorem ly_w_set {K : amK} {ad : Nat → Nat} {M : Mem} {lay : List lyE} {p : Nat} {e : lyE} {f : Nat → Int32} (h : lay[p]? = some e) : (ly_w K ad M lay).set p (ad p, ly_c K ad (mset M p f) p e) = ly_w K ad (mset M p f) lay := by
  apply List.ext_getElem?
  intro i
  rw [List.getElem?_set, ly_w_get, ly_w_get]
  by_cases hi : p = i
  · subst hi
    have hk : p < (ly_w K ad M lay).length := by
      have := (List.getElem?_eq_some_iff.mp h).1
      simpa [ly_w] using this
    simp [hk, h]
  · rw [if_neg hi]
    cases he : lay[i]? with
    | none => rfl
    | some o => simp only [Option.map_some]; rw [ly_c_ne (fun q => hi q.symm)]
def cv (ad : Nat → Nat) (v : Value) : Value := match v with
  | .ref k => .ref (ad k)
  | w => w
theorem cv_cat (ad : Nat → Nat) (v : Value) : (cv ad v).category = v.category := by cases v <;> rfl
def am_tys (K : amK) : List (ClassId × FieldType) := [(K.1, .int), (K.2.1, .boolean), (K.2.2, .array .int)]
def am_in (i : Int32) (n : Nat) : Bool := !(decide (i < 0)) && decide (i.toNatClampNeg < n)
theorem am_in_vp {i : Int32} {n : Nat} (h : am_in i n = true) : vp_in i n := by
  unfold am_in at h
  unfold vp_in
  simp only [Bool.and_eq_true, Bool.not_eq_true', decide_eq_false_iff_not, decide_eq_true_eq] at h
  rintro (q | q)
  · exact h.1 q
  · exact absurd h.2 (Nat.not_lt.mpr q)
theorem am_in_nI {j n : Nat} (h : j < n) (hn : n < 2 ^ 31) : am_in (nI j) n = true := by
  unfold am_in
  rw [nI_clamp (by omega)]
  simp [nI_pos (show j < 2 ^ 31 by omega), h]
/-- the names of the static rows and of the text: the places from 1000 on -/
def am_St (ad : Nat → Nat) (A : Nat → Prop) (U : State) (H : Heap) : Prop :=
  (va_Z "LuggageBelt$Asks" "KIND_ABOVE" "[I" (.ref (ad 1000)) A U H ∧ va_T .int (ad 1000) 6 (fun j => .int (([-1, 0, 1, 1, 0, 4] : List Int32).getD j 0)) A U H) ∧
  (va_Z "LuggageBelt$Asks" "SIZE_BODIES" "[I" (.ref (ad 1001)) A U H ∧ va_T .int (ad 1001) 6 (fun j => .int (([10, 11, 12, -1000000, 13, 14] : List Int32).getD j 0)) A U H) ∧
  (va_Z "LuggageBelt$Asks" "MARK_BODIES" "[I" (.ref (ad 1002)) A U H ∧ va_T .int (ad 1002) 6 (fun j => .int (([20, 21, 24, 22, 23, -1000000] : List Int32).getD j 0)) A U H) ∧
  vk_R "LuggageBelt$Tape" 59 "cshld" (ad 1003) U ∧ vk_S 1 [5] [[99, 115, 104, 108, 100]] (fun _ => ad 1003) (fun _ => ad 1004) A U H ∧ va_Z "java/lang/String" "COMPACT_STRINGS" "Z" (.int 1) A U H
theorem am_St.go {ad : Nat → Nat} {A B : Nat → Prop} {u U : State} {H H1 : Heap} (h : am_St ad A u H) (hW : u.WarmedH U.vm) (hq : ∀ a : Nat, a < H.size → ¬ A a → H1[a]? = H[a]?) (hAB : ∀ q, B q → A q) : am_St ad B U H1 := by
  obtain ⟨⟨a1, a2⟩, ⟨b1, b2⟩, ⟨c1, c2⟩, d1, d2, e1⟩ := h
  have hv := hW.alike
  exact ⟨⟨((a1.kept hq).moved hv).narrow hAB, ((a2.kept hq).moved hv).narrow hAB⟩, ⟨((b1.kept hq).moved hv).narrow hAB, ((b2.kept hq).moved hv).narrow hAB⟩, ⟨((c1.kept hq).moved hv).narrow hAB, ((c2.kept hq).moved hv).narrow hAB⟩, d1.warm hW, ((d2.kept hq).moved hv).narrow hAB, ((e1.kept hq).moved hv).narrow hAB⟩
theorem am_St.same {ad : Nat → Nat} {A : Nat → Prop} {u U : State} {H : Heap} (h : am_St ad A u H) (hv : U.vm = u.vm) : am_St ad A U H := by
  obtain ⟨⟨a1, a2⟩, ⟨b1, b2⟩, ⟨c1, c2⟩, d1, d2, e1⟩ := h
  have hw : u.vm.Alike U.vm := by rw [hv]; exact Vm.Alike.refl _
  exact ⟨⟨a1.moved hw, a2.moved hw⟩, ⟨b1.moved hw, b2.moved hw⟩, ⟨c1.moved hw, c2.moved hw⟩, d1.same hv, d2.moved hw, e1.moved hw⟩
/-- the words of every method: its code, and the tables (those that a callee may ask for) -/
def lw_t : List Cond := lw_tbl.filter goodWord
theorem lw_in {w : Cond} (h : w ∈ lw_tbl) (hg : goodWord w = true) : w ∈ lw_t := List.mem_filter.mpr ⟨h, hg⟩
def wT (y : MethodName) (b : ByteArray) (n : Nat) (ret : Option FieldType) : List Cond := .code y b n ret :: lw_t
def rmD (d : Nat) : Room := { frames := d, cells := 0, slots := 0, locals := 64 * d }
theorem wT_good {y : MethodName} {b : ByteArray} {n : Nat} {ret : Option FieldType} (h : Cond.code y b n ret ∈ lw_t) : GoodIn lw_t (wT y b n ret) := by
  intro w hw
  rcases List.mem_cons.mp hw with rfl | hw
  · exact ⟨h, good_of_word (List.mem_filter.mp h).2⟩
  · exact ⟨hw, good_of_word (List.mem_filter.mp hw).2⟩
/-! THE JUDGEMENT: from here on the method answers what F says -/
abbrev amE : Type := Program × Launch × Env × Room × State × MethodId × Array Value × List Frame × Method × Code × va_G × amK × (Nat → Prop) × (Nat → Nat)
abbrev eP (E : amE) : Program := E.1
abbrev eL (E : amE) : Launch := E.2.1
abbrev eE (E : amE) : Env := E.2.2.1
abbrev eR (E : amE) : Room := E.2.2.2.1
abbrev eS (E : amE) : State := E.2.2.2.2.1
abbrev eM (E : amE) : MethodId := E.2.2.2.2.2.1
abbrev eA (E : amE) : Array Value := E.2.2.2.2.2.2.1
abbrev eB (E : amE) : List Frame := E.2.2.2.2.2.2.2.1
abbrev eH (E : amE) : Method := E.2.2.2.2.2.2.2.2.1
abbrev eC (E : amE) : Code := E.2.2.2.2.2.2.2.2.2.1
abbrev eD (E : amE) : va_G := E.2.2.2.2.2.2.2.2.2.2.1
abbrev eK (E : amE) : amK := E.2.2.2.2.2.2.2.2.2.2.2.1
abbrev eF (E : amE) : Nat → Prop := E.2.2.2.2.2.2.2.2.2.2.2.2.1
abbrev eX (E : amE) : Nat → Nat := E.2.2.2.2.2.2.2.2.2.2.2.2.2
def amC (E : amE) (d : Nat) (cc : ByteArray) (nL : Nat) (own : String) : Prop :=
  (eP E).tables.exec = Jvm.exec ∧ (eC E).code = cc ∧ (eC E).maxLocals = nL ∧ (eS E).vm.findClass own = some (eM E).cls ∧ (∀ w ∈ lw_t, w.before (eA E) (eS E) = true) ∧ (eH E).locks = false ∧ va_K (eD E) vwCl (am_tys (eK E)) (eS E) ∧ (∀ q, (eS E).heap.size ≤ q → eF E q) ∧ am_St (eX E) (eF E) (eS E) (eS E).heap ∧ d ≤ (eR E).frames ∧ 64 * d ≤ (eR E).locals
def amS (E : amE) (lay : List lyE) (M : Mem) (H : Heap) (locs : List Loc) : Prop :=
  va_P (eD E) vwCl (ly_w (eK E) (eX E) M lay) H ∧ va_D (eF E) (ly_w (eK E) (eX E) M lay) ∧ va_S (eF E) (eS E).heap H locs
/-- a method's end: by the tables, the array classes, what may have changed, the addresses, and what is answered -/
abbrev amQ (ρ : Type) : Type := va_G → amK → (Nat → Prop) → (Nat → Nat) → ρ → Array Value → State → Outcome → State → Prop
def AW (E : amE) (lay : List lyE) (nL : Nat) {ρ : Type} (Qc : amQ ρ) (F : Option ρ) (pc : Nat) (lv : List (Nat × Value)) (st : List Value) (M : Mem) : Prop :=
  ∀ (t : ρ), F = some t → ∀ (H : Heap) (locs : List Loc) (ls : Array Slot), amS E lay M H locs → lv_has ls nL (lv.map (fun q => (q.1, cv (eX E) q.2))) →
    W (eP E) (eL E) (eE E) (eR E) (eS E) (eM E) (eA E) (eB E) (eH E) (eC E) H locs 0 0 (MQ (eB E) (Qc (eD E) (eK E) (eF E) (eX E) t) (eA E) (eS E) 0 0 (eF E)) (F0 (eM E) pc ls (st.map (cv (eX E))))
section AR
variable {E : amE} {lay : List lyE} {d nL : Nat} {cc : ByteArray} {own : String} {ρ : Type} {Qc : amQ ρ} {F F1 F2 : Option ρ} {pc : Nat} {lv : List (Nat × Value)} {st : List Value} {M : Mem}
theorem aw_none : AW E lay nL Qc none pc lv st M := fun t h => by cases h
theorem aw_eq {F' : Option ρ} (h : F' = F) (k : AW E lay nL Qc F pc lv st M) : AW E lay nL Qc F' pc lv st M := h ▸ k
theorem aw_ite {P : Prop} [Decidable P] (k1 : P → AW E lay nL Qc F1 pc lv st M) (k2 : ¬ P → AW E lay nL Qc F2 pc lv st M) : AW E lay nL Qc (if P then F1 else F2) pc lv st M := by
  by_cases h : P
  · rw [if_pos h]; exact k1 h
  · rw [if_neg h]; exact k2 h
theorem aw_sub {lv' : List (Nat × Value)} (ks : List Nat) (hl : lv_pick lv ks = lv') (k : AW E lay nL Qc F pc lv' st M) : AW E lay nL Qc F pc lv st M := by
  intro t ht H locs ls hS hh
  refine k t ht H locs ls hS (lv_sub hh ks ?_)
  rw [← hl]
  unfold lv_pick
  rw [List.map_filterMap]
  congr 1
  funext i
  simp
theorem aw_lv {lv' : List (Nat × Value)} (h : lv = lv') (k : AW E lay nL Qc F pc lv' st M) : AW E lay nL Qc F pc lv st M := h ▸ k
theorem am_at {ls : Array Slot} {ad : Nat → Nat} (hh : lv_has ls nL (lv.map (fun q => (q.1, cv ad q.2)))) {i : Nat} {v : Value} (h : lv.find? (fun q => q.1 == i) = some (i, v)) : ls[i]? = some (.val (cv ad v)) := by
  have hm := List.mem_of_find?_eq_some h
  exact hh.2.2 (i, cv ad v) (List.mem_map.mpr ⟨(i, v), hm, rfl⟩)
theorem am_filt (ad : Nat → Nat) (i : Nat) (g : Nat × Value → Bool) (hg : ∀ q : Nat × Value, g (q.1, cv ad q.2) = g q) (lv : List (Nat × Value)) : (lv.map (fun q => (q.1, cv ad q.2))).filter g = (lv.filter g).map (fun q => (q.1, cv ad q.2)) := by
  rw [List.filter_map]
  congr 1
  apply List.filter_congr
  intro q _
  exact hg q
theorem aw_iconst (C : amC E d cc nL own) {n : Int} (v : Int32) (hd : decode cc pc = .ok (.iconst n, 1)) (hv : Int32.ofInt n = v) (k : AW E lay nL Qc F (pc + 1) lv (.int v :: st) M) : AW E lay nL Qc F pc lv st M := fun t ht H locs ls hS hh => lv_iconst C.1 C.2.1 hd hv (k t ht H locs ls hS hh)
theorem aw_bipush (C : amC E d cc nL own) {n : Int} (v : Int32) (hd : decode cc pc = .ok (.bipush n, 2)) (hv : (Int8.ofInt n).toInt32 = v) (k : AW E lay nL Qc F (pc + 2) lv (.int v :: st) M) : AW E lay nL Qc F pc lv st M := fun t ht H locs ls hS hh => lv_bipush C.1 C.2.1 hd hv (k t ht H locs ls hS hh)
theorem aw_sipush (C : amC E d cc nL own) {n : Int} (v : Int32) (hd : decode cc pc = .ok (.sipush n, 3)) (hv : (Int16.ofInt n).toInt32 = v) (k : AW E lay nL Qc F (pc + 3) lv (.int v :: st) M) : AW E lay nL Qc F pc lv st M := fun t ht H locs ls hS hh => lv_sipush C.1 C.2.1 hd hv (k t ht H locs ls hS hh)
theorem aw_lconst (C : amC E d cc nL own) {n : Fin 2} (v : Int64) (hd : decode cc pc = .ok (.lconst n, 1)) (hv : Int64.ofNat (n : Nat) = v) (k : AW E lay nL Qc F (pc + 1) lv (.long v :: st) M) : AW E lay nL Qc F pc lv st M := fun t ht H locs ls hS hh => lv_lconst C.1 C.2.1 hd hv (k t ht H locs ls hS hh)
theorem aw_ldc (C : amC E d cc nL own) {idx : Nat} {v : Int32} (hc : Cond.constant own idx v ∈ lw_t) (hd : decode cc pc = .ok (.ldc idx, 2)) (k : AW E lay nL Qc F (pc + 2) lv (.int v :: st) M) : AW E lay nL Qc F pc lv st M := fun t ht H locs ls hS hh => lv_ldc C.1 C.2.1 C.2.2.2.1 (C.2.2.2.2.1 _ hc) hd (k t ht H locs ls hS hh)
theorem aw_ldc2 (C : amC E d cc nL own) {idx : Nat} {v : Int64} (hc : Cond.constantLong own idx v ∈ lw_t) (hd : decode cc pc = .ok (.ldc2_w idx, 3)) (k : AW E lay nL Qc F (pc + 3) lv (.long v :: st) M) : AW E lay nL Qc F pc lv st M := fun t ht H locs ls hS hh => lv_ldc2 C.1 C.2.1 C.2.2.2.1 (C.2.2.2.2.1 _ hc) hd (k t ht H locs ls hS hh)
theorem aw_iload_n (C : amC E d cc nL own) {i : Fin 4} {x : Int32} (hd : decode cc pc = .ok (.iload_n i, 1)) (h : lv.find? (fun q => q.1 == (i : Nat)) = some ((i : Nat), .int x)) (k : AW E lay nL Qc F (pc + 1) lv (.int x :: st) M) : AW E lay nL Qc F pc lv st M := fun t ht H locs ls hS hh => lv_iload_n C.1 C.2.1 hd rfl (am_at hh h) (k t ht H locs ls hS hh)
theorem aw_iload (C : amC E d cc nL own) {i : Nat} {x : Int32} (hd : decode cc pc = .ok (.iload i, 2)) (h : lv.find? (fun q => q.1 == i) = some (i, .int x)) (k : AW E lay nL Qc F (pc + 2) lv (.int x :: st) M) : AW E lay nL Qc F pc lv st M := fun t ht H locs ls hS hh => lv_iload C.1 C.2.1 hd (am_at hh h) (k t ht H locs ls hS hh)
theorem aw_lload_n (C : amC E d cc nL own) {i : Fin 4} {x : Int64} (hd : decode cc pc = .ok (.lload_n i, 1)) (h : lv.find? (fun q => q.1 == (i : Nat)) = some ((i : Nat), .long x)) (k : AW E lay nL Qc F (pc + 1) lv (.long x :: st) M) : AW E lay nL Qc F pc lv st M := fun t ht H locs ls hS hh => lv_lload_n C.1 C.2.1 hd rfl (am_at hh h) (k t ht H locs ls hS hh)
theorem aw_lload (C : amC E d cc nL own) {i : Nat} {x : Int64} (hd : decode cc pc = .ok (.lload i, 2)) (h : lv.find? (fun q => q.1 == i) = some (i, .long x)) (k : AW E lay nL Qc F (pc + 2) lv (.long x :: st) M) : AW E lay nL Qc F pc lv st M := fun t ht H locs ls hS hh => lv_lload C.1 C.2.1 hd (am_at hh h) (k t ht H locs ls hS hh)
theorem aw_aload_n (C : amC E d cc nL own) {i : Fin 4} {x : Nat} (hd : decode cc pc = .ok (.aload_n i, 1)) (h : lv.find? (fun q => q.1 == (i : Nat)) = some ((i : Nat), .ref x)) (k : AW E lay nL Qc F (pc + 1) lv (.ref x :: st) M) : AW E lay nL Qc F pc lv st M := fun t ht H locs ls hS hh => lv_aload_n C.1 C.2.1 hd rfl (am_at hh h) (k t ht H locs ls hS hh)
theorem aw_aload (C : amC E d cc nL own) {i : Nat} {x : Nat} (hd : decode cc pc = .ok (.aload i, 2)) (h : lv.find? (fun q => q.1 == i) = some (i, .ref x)) (k : AW E lay nL Qc F (pc + 2) lv (.ref x :: st) M) : AW E lay nL Qc F pc lv st M := fun t ht H locs ls hS hh => lv_aload C.1 C.2.1 hd (am_at hh h) (k t ht H locs ls hS hh)
theorem am_st1 {ad : Nat → Nat} {i : Nat} {v : Value} {lv' : List (Nat × Value)} (hl : (i, v) :: lv.filter (fun q => !(q.1 == i) && !(q.1 + 1 == i && q.2.category == 2)) = lv') : (i, cv ad v) :: (lv.map (fun q => (q.1, cv ad q.2))).filter (fun q => !(q.1 == i) && !(q.1 + 1 == i && q.2.category == 2)) = lv'.map (fun q => (q.1, cv ad q.2)) := by
  rw [am_filt ad i _ (fun q => by simp only [cv_cat]) lv, ← hl]
  rfl
theorem am_st2 {ad : Nat → Nat} {i : Nat} {v : Value} {lv' : List (Nat × Value)} (hl : (i, v) :: lv.filter (fun q => !(q.1 == i) && (!(q.1 == i + 1) && !(q.1 + 1 == i && q.2.category == 2))) = lv') : (i, cv ad v) :: (lv.map (fun q => (q.1, cv ad q.2))).filter (fun q => !(q.1 == i) && (!(q.1 == i + 1) && !(q.1 + 1 == i && q.2.category == 2))) = lv'.map (fun q => (q.1, cv ad q.2)) := by
  rw [am_filt ad i _ (fun q => by simp only [cv_cat]) lv, ← hl]
  rfl
theorem aw_istore_n (C : amC E d cc nL own) {i : Fin 4} {x : Int32} (lv' : List (Nat × Value)) (hd : decode cc pc = .ok (.istore_n i, 1)) (hn : (i : Nat) < nL) (hl : ((i : Nat), Value.int x) :: lv.filter (fun q => !(q.1 == (i : Nat)) && !(q.1 + 1 == (i : Nat) && q.2.category == 2)) = lv') (k : AW E lay nL Qc F (pc + 1) lv' st M) : AW E lay nL Qc F pc lv (.int x :: st) M := fun t ht H locs ls hS hh => lv_istore_n C.1 C.2.1 hd rfl hh hn (am_st1 (v := .int x) hl) (fun ls' hh' => k t ht H locs ls' hS hh')
theorem aw_istore (C : amC E d cc nL own) {i : Nat} {x : Int32} (lv' : List (Nat × Value)) (hd : decode cc pc = .ok (.istore i, 2)) (hn : i < nL) (hl : (i, Value.int x) :: lv.filter (fun q => !(q.1 == i) && !(q.1 + 1 == i && q.2.category == 2)) = lv') (k : AW E lay nL Qc F (pc + 2) lv' st M) : AW E lay nL Qc F pc lv (.int x :: st) M := fun t ht H locs ls hS hh => lv_istore C.1 C.2.1 hd hh hn (am_st1 (v := .int x) hl) (fun ls' hh' => k t ht H locs ls' hS hh')
theorem aw_astore_n (C : amC E d cc nL own) {i : Fin 4} {x : Nat} (lv' : List (Nat × Value)) (hd : decode cc pc = .ok (.astore_n i, 1)) (hn : (i : Nat) < nL) (hl : ((i : Nat), Value.ref x) :: lv.filter (fun q => !(q.1 == (i : Nat)) && !(q.1 + 1 == (i : Nat) && q.2.category == 2)) = lv') (k : AW E lay nL Qc F (pc + 1) lv' st M) : AW E lay nL Qc F pc lv (.ref x :: st) M := fun t ht H locs ls hS hh => lv_astore_n C.1 C.2.1 hd rfl hh hn (am_st1 (v := .ref x) hl) (fun ls' hh' => k t ht H locs ls' hS hh')
theorem aw_astore (C : amC E d cc nL own) {i : Nat} {x : Nat} (lv' : List (Nat × Value)) (hd : decode cc pc = .ok (.astore i, 2)) (hn : i < nL) (hl : (i, Value.ref x) :: lv.filter (fun q => !(q.1 == i) && !(q.1 + 1 == i && q.2.category == 2)) = lv') (k : AW E lay nL Qc F (pc + 2) lv' st M) : AW E lay nL Qc F pc lv (.ref x :: st) M := fun t ht H locs ls hS hh => lv_astore C.1 C.2.1 hd hh hn (am_st1 (v := .ref x) hl) (fun ls' hh' => k t ht H locs ls' hS hh')
theorem aw_lstore_n (C : amC E d cc nL own) {i : Fin 4} {x : Int64} (lv' : List (Nat × Value)) (hd : decode cc pc = .ok (.lstore_n i, 1)) (hn : (i : Nat) + 1 < nL) (hl : ((i : Nat), Value.long x) :: lv.filter (fun q => !(q.1 == (i : Nat)) && (!(q.1 == (i : Nat) + 1) && !(q.1 + 1 == (i : Nat) && q.2.category == 2))) = lv') (k : AW E lay nL Qc F (pc + 1) lv' st M) : AW E lay nL Qc F pc lv (.long x :: st) M := fun t ht H locs ls hS hh => lv_lstore_n C.1 C.2.1 hd rfl hh hn (am_st2 (v := .long x) hl) (fun ls' hh' => k t ht H locs ls' hS hh')
theorem aw_lstore (C : amC E d cc nL own) {i : Nat} {x : Int64} (lv' : List (Nat × Value)) (hd : decode cc pc = .ok (.lstore i, 2)) (hn : i + 1 < nL) (hl : (i, Value.long x) :: lv.filter (fun q => !(q.1 == i) && (!(q.1 == i + 1) && !(q.1 + 1 == i && q.2.category == 2))) = lv') (k : AW E lay nL Qc F (pc + 2) lv' st M) : AW E lay nL Qc F pc lv (.long x :: st) M := fun t ht H locs ls hS hh => lv_lstore C.1 C.2.1 hd hh hn (am_st2 (v := .long x) hl) (fun ls' hh' => k t ht H locs ls' hS hh')
theorem aw_iinc (C : amC E d cc nL own) {i : Nat} {n : Int} {x v : Int32} (lv' : List (Nat × Value)) (hd : decode cc pc = .ok (.iinc i n, 3)) (h : lv.find? (fun q => q.1 == i) = some (i, .int x)) (hn : i < nL) (hv : Int32.ofInt n = v) (hl : (i, Value.int (x + v)) :: lv.filter (fun q => !(q.1 == i) && !(q.1 + 1 == i && q.2.category == 2)) = lv') (k : AW E lay nL Qc F (pc + 3) lv' st M) : AW E lay nL Qc F pc lv st M := by
  intro t ht H locs ls hS hh
  obtain ⟨j, hj⟩ : ∃ j, (lv.map (fun q => (q.1, cv (eX E) q.2)))[j]? = some (i, Value.int x) := by
    have hm := List.mem_of_find?_eq_some h
    obtain ⟨j, hj, e⟩ := List.mem_iff_getElem.mp (List.mem_map.mpr ⟨(i, Value.int x), hm, rfl⟩ : (i, cv (eX E) (.int x)) ∈ lv.map (fun q => (q.1, cv (eX E) q.2)))
    exact ⟨j, by rw [List.getElem?_eq_getElem hj, e]; rfl⟩
  exact lv_iinc C.1 C.2.1 hd hh hj (by rw [hv]) hn (am_st1 (v := .int (x + v)) hl) (fun ls' hh' => k t ht H locs ls' hS hh')
end AR
