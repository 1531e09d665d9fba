/-- The instruction multianewarray at two dimensions (8, then 40 ints), proved over the machine itself. mnRow: one row; mnOut: the outer array with its first i rows in place; mnSt: the state behind i rows. -/
def mnRow (b : ClassId) : Cell := { cls := b, slots := Array.replicate 40 (.int 0), vm := .none }
def mnOut (a : ClassId) (h : Nat) : Nat → Cell
  | 0 => { cls := a, slots := Array.replicate 8 .null, vm := .none }
  | i + 1 => (mnOut a h i).setSlot i (.ref (h + 1 + i))
def mnSt (s : State) (a b : ClassId) : Nat → State
  | 0 => s.pushCell (mnOut a s.heap.size 0)
  | i + 1 => ((mnSt s a b i).pushCell (mnRow b)).setCell s.heap.size (mnOut a s.heap.size (i + 1))
theorem mnOut_cls (a : ClassId) (h : Nat) : ∀ i, (mnOut a h i).cls = a
  | 0 => rfl
  | i + 1 => mnOut_cls a h i
theorem mnOut_vm (a : ClassId) (h : Nat) : ∀ i, (mnOut a h i).vm = .none
  | 0 => rfl
  | i + 1 => mnOut_vm a h i
theorem mnOut_size (a : ClassId) (h : Nat) : ∀ i, (mnOut a h i).slots.size = 8
  | 0 => by simp [mnOut]
  | i + 1 => by
    have := mnOut_size a h i
    simp [mnOut, Cell.setSlot, this]
theorem mnRow_size (b : ClassId) : (mnRow b).slots.size = 40 := by simp [mnRow]
theorem mnSt_vm (s : State) (a b : ClassId) : ∀ i, (mnSt s a b i).vm = s.vm
  | 0 => rfl
  | i + 1 => mnSt_vm s a b i
theorem mnSt_size (s : State) (a b : ClassId) : ∀ i, (mnSt s a b i).heap.size = s.heap.size + 1 + i
  | 0 => by simp [mnSt]
  | i + 1 => by
    have := mnSt_size s a b i
    simp [mnSt, this]
    omega
theorem mnSt_used (s : State) (a b : ClassId) : ∀ i, (mnSt s a b i).slotsUsed = s.slotsUsed + 8 + 40 * i
  | 0 => by simp [mnSt, mnOut]
  | i + 1 => by
    have := mnSt_used s a b i
    simp [mnSt, this, mnRow]
    omega
theorem mnSt_out (s : State) (a b : ClassId) : ∀ i, (mnSt s a b i).heap[s.heap.size]? = some (mnOut a s.heap.size i)
  | 0 => by simp [mnSt]
  | i + 1 => by
    have h := mnSt_size s a b i
    show (((mnSt s a b i).heap.push (mnRow b)).setIfInBounds s.heap.size (mnOut a s.heap.size (i + 1)))[s.heap.size]? = _
    rw [Array.getElem?_setIfInBounds_self_of_lt (by rw [Array.size_push]; omega)]
theorem mnSt_else (s : State) (a b : ClassId) (i x : Nat) (hx : x ≠ s.heap.size) (hl : x < s.heap.size + 1 + i) : (mnSt s a b (i + 1)).heap[x]? = (mnSt s a b i).heap[x]? := by
  have h := mnSt_size s a b i
  show (((mnSt s a b i).heap.push (mnRow b)).setIfInBounds s.heap.size (mnOut a s.heap.size (i + 1)))[x]? = _
  rw [Array.getElem?_setIfInBounds_ne (fun e => hx e.symm), Array.getElem?_push, if_neg (by omega)]
theorem mnSt_old (s : State) (a b : ClassId) (x : Nat) (hx : x < s.heap.size) : ∀ i, (mnSt s a b i).heap[x]? = s.heap[x]?
  | 0 => by
    show (s.heap.push _)[x]? = _
    rw [Array.getElem?_push, if_neg (by omega)]
  | i + 1 => (mnSt_else s a b i x (by omega) (by omega)).trans (mnSt_old s a b x hx i)
theorem mnSt_row (s : State) (a b : ClassId) (j : Nat) : ∀ i, j < i → (mnSt s a b i).heap[s.heap.size + 1 + j]? = some (mnRow b)
  | 0, h => absurd h (Nat.not_lt_zero _)
  | i + 1, hj => by
    have h := mnSt_size s a b i
    by_cases e : j = i
    · subst e
      show (((mnSt s a b j).heap.push (mnRow b)).setIfInBounds s.heap.size (mnOut a s.heap.size (j + 1)))[s.heap.size + 1 + j]? = _
      rw [Array.getElem?_setIfInBounds_ne (by omega), Array.getElem?_push, if_pos (by omega)]
    · exact (mnSt_else s a b i _ (by omega) (by omega)).trans (mnSt_row s a b j i (by omega))
theorem mnSt_setTop (s : State) (a b : ClassId) (f : JFrame) : ∀ i, mnSt (s.setTop f) a b i = (mnSt s a b i).setTop f
  | 0 => rfl
  | i + 1 => by
    show ((mnSt (s.setTop f) a b i).pushCell (mnRow b)).setCell s.heap.size (mnOut a s.heap.size (i + 1)) = _
    rw [mnSt_setTop s a b f i]
    rfl
section MN
variable {E : CtlPost} {e : Env} {d : Bool} {acts : List Action} {s : State}
theorem mn_neg : ¬ (8 : Int32) < 0 := by decide
theorem mn_neg2 : ¬ (40 : Int32) < 0 := by decide
theorem mn_n8 : (8 : Int32).toNatClampNeg = 8 := by decide
theorem mn_n40 : (40 : Int32).toNatClampNeg = 40 := by decide
/-- one row -/
theorem mn_make1 {b x : ClassId} {kb : Class} {Q : Addr → Pre} (hk : s.vm.classes[b]? = some kb) (hkind : kb.kind = .array x .int)
    (hl : 40 ≤ e.platform.arrayLengthLimit) (hh : 160 ≤ e.platform.maxHeapBytes) (hc : s.heap.size < e.platform.maxCells) (hs : s.slotsUsed + 40 ≤ e.platform.maxSlots)
    (hq : ∀ acts', Q s.heap.size d acts' (s.pushCell (mnRow b))) : wp (Op.multianewarray.make b [40]) Q E e d acts s := by
  rw [Op.multianewarray.make]
  simp only [wp_bind', W.ite, mn_neg2, if_false, wp_pure', W.theClass, hk, hkind, Option.some.injEq, exists_eq_left', mn_n40]
  exact Jvm.W.newArray_of hk hkind (by omega) (by show ¬ 40 * 4 > _; omega) hc hs rfl hq
/-- the whole -/
theorem mn_make2 {a b x : ClassId} {ka kb : Class} {Q : Addr → Pre} (hka : s.vm.classes[a]? = some ka) (hkinda : ka.kind = .array b (.array .int)) (hkb : s.vm.classes[b]? = some kb) (hkindb : kb.kind = .array x .int)
    (hl : 40 ≤ e.platform.arrayLengthLimit) (hh : 160 ≤ e.platform.maxHeapBytes) (hc : s.heap.size + 9 ≤ e.platform.maxCells) (hs : s.slotsUsed + 328 ≤ e.platform.maxSlots)
    (hq : ∀ d' acts', Q s.heap.size d' acts' (mnSt s a b 8)) : wp (Op.multianewarray.make a [8, 40]) Q E e d acts s := by
  rw [Op.multianewarray.make]
  simp only [wp_bind', W.ite, mn_neg, if_false, wp_pure', W.theClass, hka, hkinda, Option.some.injEq, exists_eq_left', mn_n8]
  refine Jvm.W.newArray_of hka hkinda (by omega) (by show ¬ 8 * 4 > _; omega) (by omega) (by omega) rfl (fun acts' => ?_)
  have e0 : ((8 : Int32) == 0) = false := by decide
  simp only [e0, Bool.false_eq_true, if_false, wp_pure', wp_bind', Std.Legacy.Range.forIn_eq_forIn_range']
  refine wp_forIn_inv (fun rest s' => ∃ i : Nat, i ≤ 8 ∧ rest = List.range' i (8 - i) ∧ s' = mnSt s a b i) _ _ ⟨0, by omega, rfl, rfl⟩ ?_ ?_
  · rintro y rest s' d' acts1 Q' ⟨i, hi, hr, rfl⟩ hk
    have hi8 : i < 8 := by
      rcases Nat.lt_or_ge i 8 with h | h
      · exact h
      · rw [show 8 - i = 0 by omega] at hr
        cases hr
    rw [show 8 - i = (8 - (i + 1)) + 1 by omega, List.range'_succ] at hr
    obtain ⟨rfl, rfl⟩ := List.cons.inj hr
    have hsz := mnSt_size s a b y
    have hus := mnSt_used s a b y
    have hvm := mnSt_vm s a b y
    simp only [wp_bind']
    refine mn_make1 (b := b) (kb := kb) (x := x) (by rw [hvm]; exact hkb) hkindb hl hh (by omega) (by omega) (fun acts2 => ?_)
    simp only [wp_bind', W.writeLoc, wp_pure']
    have ho : ((mnSt s a b y).pushCell (mnRow b)).heap[s.heap.size]? = some (mnOut a s.heap.size y) := by
      show ((mnSt s a b y).heap.push (mnRow b))[s.heap.size]? = _
      rw [Array.getElem?_push, if_neg (by omega)]
      exact mnSt_out s a b y
    refine ⟨mnOut a s.heap.size y, ho, ?_, ?_, ?_, ?_⟩
    · rw [mnOut_vm]
      intro h
      cases h
    · rw [mnOut_size]
      exact hi8
    · rw [mnOut_vm, mnOut_cls]
      have hk1 : ((mnSt s a b y).pushCell (mnRow b)).vm.classes[a]? = some ka := by
        show (mnSt s a b y).vm.classes[a]? = _
        rw [hvm]
        exact hka
      simp [State.fitsSlot, State.slotType?, hvm, hka, hkinda]
      rfl
    · rw [hsz]
      exact hk _ _ _ ⟨y + 1, by omega, rfl, rfl⟩
  · rintro s' d' acts1 ⟨i, hi, hr, rfl⟩
    have h8 : i = 8 := by
      rcases Nat.lt_or_ge i 8 with h | h
      · rw [show 8 - i = (8 - (i + 1)) + 1 by omega, List.range'_succ] at hr
        cases hr
      · omega
    subst h8
    exact hq _ _
end MN
/-- what 'int[][] is an array class over int[]' says -/
theorem mn_over {args : Array Value} {s : State} (h : (Cond.arrayOver (.array .int)).before args s = true) :
    ∃ (b a : ClassId) (k : Class), s.vm.findClass (FieldType.array .int).toString = some b ∧ s.vm.classes[a]? = some k ∧ k.kind = .array b (.array .int) ∧ s.vm.findClass ("[" ++ (FieldType.array .int).toString) = some a := by
  unfold Cond.before Cond.holds at h
  simp only [Cond.value, beq_iff_eq] at h
  cases hc : s.vm.findClass (FieldType.array .int).toString with
  | none => simp [hc] at h
  | some b =>
    rw [hc, Option.bind_some] at h
    obtain ⟨a, h2, h⟩ := Option.bind_eq_some_iff.mp h
    obtain ⟨k, h3, h4⟩ := Option.map_eq_some_iff.mp h
    have hf := Array.findIdx?_eq_some_iff_getElem.mp h2
    obtain ⟨hlt, hp, -⟩ := hf
    have hka : s.vm.classes[a] = k := by
      have := (Array.getElem?_eq_some_iff.mp h3).2
      exact this
    rw [hka] at hp
    cases hkk : k.kind with
    | array c ty =>
      rw [hkk] at hp h4
      simp at hp h4
      exact ⟨b, a, k, rfl, h3, by rw [hkk, hp, h4.1], h4.2⟩
    | _ => rw [hkk] at hp; simp at hp
section MN2
variable {p : Program} {l : Launch} {e : Env} {R : Room} {s : State} {m : MethodId} {args : Array Value} {below : List Frame} {meth : Method} {c : Code} {T : State} {locs : List Loc} {cells slots : Nat}
theorem mn_stand (X : Stand p l e R s m args below meth c T locs cells slots) (a b : ClassId) : ∀ i : Nat, Stand p l e R s m args below meth c (mnSt T a b i) locs (cells + 1 + i) (slots + 8 + 40 * i)
  | 0 => by
    have h := X.pushed (mnOut a T.heap.size 0)
    rw [mnOut_size] at h
    exact h
  | i + 1 => by
    have h1 := (mn_stand X a b i).pushed (mnRow b)
    rw [mnRow_size] at h1
    have hsz := mnSt_size T a b i
    have ho : ((mnSt T a b i).pushCell (mnRow b)).heap[T.heap.size]? = some (mnOut a T.heap.size i) := by
      show ((mnSt T a b i).heap.push (mnRow b))[T.heap.size]? = _
      rw [Array.getElem?_push, if_neg (by omega)]
      exact mnSt_out T a b i
    have h2 := h1.stored ho i (.ref (T.heap.size + 1 + i))
    have hle : s.heap.size ≤ T.heap.size := X.same.2.1
    have h3 : Stand p l e R s m args below meth c (mnSt T a b (i + 1)) locs (cells + 1 + i + 1) (slots + 8 + 40 * i + 40) :=
      ⟨h2.admits, h2.cas, h2.clock, h2.frames, h2.room, h2.hears, h2.method, h2.code, h2.here, h2.tail, h2.warmed, h2.limits, h2.bytes,
        h2.same.weaken (fun x hx hb => by
          rcases List.mem_append.mp hx with h | h
          · exact h
          · rw [List.mem_singleton.mp h] at hb
            exact absurd hb (Nat.not_lt.mpr hle)) (Nat.le_refl _) (Nat.le_refl _)⟩
    rw [show cells + 1 + (i + 1) = cells + 1 + i + 1 by omega, show slots + 8 + 40 * (i + 1) = slots + 8 + 40 * i + 40 by omega]
    exact h3
/-- new int[8][40] in one step -/
theorem mn_step (X : Stand p l e R s m args below meth c T locs cells slots) (hexec : p.tables.exec = Jvm.exec) {own : String} {index : Nat}
    (hown : s.vm.findClass own = some m.cls) (hclink : (Cond.classLink own index "[[I").before args s = true) (hover : (Cond.arrayOver (.array .int)).before args s = true) (harr : (Cond.arrayClass .int).before args s = true)
    {g : JFrame} (hg : g.method = m) (hdg : decode c.code g.pc = .ok (.multianewarray index 2, 4)) {rest : List Value} (hstack : g.stack = .int 40 :: .int 8 :: rest)
    (hcells : cells + 9 ≤ R.cells) (hslots : slots + 328 ≤ R.slots) :
    ∃ (vm₁ : Vm) (a b : ClassId), s.vm.findClass "[[I" = some a ∧ s.vm.findClass "[I" = some b ∧
      Stand p l e R s m args below meth c (mnSt (T.setVm vm₁) a b 8) locs (cells + 9) (slots + 328) ∧
      ∀ target, Steps p.tables e below ((mnSt (T.setVm vm₁) a b 8).setTop { g with pc := g.pc + 4, stack := .ref T.heap.size :: rest }) target → Steps p.tables e below (T.setTop g) target := by
  subst hg
  have hpl : e.platform.magicAccessors = ({} : Platform).magicAccessors := by rw [X.admits.platform]
  obtain ⟨b, a, ka, hb, hka, hkinda, ha⟩ := mn_over hover
  have n1 : (FieldType.array .int).toString = "[I" := by decide
  have n2 : ("[" ++ (FieldType.array .int).toString) = "[[I" := by decide
  have n3 : ("[" ++ FieldType.int.toString) = "[I" := by decide
  rw [n1] at hb
  rw [n2] at ha
  obtain ⟨b', kb, x, hb', hkb, hkindb⟩ := Cond.arrayClass_spec harr
  rw [n3] at hb'
  cases hb.symm.trans hb'
  obtain ⟨a', hfa, hcl⟩ := Cond.classLink_spec hown hclink e.platform hpl
  cases ha.symm.trans hfa
  obtain ⟨hg₁, hwarm₁, hready₁⟩ := State.classEntry (e := e) X.warmed hcl
  have hsz : (T.vm.noted g.method.cls index (.cls a)).classes.size ≤ T.vm.classes.size := by simp
  generalize T.vm.noted g.method.cls index (.cls a) = vm₁ at hg₁ hwarm₁ hready₁ hsz
  have hal : s.vm.Alike vm₁ := hwarm₁.alike
  obtain ⟨ka₁, hka₁, hea⟩ := hal.2.2 _ _ hka
  have hkinda₁ : ka₁.kind = .array b (.array .int) := by rw [hea]; exact hkinda
  obtain ⟨kb₁, hkb₁, heb⟩ := hal.2.2 _ _ hkb
  have hkindb₁ : kb₁.kind = .array x .int := by rw [heb]; exact hkindb
  have hl : 40 ≤ e.platform.arrayLengthLimit := by rw [Launch.admits_arrayLengthLimit X.admits]; decide
  have hh : 160 ≤ e.platform.maxHeapBytes := by rw [Launch.admits_maxHeapBytes X.admits]; decide
  have X₂ := mn_stand (X.noted hwarm₁) a b 8
  obtain ⟨hr1, hr2⟩ := X.roomAbove hcells hslots
  refine ⟨vm₁, a, b, ha, hb, X₂, fun target hrest => ?_⟩
  refine Steps.instr (c := _) (by simpa using X.here) ?_
  simp only [jvm, wpRun, exec, X.here.top, hexec, hdg]
  have ht : (T.setVm vm₁).topJava?.isSome := X.here.top
  simp only [multianewarray.sem, wp_bind']
  refine (W.resolveClassAt_transfer (s := T.setTop g) (State.method?_setTop g X.here.top) hg₁ hready₁ hsz).mpr ?_
  refine (W.resolveClassAt_ready (s := (T.setVm vm₁).setTop g) (State.method?_setTop g ht) hready₁).mpr ?_
  simp only [wp_bind']
  refine (popN_top (args := [.int 8, .int 40]) (rest := rest) ht hstack).mpr ?_
  simp only [List.mapM_cons, List.mapM_nil, pure_bind, wp_bind', wp_pure']
  refine mn_make2 (ka := ka₁) (kb := kb₁) (x := x) hka₁ hkinda₁ hkb₁ hkindb₁ hl hh hr1 hr2 (fun d' acts' => ?_)
  simp only [W.mark, W.pushRef, wp_bind']
  simp only [mnSt_setTop]
  have hz : (T.setVm vm₁).heap.size = T.heap.size := rfl
  simp [jvm, X₂.here.top]
  exact hrest
end MN2
