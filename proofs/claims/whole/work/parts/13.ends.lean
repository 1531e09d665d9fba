/-! contracts over places -/
def amB (lay : List lyE) (D : va_G) (K : amK) (A : Nat → Prop) (ad : Nat → Nat) (M : Mem) (t : State) : Prop := va_P D vwCl (ly_w K ad M lay) t.heap ∧ va_K D vwCl (am_tys K) t ∧ va_D A (ly_w K ad M lay)
def qI (lay : List lyE) : amQ (Int32 × Mem) := fun D K A ad t => va_Qi (fun r M' => (r, M') = t) (amB lay D K A ad) A
def qL (lay : List lyE) : amQ (Int64 × Mem) := fun D K A ad t => va_Ql (fun r M' => (r, M') = t) (amB lay D K A ad) A
def qV (lay : List lyE) : amQ Mem := fun D K A ad t => va_Qv (fun M' => M' = t) (amB lay D K A ad) A
def qR (lay : List lyE) : amQ (Nat × Mem) := fun D K A ad t => va_Qr (fun u : Nat × Mem => u = t) (fun u a st => a = ad u.1 ∧ amB lay D K A ad u.2 st) A
def qIp (lay : List lyE) (M : Mem) : amQ Int32 := fun D K A ad r => qI lay D K A ad (r, M)
def qLp (lay : List lyE) (M : Mem) : amQ Int64 := fun D K A ad r => qL lay D K A ad (r, M)
def qRp (lay : List lyE) (M : Mem) : amQ Nat := fun D K A ad r => qR lay D K A ad (r, M)
def amPc (lay : List lyE) (D : va_G) (K : amK) (ad : Nat → Nat) (sz : Nat) (av : List Value) (M : Mem) : Array Value → State → Prop :=
  va_Pc (av.map (cv ad)) (fun U => U.heap.size = sz ∧ va_P D vwCl (ly_w K ad M lay) U.heap ∧ va_K D vwCl (am_tys K) U ∧ va_D (fun _ => True) (ly_w K ad M lay) ∧ am_St ad (va_A (ly_w K ad M lay) sz) U U.heap)
def AMet (d : Nat) (y : MethodName) (b : ByteArray) (n : Nat) (ret : Option FieldType) (lay : List lyE) (av : List Value) (M : Mem) {ρ : Type} (Qc : amQ ρ) (F : Option ρ) : Prop :=
  ∀ (l : Launch) (D : va_G) (K : amK) (ad : Nat → Nat) (sz : Nat) (t : ρ), F = some t → Met l y (wT y b n ret) (rmD d) (amPc lay D K ad sz av M) (Qc D K (va_A (ly_w K ad M lay) sz) ad t) 0 0 (va_A (ly_w K ad M lay) sz)
theorem amPc_blind {lay : List lyE} {D : va_G} {K : amK} {ad : Nat → Nat} {sz : Nat} {av : List Value} {M : Mem} : FrameBlind (amPc lay D K ad sz av M) := by
  intro a U g mk q
  obtain ⟨q0, q1, qP, qK, qD, qS⟩ := q
  exact ⟨q0, q1, qP, va_K.moved (u := U) (U := U.calling g mk a) (Vm.Alike.refl U.vm) qK, qD, am_St.same (u := U) (U := U.calling g mk a) qS rfl⟩
theorem am_sl (ad : Nat → Nat) : ∀ av : List Value, (lg_sl (av.map (cv ad))).length = (lg_sl av).length
  | [] => rfl
  | v :: r => by
    have ih := am_sl ad r
    simp only [lg_sl] at ih ⊢
    simp only [List.map_cons, List.flatMap_cons, List.length_append, cv_cat]
    rw [ih]
    by_cases h : v.category = 2
    · simp [h]
    · simp [h]
theorem am_args (ad : Nat → Nat) : ∀ (av : List Value) (i : Nat), lv_args i (av.map (cv ad)) = (lv_args i av).map (fun q => (q.1, cv ad q.2))
  | [], i => rfl
  | v :: r, i => by
    simp only [List.map_cons, lv_args, cv_cat]
    rw [am_args ad r]
theorem am_ent {d : Nat} {y : MethodName} {b : ByteArray} {n : Nat} {ret : Option FieldType} {lay : List lyE} {av : List Value} {M : Mem} {ρ : Type} {Qc : amQ ρ} {F : Option ρ} (hy : plainName y.cls = true) (hn : (lg_sl av).length ≤ n)
    (h : ∀ E : amE, amC E d b n y.cls → (eH E).sig.returnType = ret → AW E lay n Qc F 0 (lv_args 0 av) [] M) : AMet d y b n ret lay av M Qc F := by
  intro l D K ad sz t ht
  refine Met.ofW (cc := b) (maxL := n) (ret := ret) hy rfl ?_
  intro p e s m args below meth c s₁ B hml hv
  obtain ⟨rfl, hsz, hP, hK, hD0, hSt⟩ := hv
  have hts := atoms_spec (ws := wT y b n ret) B.pre
  have hown : s.vm.findClass y.cls = some m.cls := findClass_of_methodNamed B.named
  have hlocks := B.notSynchronized
  subst hsz
  have hD := hD0.self (sz := s.heap.size)
  have hS : va_S (va_A (ly_w K ad M lay) s.heap.size) s.heap s.heap [] := va_S.rf
  have hA : ∀ q : Nat, s.heap.size ≤ q → va_A (ly_w K ad M lay) s.heap.size q := fun q h => Or.inr h
  have hl := lv_entry (av.map (cv ad)) (n := n) (by rw [am_sl]; exact hn)
  rw [lg_entry_eq]
  generalize (lg_sl (av.map (cv ad)) ++ List.replicate (n - (lg_sl (av.map (cv ad))).length) Slot.unset).toArray = ls at hl ⊢
  rw [am_args] at hl
  exact h (p, l, e, (headSpec (wT y b n ret) (rmD d)).room, s, m, (av.map (cv ad)).toArray, below, meth, c, D, K, va_A (ly_w K ad M lay) s.heap.size, ad)
    ⟨B.exec, B.bytes, hml, hown, fun w hw => hts w (List.mem_cons_of_mem _ hw), hlocks, hK, hA, hSt, Nat.le_refl _, Nat.le_refl _⟩ B.returns t ht s.heap [] ls ⟨hP, hD, hS⟩ hl
section AR
variable {E : amE} {lay : List lyE} {d nL : Nat} {cc : ByteArray} {own : String} {ρ : Type} {Qc : amQ ρ} {F F1 F2 : Option ρ} {pc : Nat} {lv : List (Nat × Value)} {st : List Value} {M : Mem}
/-! the ends -/
theorem am_end (C : amC E d cc nL own) {H : Heap} {locs : List Loc} (hS : amS E lay M H locs) (t : State) (ht : t.heap = H) (hW : (eS E).WarmedH t.vm) : amB lay (eD E) (eK E) (eF E) (eX E) M t ∧ va_F (eF E) (eS E) t :=
  ⟨⟨by rw [ht]; exact hS.1, va_K.moved hW.alike C.2.2.2.2.2.2.1, hS.2.1⟩, hS.2.2.F ht⟩
theorem aw_iret (C : amC E d cc nL own) {v : Int32} (hr : (eH E).sig.returnType = some .int) (dg : decode cc pc = .ok (.ireturn, 1)) : AW E lay nL (qI lay) (some (v, M)) pc lv [.int v] M := by
  intro t ht H locs ls hS hh
  cases ht
  exact W.iret C.1 C.2.1 hr (fun t ht hW => ⟨⟨v, M, rfl, rfl, (am_end C hS t ht hW).1⟩, (am_end C hS t ht hW).2⟩) hS.2.2.2.2 dg C.2.2.2.2.2.1
theorem aw_iretp (C : amC E d cc nL own) {v : Int32} (hr : (eH E).sig.returnType = some .int) (dg : decode cc pc = .ok (.ireturn, 1)) : AW E lay nL (qIp lay M) (some v) pc lv [.int v] M := by
  intro t ht H locs ls hS hh
  cases ht
  exact W.iret C.1 C.2.1 hr (fun t ht hW => ⟨⟨v, M, rfl, rfl, (am_end C hS t ht hW).1⟩, (am_end C hS t ht hW).2⟩) hS.2.2.2.2 dg C.2.2.2.2.2.1
theorem aw_zret (C : amC E d cc nL own) {v : Int32} (hv : v = 0 ∨ v = 1) (hr : (eH E).sig.returnType = some .boolean) (dg : decode cc pc = .ok (.ireturn, 1)) : AW E lay nL (qI lay) (some (v, M)) pc lv [.int v] M := by
  intro t ht H locs ls hS hh
  cases ht
  exact W.zret C.1 C.2.1 hr (by rcases hv with rfl | rfl <;> rfl) (fun t ht hW => ⟨⟨v, M, rfl, rfl, (am_end C hS t ht hW).1⟩, (am_end C hS t ht hW).2⟩) hS.2.2.2.2 dg C.2.2.2.2.2.1
theorem aw_zretp (C : amC E d cc nL own) {v : Int32} (hv : v = 0 ∨ v = 1) (hr : (eH E).sig.returnType = some .boolean) (dg : decode cc pc = .ok (.ireturn, 1)) : AW E lay nL (qIp lay M) (some v) pc lv [.int v] M := by
  intro t ht H locs ls hS hh
  cases ht
  exact W.zret C.1 C.2.1 hr (by rcases hv with rfl | rfl <;> rfl) (fun t ht hW => ⟨⟨v, M, rfl, rfl, (am_end C hS t ht hW).1⟩, (am_end C hS t ht hW).2⟩) hS.2.2.2.2 dg C.2.2.2.2.2.1
theorem aw_zretg (C : amC E d cc nL own) {v : Int32} (hr : (eH E).sig.returnType = some .boolean) (dg : decode cc pc = .ok (.ireturn, 1)) : AW E lay nL (qI lay) (if v = 0 ∨ v = 1 then some (v, M) else none) pc lv [.int v] M := aw_ite (fun hv => aw_zret C hv hr dg) (fun _ => aw_none)
theorem aw_zretgp (C : amC E d cc nL own) {v : Int32} (hr : (eH E).sig.returnType = some .boolean) (dg : decode cc pc = .ok (.ireturn, 1)) : AW E lay nL (qIp lay M) (if v = 0 ∨ v = 1 then some v else none) pc lv [.int v] M := aw_ite (fun hv => aw_zretp C hv hr dg) (fun _ => aw_none)
theorem aw_lret (C : amC E d cc nL own) {v : Int64} (hr : (eH E).sig.returnType = some .long) (dg : decode cc pc = .ok (.lreturn, 1)) : AW E lay nL (qL lay) (some (v, M)) pc lv [.long v] M := by
  intro t ht H locs ls hS hh
  cases ht
  exact W.lret C.1 C.2.1 hr (fun t ht hW => ⟨⟨v, M, rfl, rfl, (am_end C hS t ht hW).1⟩, (am_end C hS t ht hW).2⟩) hS.2.2.2.2 dg C.2.2.2.2.2.1
theorem aw_lretp (C : amC E d cc nL own) {v : Int64} (hr : (eH E).sig.returnType = some .long) (dg : decode cc pc = .ok (.lreturn, 1)) : AW E lay nL (qLp lay M) (some v) pc lv [.long v] M := by
  intro t ht H locs ls hS hh
  cases ht
  exact W.lret C.1 C.2.1 hr (fun t ht hW => ⟨⟨v, M, rfl, rfl, (am_end C hS t ht hW).1⟩, (am_end C hS t ht hW).2⟩) hS.2.2.2.2 dg C.2.2.2.2.2.1
theorem aw_vret (C : amC E d cc nL own) (hr : (eH E).sig.returnType = none) (dg : decode cc pc = .ok (.return_, 1)) : AW E lay nL (qV lay) (some M) pc lv [] M := by
  intro t ht H locs ls hS hh
  cases ht
  exact W.vret C.1 C.2.1 hr (fun t ht hW => ⟨⟨M, rfl, rfl, (am_end C hS t ht hW).1⟩, (am_end C hS t ht hW).2⟩) hS.2.2.2.2 dg C.2.2.2.2.2.1
theorem aw_aret (C : amC E d cc nL own) {q : Nat} {rt : FieldType} (hr : (eH E).sig.returnType = some rt) (hrt : (∃ n, rt = .object n) ∨ ∃ t, rt = .array t) (dg : decode cc pc = .ok (.areturn, 1)) : AW E lay nL (qR lay) (some (q, M)) pc lv [.ref q] M := by
  intro t ht H locs ls hS hh
  cases ht
  exact W.aret C.1 C.2.1 hr hrt (Or.inr ⟨_, rfl⟩) (fun t ht hW => ⟨⟨(q, M), eX E q, rfl, rfl, rfl, (am_end C hS t ht hW).1⟩, (am_end C hS t ht hW).2⟩) hS.2.2.2.2 dg C.2.2.2.2.2.1
theorem aw_aretp (C : amC E d cc nL own) {q : Nat} {rt : FieldType} (hr : (eH E).sig.returnType = some rt) (hrt : (∃ n, rt = .object n) ∨ ∃ t, rt = .array t) (dg : decode cc pc = .ok (.areturn, 1)) : AW E lay nL (qRp lay M) (some q) pc lv [.ref q] M := by
  intro t ht H locs ls hS hh
  cases ht
  exact W.aret C.1 C.2.1 hr hrt (Or.inr ⟨_, rfl⟩) (fun t ht hW => ⟨⟨(q, M), eX E q, rfl, rfl, rfl, (am_end C hS t ht hW).1⟩, (am_end C hS t ht hW).2⟩) hS.2.2.2.2 dg C.2.2.2.2.2.1
end AR
