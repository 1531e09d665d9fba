/-! what the tables say of a callee, by its kind -/
def amV (y : MethodName) (b : ByteArray) (n : Nat) (ret : Option FieldType) (Cn : String) (np : Nat) : Prop := Cond.code y b n ret ∈ lw_t ∧ Cond.instanceMethod y ∈ lw_t ∧ Cond.selects Cn y y ∈ lw_t ∧ Cond.initialized Cn ∈ lw_t ∧ (y.cls = Cn ∧ y.cls ≠ "java/lang/invoke/MethodHandle" ∧ y.cls ≠ "java/lang/invoke/VarHandle" ∧ (parseMethodDescriptor y.desc).map (fun d => d.parameters.length) = some np) ∧ n ≤ 45
def amT (y : MethodName) (b : ByteArray) (n : Nat) (ret : Option FieldType) (np : Nat) : Prop := Cond.code y b n ret ∈ lw_t ∧ Cond.static y ∈ lw_t ∧ Cond.initialized y.cls ∈ lw_t ∧ (y.cls ≠ "java/lang/invoke/MethodHandle" ∧ y.cls ≠ "java/lang/invoke/VarHandle" ∧ (parseMethodDescriptor y.desc).map (fun d => d.parameters.length) = some np) ∧ n ≤ 45
theorem am_wsV {y : MethodName} {b : ByteArray} {n np idx : Nat} {ret : Option FieldType} {Cn own : String} (hy : amV y b n ret Cn np) (hl : Cond.methodLink own idx y ∈ lw_t) : GoodIn lw_t (wsV own idx Cn y (wT y b n ret)) := by
  intro w hw
  unfold wsV at hw
  rcases List.mem_append.mp hw with h | h
  · have hm : w ∈ lw_t := by
      simp only [List.mem_cons, List.not_mem_nil, or_false] at h
      rcases h with rfl | rfl | rfl | rfl
      · exact hl
      · exact hy.2.1
      · exact hy.2.2.1
      · exact hy.2.2.2.1
    exact ⟨hm, good_of_word (List.mem_filter.mp hm).2⟩
  · exact wT_good hy.1 w h
section AR
variable {E : amE} {lay : List lyE} {d nL : Nat} {cc : ByteArray} {own : String} {ρ : Type} {Qc : amQ ρ} {F F1 F2 : Option ρ} {pc : Nat} {lv : List (Nat × Value)} {st : List Value} {M : Mem}
theorem am_free (C : amC E d cc nL own) {H : Heap} {locs : List Loc} (hS : amS E lay M H locs) : ∀ q, va_A (ly_w (eK E) (eX E) M lay) H.size q → eF E q := by
  intro q h
  rcases h with ⟨k, e, hk⟩ | h
  · exact hS.2.1.2 k _ hk
  · exact C.2.2.2.2.2.2.2.1 q (Nat.le_trans hS.2.2.1 h)
theorem am_pre (C : amC E d cc nL own) {H : Heap} {locs : List Loc} (hS : amS E lay M H locs) (av : List Value) (U : State) (hU : U.heap = H) (hW : (eS E).WarmedH U.vm) : amPc lay (eD E) (eK E) (eX E) H.size av M (av.map (cv (eX E))).toArray U := by
  refine ⟨rfl, by rw [hU], by rw [hU]; exact hS.1, va_K.moved hW.alike C.2.2.2.2.2.2.1, hS.2.1.weaken (fun _ _ _ _ => trivial), ?_⟩
  rw [hU]
  exact C.2.2.2.2.2.2.2.2.1.go hW (fun a ha hn => hS.2.2.2.1 a ha hn) (am_free C hS)
theorem am_after (C : amC E d cc nL own) {H H1 : Heap} {locs locs1 : List Loc} {M' : Mem} {t : State} (hS : amS E lay M H locs) (ht : t.heap = H1) (hB : amB lay (eD E) (eK E) (va_A (ly_w (eK E) (eX E) M lay) H.size) (eX E) M' t) (hS1 : va_S (eF E) (eS E).heap H1 locs1) : amS E lay M' H1 locs1 := by
  obtain ⟨b1, -, b3⟩ := hB
  rw [ht] at b1
  exact ⟨b1, b3.weaken (fun _ _ _ h => am_free C hS _ h), hS1⟩
theorem am_catl (ad : Nat → Nat) : ∀ st : List Value, ((st.map (cv ad)).map fun v => v.category).sum = (st.map fun v => v.category).sum
  | [] => rfl
  | v :: r => by simp only [List.map_cons, List.sum_cons, cv_cat]; rw [am_catl ad r]
theorem am_runV (C : amC E d cc nL own) {y : MethodName} {b : ByteArray} {n np idx dc ci N q : Nat} {ret : Option FieldType} {Cn : String} {T : u_T} {fs : List (Option Nat)} {As rest : List Value} {σ : Type} {Qy : amQ σ} {G : Option σ} {u : σ} {H : Heap} {locs : List Loc} {ls : Array Slot}
    (hG : G = some u) (hS : amS E lay M H locs) (hh : lv_has ls nL (lv.map (fun q => (q.1, cv (eX E) q.2)))) (hM : AMet dc y b n ret lay (.ref q :: As) M Qy G) (hy : amV y b n ret Cn np) (hl : Cond.methodLink own idx y ∈ lw_t) (hdc : dc + 1 ≤ d) (hq : lay[q]? = some (.inl (ci, fs))) (hcl : vwCl[ci]? = some (Cn, T, N)) (hn : As.length = np) (hst : st = As.reverse ++ .ref q :: rest) (hr : (rest.map fun v => v.category).sum ≤ 8) (dg : decode cc pc = .ok (.invokevirtual idx, 3)) :
    va_Run (eP E) (eL E) (eE E) (eR E) (eS E) (eM E) (eA E) (eB E) (eH E) (eC E) H locs 0 0 0 0 (F0 (eM E) pc ls (st.map (cv (eX E)))) (rest.map (cv (eX E))) (Qy (eD E) (eK E) (va_A (ly_w (eK E) (eX E) M lay) H.size) (eX E) u (Value.ref (eX E q) :: As.map (cv (eX E))).toArray) (va_A (ly_w (eK E) (eX E) M lay) H.size) := by
  subst hst
  refine va_runV (As := As.map (cv (eX E))) (rest := rest.map (cv (eX E))) ⟨C.1, C.2.1, C.2.2.1, C.2.2.2.1, C.2.2.2.2.1⟩ (hM (eL E) (eD E) (eK E) (eX E) H.size u hG)
    (cwV np C.2.2.2.2.1 (am_wsV hy hl) rfl rfl rfl hy.2.2.2.2.1 ⟨?_, ?_⟩) ⟨amPc_blind, va_recv C.2.2.2.2.2.2.1 hS.1 hcl (ly_w_at hq), fun U hU hW => am_pre C hS _ U hU hW⟩ rfl (by rw [List.length_map]; exact hn) hh.1 ?_ (lv_room ?_) dg ⟨Nat.zero_le _, Nat.zero_le _⟩
  · show dc + 1 ≤ _
    exact Nat.le_trans hdc C.2.2.2.2.2.2.2.2.2.1
  · show 8 + (n + 11) + 64 * dc ≤ _
    refine Nat.le_trans ?_ C.2.2.2.2.2.2.2.2.2.2
    have := hy.2.2.2.2.2
    omega
  · show (As.reverse ++ .ref q :: rest).map (cv (eX E)) = _
    rw [List.map_append, List.map_reverse]
    rfl
  · rw [am_catl]; exact hr
theorem am_runS (C : amC E d cc nL own) {y : MethodName} {b : ByteArray} {n np idx dc : Nat} {ret : Option FieldType} {As rest : List Value} {σ : Type} {Qy : amQ σ} {G : Option σ} {u : σ} {H : Heap} {locs : List Loc} {ls : Array Slot}
    (hG : G = some u) (hS : amS E lay M H locs) (hh : lv_has ls nL (lv.map (fun q => (q.1, cv (eX E) q.2)))) (hM : AMet dc y b n ret lay As M Qy G) (hy : amT y b n ret np) (hl : Cond.methodLink own idx y ∈ lw_t) (hdc : dc + 1 ≤ d) (hn : As.length = np) (hst : st = As.reverse ++ rest) (hr : (rest.map fun v => v.category).sum ≤ 8) (dg : decode cc pc = .ok (.invokestatic idx, 3)) :
    va_Run (eP E) (eL E) (eE E) (eR E) (eS E) (eM E) (eA E) (eB E) (eH E) (eC E) H locs 0 0 0 0 (F0 (eM E) pc ls (st.map (cv (eX E)))) (rest.map (cv (eX E))) (Qy (eD E) (eK E) (va_A (ly_w (eK E) (eX E) M lay) H.size) (eX E) u (As.map (cv (eX E))).toArray) (va_A (ly_w (eK E) (eX E) M lay) H.size) := by
  subst hst
  refine va_runS (As := As.map (cv (eX E))) (rest := rest.map (cv (eX E))) ⟨C.1, C.2.1, C.2.2.1, C.2.2.2.1, C.2.2.2.2.1⟩ (hM (eL E) (eD E) (eK E) (eX E) H.size u hG)
    ⟨callB_of np C.2.2.2.2.1 (wT_good hy.1) rfl rfl rfl (C.2.2.2.2.1 _ hy.2.2.1) (C.2.2.2.2.1 _ hl) hy.2.2.2.1 ⟨?_, ?_⟩, C.2.2.2.2.1 _ hy.2.1⟩ ⟨amPc_blind, fun U hU hW => am_pre C hS _ U hU hW⟩ rfl (by rw [List.length_map]; exact hn) hh.1 ?_ (lv_room ?_) dg ⟨Nat.zero_le _, Nat.zero_le _⟩
  · show dc + 1 ≤ _
    exact Nat.le_trans hdc C.2.2.2.2.2.2.2.2.2.1
  · show 8 + (n + 11) + 64 * dc ≤ _
    refine Nat.le_trans ?_ C.2.2.2.2.2.2.2.2.2.2
    have := hy.2.2.2.2
    omega
  · show (As.reverse ++ rest).map (cv (eX E)) = _
    rw [List.map_append, List.map_reverse]
  · rw [am_catl]; exact hr
theorem am_bind {σ τ : Type} {G : Option σ} {k : σ → Option τ} {t : τ} (h : G.bind k = some t) : ∃ u, G = some u ∧ k u = some t := by
  cases G with
  | none => cases h
  | some u => exact ⟨u, rfl, h⟩
theorem aw_cVI (C : amC E d cc nL own) {y : MethodName} {b : ByteArray} {n np idx dc ci N q : Nat} {ret : Option FieldType} {Cn : String} {T : u_T} {fs : List (Option Nat)} (As rest : List Value) {G : Option (Int32 × Mem)} {kf : Int32 × Mem → Option ρ} (hM : AMet dc y b n ret lay (.ref q :: As) M (qI lay) G) (hy : amV y b n ret Cn np) (hl : Cond.methodLink own idx y ∈ lw_t) (hdc : dc + 1 ≤ d) (hq : lay[q]? = some (.inl (ci, fs))) (hcl : vwCl[ci]? = some (Cn, T, N)) (hn : As.length = np) (hst : st = As.reverse ++ .ref q :: rest) (hr : (rest.map fun v => v.category).sum ≤ 8) (dg : decode cc pc = .ok (.invokevirtual idx, 3)) (k : ∀ u : Int32 × Mem, AW E lay nL Qc (kf u) (pc + 3) lv (.int u.1 :: rest) u.2) : AW E lay nL Qc (G.bind kf) pc lv st M := by
  intro t ht H locs ls hS hh
  obtain ⟨u, hG, hk0⟩ := am_bind ht
  refine va_calli (am_runV C hG hS hh hM hy hl hdc hq hcl hn hst hr dg) hS.2.2 (fun q _ h => am_free C hS q h) (am_free C hS) (fun r M' t1 H1 locs1 ht1 hvm hpost hB hz hk hS1 => ?_)
  cases hpost
  exact k (r, M') t hk0 H1 locs1 ls (am_after C hS ht1 hB hS1) hh
theorem aw_cVL (C : amC E d cc nL own) {y : MethodName} {b : ByteArray} {n np idx dc ci N q : Nat} {ret : Option FieldType} {Cn : String} {T : u_T} {fs : List (Option Nat)} (As rest : List Value) {G : Option (Int64 × Mem)} {kf : Int64 × Mem → Option ρ} (hM : AMet dc y b n ret lay (.ref q :: As) M (qL lay) G) (hy : amV y b n ret Cn np) (hl : Cond.methodLink own idx y ∈ lw_t) (hdc : dc + 1 ≤ d) (hq : lay[q]? = some (.inl (ci, fs))) (hcl : vwCl[ci]? = some (Cn, T, N)) (hn : As.length = np) (hst : st = As.reverse ++ .ref q :: rest) (hr : (rest.map fun v => v.category).sum ≤ 8) (dg : decode cc pc = .ok (.invokevirtual idx, 3)) (k : ∀ u : Int64 × Mem, AW E lay nL Qc (kf u) (pc + 3) lv (.long u.1 :: rest) u.2) : AW E lay nL Qc (G.bind kf) pc lv st M := by
  intro t ht H locs ls hS hh
  obtain ⟨u, hG, hk0⟩ := am_bind ht
  refine va_calll (am_runV C hG hS hh hM hy hl hdc hq hcl hn hst hr dg) hS.2.2 (fun q _ h => am_free C hS q h) (am_free C hS) (fun r M' t1 H1 locs1 ht1 hvm hpost hB hz hk hS1 => ?_)
  cases hpost
  exact k (r, M') t hk0 H1 locs1 ls (am_after C hS ht1 hB hS1) hh
theorem aw_cVIp (C : amC E d cc nL own) {y : MethodName} {b : ByteArray} {n np idx dc ci N q : Nat} {ret : Option FieldType} {Cn : String} {T : u_T} {fs : List (Option Nat)} (As rest : List Value) {G : Option Int32} {kf : Int32 → Option ρ} (hM : AMet dc y b n ret lay (.ref q :: As) M (qIp lay M) G) (hy : amV y b n ret Cn np) (hl : Cond.methodLink own idx y ∈ lw_t) (hdc : dc + 1 ≤ d) (hq : lay[q]? = some (.inl (ci, fs))) (hcl : vwCl[ci]? = some (Cn, T, N)) (hn : As.length = np) (hst : st = As.reverse ++ .ref q :: rest) (hr : (rest.map fun v => v.category).sum ≤ 8) (dg : decode cc pc = .ok (.invokevirtual idx, 3)) (k : ∀ u : Int32, AW E lay nL Qc (kf u) (pc + 3) lv (.int u :: rest) M) : AW E lay nL Qc (G.bind kf) pc lv st M := by
  intro t ht H locs ls hS hh
  obtain ⟨u, hG, hk0⟩ := am_bind ht
  refine va_calli (a := (Value.ref (eX E q) :: As.map (cv (eX E))).toArray) (am_runV C hG hS hh hM hy hl hdc hq hcl hn hst hr dg) hS.2.2 (fun q _ h => am_free C hS q h) (am_free C hS) (fun r M' t1 H1 locs1 ht1 hvm hpost hB hz hk hS1 => ?_)
  cases hpost
  exact k u t hk0 H1 locs1 ls (am_after C hS ht1 hB hS1) hh
theorem aw_cVLp (C : amC E d cc nL own) {y : MethodName} {b : ByteArray} {n np idx dc ci N q : Nat} {ret : Option FieldType} {Cn : String} {T : u_T} {fs : List (Option Nat)} (As rest : List Value) {G : Option Int64} {kf : Int64 → Option ρ} (hM : AMet dc y b n ret lay (.ref q :: As) M (qLp lay M) G) (hy : amV y b n ret Cn np) (hl : Cond.methodLink own idx y ∈ lw_t) (hdc : dc + 1 ≤ d) (hq : lay[q]? = some (.inl (ci, fs))) (hcl : vwCl[ci]? = some (Cn, T, N)) (hn : As.length = np) (hst : st = As.reverse ++ .ref q :: rest) (hr : (rest.map fun v => v.category).sum ≤ 8) (dg : decode cc pc = .ok (.invokevirtual idx, 3)) (k : ∀ u : Int64, AW E lay nL Qc (kf u) (pc + 3) lv (.long u :: rest) M) : AW E lay nL Qc (G.bind kf) pc lv st M := by
  intro t ht H locs ls hS hh
  obtain ⟨u, hG, hk0⟩ := am_bind ht
  refine va_calll (a := (Value.ref (eX E q) :: As.map (cv (eX E))).toArray) (am_runV C hG hS hh hM hy hl hdc hq hcl hn hst hr dg) hS.2.2 (fun q _ h => am_free C hS q h) (am_free C hS) (fun r M' t1 H1 locs1 ht1 hvm hpost hB hz hk hS1 => ?_)
  cases hpost
  exact k u t hk0 H1 locs1 ls (am_after C hS ht1 hB hS1) hh
theorem aw_cVV (C : amC E d cc nL own) {y : MethodName} {b : ByteArray} {n np idx dc ci N q : Nat} {ret : Option FieldType} {Cn : String} {T : u_T} {fs : List (Option Nat)} (As rest : List Value) {G : Option Mem} {kf : Mem → Option ρ} (hM : AMet dc y b n ret lay (.ref q :: As) M (qV lay) G) (hy : amV y b n ret Cn np) (hl : Cond.methodLink own idx y ∈ lw_t) (hdc : dc + 1 ≤ d) (hq : lay[q]? = some (.inl (ci, fs))) (hcl : vwCl[ci]? = some (Cn, T, N)) (hn : As.length = np) (hst : st = As.reverse ++ .ref q :: rest) (hr : (rest.map fun v => v.category).sum ≤ 8) (dg : decode cc pc = .ok (.invokevirtual idx, 3)) (k : ∀ u : Mem, AW E lay nL Qc (kf u) (pc + 3) lv rest u) : AW E lay nL Qc (G.bind kf) pc lv st M := by
  intro t ht H locs ls hS hh
  obtain ⟨u, hG, hk0⟩ := am_bind ht
  refine va_callv (am_runV C hG hS hh hM hy hl hdc hq hcl hn hst hr dg) hS.2.2 (fun q _ h => am_free C hS q h) (am_free C hS) (fun M' t1 H1 locs1 ht1 hvm hpost hB hz hk hS1 => ?_)
  cases hpost
  exact k u t hk0 H1 locs1 ls (am_after C hS ht1 hB hS1) hh
theorem aw_cVR (C : amC E d cc nL own) {y : MethodName} {b : ByteArray} {n np idx dc ci N q : Nat} {ret : Option FieldType} {Cn : String} {T : u_T} {fs : List (Option Nat)} (As rest : List Value) {G : Option (Nat × Mem)} {kf : Nat × Mem → Option ρ} (hM : AMet dc y b n ret lay (.ref q :: As) M (qR lay) G) (hy : amV y b n ret Cn np) (hl : Cond.methodLink own idx y ∈ lw_t) (hdc : dc + 1 ≤ d) (hq : lay[q]? = some (.inl (ci, fs))) (hcl : vwCl[ci]? = some (Cn, T, N)) (hn : As.length = np) (hst : st = As.reverse ++ .ref q :: rest) (hr : (rest.map fun v => v.category).sum ≤ 8) (dg : decode cc pc = .ok (.invokevirtual idx, 3)) (k : ∀ u : Nat × Mem, AW E lay nL Qc (kf u) (pc + 3) lv (.ref u.1 :: rest) u.2) : AW E lay nL Qc (G.bind kf) pc lv st M := by
  intro t ht H locs ls hS hh
  obtain ⟨u, hG, hk0⟩ := am_bind ht
  refine va_callr (am_runV C hG hS hh hM hy hl hdc hq hcl hn hst hr dg) hS.2.2 (fun q _ h => am_free C hS q h) (am_free C hS) (fun u1 ra t1 H1 locs1 ht1 hvm hpost hB hz hk hS1 => ?_)
  cases hpost
  obtain ⟨rfl, hB⟩ := hB
  exact k u t hk0 H1 locs1 ls (am_after C hS ht1 hB hS1) hh
theorem aw_cVRp (C : amC E d cc nL own) {y : MethodName} {b : ByteArray} {n np idx dc ci N q : Nat} {ret : Option FieldType} {Cn : String} {T : u_T} {fs : List (Option Nat)} (As rest : List Value) {G : Option (Nat)} {kf : Nat → Option ρ} (hM : AMet dc y b n ret lay (.ref q :: As) M (qRp lay M) G) (hy : amV y b n ret Cn np) (hl : Cond.methodLink own idx y ∈ lw_t) (hdc : dc + 1 ≤ d) (hq : lay[q]? = some (.inl (ci, fs))) (hcl : vwCl[ci]? = some (Cn, T, N)) (hn : As.length = np) (hst : st = As.reverse ++ .ref q :: rest) (hr : (rest.map fun v => v.category).sum ≤ 8) (dg : decode cc pc = .ok (.invokevirtual idx, 3)) (k : ∀ u : Nat, AW E lay nL Qc (kf u) (pc + 3) lv (.ref u :: rest) M) : AW E lay nL Qc (G.bind kf) pc lv st M := by
  intro t ht H locs ls hS hh
  obtain ⟨u, hG, hk0⟩ := am_bind ht
  refine va_callr (a := (Value.ref (eX E q) :: As.map (cv (eX E))).toArray) (am_runV C hG hS hh hM hy hl hdc hq hcl hn hst hr dg) hS.2.2 (fun q _ h => am_free C hS q h) (am_free C hS) (fun u1 ra t1 H1 locs1 ht1 hvm hpost hB hz hk hS1 => ?_)
  cases hpost
  obtain ⟨rfl, hB⟩ := hB
  exact k u t hk0 H1 locs1 ls (am_after C hS ht1 hB hS1) hh
theorem aw_cSI (C : amC E d cc nL own) {y : MethodName} {b : ByteArray} {n np idx dc : Nat} {ret : Option FieldType} (As rest : List Value) {G : Option (Int32 × Mem)} {kf : Int32 × Mem → Option ρ} (hM : AMet dc y b n ret lay As M (qI lay) G) (hy : amT y b n ret np) (hl : Cond.methodLink own idx y ∈ lw_t) (hdc : dc + 1 ≤ d) (hn : As.length = np) (hst : st = As.reverse ++ rest) (hr : (rest.map fun v => v.category).sum ≤ 8) (dg : decode cc pc = .ok (.invokestatic idx, 3)) (k : ∀ u : Int32 × Mem, AW E lay nL Qc (kf u) (pc + 3) lv (.int u.1 :: rest) u.2) : AW E lay nL Qc (G.bind kf) pc lv st M := by
  intro t ht H locs ls hS hh
  obtain ⟨u, hG, hk0⟩ := am_bind ht
  refine va_calli (am_runS C hG hS hh hM hy hl hdc hn hst hr dg) hS.2.2 (fun q _ h => am_free C hS q h) (am_free C hS) (fun r M' t1 H1 locs1 ht1 hvm hpost hB hz hk hS1 => ?_)
  cases hpost
  exact k (r, M') t hk0 H1 locs1 ls (am_after C hS ht1 hB hS1) hh
theorem aw_cSL (C : amC E d cc nL own) {y : MethodName} {b : ByteArray} {n np idx dc : Nat} {ret : Option FieldType} (As rest : List Value) {G : Option (Int64 × Mem)} {kf : Int64 × Mem → Option ρ} (hM : AMet dc y b n ret lay As M (qL lay) G) (hy : amT y b n ret np) (hl : Cond.methodLink own idx y ∈ lw_t) (hdc : dc + 1 ≤ d) (hn : As.length = np) (hst : st = As.reverse ++ rest) (hr : (rest.map fun v => v.category).sum ≤ 8) (dg : decode cc pc = .ok (.invokestatic idx, 3)) (k : ∀ u : Int64 × Mem, AW E lay nL Qc (kf u) (pc + 3) lv (.long u.1 :: rest) u.2) : AW E lay nL Qc (G.bind kf) pc lv st M := by
  intro t ht H locs ls hS hh
  obtain ⟨u, hG, hk0⟩ := am_bind ht
  refine va_calll (am_runS C hG hS hh hM hy hl hdc hn hst hr dg) hS.2.2 (fun q _ h => am_free C hS q h) (am_free C hS) (fun r M' t1 H1 locs1 ht1 hvm hpost hB hz hk hS1 => ?_)
  cases hpost
  exact k (r, M') t hk0 H1 locs1 ls (am_after C hS ht1 hB hS1) hh
theorem aw_cSIp (C : amC E d cc nL own) {y : MethodName} {b : ByteArray} {n np idx dc : Nat} {ret : Option FieldType} (As rest : List Value) {G : Option Int32} {kf : Int32 → Option ρ} (hM : AMet dc y b n ret lay As M (qIp lay M) G) (hy : amT y b n ret np) (hl : Cond.methodLink own idx y ∈ lw_t) (hdc : dc + 1 ≤ d) (hn : As.length = np) (hst : st = As.reverse ++ rest) (hr : (rest.map fun v => v.category).sum ≤ 8) (dg : decode cc pc = .ok (.invokestatic idx, 3)) (k : ∀ u : Int32, AW E lay nL Qc (kf u) (pc + 3) lv (.int u :: rest) M) : AW E lay nL Qc (G.bind kf) pc lv st M := by
  intro t ht H locs ls hS hh
  obtain ⟨u, hG, hk0⟩ := am_bind ht
  refine va_calli (a := (As.map (cv (eX E))).toArray) (am_runS C hG hS hh hM hy hl hdc hn hst hr dg) hS.2.2 (fun q _ h => am_free C hS q h) (am_free C hS) (fun r M' t1 H1 locs1 ht1 hvm hpost hB hz hk hS1 => ?_)
  cases hpost
  exact k u t hk0 H1 locs1 ls (am_after C hS ht1 hB hS1) hh
theorem aw_cSLp (C : amC E d cc nL own) {y : MethodName} {b : ByteArray} {n np idx dc : Nat} {ret : Option FieldType} (As rest : List Value) {G : Option Int64} {kf : Int64 → Option ρ} (hM : AMet dc y b n ret lay As M (qLp lay M) G) (hy : amT y b n ret np) (hl : Cond.methodLink own idx y ∈ lw_t) (hdc : dc + 1 ≤ d) (hn : As.length = np) (hst : st = As.reverse ++ rest) (hr : (rest.map fun v => v.category).sum ≤ 8) (dg : decode cc pc = .ok (.invokestatic idx, 3)) (k : ∀ u : Int64, AW E lay nL Qc (kf u) (pc + 3) lv (.long u :: rest) M) : AW E lay nL Qc (G.bind kf) pc lv st M := by
  intro t ht H locs ls hS hh
  obtain ⟨u, hG, hk0⟩ := am_bind ht
  refine va_calll (a := (As.map (cv (eX E))).toArray) (am_runS C hG hS hh hM hy hl hdc hn hst hr dg) hS.2.2 (fun q _ h => am_free C hS q h) (am_free C hS) (fun r M' t1 H1 locs1 ht1 hvm hpost hB hz hk hS1 => ?_)
  cases hpost
  exact k u t hk0 H1 locs1 ls (am_after C hS ht1 hB hS1) hh
theorem aw_cSV (C : amC E d cc nL own) {y : MethodName} {b : ByteArray} {n np idx dc : Nat} {ret : Option FieldType} (As rest : List Value) {G : Option Mem} {kf : Mem → Option ρ} (hM : AMet dc y b n ret lay As M (qV lay) G) (hy : amT y b n ret np) (hl : Cond.methodLink own idx y ∈ lw_t) (hdc : dc + 1 ≤ d) (hn : As.length = np) (hst : st = As.reverse ++ rest) (hr : (rest.map fun v => v.category).sum ≤ 8) (dg : decode cc pc = .ok (.invokestatic idx, 3)) (k : ∀ u : Mem, AW E lay nL Qc (kf u) (pc + 3) lv rest u) : AW E lay nL Qc (G.bind kf) pc lv st M := by
  intro t ht H locs ls hS hh
  obtain ⟨u, hG, hk0⟩ := am_bind ht
  refine va_callv (am_runS C hG hS hh hM hy hl hdc hn hst hr dg) hS.2.2 (fun q _ h => am_free C hS q h) (am_free C hS) (fun M' t1 H1 locs1 ht1 hvm hpost hB hz hk hS1 => ?_)
  cases hpost
  exact k u t hk0 H1 locs1 ls (am_after C hS ht1 hB hS1) hh
theorem aw_cSR (C : amC E d cc nL own) {y : MethodName} {b : ByteArray} {n np idx dc : Nat} {ret : Option FieldType} (As rest : List Value) {G : Option (Nat × Mem)} {kf : Nat × Mem → Option ρ} (hM : AMet dc y b n ret lay As M (qR lay) G) (hy : amT y b n ret np) (hl : Cond.methodLink own idx y ∈ lw_t) (hdc : dc + 1 ≤ d) (hn : As.length = np) (hst : st = As.reverse ++ rest) (hr : (rest.map fun v => v.category).sum ≤ 8) (dg : decode cc pc = .ok (.invokestatic idx, 3)) (k : ∀ u : Nat × Mem, AW E lay nL Qc (kf u) (pc + 3) lv (.ref u.1 :: rest) u.2) : AW E lay nL Qc (G.bind kf) pc lv st M := by
  intro t ht H locs ls hS hh
  obtain ⟨u, hG, hk0⟩ := am_bind ht
  refine va_callr (am_runS C hG hS hh hM hy hl hdc hn hst hr dg) hS.2.2 (fun q _ h => am_free C hS q h) (am_free C hS) (fun u1 ra t1 H1 locs1 ht1 hvm hpost hB hz hk hS1 => ?_)
  cases hpost
  obtain ⟨rfl, hB⟩ := hB
  exact k u t hk0 H1 locs1 ls (am_after C hS ht1 hB hS1) hh
theorem aw_cSRp (C : amC E d cc nL own) {y : MethodName} {b : ByteArray} {n np idx dc : Nat} {ret : Option FieldType} (As rest : List Value) {G : Option (Nat)} {kf : Nat → Option ρ} (hM : AMet dc y b n ret lay As M (qRp lay M) G) (hy : amT y b n ret np) (hl : Cond.methodLink own idx y ∈ lw_t) (hdc : dc + 1 ≤ d) (hn : As.length = np) (hst : st = As.reverse ++ rest) (hr : (rest.map fun v => v.category).sum ≤ 8) (dg : decode cc pc = .ok (.invokestatic idx, 3)) (k : ∀ u : Nat, AW E lay nL Qc (kf u) (pc + 3) lv (.ref u :: rest) M) : AW E lay nL Qc (G.bind kf) pc lv st M := by
  intro t ht H locs ls hS hh
  obtain ⟨u, hG, hk0⟩ := am_bind ht
  refine va_callr (a := (As.map (cv (eX E))).toArray) (am_runS C hG hS hh hM hy hl hdc hn hst hr dg) hS.2.2 (fun q _ h => am_free C hS q h) (am_free C hS) (fun u1 ra t1 H1 locs1 ht1 hvm hpost hB hz hk hS1 => ?_)
  cases hpost
  obtain ⟨rfl, hB⟩ := hB
  exact k u t hk0 H1 locs1 ls (am_after C hS ht1 hB hS1) hh
/-! System.arraycopy between rows of ints; Math.max, min -/
def am_cp (sp dp n : Int32) (n0 n1 : Nat) : Bool := !(decide (sp < 0)) && !(decide (dp < 0)) && !(decide (n < 0)) && decide (sp.toNatClampNeg + n.toNatClampNeg ≤ n0) && decide (dp.toNatClampNeg + n.toNatClampNeg ≤ n1)
theorem aw_copy (C : amC E d cc nL own) {q0 q1 n0 n1 idx : Nat} {sp dp n : Int32} (hq0 : lay[q0]? = some (.inr (.inl n0))) (hq1 : lay[q1]? = some (.inr (.inl n1))) (hl : Cond.methodLink own idx arraycopyName ∈ lw_t) (hnat : Cond.native arraycopyName ∈ lw_t) (hstc : Cond.static arraycopyName ∈ lw_t) (hini : Cond.initialized "java/lang/System" ∈ lw_t) (hd1 : 1 ≤ d) (hr : (st.map fun v => v.category).sum ≤ 8) (dg : decode cc pc = .ok (.invokestatic idx, 3)) (k : AW E lay nL Qc F (pc + 3) lv st (mset M q1 (va_cpy (M q0) (M q1) sp.toNatClampNeg dp.toNatClampNeg n.toNatClampNeg))) :
    AW E lay nL Qc (if am_cp sp dp n n0 n1 = true then F else none) pc lv (.int n :: .int dp :: .ref q1 :: .int sp :: .ref q0 :: st) M := by
  refine aw_ite (fun hc => ?_) (fun _ => aw_none)
  intro t ht H locs ls hS hh
  unfold am_cp at hc
  simp only [Bool.and_eq_true, Bool.not_eq_true', decide_eq_false_iff_not, decide_eq_true_eq] at hc
  obtain ⟨⟨⟨⟨h1, h2⟩, h3⟩, h4⟩, h5⟩ := hc
  refine va_copyi C.1 C.2.1 (by rw [C.2.2.1]; exact hh.1.symm) C.2.2.2.1 (C.2.2.2.2.1 _ hl) (C.2.2.2.2.1 _ hnat) (C.2.2.2.2.1 _ hstc) (C.2.2.2.2.1 _ hini) C.2.2.2.2.2.2.1 hS.1 hS.2.1 hS.2.2 q0 q1 0 0 (ly_w_at hq0) (ly_w_at hq1) rfl rfl rfl h1 h2 h3 h4 h5 (fun _ _ => rfl) (Nat.le_trans hd1 C.2.2.2.2.2.2.2.2.2.1) ?_ dg (fun H1 locs1 hP hD hS1 => ?_)
  · rw [am_catl]
    have h64 : 64 ≤ (eR E).locals := Nat.le_trans (by omega) C.2.2.2.2.2.2.2.2.2.2
    have hnf : nativeFrameWords "java/lang/System" "arraycopy" 5 + 11 ≤ 50 := by decide +kernel
    omega
  · have e1 : (ly_w (eK E) (eX E) M lay).set q1 (eX E q1, .inl ((eK E).1, n1, .inl (va_cpy (M q0) (M q1) sp.toNatClampNeg dp.toNatClampNeg n.toNatClampNeg))) = ly_w (eK E) (eX E) (mset M q1 (va_cpy (M q0) (M q1) sp.toNatClampNeg dp.toNatClampNeg n.toNatClampNeg)) lay := by
      rw [← ly_w_set hq1]
      simp only [ly_c, mset_self]
    rw [e1] at hP hD
    exact k t ht H1 locs1 ls ⟨hP, hD, hS1⟩ hh
theorem aw_mmax (C : amC E d cc nL own) {idx : Nat} {x y : Int32} (hl : Cond.methodLink own idx Lib.Math.max.name ∈ lw_t) (hstc : Cond.static Lib.Math.max.name ∈ lw_t) (hini : Cond.initialized "java/lang/Math" ∈ lw_t) (hcode : Cond.code Lib.Math.max.name Lib.Math.max.code 2 (some .int) ∈ lw_t) (hd1 : 1 ≤ d) (hr : (st.map fun v => v.category).sum ≤ 8) (dg : decode cc pc = .ok (.invokestatic idx, 3)) (k : AW E lay nL Qc F (pc + 3) lv (.int (if x < y then y else x) :: st) M) : AW E lay nL Qc F pc lv (.int y :: .int x :: st) M := by
  intro t ht H locs ls hS hh
  refine va_mmax C.1 C.2.1 (by rw [C.2.2.1]; exact hh.1.symm) C.2.2.2.1 (C.2.2.2.2.1 _ hl) (C.2.2.2.2.1 _ hstc) (C.2.2.2.2.1 _ hini) (C.2.2.2.2.1 _ hcode) (Nat.le_trans hd1 C.2.2.2.2.2.2.2.2.2.1) ?_ (Nat.zero_le _) (Nat.zero_le _) dg (k t ht H locs ls hS hh)
  rw [am_catl]
  have h64 : 64 ≤ (eR E).locals := Nat.le_trans (by omega) C.2.2.2.2.2.2.2.2.2.2
  omega
theorem aw_mmin (C : amC E d cc nL own) {idx : Nat} {x y : Int32} (hl : Cond.methodLink own idx Lib.Math.min.name ∈ lw_t) (hstc : Cond.static Lib.Math.min.name ∈ lw_t) (hini : Cond.initialized "java/lang/Math" ∈ lw_t) (hcode : Cond.code Lib.Math.min.name Lib.Math.min.code 2 (some .int) ∈ lw_t) (hd1 : 1 ≤ d) (hr : (st.map fun v => v.category).sum ≤ 8) (dg : decode cc pc = .ok (.invokestatic idx, 3)) (k : AW E lay nL Qc F (pc + 3) lv (.int (if y < x then y else x) :: st) M) : AW E lay nL Qc F pc lv (.int y :: .int x :: st) M := by
  intro t ht H locs ls hS hh
  refine va_mmin C.1 C.2.1 (by rw [C.2.2.1]; exact hh.1.symm) C.2.2.2.1 (C.2.2.2.2.1 _ hl) (C.2.2.2.2.1 _ hstc) (C.2.2.2.2.1 _ hini) (C.2.2.2.2.1 _ hcode) (Nat.le_trans hd1 C.2.2.2.2.2.2.2.2.2.1) ?_ (Nat.zero_le _) (Nat.zero_le _) dg (k t ht H locs ls hS hh)
  rw [am_catl]
  have h64 : 64 ≤ (eR E).locals := Nat.le_trans (by omega) C.2.2.2.2.2.2.2.2.2.2
  omega
end AR
