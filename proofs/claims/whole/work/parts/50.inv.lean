/-! PURE: the orders that THE CART may be emptied in; what class and reference have in common -/
def trnG (G : Nat → Nat) : Nat → Nat := turnL (1 + G 0) (G 1) G
def ltkG (T : Nat → Nat) : Nat → Nat := upN (looksS 0 (T 1) (T, 0, 0)).1 2 ((looksS 0 (T 1) (T, 0, 0)).1 2 + 1)
def dueG (T : Nat → Nat) : Bool := decide (bagG T 0 (T 1) = 0) && decide (0 < cartN T (T 1))
/-- the falls that can be, and the halls behind them -/
def leaves : Nat → (Nat → Nat) → List (List Nat × (Nat → Nat))
  | 0, G => [([], G)]
  | n + 1, G => if dueG (trnG G) then (List.range (trnG G 1)).flatMap (fun c => if trnG G (33 + c) = 20 then (leaves n (ltkG (upN (trnG G) (33 + c) 0))).map (fun x => (c :: x.1, x.2)) else []) else leaves n (ltkG (trnG G))
def ownN (G : Nat → Nat) : Nat → Nat
  | 0 => 0
  | k + 1 => ownN G k + if G (15 + k) = k + 1 then 1 else 0
def wgh (G : Nat → Nat) : Nat × Nat := (ownN G (G 1), sumG G (G 1))
def btr (a b : Nat × Nat) : Bool := decide (b.1 < a.1) || (decide (a.1 = b.1) && decide (a.2 < b.2))
def foldB (o : Option ((Nat × Nat) × List Nat)) (x : List Nat × (Nat → Nat)) : Option ((Nat × Nat) × List Nat) :=
  match o with
  | none => some (wgh x.2, x.1)
  | some q => if btr (wgh x.2) q.1 then some (wgh x.2, x.1) else some q
def bestL (n : Nat) (G : Nat → Nat) : Option ((Nat × Nat) × List Nat) := (leaves n G).foldl foldB none
def rowsR (Mx Mm : Mem) : Prop :=
  (∀ r, r < 8 → (Mx 2 r = -1 ∧ Mm 4 r = -1) ∨ ∃ l n, l ≤ 2 ∧ n ≤ 40 ∧ Mx 2 r = nI l ∧ Mm 3 r = nI l ∧ Mx 3 r = nI n ∧ Mm 4 r = nI n) ∧
  ∀ r k, r < 8 → k < 40 → Mx (5 + r) k = Mm 5 (40 * r + k)
def tapeR (Mx Mm : Mem) : Prop := ∃ n, n ≤ 110 ∧ Mx 13 1 = nI n ∧ Mm 0 7 = nI n ∧ ∀ i, i < n → ∃ c, c < 256 ∧ Mx 14 i = nI c ∧ Mm 6 i = nI c
def trceR (Mx Mm : Mem) : Prop := ∃ n, n ≤ 16 ∧ Mx 40 2 = nI n ∧ Mm 0 11 = nI n ∧ ∀ i, i < n → Mx 41 i = Mm 7 i
/-- a hall that is kept, or is now -/
def hOK (G : Nat → Nat) : Prop := 1 ≤ G 1 ∧ G 2 ≤ 999
def hallR (Mx Mm : Mem) : Prop :=
  (Mx 15 0 = 0 ∧ Mx 15 1 = 0 ∧ Mx 15 2 = 0 ∧ Mx 15 3 = 0 ∧ Mm 1 0 = 0 ∧ Mm 1 1 = 0 ∧ Mm 1 2 = 0) ∨ ∃ G sh, HX Mx 15 0 sh G ∧ atM Mm 0 G ∧ hOK G
def pastR (Mx Mm : Mem) : Prop := ∃ u nx, u ≤ 24 ∧ nx < 24 ∧ Mx 31 1 = nI nx ∧ Mx 31 2 = nI u ∧ Mm 0 1 = nI u ∧ ∀ j, j < u → ∃ G sh, svX (Mx 32) (40 * ((nx + 24 - u + j) % 24)) sh G ∧ atM Mm (39 + 39 * j) G ∧ hOK G
def imgR (Mx Mm : Mem) : Prop := ∃ m : Nat → Nat, (∀ k, m k ≤ 1) ∧ Mx 0 9 = nI (m 0 + 2 * m 1) ∧ ∀ k, k < 2 → Mm 2 k = nI (m k) ∧ (m k = 1 → ∃ G sh, svX (Mx 42) (40 * k) sh G ∧ atM Mm (975 + 39 * k) G ∧ hOK G)
def ordR (Mx : Mem) : Prop := Mx 34 7 = 0 ∨ ∃ n G sh w f, 1 ≤ n ∧ n ≤ 40 ∧ Mx 34 7 = nI n ∧ svX (Mx 37) 0 sh G ∧ hOK G ∧ bestL n G = some (w, f) ∧ Mx 34 8 = nI w.1 ∧ Mx 34 6 = nI f.length ∧ f.length ≤ 6 ∧ ∀ i, i < f.length → Mx 39 i = nI (f.getD i 0)
def miscR (Mx Mm : Mem) : Prop := Mx 0 10 = Mm 0 8 ∧ Mx 0 11 = Mm 0 9 ∧ (∀ j, j < 6 → Mm 8 j = nI j) ∧ Mm 0 16 = 0
def Inv (Mx Mm : Mem) : Prop := rowsR Mx Mm ∧ tapeR Mx Mm ∧ trceR Mx Mm ∧ hallR Mx Mm ∧ pastR Mx Mm ∧ imgR Mx Mm ∧ ordR Mx ∧ miscR Mx Mm
theorem Inv.rows {Mx Mm : Mem} (I : Inv Mx Mm) : rowsR Mx Mm := I.1
theorem Inv.tape {Mx Mm : Mem} (I : Inv Mx Mm) : tapeR Mx Mm := I.2.1
theorem Inv.trce {Mx Mm : Mem} (I : Inv Mx Mm) : trceR Mx Mm := I.2.2.1
theorem Inv.hall {Mx Mm : Mem} (I : Inv Mx Mm) : hallR Mx Mm := I.2.2.2.1
theorem Inv.past {Mx Mm : Mem} (I : Inv Mx Mm) : pastR Mx Mm := I.2.2.2.2.1
theorem Inv.img {Mx Mm : Mem} (I : Inv Mx Mm) : imgR Mx Mm := I.2.2.2.2.2.1
theorem Inv.ord {Mx Mm : Mem} (I : Inv Mx Mm) : ordR Mx := I.2.2.2.2.2.2.1
theorem Inv.misc {Mx Mm : Mem} (I : Inv Mx Mm) : miscR Mx Mm := I.2.2.2.2.2.2.2
section CG
variable {Mx Mm Mx' Mm' : Mem}
theorem rows_cg (h : rowsR Mx Mm) (hx : ∀ p, 2 ≤ p → p ≤ 12 → Mx' p = Mx p) (hm : ∀ p, 3 ≤ p → p ≤ 5 → Mm' p = Mm p) : rowsR Mx' Mm' := by
  unfold rowsR
  rw [hx 2 (by omega) (by omega), hx 3 (by omega) (by omega), hm 3 (by omega) (by omega), hm 4 (by omega) (by omega), hm 5 (by omega) (by omega)]
  exact ⟨h.1, fun r k hr hk => by rw [hx (5 + r) (by omega) (by omega)]; exact h.2 r k hr hk⟩
theorem tape_cg (h : tapeR Mx Mm) (h1 : Mx' 13 1 = Mx 13 1) (h2 : Mx' 14 = Mx 14) (h3 : Mm' 0 7 = Mm 0 7) (h4 : Mm' 6 = Mm 6) : tapeR Mx' Mm' := by
  unfold tapeR
  rw [h1, h2, h3, h4]; exact h
theorem trce_cg (h : trceR Mx Mm) (h1 : Mx' 40 2 = Mx 40 2) (h2 : Mx' 41 = Mx 41) (h3 : Mm' 0 11 = Mm 0 11) (h4 : Mm' 7 = Mm 7) : trceR Mx' Mm' := by
  unfold trceR
  rw [h1, h2, h3, h4]; exact h
theorem hall_cg (h : hallR Mx Mm) (hx : ∀ p, 15 ≤ p → p ≤ 22 → Mx' p = Mx p) (hm : ∀ j, j < 39 → Mm' 1 j = Mm 1 j) : hallR Mx' Mm' := by
  unfold hallR
  rw [hx 15 (by omega) (by omega), hm 0 (by omega), hm 1 (by omega), hm 2 (by omega)]
  rcases h with h | ⟨G, sh, h1, h2, h3⟩
  · exact Or.inl h
  · exact Or.inr ⟨G, sh, hx_frm h1 hx, atM_cong h2 (fun k hk => hm _ (by omega)), h3⟩
theorem past_cg (h : pastR Mx Mm) (h1 : Mx' 31 = Mx 31) (h2 : Mx' 32 = Mx 32) (h3 : Mm' 0 1 = Mm 0 1) (hm : ∀ j, 39 ≤ j → j < 975 → Mm' 1 j = Mm 1 j) : pastR Mx' Mm' := by
  unfold pastR
  rw [h1, h2, h3]
  obtain ⟨u, nx, a1, a2, a3, a4, a5, a6⟩ := h
  refine ⟨u, nx, a1, a2, a3, a4, a5, fun j hj => ?_⟩
  obtain ⟨G, sh, b1, b2, b3⟩ := a6 j hj
  exact ⟨G, sh, b1, atM_cong b2 (fun k hk => hm _ (by omega) (by omega)), b3⟩
theorem img_cg (h : imgR Mx Mm) (h1 : Mx' 0 9 = Mx 0 9) (h2 : Mx' 42 = Mx 42) (h3 : Mm' 2 = Mm 2) (hm : ∀ j, 975 ≤ j → j < 1053 → Mm' 1 j = Mm 1 j) : imgR Mx' Mm' := by
  unfold imgR
  rw [h1, h2, h3]
  obtain ⟨m, a1, a2, a3⟩ := h
  refine ⟨m, a1, a2, fun k hk => ⟨(a3 k hk).1, fun q => ?_⟩⟩
  obtain ⟨G, sh, b1, b2, b3⟩ := (a3 k hk).2 q
  exact ⟨G, sh, b1, atM_cong b2 (fun k hk => hm _ (by omega) (by omega)), b3⟩
theorem ord_cg (h : ordR Mx) (h1 : Mx' 34 = Mx 34) (h2 : Mx' 37 = Mx 37) (h3 : Mx' 39 = Mx 39) : ordR Mx' := by
  unfold ordR
  rw [h1, h2, h3]; exact h
theorem misc_cg (h : miscR Mx Mm) (h1 : Mx' 0 10 = Mx 0 10) (h2 : Mx' 0 11 = Mx 0 11) (h3 : Mm' 0 8 = Mm 0 8) (h4 : Mm' 0 9 = Mm 0 9) (h5 : Mm' 8 = Mm 8) (h6 : Mm' 0 16 = Mm 0 16) : miscR Mx' Mm' := by
  unfold miscR
  rw [h1, h2, h3, h4, h5, h6]; exact h
/-- what is tried leaves no trace -/
theorem Inv.fr (I : Inv Mx Mm) (hx : ∀ p, p < 23 ∨ 30 < p → Mx' p = Mx p) (hm0 : ∀ j, j ≤ 11 ∨ j = 16 → Mm' 0 j = Mm 0 j) (hm1 : ∀ j, j < 1053 → Mm' 1 j = Mm 1 j) (hm : ∀ p, 2 ≤ p → p ≤ 8 → Mm' p = Mm p) : Inv Mx' Mm' := by
  refine ⟨rows_cg I.rows (fun p h1 h2 => hx p (by omega)) (fun p h1 h2 => hm p (by omega) (by omega)), tape_cg I.tape (by rw [hx 13 (by omega)]) (hx 14 (by omega)) (hm0 7 (by omega)) (hm 6 (by omega) (by omega)), trce_cg I.trce (by rw [hx 40 (by omega)]) (hx 41 (by omega)) (hm0 11 (by omega)) (hm 7 (by omega) (by omega)), hall_cg I.hall (fun p h1 h2 => hx p (by omega)) (fun j hj => hm1 j (by omega)), past_cg I.past (hx 31 (by omega)) (hx 32 (by omega)) (hm0 1 (by omega)) (fun j h1 h2 => hm1 j (by omega)), img_cg I.img (by rw [hx 0 (by omega)]) (hx 42 (by omega)) (hm 2 (by omega) (by omega)) (fun j h1 h2 => hm1 j (by omega)), ord_cg I.ord (hx 34 (by omega)) (hx 37 (by omega)) (hx 39 (by omega)), misc_cg I.misc (by rw [hx 0 (by omega)]) (by rw [hx 0 (by omega)]) (hm0 8 (by omega)) (hm0 9 (by omega)) (hm 8 (by omega) (by omega)) (hm0 16 (by omega))⟩
/-- the latest finding -/
theorem Inv.st (I : Inv Mx Mm) (v : Int32) : Inv (mset Mx 0 (upd (Mx 0) 11 v)) (mset Mm 0 (upd (Mm 0) 9 v)) := by
  refine ⟨rows_cg I.rows (fun p h1 h2 => mset_ne _ _ (by omega)) (fun p h1 h2 => mset_ne _ _ (by omega)), tape_cg I.tape (by rw [mset_ne _ _ (by omega)]) (mset_ne _ _ (by omega)) (by rw [mset_self, upd_ne (by omega)]) (mset_ne _ _ (by omega)), trce_cg I.trce (by rw [mset_ne _ _ (by omega)]) (mset_ne _ _ (by omega)) (by rw [mset_self, upd_ne (by omega)]) (mset_ne _ _ (by omega)), hall_cg I.hall (fun p h1 h2 => mset_ne _ _ (by omega)) (fun j hj => by rw [mset_ne _ _ (by omega)]), past_cg I.past (mset_ne _ _ (by omega)) (mset_ne _ _ (by omega)) (by rw [mset_self, upd_ne (by omega)]) (fun j h1 h2 => by rw [mset_ne _ _ (by omega)]), img_cg I.img (by rw [mset_self, upd_ne (by omega)]) (mset_ne _ _ (by omega)) (mset_ne _ _ (by omega)) (fun j h1 h2 => by rw [mset_ne _ _ (by omega)]), ord_cg I.ord (mset_ne _ _ (by omega)) (mset_ne _ _ (by omega)) (mset_ne _ _ (by omega)), ?_⟩
  obtain ⟨m1, m2, m3, m4⟩ := I.misc
  unfold miscR
  rw [mset_self, mset_self, mset_ne _ _ (by omega), upd_ne (by omega), upd_ne (by omega), upd_same, upd_same, upd_ne (by omega)]
  exact ⟨m1, rfl, m3, m4⟩
end CG
theorem ok_fault_Inv : ok_fault Inv := fun Mx Mm I => ⟨Mx 0 10, rfl, by rw [I.misc.1]; rfl, I⟩
theorem ok_status_Inv : ok_status Inv := fun Mx Mm I => ⟨Mx 0 11, rfl, by rw [I.misc.2.1]; rfl, I⟩
