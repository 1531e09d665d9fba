/-! PURE: the class's hall: what changes -/
theorem subm_add2 {P x s e : Nat} (hx : x < P) (hs : s < P) (he : e < P) : subm P (addm P x e) (addm P s e) = subm P x s := by
  unfold subm addm
  split <;> split <;> split <;> first | omega | (split <;> omega)
theorem bagG_cong {G G' : Nat → Nat} {p p' : Nat} : ∀ {k : Nat}, (∀ b, b < k → (G' (33 + b) = p' ↔ G (33 + b) = p)) → bagG G' p' k = bagG G p k
  | 0, _ => rfl
  | k + 1, h => by
    rw [bagG, bagG, bagG_cong (fun b hb => h b (by omega))]
    by_cases c : G (33 + k) = p
    · rw [if_pos c, if_pos ((h k (by omega)).mpr c)]
    · rw [if_neg c, if_neg (fun q => c ((h k (by omega)).mp q))]
/-- the bag in a place, where there is but one -/
theorem bagG_one {G : Nat → Nat} {p n b : Nat} (hb : b < n) (hp : G (33 + b) = p) (hu : ∀ c, c < n → G (33 + c) = p → c = b) : bagG G p n = b + 1 := by
  rcases bagG_spec G p n with ⟨_, q⟩ | ⟨c, hc, q, hcp, _⟩
  · exact absurd hp (q b hb)
  · rw [q, hu c hc hcp]
theorem bagG_no {G : Nat → Nat} {p n : Nat} (h : ∀ c, c < n → G (33 + c) ≠ p) : bagG G p n = 0 := by
  rcases bagG_spec G p n with ⟨q, _⟩ | ⟨c, hc, _, hcp, _⟩
  · exact q
  · exact absurd hcp (h c hc)
theorem bagG_none {G : Nat → Nat} {p n : Nat} (h : bagG G p n = 0) : ∀ c, c < n → G (33 + c) ≠ p := by
  rcases bagG_spec G p n with ⟨_, q⟩ | ⟨c, _, q, _, _⟩
  · exact q
  · omega
section CX
variable {M : Mem} {h : Nat} {a : Int32} {sh : Nat} {G : Nat → Nat}
theorem cx_turnBy (H : HX M h a sh G) {x : Int32} {d e : Nat} (he : e < G 0) (hd : d % G 0 = e) (hf : am_fm (nI sh + x) (nI (G 0)) = nI (addm (G 0) sh e)) : ∃ M', X3_turnBy h x M = some M' ∧ HX M' h a (addm (G 0) sh e) (turnL d (G 1) G) ∧ frm M M' h := by
  have hP := hx_P H
  have hsh := H.2.2
  obtain ⟨r0, r1, r2, r3, r4, r5, r6, r7⟩ := H.1
  have e0 := r0.1
  have e4 := r0.2.2.2.2.1
  have hv := turnE_val H.2.1 he hd
  obtain ⟨-, te⟩ := turn_W (d := d) H.2.1.1
  have t0 := te 0 (by omega)
  have t1 := te 1 (by omega)
  have t2 := te 2 (by omega)
  have hpos : (0 : Int32) < nI (G 0) := nI_lt (a := 0) (by omega) (by omega)
  have hne : ¬ nI (G 0) = 0 := nI_ne0 (by omega) (by omega)
  refine ⟨mset M h (upd (M h) 4 (nI (addm (G 0) sh e))), ?_, ⟨⟨?_, ?_, ?_, ?_, ?_, ?_, ?_, ?_⟩, turn_V H.2.1 he hd, ?_⟩, frm.rf.st _ (by omega)⟩
  · unfold X3_turnBy
    rw [e0, e4, if_pos hpos, if_neg hne, hf]
    rfl
  · rw [mset_self]
    unfold rw0
    rw [t0, t1, t2]
    refine ⟨by rw [upd_ne (by omega)]; exact r0.1, by rw [upd_ne (by omega)]; exact r0.2.1, by rw [upd_ne (by omega)]; exact r0.2.2.1, by rw [upd_ne (by omega)]; exact r0.2.2.2.1, upd_same _ _ _, ?_⟩
    rw [upd_ne (by omega), r0.2.2.2.2.2]
    congr 1
    refine cartN_cong (fun b hb => ?_)
    rw [hv (33 + b)]
    by_cases c : G (33 + b) < 20
    · rw [if_pos (by omega)]
      have := addm_lt (gV_belt H.2.1 hb c) he
      omega
    · rw [if_neg (by omega)]
  · rw [mset_ne _ _ (by omega)]
    intro t ht
    rw [t1] at ht
    rw [te (3 + t) (by omega)]; exact r1 t ht
  · rw [mset_ne _ _ (by omega)]
    intro t ht
    rw [t1] at ht
    rw [te (9 + t) (by omega)]; exact r2 t ht
  · rw [mset_ne _ _ (by omega)]
    intro t ht
    rw [t1] at ht
    rw [te (21 + t) (by omega)]; exact r3 t ht
  · rw [mset_ne _ _ (by omega)]
    intro t ht
    rw [t1] at ht
    rw [te (15 + t) (by omega)]; exact r4 t ht
  · rw [mset_ne _ _ (by omega)]
    intro t ht
    rw [t1] at ht
    rw [te (27 + t) (by omega)]; exact r5 t ht
  · rw [mset_ne _ _ (by omega)]
    intro t ht
    rw [t1] at ht
    rw [r6 t ht]
    congr 1
    unfold spG
    rw [hv (33 + t), t0]
    by_cases c : G (33 + t) < 20
    · have hbl := gV_belt H.2.1 ht c
      have := addm_lt hbl he
      rw [if_pos c, if_pos (show 33 ≤ 33 + t ∧ 33 + t < 33 + G 1 ∧ G (33 + t) < 20 by omega), if_pos (by omega), subm_add2 hbl hsh he]
    · rw [if_neg c, if_neg (show ¬ (33 ≤ 33 + t ∧ 33 + t < 33 + G 1 ∧ G (33 + t) < 20) by omega), if_neg c]
  · rw [mset_ne _ _ (by omega)]
    intro s hs
    rw [t0] at hs
    rw [r7 s hs, t0, t1]
    congr 1
    symm
    refine bagG_cong (fun b hb => ?_)
    rw [hv (33 + b), addm_comm3 hs hsh he]
    have hss := addm_lt hs hsh
    by_cases c : G (33 + b) < 20
    · have hbl := gV_belt H.2.1 hb c
      rw [if_pos (by omega)]
      exact ⟨fun q => addm_inj hbl hss he q, fun q => by rw [q]⟩
    · rw [if_neg (by omega)]
      have := addm_lt hss he
      omega
  · rw [t0]; exact addm_lt hsh he
theorem cx_fallDown (H : HX M h a sh G) {b : Nat} (hb : b < G 1) (hw : G (33 + b) = 20) (h0 : bagG G 0 (G 1) = 0) : ∃ M', X3_fallDown h (nI b) M = some M' ∧ HX M' h a sh (upN G (33 + b) 0) ∧ frm M M' h := by
  have hP := hx_P H
  have hsh := H.2.2
  obtain ⟨r0, r1, r2, r3, r4, r5, r6, r7⟩ := H.1
  have hno := bagG_none h0
  have hV := drop_V H.2.1 hb hw hno
  have hcn : cartN (upN G (33 + b) 0) (G 1) + 1 = cartN G (G 1) := cartN_up (fun c hc => upN_ne (by omega)) hw (by rw [upN_same]; omega) hb
  have hcl := cartN_le G (G 1)
  have e : ∀ k, k < 33 → upN G (33 + b) 0 k = G k := fun k hk => upN_ne (by omega)
  have hs0 : subm (G 0) 0 sh = if sh = 0 then 0 else G 0 - sh := by unfold subm; split <;> split <;> omega
  have hsl := subm_lt (show 0 < G 0 by omega) hsh
  have key : X3_fallDown_20 h (nI b) (nI (subm (G 0) 0 sh)) M = some (mset (mset (mset M (h + 6) (upd (M (h + 6)) b (nI (subm (G 0) 0 sh)))) (h + 7) (upd (M (h + 7)) (subm (G 0) 0 sh) (nI b))) h (upd (M h) 5 (nI (cartN (upN G (33 + b) 0) (G 1))))) := by
    have hn : ¬ nI (subm (G 0) 0 sh) < 0 := nI_pos (by omega)
    unfold X3_fallDown_20
    simp (disch := omega) only [hn, li_12, nI_ltI, am_in_nI, nI_clamp, am_let_eq, ↓reduceIte, if_pos (show subm (G 0) 0 sh < 12 by omega)]
    rw [mset_ne M _ (show h + 7 ≠ h + 6 by omega), mset_ne _ _ (show h ≠ h + 7 by omega), mset_ne _ _ (show h ≠ h + 6 by omega), r0.2.2.2.2.2, li_1, pk_sub (by omega), show cartN G (G 1) - 1 = cartN (upN G (33 + b) 0) (G 1) by omega]
  refine ⟨mset (mset (mset M (h + 6) (upd (M (h + 6)) b (nI (subm (G 0) 0 sh)))) (h + 7) (upd (M (h + 7)) (subm (G 0) 0 sh) (nI b))) h (upd (M h) 5 (nI (cartN (upN G (33 + b) 0) (G 1)))), ?_, ⟨⟨?_, ?_, ?_, ?_, ?_, ?_, ?_, ?_⟩, hV, ?_⟩, ((frm.rf.st _ (by omega)).st _ (by omega)).st _ (by omega)⟩
  · unfold X3_fallDown
    rw [r0.2.2.2.2.1, r0.1]
    by_cases c : sh = 0
    · rw [if_pos (by rw [c]; rfl)]
      exact (congrArg (fun s => X3_fallDown_20 h (nI b) s M) (show (0 : Int32) = nI (subm (G 0) 0 sh) by rw [hs0, if_pos c]; rfl)).trans key
    · rw [if_neg (nI_ne0 (by omega) (by omega))]
      exact (congrArg (fun s => X3_fallDown_20 h (nI b) s M) (show nI (G 0) - nI sh = nI (subm (G 0) 0 sh) by rw [pk_sub (by omega), hs0, if_neg c])).trans key
  · rw [mset_self]
    unfold rw0
    rw [e 0 (by omega), e 1 (by omega), e 2 (by omega)]
    exact ⟨by rw [upd_ne (by omega)]; exact r0.1, by rw [upd_ne (by omega)]; exact r0.2.1, by rw [upd_ne (by omega)]; exact r0.2.2.1, by rw [upd_ne (by omega)]; exact r0.2.2.2.1, by rw [upd_ne (by omega)]; exact r0.2.2.2.2.1, upd_same _ _ _⟩
  · rw [mset_ne _ _ (by omega), mset_ne _ _ (by omega), mset_ne _ _ (by omega)]
    intro t ht
    rw [e 1 (by omega)] at ht
    rw [e (3 + t) (by omega)]; exact r1 t ht
  · rw [mset_ne _ _ (by omega), mset_ne _ _ (by omega), mset_ne _ _ (by omega)]
    intro t ht
    rw [e 1 (by omega)] at ht
    rw [e (9 + t) (by omega)]; exact r2 t ht
  · rw [mset_ne _ _ (by omega), mset_ne _ _ (by omega), mset_ne _ _ (by omega)]
    intro t ht
    rw [e 1 (by omega)] at ht
    rw [e (21 + t) (by omega)]; exact r3 t ht
  · rw [mset_ne _ _ (by omega), mset_ne _ _ (by omega), mset_ne _ _ (by omega)]
    intro t ht
    rw [e 1 (by omega)] at ht
    rw [e (15 + t) (by omega)]; exact r4 t ht
  · rw [mset_ne _ _ (by omega), mset_ne _ _ (by omega), mset_ne _ _ (by omega)]
    intro t ht
    rw [e 1 (by omega)] at ht
    rw [e (27 + t) (by omega)]; exact r5 t ht
  · rw [mset_ne _ _ (by omega), mset_ne _ _ (by omega), mset_self]
    intro t ht
    rw [e 1 (by omega)] at ht
    by_cases q : t = b
    · subst q
      rw [upd_same]
      unfold spG
      rw [upN_same, if_pos (by omega), e 0 (by omega)]
    · rw [upd_ne q, r6 t ht]
      unfold spG
      rw [upN_ne (by omega), e 0 (by omega)]
  · rw [mset_ne _ _ (by omega), mset_self]
    intro s hs
    rw [e 0 (by omega)] at hs
    rw [e 0 (by omega), e 1 (by omega)]
    by_cases q : s = subm (G 0) 0 sh
    · rw [q, upd_same, add_subm (by omega) hsh]
      rw [bagG_one hb (upN_same _ _ _) (fun c hc hcp => by
        by_cases q2 : c = b
        · exact q2
        · rw [upN_ne (by omega)] at hcp
          exact absurd hcp (hno c hc)), gI_s]
    · rw [upd_ne q, r7 s hs]
      congr 1
      symm
      have hp0 : addm (G 0) s sh ≠ 0 := fun z => q (by rw [← sub_addm hs hsh, z])
      have hpl := addm_lt hs hsh
      refine bagG_cong (fun c hc => ?_)
      by_cases q2 : c = b
      · rw [q2, upN_same, hw]; omega
      · rw [upN_ne (by omega)]
  · rw [e 0 (by omega)]; exact hsh
theorem cx_dropFirst_loop (H : HX M h a sh G) (h0 : bagG G 0 (G 1) = 0) : ∀ (d k f : Nat), G 1 - k = d → k ≤ G 1 → d < f → cartG (fun j => j) G k = 0 → ∃ M', X3_dropFirst_2 h f (nI k) M = some M' ∧ HX M' h a sh (if cartG (fun j => j) G (G 1) = 0 then G else upN G (33 + (cartG (fun j => j) G (G 1) - 1)) 0) ∧ frm M M' h
  | 0, k, 0, _, _, hf, _ => absurd hf (Nat.not_lt_zero _)
  | 0, k, f + 1, hd, hk, _, hc => by
    have hP := hx_P H
    have e : k = G 1 := by omega
    subst e
    refine ⟨M, ?_, by rw [if_pos hc]; exact H, frm.rf⟩
    rw [X3_dropFirst_2, H.1.1.2.1, if_neg (nI_nlt (Nat.le_refl _) (by omega))]
  | d + 1, k, 0, _, _, hf, _ => absurd hf (Nat.not_lt_zero _)
  | d + 1, k, f + 1, hd, hk, hf, hc => by
    have hP := hx_P H
    have hlt : k < G 1 := by omega
    by_cases c : G (33 + k) = 20
    · have h2 : cartG (fun j => j) G (k + 1) = k + 1 := by rw [cartG, if_pos hc, if_pos c]
      have h3 := cartG_stay h2 (G 1) (by omega)
      obtain ⟨M', m1, m2, m3⟩ := cx_fallDown H hlt c h0
      refine ⟨M', ?_, by rw [h3, if_neg (by omega), Nat.add_sub_cancel]; exact m2, m3⟩
      rw [X3_dropFirst_2, H.1.1.2.1, if_pos (nI_lt hlt (by omega)), cx_isInCart H hlt, Option.bind_some, if_neg (by simp [c, bI]), m1, Option.bind_some]
    · obtain ⟨M', m1, m2, m3⟩ := cx_dropFirst_loop H h0 d (k + 1) f (by omega) (by omega) (by omega) (by rw [cartG, if_pos hc, if_neg c])
      refine ⟨M', ?_, m2, m3⟩
      rw [X3_dropFirst_2, H.1.1.2.1, if_pos (nI_lt hlt (by omega)), cx_isInCart H hlt, Option.bind_some, if_pos (by simp [c, bI]), nI_1]
      exact m1
end CX
