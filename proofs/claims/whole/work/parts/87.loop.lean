section LR
variable {E : lwE} {pc : Nat} {i : Int32} {st : List Value} {Mx Mm : Mem}
theorem lw_ite {P : Prop} (k1 : P → LW E pc i st Mx Mm) (k2 : ¬ P → LW E pc i st Mx Mm) : LW E pc i st Mx Mm := by
  by_cases h : P
  · exact k1 h
  · exact k2 h
theorem lw_tswIn (C : lwC E) {dflt lo hi off : Int} {offs : Array Int} {len tgt : Nat} {x : Int32} (z : Int32) (hx : x = z) (dg : decode code pc = .ok (.tableswitch dflt lo hi offs, len)) (h1 : ¬ z.toInt < lo) (h2 : ¬ hi < z.toInt) (ho : offs[(z.toInt - lo).toNat]? = some off) (htg : (pc : Int) + off = (tgt : Int)) (k : LW E tgt i st Mx Mm) : LW E pc i (.int x :: st) Mx Mm := fun H locs ls hP hD hS hl => lv_tableIn C.1 C.2.1 dg (by rw [hx]; exact h1) (by rw [hx]; exact h2) (by rw [hx]; exact ho) htg (k H locs ls hP hD hS hl)
theorem lw_tswOut (C : lwC E) {dflt lo hi : Int} {offs : Array Int} {len tgt : Nat} {x : Int32} (dg : decode code pc = .ok (.tableswitch dflt lo hi offs, len)) (h : x.toInt < lo ∨ hi < x.toInt) (htg : (pc : Int) + dflt = (tgt : Int)) (k : LW E tgt i st Mx Mm) : LW E pc i (.int x :: st) Mx Mm := fun H locs ls hP hD hS hl => lv_tableOut C.1 C.2.1 dg h htg (k H locs ls hP hD hS hl)
theorem lw_next (C : lwC E) (k : LW E 18 (i + 7) [] Mx Mm) : LW E 1451 i [] Mx Mm := by
  intro H locs ls hP hD hS hl
  refine lv_iinc (v := i + 7) (lv' := [(3, .int (i + 7)), (0, .ref (oN E)), (1, .ref (oX E 0)), (2, .ref (oY E 0))]) C.1 C.2.1 dL_law_1451 hl (k := 3) rfl (by rfl) (by decide) rfl (fun ls hl => ?_)
  refine lv_goto (tgt := 18) C.1 C.2.1 dL_law_1454 (by decide) ?_
  exact k H locs ls hP hD hS (lv_sub hl [1, 2, 3, 0] rfl)
end LR
theorem lw_switch {E : lwE} (C : lwC E) {Inv : Mem → Mem → Prop} (h_row : ok_row Inv) (h_set : ok_set Inv) (h_copy : ok_copy Inv) (h_drop : ok_drop Inv) (h_feed : ok_feed Inv) (h_hall : ok_hall Inv) (h_fault : ok_fault Inv) (h_undo : ok_undo Inv) (h_ticks : ok_ticks Inv) (h_move : ok_move Inv) (h_paint : ok_paint Inv) (h_back : ok_back Inv) (h_turn : ok_turn Inv) (h_traveller : ok_traveller Inv) (h_bag : ok_bag Inv) (h_stand : ok_stand Inv) (h_place : ok_place Inv) (h_ahead : ok_ahead Inv) (h_with : ok_with Inv) (h_all : ok_all Inv) (h_when : ok_when Inv) (h_empty : ok_empty Inv) (h_best : ok_best Inv) (h_order : ok_order Inv) (h_marks : ok_marks Inv) (h_sets : ok_sets Inv) (h_share : ok_share Inv) (h_byTurns : ok_byTurns Inv) (h_who : ok_who Inv) (h_colours : ok_colours Inv) (h_sleep : ok_sleep Inv) (h_drawn : ok_drawn Inv) (h_image : ok_image Inv) (h_restore : ok_restore Inv) (h_kind : ok_kind Inv) (h_as : ok_as Inv) (h_ask : ok_ask Inv) (h_trace : ok_trace Inv) (h_count : ok_count Inv) (h_status : ok_status Inv) {n : Nat} {i x : Int32} (hi : i = nI n) (hn : n + 6 < oT E) {Mx Mm : Mem} (hI : Inv Mx Mm) (k : ∀ Mx' Mm', Inv Mx' Mm' → LW E 1451 i [] Mx' Mm') : LW E 33 i [.int x] Mx Mm := by
  refine lw_ite (P := x = 0) (fun h => lw_tswIn C (tgt := 208) 0 h dL_law_33 (by decide) (by decide) rfl (by decide) (lw_case_row C h_row hi hn hI k)) (fun g0 => ?_)
  refine lw_ite (P := x = 1) (fun h => lw_tswIn C (tgt := 251) 1 h dL_law_33 (by decide) (by decide) rfl (by decide) (lw_case_set C h_set hi hn hI k)) (fun g1 => ?_)
  refine lw_ite (P := x = 2) (fun h => lw_tswIn C (tgt := 294) 2 h dL_law_33 (by decide) (by decide) rfl (by decide) (lw_case_copy C h_copy hi hn hI k)) (fun g2 => ?_)
  refine lw_ite (P := x = 3) (fun h => lw_tswIn C (tgt := 357) 3 h dL_law_33 (by decide) (by decide) rfl (by decide) (lw_case_drop C h_drop hi hn hI k)) (fun g3 => ?_)
  refine lw_ite (P := x = 4) (fun h => lw_tswIn C (tgt := 380) 4 h dL_law_33 (by decide) (by decide) rfl (by decide) (lw_case_feed C h_feed hi hn hI k)) (fun g4 => ?_)
  refine lw_ite (P := x = 5) (fun h => lw_tswIn C (tgt := 403) 5 h dL_law_33 (by decide) (by decide) rfl (by decide) (lw_case_hall C h_hall hi hn hI k)) (fun g5 => ?_)
  refine lw_ite (P := x = 6) (fun h => lw_tswIn C (tgt := 416) 6 h dL_law_33 (by decide) (by decide) rfl (by decide) (lw_case_fault C h_fault hi hn hI k)) (fun g6 => ?_)
  refine lw_ite (P := x = 7) (fun h => lw_tswIn C (tgt := 429) 7 h dL_law_33 (by decide) (by decide) rfl (by decide) (lw_case_undo C h_undo hi hn hI k)) (fun g7 => ?_)
  refine lw_ite (P := x = 8) (fun h => lw_tswIn C (tgt := 442) 8 h dL_law_33 (by decide) (by decide) rfl (by decide) (lw_case_ticks C h_ticks hi hn hI k)) (fun g8 => ?_)
  refine lw_ite (P := x = 9) (fun h => lw_tswIn C (tgt := 465) 9 h dL_law_33 (by decide) (by decide) rfl (by decide) (lw_case_move C h_move hi hn hI k)) (fun g9 => ?_)
  refine lw_ite (P := x = 10) (fun h => lw_tswIn C (tgt := 498) 10 h dL_law_33 (by decide) (by decide) rfl (by decide) (lw_case_paint C h_paint hi hn hI k)) (fun g10 => ?_)
  refine lw_ite (P := x = 11) (fun h => lw_tswIn C (tgt := 531) 11 h dL_law_33 (by decide) (by decide) rfl (by decide) (lw_case_back C h_back hi hn hI k)) (fun g11 => ?_)
  refine lw_ite (P := x = 12) (fun h => lw_tswIn C (tgt := 554) 12 h dL_law_33 (by decide) (by decide) rfl (by decide) (lw_case_turn C h_turn hi hn hI k)) (fun g12 => ?_)
  refine lw_ite (P := x = 13) (fun h => lw_tswIn C (tgt := 567) 13 h dL_law_33 (by decide) (by decide) rfl (by decide) (lw_case_traveller C h_traveller hi hn hI k)) (fun g13 => ?_)
  refine lw_ite (P := x = 14) (fun h => lw_tswIn C (tgt := 600) 14 h dL_law_33 (by decide) (by decide) rfl (by decide) (lw_case_bag C h_bag hi hn hI k)) (fun g14 => ?_)
  refine lw_ite (P := x = 15) (fun h => lw_tswIn C (tgt := 633) 15 h dL_law_33 (by decide) (by decide) rfl (by decide) (lw_case_stand C h_stand hi hn hI k)) (fun g15 => ?_)
  refine lw_ite (P := x = 16) (fun h => lw_tswIn C (tgt := 656) 16 h dL_law_33 (by decide) (by decide) rfl (by decide) (lw_case_place C h_place hi hn hI k)) (fun g16 => ?_)
  refine lw_ite (P := x = 17) (fun h => lw_tswIn C (tgt := 679) 17 h dL_law_33 (by decide) (by decide) rfl (by decide) (lw_case_ahead C h_ahead hi hn hI k)) (fun g17 => ?_)
  refine lw_ite (P := x = 18) (fun h => lw_tswIn C (tgt := 712) 18 h dL_law_33 (by decide) (by decide) rfl (by decide) (lw_case_with C h_with hi hn hI k)) (fun g18 => ?_)
  refine lw_ite (P := x = 19) (fun h => lw_tswIn C (tgt := 755) 19 h dL_law_33 (by decide) (by decide) rfl (by decide) (lw_case_all C h_all hi hn hI k)) (fun g19 => ?_)
  refine lw_ite (P := x = 20) (fun h => lw_tswIn C (tgt := 788) 20 h dL_law_33 (by decide) (by decide) rfl (by decide) (lw_case_when C h_when hi hn hI k)) (fun g20 => ?_)
  refine lw_ite (P := x = 21) (fun h => lw_tswIn C (tgt := 811) 21 h dL_law_33 (by decide) (by decide) rfl (by decide) (lw_case_empty C h_empty hi hn hI k)) (fun g21 => ?_)
  refine lw_ite (P := x = 22) (fun h => lw_tswIn C (tgt := 824) 22 h dL_law_33 (by decide) (by decide) rfl (by decide) (lw_case_best C h_best hi hn hI k)) (fun g22 => ?_)
  refine lw_ite (P := x = 23) (fun h => lw_tswIn C (tgt := 867) 23 h dL_law_33 (by decide) (by decide) rfl (by decide) (lw_case_order C h_order hi hn hI k)) (fun g23 => ?_)
  refine lw_ite (P := x = 24) (fun h => lw_tswIn C (tgt := 900) 24 h dL_law_33 (by decide) (by decide) rfl (by decide) (lw_case_marks C h_marks hi hn hI k)) (fun g24 => ?_)
  refine lw_ite (P := x = 25) (fun h => lw_tswIn C (tgt := 933) 25 h dL_law_33 (by decide) (by decide) rfl (by decide) (lw_case_sets C h_sets hi hn hI k)) (fun g25 => ?_)
  refine lw_ite (P := x = 26) (fun h => lw_tswIn C (tgt := 966) 26 h dL_law_33 (by decide) (by decide) rfl (by decide) (lw_case_share C h_share hi hn hI k)) (fun g26 => ?_)
  refine lw_ite (P := x = 27) (fun h => lw_tswIn C (tgt := 999) 27 h dL_law_33 (by decide) (by decide) rfl (by decide) (lw_case_byTurns C h_byTurns hi hn hI k)) (fun g27 => ?_)
  refine lw_ite (P := x = 28) (fun h => lw_tswIn C (tgt := 1032) 28 h dL_law_33 (by decide) (by decide) rfl (by decide) (lw_case_who C h_who hi hn hI k)) (fun g28 => ?_)
  refine lw_ite (P := x = 29) (fun h => lw_tswIn C (tgt := 1107) 29 h dL_law_33 (by decide) (by decide) rfl (by decide) (lw_case_colours C h_colours hi hn hI k)) (fun g29 => ?_)
  refine lw_ite (P := x = 30) (fun h => lw_tswIn C (tgt := 1160) 30 h dL_law_33 (by decide) (by decide) rfl (by decide) (lw_case_sleep C h_sleep hi hn hI k)) (fun g30 => ?_)
  refine lw_ite (P := x = 31) (fun h => lw_tswIn C (tgt := 1214) 31 h dL_law_33 (by decide) (by decide) rfl (by decide) (lw_case_drawn C h_drawn hi hn hI k)) (fun g31 => ?_)
  refine lw_ite (P := x = 32) (fun h => lw_tswIn C (tgt := 1257) 32 h dL_law_33 (by decide) (by decide) rfl (by decide) (lw_case_image C h_image hi hn hI k)) (fun g32 => ?_)
  refine lw_ite (P := x = 33) (fun h => lw_tswIn C (tgt := 1280) 33 h dL_law_33 (by decide) (by decide) rfl (by decide) (lw_case_restore C h_restore hi hn hI k)) (fun g33 => ?_)
  refine lw_ite (P := x = 34) (fun h => lw_tswIn C (tgt := 1303) 34 h dL_law_33 (by decide) (by decide) rfl (by decide) (lw_case_kind C h_kind hi hn hI k)) (fun g34 => ?_)
  refine lw_ite (P := x = 35) (fun h => lw_tswIn C (tgt := 1326) 35 h dL_law_33 (by decide) (by decide) rfl (by decide) (lw_case_as C h_as hi hn hI k)) (fun g35 => ?_)
  refine lw_ite (P := x = 36) (fun h => lw_tswIn C (tgt := 1359) 36 h dL_law_33 (by decide) (by decide) rfl (by decide) (lw_case_ask C h_ask hi hn hI k)) (fun g36 => ?_)
  refine lw_ite (P := x = 37) (fun h => lw_tswIn C (tgt := 1392) 37 h dL_law_33 (by decide) (by decide) rfl (by decide) (lw_case_trace C h_trace hi hn hI k)) (fun g37 => ?_)
  refine lw_ite (P := x = 38) (fun h => lw_tswIn C (tgt := 1415) 38 h dL_law_33 (by decide) (by decide) rfl (by decide) (lw_case_count C h_count hi hn hI k)) (fun g38 => ?_)
  refine lw_ite (P := x = 39) (fun h => lw_tswIn C (tgt := 1438) 39 h dL_law_33 (by decide) (by decide) rfl (by decide) (lw_case_status C h_status hi hn hI k)) (fun g39 => ?_)
  have q0 := lv_neT g0 (a := 0) (by decide)
  have q1 := lv_neT g1 (a := 1) (by decide)
  have q2 := lv_neT g2 (a := 2) (by decide)
  have q3 := lv_neT g3 (a := 3) (by decide)
  have q4 := lv_neT g4 (a := 4) (by decide)
  have q5 := lv_neT g5 (a := 5) (by decide)
  have q6 := lv_neT g6 (a := 6) (by decide)
  have q7 := lv_neT g7 (a := 7) (by decide)
  have q8 := lv_neT g8 (a := 8) (by decide)
  have q9 := lv_neT g9 (a := 9) (by decide)
  have q10 := lv_neT g10 (a := 10) (by decide)
  have q11 := lv_neT g11 (a := 11) (by decide)
  have q12 := lv_neT g12 (a := 12) (by decide)
  have q13 := lv_neT g13 (a := 13) (by decide)
  have q14 := lv_neT g14 (a := 14) (by decide)
  have q15 := lv_neT g15 (a := 15) (by decide)
  have q16 := lv_neT g16 (a := 16) (by decide)
  have q17 := lv_neT g17 (a := 17) (by decide)
  have q18 := lv_neT g18 (a := 18) (by decide)
  have q19 := lv_neT g19 (a := 19) (by decide)
  have q20 := lv_neT g20 (a := 20) (by decide)
  have q21 := lv_neT g21 (a := 21) (by decide)
  have q22 := lv_neT g22 (a := 22) (by decide)
  have q23 := lv_neT g23 (a := 23) (by decide)
  have q24 := lv_neT g24 (a := 24) (by decide)
  have q25 := lv_neT g25 (a := 25) (by decide)
  have q26 := lv_neT g26 (a := 26) (by decide)
  have q27 := lv_neT g27 (a := 27) (by decide)
  have q28 := lv_neT g28 (a := 28) (by decide)
  have q29 := lv_neT g29 (a := 29) (by decide)
  have q30 := lv_neT g30 (a := 30) (by decide)
  have q31 := lv_neT g31 (a := 31) (by decide)
  have q32 := lv_neT g32 (a := 32) (by decide)
  have q33 := lv_neT g33 (a := 33) (by decide)
  have q34 := lv_neT g34 (a := 34) (by decide)
  have q35 := lv_neT g35 (a := 35) (by decide)
  have q36 := lv_neT g36 (a := 36) (by decide)
  have q37 := lv_neT g37 (a := 37) (by decide)
  have q38 := lv_neT g38 (a := 38) (by decide)
  have q39 := lv_neT g39 (a := 39) (by decide)
  exact lw_tswOut C (tgt := 1451) dL_law_33 (by omega) (by decide) (k Mx Mm hI)
theorem lw_loop {E : lwE} (C : lwC E) {Inv : Mem → Mem → Prop} (h_row : ok_row Inv) (h_set : ok_set Inv) (h_copy : ok_copy Inv) (h_drop : ok_drop Inv) (h_feed : ok_feed Inv) (h_hall : ok_hall Inv) (h_fault : ok_fault Inv) (h_undo : ok_undo Inv) (h_ticks : ok_ticks Inv) (h_move : ok_move Inv) (h_paint : ok_paint Inv) (h_back : ok_back Inv) (h_turn : ok_turn Inv) (h_traveller : ok_traveller Inv) (h_bag : ok_bag Inv) (h_stand : ok_stand Inv) (h_place : ok_place Inv) (h_ahead : ok_ahead Inv) (h_with : ok_with Inv) (h_all : ok_all Inv) (h_when : ok_when Inv) (h_empty : ok_empty Inv) (h_best : ok_best Inv) (h_order : ok_order Inv) (h_marks : ok_marks Inv) (h_sets : ok_sets Inv) (h_share : ok_share Inv) (h_byTurns : ok_byTurns Inv) (h_who : ok_who Inv) (h_colours : ok_colours Inv) (h_sleep : ok_sleep Inv) (h_drawn : ok_drawn Inv) (h_image : ok_image Inv) (h_restore : ok_restore Inv) (h_kind : ok_kind Inv) (h_as : ok_as Inv) (h_ask : ok_ask Inv) (h_trace : ok_trace Inv) (h_count : ok_count Inv) (h_status : ok_status Inv) : ∀ (f n : Nat) (Mx Mm : Mem), Inv Mx Mm → n ≤ oT E → oT E - n < f → LW E 18 (nI n) [] Mx Mm
  | 0, n, Mx, Mm, _, _, hf => absurd hf (Nat.not_lt_zero _)
  | f + 1, n, Mx, Mm, hI, hn, hf => by
    have hT : oT E ≤ 3584 := C.2.2.2.2.2.2.2.2.2.2.2.1
    intro H locs ls hP hD hS hl
    refine lv_iload_n C.1 C.2.1 dL_law_18 rfl (lv_at hl 3 rfl) ?_
    refine lv_aload_n C.1 C.2.1 dL_law_19 rfl (lv_at hl 0 rfl) ?_
    refine va_slen C.1 C.2.1 C.2.2.2.2.2.2.2.2.2.1 C.2.2.2.2.2.2.2.2.2.2.1 (Nat.not_le.mpr C.2.2.2.2.2.2.2.2.2.2.1) hS dL_law_20 ?_
    refine lv_bipush (v := nI 7) C.1 C.2.1 dL_law_21 (by rfl) ?_
    refine lv_isub C.1 C.2.1 dL_law_23 ?_
    have e1 : (nI (oT E) - nI 7).toInt = (oT E : Int) - 7 := pk_sub_toInt (by omega) (by omega)
    have e2 : (nI n).toInt = (n : Int) := nI_toInt (by omega)
    refine lv_icmp_gt (tgt := 1457) C.1 C.2.1 dL_law_24 (by decide) (fun _ => ?_) (fun hc => ?_)
    · refine lv_iconst (v := 1) C.1 C.2.1 dL_law_1457 (by decide) ?_
      exact va_forget hS.2.2 (lw_ret C.1 C.2.1 C.2.2.2.2.2.2.2.2.2.2.2.2 C.2.2.2.2.2.1 dL_law_1458)
    · have hlt : n + 7 ≤ oT E := by
        have h := hc
        rw [Int32.lt_iff_toInt_lt] at h
        have h2 : ¬ (nI (oT E) - nI 7).toInt < (nI n).toInt := h
        rw [e1, e2] at h2
        omega
      refine lv_aload_n C.1 C.2.1 dL_law_27 rfl (lv_at hl 0 rfl) ?_
      refine lv_iload_n C.1 C.2.1 dL_law_28 rfl (lv_at hl 3 rfl) ?_
      refine va_sld C.1 C.2.1 C.2.2.2.2.2.2.2.2.2.1 C.2.2.2.2.2.2.2.2.2.2.1 (Nat.not_le.mpr C.2.2.2.2.2.2.2.2.2.2.1) hS (vp_in_nI (show n < oT E by omega) (by omega)) dL_law_29 ?_
      refine lv_bipush (v := 63) C.1 C.2.1 dL_law_30 (by decide) ?_
      refine lv_iand C.1 C.2.1 dL_law_32 ?_
      refine lw_switch C h_row h_set h_copy h_drop h_feed h_hall h_fault h_undo h_ticks h_move h_paint h_back h_turn h_traveller h_bag h_stand h_place h_ahead h_with h_all h_when h_empty h_best h_order h_marks h_sets h_share h_byTurns h_who h_colours h_sleep h_drawn h_image h_restore h_kind h_as h_ask h_trace h_count h_status (n := n) rfl (by omega) hI (fun Mx' Mm' hI' => ?_) H locs ls hP hD hS hl
      refine lw_next C ?_
      rw [show nI n + 7 = nI (n + 7) from nI_add n 7]
      exact lw_loop C h_row h_set h_copy h_drop h_feed h_hall h_fault h_undo h_ticks h_move h_paint h_back h_turn h_traveller h_bag h_stand h_place h_ahead h_with h_all h_when h_empty h_best h_order h_marks h_sets h_share h_byTurns h_who h_colours h_sleep h_drawn h_image h_restore h_kind h_as h_ask h_trace h_count h_status f (n + 7) Mx' Mm' hI' (by omega) (by omega)
