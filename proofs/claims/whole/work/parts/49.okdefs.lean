/-! PURE: the forty steps: the class and the reference answer alike, and agree on -/
def ok_row (Inv : Mem → Mem → Prop) : Prop := ∀ (Mx Mm : Mem) (a1 a2 a3 : Int32), Inv Mx Mm → ∃ (r : Int32) (Mx' : Mem) (Mm' : Mem), X7_row a1 a2 a3 Mx = some (r, Mx') ∧ X8_row a1 a2 a3 Mm = some (r, Mm') ∧ Inv Mx' Mm'
def ok_set (Inv : Mem → Mem → Prop) : Prop := ∀ (Mx Mm : Mem) (a1 a2 a3 : Int32), Inv Mx Mm → ∃ (r : Int32) (Mx' : Mem) (Mm' : Mem), X7_set a1 a2 a3 Mx = some (r, Mx') ∧ X8_set a1 a2 a3 Mm = some (r, Mm') ∧ Inv Mx' Mm'
def ok_copy (Inv : Mem → Mem → Prop) : Prop := ∀ (Mx Mm : Mem) (a1 a2 a3 a4 a5 : Int32), Inv Mx Mm → ∃ (r : Int32) (Mx' : Mem) (Mm' : Mem), X7_copy a1 a2 a3 a4 a5 Mx = some (r, Mx') ∧ X8_copy a1 a2 a3 a4 a5 Mm = some (r, Mm') ∧ Inv Mx' Mm'
def ok_drop (Inv : Mem → Mem → Prop) : Prop := ∀ (Mx Mm : Mem) (a1 : Int32), Inv Mx Mm → ∃ (r : Int32) (Mx' : Mem) (Mm' : Mem), X7_drop a1 Mx = some (r, Mx') ∧ X8_drop a1 Mm = some (r, Mm') ∧ Inv Mx' Mm'
def ok_feed (Inv : Mem → Mem → Prop) : Prop := ∀ (Mx Mm : Mem) (a1 : Int32), Inv Mx Mm → ∃ (r : Int32) (Mx' : Mem) (Mm' : Mem), X7_feed a1 Mx = some (r, Mx') ∧ X8_feed a1 Mm = some (r, Mm') ∧ Inv Mx' Mm'
def ok_hall (Inv : Mem → Mem → Prop) : Prop := ∀ (Mx Mm : Mem), Inv Mx Mm → ∃ (r : Int32) (Mx' : Mem) (Mm' : Mem), X7_hall  Mx = some (r, Mx') ∧ X8_hall  Mm = some (r, Mm') ∧ Inv Mx' Mm'
def ok_fault (Inv : Mem → Mem → Prop) : Prop := ∀ (Mx Mm : Mem), Inv Mx Mm → ∃ (r : Int32), X7_fault Mx = some r ∧ X8_fault Mm = some r ∧ Inv Mx Mm
def ok_undo (Inv : Mem → Mem → Prop) : Prop := ∀ (Mx Mm : Mem), Inv Mx Mm → ∃ (r : Int32) (Mx' : Mem) (Mm' : Mem), X7_undo  Mx = some (r, Mx') ∧ X8_undo  Mm = some (r, Mm') ∧ Inv Mx' Mm'
def ok_ticks (Inv : Mem → Mem → Prop) : Prop := ∀ (Mx Mm : Mem) (a1 : Int32), Inv Mx Mm → ∃ (r : Int32) (Mx' : Mem) (Mm' : Mem), X7_ticks a1 Mx = some (r, Mx') ∧ X8_ticks a1 Mm = some (r, Mm') ∧ Inv Mx' Mm'
def ok_move (Inv : Mem → Mem → Prop) : Prop := ∀ (Mx Mm : Mem) (a1 a2 : Int32), Inv Mx Mm → ∃ (r : Int32) (Mx' : Mem) (Mm' : Mem), X7_move a1 a2 Mx = some (r, Mx') ∧ X8_move a1 a2 Mm = some (r, Mm') ∧ Inv Mx' Mm'
def ok_paint (Inv : Mem → Mem → Prop) : Prop := ∀ (Mx Mm : Mem) (a1 a2 : Int32), Inv Mx Mm → ∃ (r : Int32) (Mx' : Mem) (Mm' : Mem), X7_paint a1 a2 Mx = some (r, Mx') ∧ X8_paint a1 a2 Mm = some (r, Mm') ∧ Inv Mx' Mm'
def ok_back (Inv : Mem → Mem → Prop) : Prop := ∀ (Mx Mm : Mem) (a1 : Int32), Inv Mx Mm → ∃ (r : Int32) (Mx' : Mem) (Mm' : Mem), X7_back a1 Mx = some (r, Mx') ∧ X8_back a1 Mm = some (r, Mm') ∧ Inv Mx' Mm'
def ok_turn (Inv : Mem → Mem → Prop) : Prop := ∀ (Mx Mm : Mem), Inv Mx Mm → ∃ (r : Int32) (Mx' : Mem) (Mm' : Mem), X7_turn  Mx = some (r, Mx') ∧ X8_turn  Mm = some (r, Mm') ∧ Inv Mx' Mm'
def ok_traveller (Inv : Mem → Mem → Prop) : Prop := ∀ (Mx Mm : Mem) (a1 a2 : Int32), Inv Mx Mm → ∃ (r : Int32), X7_traveller Mx a1 a2 = some r ∧ X8_traveller Mm a1 a2 = some r ∧ Inv Mx Mm
def ok_bag (Inv : Mem → Mem → Prop) : Prop := ∀ (Mx Mm : Mem) (a1 a2 : Int32), Inv Mx Mm → ∃ (r : Int32), X7_bag Mx a1 a2 = some r ∧ X8_bag Mm a1 a2 = some r ∧ Inv Mx Mm
def ok_stand (Inv : Mem → Mem → Prop) : Prop := ∀ (Mx Mm : Mem) (a1 : Int32), Inv Mx Mm → ∃ (r : Int32), X7_stand Mx a1 = some r ∧ X8_stand Mm a1 = some r ∧ Inv Mx Mm
def ok_place (Inv : Mem → Mem → Prop) : Prop := ∀ (Mx Mm : Mem) (a1 : Int32), Inv Mx Mm → ∃ (r : Int32), X7_place Mx a1 = some r ∧ X8_place Mm a1 = some r ∧ Inv Mx Mm
def ok_ahead (Inv : Mem → Mem → Prop) : Prop := ∀ (Mx Mm : Mem) (a1 a2 : Int32), Inv Mx Mm → ∃ (r : Int32) (Mx' : Mem) (Mm' : Mem), X7_ahead a1 a2 Mx = some (r, Mx') ∧ X8_ahead a1 a2 Mm = some (r, Mm') ∧ Inv Mx' Mm'
def ok_with (Inv : Mem → Mem → Prop) : Prop := ∀ (Mx Mm : Mem) (a1 a2 a3 : Int32), Inv Mx Mm → ∃ (r : Int32) (Mx' : Mem) (Mm' : Mem), X7_with a1 a2 a3 Mx = some (r, Mx') ∧ X8_with a1 a2 a3 Mm = some (r, Mm') ∧ Inv Mx' Mm'
def ok_all (Inv : Mem → Mem → Prop) : Prop := ∀ (Mx Mm : Mem) (a1 a2 : Int32), Inv Mx Mm → ∃ (r : Int32) (Mx' : Mem) (Mm' : Mem), X7_all a1 a2 Mx = some (r, Mx') ∧ X8_all a1 a2 Mm = some (r, Mm') ∧ Inv Mx' Mm'
def ok_when (Inv : Mem → Mem → Prop) : Prop := ∀ (Mx Mm : Mem) (a1 : Int32), Inv Mx Mm → ∃ (r : Int32) (Mx' : Mem) (Mm' : Mem), X7_when a1 Mx = some (r, Mx') ∧ X8_when a1 Mm = some (r, Mm') ∧ Inv Mx' Mm'
def ok_empty (Inv : Mem → Mem → Prop) : Prop := ∀ (Mx Mm : Mem), Inv Mx Mm → ∃ (r : Int32) (Mx' : Mem) (Mm' : Mem), X7_empty  Mx = some (r, Mx') ∧ X8_empty  Mm = some (r, Mm') ∧ Inv Mx' Mm'
def ok_best (Inv : Mem → Mem → Prop) : Prop := ∀ (Mx Mm : Mem) (a1 a2 a3 : Int32), Inv Mx Mm → ∃ (r : Int32) (Mx' : Mem) (Mm' : Mem), X7_best a1 a2 a3 Mx = some (r, Mx') ∧ X8_best a1 a2 a3 Mm = some (r, Mm') ∧ Inv Mx' Mm'
def ok_order (Inv : Mem → Mem → Prop) : Prop := ∀ (Mx Mm : Mem) (a1 a2 : Int32), Inv Mx Mm → ∃ (r : Int32) (Mx' : Mem) (Mm' : Mem), X7_order a1 a2 Mx = some (r, Mx') ∧ X8_order a1 a2 Mm = some (r, Mm') ∧ Inv Mx' Mm'
def ok_marks (Inv : Mem → Mem → Prop) : Prop := ∀ (Mx Mm : Mem) (a1 a2 : Int32), Inv Mx Mm → ∃ (r : Int32) (Mx' : Mem) (Mm' : Mem), X7_marks a1 a2 Mx = some (r, Mx') ∧ X8_marks a1 a2 Mm = some (r, Mm') ∧ Inv Mx' Mm'
def ok_sets (Inv : Mem → Mem → Prop) : Prop := ∀ (Mx Mm : Mem) (a1 a2 : Int32), Inv Mx Mm → ∃ (r : Int32), X7_sets Mx a1 a2 = some r ∧ X8_sets Mm a1 a2 = some r ∧ Inv Mx Mm
def ok_share (Inv : Mem → Mem → Prop) : Prop := ∀ (Mx Mm : Mem) (a1 a2 : Int32), Inv Mx Mm → ∃ (r : Int32), X7_share Mx a1 a2 = some r ∧ X8_share Mm a1 a2 = some r ∧ Inv Mx Mm
def ok_byTurns (Inv : Mem → Mem → Prop) : Prop := ∀ (Mx Mm : Mem) (a1 a2 : Int32), Inv Mx Mm → ∃ (r : Int32) (Mx' : Mem) (Mm' : Mem), X7_byTurns a1 a2 Mx = some (r, Mx') ∧ X8_byTurns a1 a2 Mm = some (r, Mm') ∧ Inv Mx' Mm'
def ok_who (Inv : Mem → Mem → Prop) : Prop := ∀ (Mx Mm : Mem) (a1 a2 a3 a4 a5 a6 : Int32), Inv Mx Mm → ∃ (r : Int32) (Mx' : Mem) (Mm' : Mem), X7_who a1 a2 a3 a4 a5 a6 Mx = some (r, Mx') ∧ X8_who a1 a2 a3 a4 a5 a6 Mm = some (r, Mm') ∧ Inv Mx' Mm'
def ok_colours (Inv : Mem → Mem → Prop) : Prop := ∀ (Mx Mm : Mem) (a1 a2 a3 a4 : Int32), Inv Mx Mm → ∃ (r : Int32) (Mx' : Mem) (Mm' : Mem), X7_colours a1 a2 a3 a4 Mx = some (r, Mx') ∧ X8_colours a1 a2 a3 a4 Mm = some (r, Mm') ∧ Inv Mx' Mm'
def ok_sleep (Inv : Mem → Mem → Prop) : Prop := ∀ (Mx Mm : Mem) (a1 a2 a3 a4 : Int32), Inv Mx Mm → ∃ (r : Int64) (Mx' : Mem) (Mm' : Mem), X7_sleep a1 a2 a3 a4 Mx = some (r, Mx') ∧ X8_sleep a1 a2 a3 a4 Mm = some (r, Mm') ∧ Inv Mx' Mm'
def ok_drawn (Inv : Mem → Mem → Prop) : Prop := ∀ (Mx Mm : Mem) (a1 a2 a3 : Int32), Inv Mx Mm → ∃ (r : Int32) (Mx' : Mem) (Mm' : Mem), X7_drawn a1 a2 a3 Mx = some (r, Mx') ∧ X8_drawn a1 a2 a3 Mm = some (r, Mm') ∧ Inv Mx' Mm'
def ok_image (Inv : Mem → Mem → Prop) : Prop := ∀ (Mx Mm : Mem) (a1 : Int32), Inv Mx Mm → ∃ (r : Int32) (Mx' : Mem) (Mm' : Mem), X7_image a1 Mx = some (r, Mx') ∧ X8_image a1 Mm = some (r, Mm') ∧ Inv Mx' Mm'
def ok_restore (Inv : Mem → Mem → Prop) : Prop := ∀ (Mx Mm : Mem) (a1 : Int32), Inv Mx Mm → ∃ (r : Int32) (Mx' : Mem) (Mm' : Mem), X7_restore a1 Mx = some (r, Mx') ∧ X8_restore a1 Mm = some (r, Mm') ∧ Inv Mx' Mm'
def ok_kind (Inv : Mem → Mem → Prop) : Prop := ∀ (Mx Mm : Mem) (a1 : Int32), Inv Mx Mm → ∃ (r : Int32), X7_kind Mx a1 = some r ∧ X8_kind Mm a1 = some r ∧ Inv Mx Mm
def ok_as (Inv : Mem → Mem → Prop) : Prop := ∀ (Mx Mm : Mem) (a1 a2 : Int32), Inv Mx Mm → ∃ (r : Int32) (Mx' : Mem) (Mm' : Mem), X7_as a1 a2 Mx = some (r, Mx') ∧ X8_as a1 a2 Mm = some (r, Mm') ∧ Inv Mx' Mm'
def ok_ask (Inv : Mem → Mem → Prop) : Prop := ∀ (Mx Mm : Mem) (a1 a2 : Int32), Inv Mx Mm → ∃ (r : Int32) (Mx' : Mem) (Mm' : Mem), X7_ask a1 a2 Mx = some (r, Mx') ∧ X8_ask a1 a2 Mm = some (r, Mm') ∧ Inv Mx' Mm'
def ok_trace (Inv : Mem → Mem → Prop) : Prop := ∀ (Mx Mm : Mem) (a1 : Int32), Inv Mx Mm → ∃ (r : Int32), X7_trace Mx a1 = some r ∧ X8_trace Mm a1 = some r ∧ Inv Mx Mm
def ok_count (Inv : Mem → Mem → Prop) : Prop := ∀ (Mx Mm : Mem) (a1 : Int32), Inv Mx Mm → ∃ (r : Int32), X7_count Mx a1 = some r ∧ X8_count Mm a1 = some r ∧ Inv Mx Mm
def ok_status (Inv : Mem → Mem → Prop) : Prop := ∀ (Mx Mm : Mem), Inv Mx Mm → ∃ (r : Int32), X7_status Mx = some r ∧ X8_status Mm = some r ∧ Inv Mx Mm
