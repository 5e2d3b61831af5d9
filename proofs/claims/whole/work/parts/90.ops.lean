/-! WHAT EACH PAIR OF CALLS OWES (open until proved in a part of its own) -/
theorem op_feed {mi : MI} {w : WS} (I : Inv mi w) (x1 : Int32) (x2 : Int32) (x3 : Int32) (x4 : Int32) (x5 : Int32) : ∃ c, F_X10_feed mi w x1 x2 x3 x4 x5 = some c ∧ ∃ e, F_X11_feed c.2 w x1 x2 x3 x4 x5 = some e ∧ c.1 = e.1 ∧ Inv e.2 w := by
  sorry
theorem op_end {mi : MI} {w : WS} (I : Inv mi w) (x1 : Int32) : ∃ c, F_X10_end mi w x1 = some c ∧ ∃ e, F_X11_end c.2 w x1 = some e ∧ c.1 = e.1 ∧ Inv e.2 w := by
  sorry
theorem op_text {mi : MI} {w : WS} (I : Inv mi w) (x1 : Int32) (x2 : Int32) : ∃ c, F_X10_text mi w x1 x2 = some c ∧ ∃ e, F_X11_text c.2.1 c.2.2 x1 x2 = some e ∧ c.1 = e.1 ∧ Inv e.2.1 e.2.2 ∧ e.2.2.2.2.1 = w.2.2.1 := by
  sorry
theorem op_fault {mi : MI} {w : WS} (I : Inv mi w) (x1 : Int32) : ∃ c, F_X10_fault mi w x1 = some c ∧ ∃ e, F_X11_fault mi w x1 = some e ∧ c = e.1 ∧ Inv e.2 w := by
  sorry
theorem op_shop {mi : MI} {w : WS} (I : Inv mi w) (x1 : Int32) (x2 : Int32) : ∃ c, F_X10_shop mi w x1 x2 = some c ∧ ∃ e, F_X11_shop mi w x1 x2 = some e ∧ c = e.1 ∧ Inv e.2 w := by
  sorry
theorem op_deed {mi : MI} {w : WS} (I : Inv mi w) (x1 : Int32) (x2 : Int32) (x3 : Int32) : ∃ c, F_X10_deed mi w x1 x2 x3 = some c ∧ ∃ e, F_X11_deed mi w x1 x2 x3 = some e ∧ c = e.1 ∧ Inv e.2 w := by
  sorry
theorem op_stop {mi : MI} {w : WS} (I : Inv mi w) (x1 : Int32) (x2 : Int32) : ∃ c, F_X10_stop mi w x1 x2 = some c ∧ ∃ e, F_X11_stop c.2.1 c.2.2 x1 x2 = some e ∧ c.1 = e.1 ∧ Inv e.2 c.2.2 ∧ c.2.2.2.2.1 = w.2.2.1 := by
  sorry
theorem op_state {mi : MI} {w : WS} (I : Inv mi w) (x1 : Int32) (x2 : Int32) (x3 : Int32) (x4 : Int32) : ∃ c, F_X10_state mi w x1 x2 x3 x4 = some c ∧ ∃ e, F_X11_state c.2.1 c.2.2 x1 x2 x3 x4 = some e ∧ c.1 = e.1 ∧ Inv e.2 c.2.2 ∧ c.2.2.2.2.1 = w.2.2.1 := by
  sorry
theorem op_bridges {mi : MI} {w : WS} (I : Inv mi w) (x1 : Int32) (x2 : Int32) (x3 : Int32) (hb : x3 = 0 ∨ x3 = 1) : ∃ c, F_X10_bridges mi w x1 x2 x3 = some c ∧ ∃ e, F_X11_bridges mi w x1 x2 x3 = some e ∧ c = e.1 ∧ Inv e.2 w := by
  sorry
theorem op_make {mi : MI} {w : WS} (I : Inv mi w) (x1 : Int32) (x2 : Int32) (x3 : Int32) : ∃ c, F_X10_make mi w x1 x2 x3 = some c ∧ ∃ e, F_X11_make c.2 w x1 x2 x3 = some e ∧ c.1 = e.1 ∧ Inv e.2 w := by
  sorry
theorem op_cover {mi : MI} {w : WS} (I : Inv mi w) (x1 : Int32) (x2 : Int32) (hb : x2 = 0 ∨ x2 = 1) : ∃ c, F_X10_cover mi w x1 x2 = some c ∧ ∃ e, F_X11_cover mi w x1 x2 = some e ∧ c = e.1 ∧ Inv e.2 w := by
  sorry
theorem op_atOnce {mi : MI} {w : WS} (I : Inv mi w) (x1 : Int32) (x2 : Int32) (hb : x2 = 0 ∨ x2 = 1) : ∃ c, F_X10_atOnce mi w x1 x2 = some c ∧ ∃ e, F_X11_atOnce mi w x1 x2 = some e ∧ c = e.1 ∧ Inv e.2 w := by
  sorry
theorem op_duel {mi : MI} {w : WS} (I : Inv mi w) (x1 : Int32) (x2 : Int32) (x3 : Int32) (hb : x3 = 0 ∨ x3 = 1) : ∃ c, F_X10_duel mi w x1 x2 x3 = some c ∧ ∃ e, F_X11_duel mi w x1 x2 x3 = some e ∧ c = e.1 ∧ Inv e.2 w := by
  sorry
theorem op_chance {mi : MI} {w : WS} (I : Inv mi w) (x1 : Int32) (x2 : Int32) (x3 : Int32) (x4 : Int32) (hb : x4 = 0 ∨ x4 = 1) : ∃ c, F_X10_chance mi w x1 x2 x3 x4 = some c ∧ ∃ e, F_X11_chance mi w x1 x2 x3 x4 = some e ∧ c = e.1 ∧ Inv e.2 w := by
  sorry
theorem op_within {mi : MI} {w : WS} (I : Inv mi w) (x1 : Int32) (x2 : Int32) (x3 : Int32) : ∃ c, F_X10_within mi w x1 x2 x3 = some c ∧ ∃ e, F_X11_within mi w x1 x2 x3 = some e ∧ c = e.1 ∧ Inv e.2 w := by
  sorry
theorem op_picture {mi : MI} {w : WS} (I : Inv mi w) (x1 : Int32) (x2 : Int32) (x3 : Int32) : ∃ c, F_X10_picture mi w x1 x2 x3 = some c ∧ ∃ e, F_X11_picture mi w x1 x2 x3 = some e ∧ c = e.1 ∧ Inv e.2 w := by
  sorry
theorem op_mark {mi : MI} {w : WS} (I : Inv mi w) (x1 : Int32) (x2 : Int32) (x3 : Int32) : ∃ c, F_X10_mark mi w x1 x2 x3 = some c ∧ ∃ e, F_X11_mark mi w x1 x2 x3 = some e ∧ c = e.1 ∧ Inv e.2 w := by
  sorry
theorem op_fits {mi : MI} {w : WS} (I : Inv mi w) (x1 : Int32) (x2 : Int32) (x3 : Int32) : ∃ c, F_X10_fits mi w x1 x2 x3 = some c ∧ ∃ e, F_X11_fits c.2 w x1 x2 x3 = some e ∧ c.1 = e.1 ∧ Inv e.2 w := by
  sorry
theorem op_drawn {mi : MI} {w : WS} (I : Inv mi w) (x1 : Int32) (x2 : Int32) (x3 : Int32) (x4 : Int32) : ∃ c, F_X10_drawn mi w x1 x2 x3 x4 = some c ∧ ∃ e, F_X11_drawn c.2.1 c.2.2 x1 x2 x3 x4 = some e ∧ c.1 = e.1 ∧ Inv e.2 c.2.2 ∧ c.2.2.2.2.1 = w.2.2.1 := by
  sorry
theorem op_holes {mi : MI} {w : WS} (I : Inv mi w) (x1 : Int32) (x2 : Int32) (x3 : Int32) : ∃ c, F_X10_holes mi w x1 x2 x3 = some c ∧ ∃ e, F_X11_holes mi w x1 x2 x3 = some e ∧ c = e.1 ∧ Inv e.2 w := by
  sorry
theorem op_sheets {mi : MI} {w : WS} (I : Inv mi w) (x1 : Int32) (x2 : Int32) : ∃ c, F_X10_sheets mi w x1 x2 = some c ∧ ∃ e, F_X11_sheets mi w x1 x2 = some e ∧ c = e.1 ∧ Inv e.2 w := by
  sorry
theorem op_unlike {mi : MI} {w : WS} (I : Inv mi w) (x1 : Int32) (x2 : Int32) (x3 : Int32) : ∃ c, F_X10_unlike mi w x1 x2 x3 = some c ∧ ∃ e, F_X11_unlike mi w x1 x2 x3 = some e ∧ c = e.1 ∧ Inv e.2 w := by
  sorry
theorem op_seen {mi : MI} {w : WS} (I : Inv mi w) (x1 : Int32) (x2 : Int32) : ∃ c, F_X10_seen mi w x1 x2 = some c ∧ ∃ e, F_X11_seen mi w x1 x2 = some e ∧ c = e.1 ∧ Inv e.2 w := by
  sorry
theorem op_show {mi : MI} {w : WS} (I : Inv mi w) (x1 : Int32) (x2 : Int32) : ∃ c, F_X10_show mi w x1 x2 = some c ∧ ∃ e, F_X11_show c.2 w x1 x2 = some e ∧ c.1 = e.1 ∧ Inv e.2 w := by
  sorry
theorem op_colours {mi : MI} {w : WS} (I : Inv mi w) (x1 : Int32) (x2 : Int32) : ∃ c, F_X10_colours mi w x1 x2 = some c ∧ ∃ e, F_X11_colours mi w x1 x2 = some e ∧ c = e.1 ∧ Inv e.2 w := by
  sorry
theorem op_plain {mi : MI} {w : WS} (I : Inv mi w) (x1 : Int32) (x2 : Int32) (x3 : Int32) : ∃ c, F_X10_plain mi w x1 x2 x3 = some c ∧ ∃ e, F_X11_plain mi w x1 x2 x3 = some e ∧ c = e.1 ∧ Inv e.2 w := by
  sorry
theorem op_off {mi : MI} {w : WS} (I : Inv mi w) (x1 : Int32) (x2 : Int32) : ∃ c, F_X10_off mi w x1 x2 = some c ∧ ∃ e, F_X11_off mi w x1 x2 = some e ∧ c = e.1 ∧ Inv e.2 w := by
  sorry
theorem op_after {mi : MI} {w : WS} (I : Inv mi w) (x1 : Int32) (x2 : Int32) (x3 : Int32) : ∃ c, F_X10_after mi w x1 x2 x3 = some c ∧ ∃ e, F_X11_after c.2.1 c.2.2 x1 x2 x3 = some e ∧ c.1 = e.1 ∧ Inv e.2 c.2.2 ∧ c.2.2.2.2.1 = w.2.2.1 := by
  sorry
theorem op_count {mi : MI} {w : WS} (I : Inv mi w) (x1 : Int32) : ∃ c, F_X10_count mi w x1 = some c ∧ ∃ e, F_X11_count mi w x1 = some e ∧ c = e.1 ∧ Inv e.2 w := by
  sorry
theorem op_image_out {mi : MI} {w : WS} (I : Inv mi w) {x : Int32} (hx : x < 0 ∨ ¬ x < 3) : ∃ e, F_X11_image mi w x = some e ∧ e.1 = 0 ∧ Inv e.2 w := by
  sorry
theorem op_again_out {mi : MI} {w : WS} (I : Inv mi w) {x : Int32} (hx : x < 0 ∨ ¬ x < 3) : ∃ e, F_X11_again mi w x = some e ∧ e.1 = 0 ∧ Inv e.2 w := by
  sorry
theorem op_image_old {mi : MI} {w : WS} (I : Inv mi w) {k : Nat} (hk : k < 3) (h : w.2.2.1 k = true) : ∃ r, F_X8_copyFrom mi w (k + 1) 0 = some r ∧ ∃ e, F_X11_image r w (nI k) = some e ∧ e.1 = 1 ∧ Inv e.2 w := by
  sorry
theorem op_again_old {mi : MI} {w : WS} (I : Inv mi w) {k : Nat} (hk : k < 3) (h : w.2.2.1 k = true) : ∃ r, F_X8_copyFrom mi w 0 (k + 1) = some r ∧ ∃ e, F_X11_again r w (nI k) = some e ∧ e.1 = 1 ∧ Inv e.2 w := by
  sorry
theorem op_again_none {mi : MI} {w : WS} (I : Inv mi w) {k : Nat} (hk : k < 3) (h : w.2.2.1 k = false) : ∃ e, F_X11_again mi w (nI k) = some e ∧ e.1 = 0 ∧ Inv e.2 w := by
  sorry
theorem op_image_new_0 {mi : MI} {w : WS} {lv : LV} (I : Inv mi w) : ∃ r, F_X8_copyFrom (N_X8_init_1 (mk (mi, RS w, lv) 7 1)).1 (w.1, w.2.1, (fun j => if j = 0 then true else w.2.2.1 j), w.2.2.2) 1 0 = some r ∧ ∃ e, F_X11_image r (w.1, w.2.1, (fun j => if j = 0 then true else w.2.2.1 j), w.2.2.2) 0 = some e ∧ e.1 = 1 ∧ Inv e.2 (w.1, w.2.1, (fun j => if j = 0 then true else w.2.2.1 j), w.2.2.2) := by
  sorry
theorem op_image_new_1 {mi : MI} {w : WS} {lv : LV} (I : Inv mi w) : ∃ r, F_X8_copyFrom (N_X8_init_2 (mk (mi, RS w, lv) 7 2)).1 (w.1, w.2.1, (fun j => if j = 1 then true else w.2.2.1 j), w.2.2.2) 2 0 = some r ∧ ∃ e, F_X11_image r (w.1, w.2.1, (fun j => if j = 1 then true else w.2.2.1 j), w.2.2.2) 1 = some e ∧ e.1 = 1 ∧ Inv e.2 (w.1, w.2.1, (fun j => if j = 1 then true else w.2.2.1 j), w.2.2.2) := by
  sorry
theorem op_image_new_2 {mi : MI} {w : WS} {lv : LV} (I : Inv mi w) : ∃ r, F_X8_copyFrom (N_X8_init_3 (mk (mi, RS w, lv) 7 3)).1 (w.1, w.2.1, (fun j => if j = 2 then true else w.2.2.1 j), w.2.2.2) 3 0 = some r ∧ ∃ e, F_X11_image r (w.1, w.2.1, (fun j => if j = 2 then true else w.2.2.1 j), w.2.2.2) 2 = some e ∧ e.1 = 1 ∧ Inv e.2 (w.1, w.2.1, (fun j => if j = 2 then true else w.2.2.1 j), w.2.2.2) := by
  sorry
