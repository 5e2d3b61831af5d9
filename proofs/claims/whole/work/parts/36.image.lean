/-! IMAGES OF THE CLASS: image and again, by hand for each of the three -/
abbrev row_173 : MT := (⟨"StencilHouse", "image", "(I)Z"⟩, prog_1_method_31_code, 3, some .boolean, 1, lk_10)
set_option maxRecDepth 20000 in
theorem mt_173 : mt 173 = some row_173 := rfl
abbrev row_174 : MT := (⟨"StencilHouse", "again", "(I)Z"⟩, prog_1_method_32_code, 3, some .boolean, 1, lk_10)
set_option maxRecDepth 20000 in
theorem mt_174 : mt 174 = some row_174 := rfl
def tn (t : Nat) : PL := match t with
  | 1 => [(20, 1), (21, 1), (22, 1), (23, 1), (24, 1), (25, 1), (5, 2), (26, 2), (27, 2), (28, 2), (0, 2), (29, 2), (3, 2), (30, 2), (1, 2), (31, 2), (32, 2), (33, 2), (5, 3), (26, 3), (27, 3), (28, 3), (0, 3), (29, 3), (3, 3), (30, 3), (1, 3), (31, 3), (32, 3), (33, 3)]
  | 2 => [(20, 2), (21, 2), (22, 2), (23, 2), (24, 2), (25, 2), (5, 4), (26, 4), (27, 4), (28, 4), (0, 4), (29, 4), (3, 4), (30, 4), (1, 4), (31, 4), (32, 4), (33, 4), (5, 5), (26, 5), (27, 5), (28, 5), (0, 5), (29, 5), (3, 5), (30, 5), (1, 5), (31, 5), (32, 5), (33, 5)]
  | _ => [(20, 3), (21, 3), (22, 3), (23, 3), (24, 3), (25, 3), (5, 6), (26, 6), (27, 6), (28, 6), (0, 6), (29, 6), (3, 6), (30, 6), (1, 6), (31, 6), (32, 6), (33, 6), (5, 7), (26, 7), (27, 7), (28, 7), (0, 7), (29, 7), (3, 7), (30, 7), (1, 7), (31, 7), (32, 7), (33, 7)]
/-- nothing of what an image is to be made of is there -/
def nol (lv : LV) (t : Nat) : Prop := ∀ q ∈ (7, t) :: tn t, lv q.1 q.2 = false
theorem wp_P {gl : Nat} {gx : Nat → Int32} {d : Nat} {P P2 : PL} {y pc : Nat} {L S : List AV} {M : MM} {Q : PO} (e : P = P2) (h : Wp gl gx d P2 y pc L S M Q) : Wp gl gx d P y pc L S M Q := e ▸ h
theorem im_t {w : WS} {k : Nat} (h : w.2.2.1 k = true) : RS w = u3 (RS w) 47 0 k (aR 7 (k + 1)) := (u3_eq (by simp [RS, h]) (fun _ _ _ _ => rfl)).symm
theorem im_f {w : WS} {k : Nat} (h : w.2.2.1 k = false) : RS w = u3 (RS w) 47 0 k aN := (u3_eq (by simp [RS, h]) (fun _ _ _ _ => rfl)).symm
theorem image_out {gl : Nat} {gx : Nat → Int32} {d : Nat} {P : PL} {Q : PO} {mi : MI} {w : WS} {lv : LV} {x1 : Int32} (hx : x1 < 0 ∨ ¬ x1 < 3) (h : Q (aI 0) (mi, RS w, lv)) : Wp gl gx d P 173 0 [aR 9 0, aI x1, aU] [] (mi, RS w, lv) Q :=
  wpT row_173 mt_173 [.iload_n 1, .ifCond .lt 8] (by decide +kernel) [(4, [.iload_n 1, .iconst 3, .if_icmp .lt 5]), (9, [.iconst 0, .ireturn])] (by decide +kernel) 40 (And.intro (fun _ => And.intro rfl h) (fun q => And.intro (fun q2 => absurd q2 (hx.elim (fun z => absurd z q) id)) (fun _ => And.intro rfl h)))

theorem image_in_0 {gl : Nat} {gx : Nat → Int32} {d : Nat} {P : PL} {Q : PO} {mi : MI} {w : WS} {lv : LV} (h : Wp gl gx d P 173 16 [aR 9 0, aI 0, aU] [aI 0, aR 47 0] (mi, RS w, lv) Q) : Wp gl gx d P 173 0 [aR 9 0, aI 0, aU] [] (mi, RS w, lv) Q :=
  wpT row_173 mt_173 [.iload_n 1, .ifCond .lt 8] (by decide +kernel) [(4, [.iload_n 1, .iconst 3, .if_icmp .lt 5]), (11, [.aload_n 0, .getfield 16, .iload_n 1])] (by decide +kernel) 40 (And.intro (fun q => absurd q (by decide)) (fun _ => And.intro (fun _ => h) (fun q => absurd (by decide) q)))

theorem image_cp_0 {gl : Nat} {gx : Nat → Int32} {d : Nat} {P : PL} {Q : PO} {mi : MI} {w : WS} {lv : LV} {r : MI} (hf : F_X8_copyFrom mi w 1 0 = some r) (h : Q (aI 1) (r, RS w, lv)) : Wp gl gx (d + 3) P 173 37 [aR 9 0, aI 0, aR 7 1] [] (mi, RS w, lv) Q :=
  wpT row_173 mt_173 [.aload_n 2, .aload_n 0, .getfield 10, .invokevirtual 317, .iconst 1, .ireturn] (by decide +kernel) [] (by decide +kernel) 40 (And.intro ⟨Nat.le_of_ble_eq_true rfl, rfl, rfl⟩ (s_X8_copyFrom (d := d) hf (And.intro rfl h)))

theorem image_old_0 {gl : Nat} {gx : Nat → Int32} {d : Nat} {P : PL} {Q : PO} {mi : MI} {w : WS} {lv : LV} {r : MI} (e : w.2.2.1 0 = true) (hf : F_X8_copyFrom mi w 1 0 = some r) (h : Q (aI 1) (r, RS w, lv)) : Wp gl gx (d + 3) P 173 0 [aR 9 0, aI 0, aU] [] (mi, RS w, lv) Q := by
  refine image_in_0 (wp_rs (im_t e) ?_)
  refine wpT row_173 mt_173 [.aaload, .astore_n 2, .aload_n 2, .ifnonnull 18] (by decide +kernel) [] (by decide +kernel) 40 (And.intro (vpd (by decide)) ?_)
  exact wp_rs (im_t e).symm (image_cp_0 hf h)

theorem image_st_0 {gl : Nat} {gx : Nat → Int32} {d : Nat} {Q : PO} {mi : MI} {w : WS} {lv : LV} {P : PL} (h : Wp gl gx d P 173 37 [aR 9 0, aI 0, aR 7 1] [] (mi, RS (w.1, w.2.1, (fun j => if j = 0 then true else w.2.2.1 j), w.2.2.2), lv) Q) : Wp gl gx d P 173 29 [aR 9 0, aI 0, aN] [aR 7 1] (mi, RS w, lv) Q := by
  refine wpT row_173 mt_173 [.astore_n 2, .aload_n 0, .getfield 16, .iload_n 1, .aload_n 2, .aastore] (by decide +kernel) [] (by decide +kernel) 40 (And.intro ⟨rfl, by decide⟩ (And.intro (vpd (by decide)) (?_)))
  exact wp_rs rs_image h

theorem image_mk_0 {gl : Nat} {gx : Nat → Int32} {d : Nat} {Q : PO} {mi : MI} {w : WS} {lv : LV} (hl : nol lv 1) (h : Wp gl gx (d + 3) ((tn 1).drop 30) 173 29 [aR 9 0, aI 0, aN] [aR 7 1] ((N_X8_init_1 (mk (mi, RS w, lv) 7 1)).1, RS w, (N_X8_init_1 (mk (mi, RS w, lv) 7 1)).2.2) Q) : Wp gl gx (d + 3) ((7, 1) :: tn 1) 173 22 [aR 9 0, aI 0, aN] [] (mi, RS w, lv) Q := by
  refine wpT row_173 mt_173 [.new 7, .dup, .invokespecial 9] (by decide +kernel) [] (by decide +kernel) 40 (And.intro (show lv 7 1 = false from hl (7, 1) (by decide +kernel)) (And.intro ⟨Nat.le_of_ble_eq_true rfl, rfl, rfl⟩ (s_X8_init_1 (d := d) (show lv 20 1 = false from hl (20, 1) (by decide +kernel)) (show lv 21 1 = false from hl (21, 1) (by decide +kernel)) (show lv 22 1 = false from hl (22, 1) (by decide +kernel)) (show lv 23 1 = false from hl (23, 1) (by decide +kernel)) (show lv 24 1 = false from hl (24, 1) (by decide +kernel)) (show lv 25 1 = false from hl (25, 1) (by decide +kernel)) (show lv 5 2 = false from hl (5, 2) (by decide +kernel)) (show lv 26 2 = false from hl (26, 2) (by decide +kernel)) (show lv 27 2 = false from hl (27, 2) (by decide +kernel)) (show lv 28 2 = false from hl (28, 2) (by decide +kernel)) (show lv 0 2 = false from hl (0, 2) (by decide +kernel)) (show lv 29 2 = false from hl (29, 2) (by decide +kernel)) (show lv 3 2 = false from hl (3, 2) (by decide +kernel)) (show lv 30 2 = false from hl (30, 2) (by decide +kernel)) (show lv 1 2 = false from hl (1, 2) (by decide +kernel)) (show lv 31 2 = false from hl (31, 2) (by decide +kernel)) (show lv 32 2 = false from hl (32, 2) (by decide +kernel)) (show lv 33 2 = false from hl (33, 2) (by decide +kernel)) (show lv 5 3 = false from hl (5, 3) (by decide +kernel)) (show lv 26 3 = false from hl (26, 3) (by decide +kernel)) (show lv 27 3 = false from hl (27, 3) (by decide +kernel)) (show lv 28 3 = false from hl (28, 3) (by decide +kernel)) (show lv 0 3 = false from hl (0, 3) (by decide +kernel)) (show lv 29 3 = false from hl (29, 3) (by decide +kernel)) (show lv 3 3 = false from hl (3, 3) (by decide +kernel)) (show lv 30 3 = false from hl (30, 3) (by decide +kernel)) (show lv 1 3 = false from hl (1, 3) (by decide +kernel)) (show lv 31 3 = false from hl (31, 3) (by decide +kernel)) (show lv 32 3 = false from hl (32, 3) (by decide +kernel)) (show lv 33 3 = false from hl (33, 3) (by decide +kernel)) ?_)))
  exact wp_rs (eo_end (q_X8_init_1 eo_all)) h

theorem image_new_0 {gl : Nat} {gx : Nat → Int32} {d : Nat} {Q : PO} {mi : MI} {w : WS} {lv : LV} {r : MI} (e : w.2.2.1 0 = false) (hl : nol lv 1) (hf : F_X8_copyFrom (N_X8_init_1 (mk (mi, RS w, lv) 7 1)).1 (w.1, w.2.1, (fun j => if j = 0 then true else w.2.2.1 j), w.2.2.2) 1 0 = some r) (h : Q (aI 1) (r, RS (w.1, w.2.1, (fun j => if j = 0 then true else w.2.2.1 j), w.2.2.2), (N_X8_init_1 (mk (mi, RS w, lv) 7 1)).2.2)) : Wp gl gx (d + 3) ((7, 1) :: tn 1) 173 0 [aR 9 0, aI 0, aU] [] (mi, RS w, lv) Q := by
  refine image_in_0 (wp_rs (im_f e) ?_)
  refine wpT row_173 mt_173 [.aaload, .astore_n 2, .aload_n 2, .ifnonnull 18] (by decide +kernel) [] (by decide +kernel) 40 (And.intro (vpd (by decide)) ?_)
  exact wp_rs (im_f e).symm (image_mk_0 hl (image_st_0 (image_cp_0 hf h)))

theorem image_in_1 {gl : Nat} {gx : Nat → Int32} {d : Nat} {P : PL} {Q : PO} {mi : MI} {w : WS} {lv : LV} (h : Wp gl gx d P 173 16 [aR 9 0, aI 1, aU] [aI 1, aR 47 0] (mi, RS w, lv) Q) : Wp gl gx d P 173 0 [aR 9 0, aI 1, aU] [] (mi, RS w, lv) Q :=
  wpT row_173 mt_173 [.iload_n 1, .ifCond .lt 8] (by decide +kernel) [(4, [.iload_n 1, .iconst 3, .if_icmp .lt 5]), (11, [.aload_n 0, .getfield 16, .iload_n 1])] (by decide +kernel) 40 (And.intro (fun q => absurd q (by decide)) (fun _ => And.intro (fun _ => h) (fun q => absurd (by decide) q)))

theorem image_cp_1 {gl : Nat} {gx : Nat → Int32} {d : Nat} {P : PL} {Q : PO} {mi : MI} {w : WS} {lv : LV} {r : MI} (hf : F_X8_copyFrom mi w 2 0 = some r) (h : Q (aI 1) (r, RS w, lv)) : Wp gl gx (d + 3) P 173 37 [aR 9 0, aI 1, aR 7 2] [] (mi, RS w, lv) Q :=
  wpT row_173 mt_173 [.aload_n 2, .aload_n 0, .getfield 10, .invokevirtual 317, .iconst 1, .ireturn] (by decide +kernel) [] (by decide +kernel) 40 (And.intro ⟨Nat.le_of_ble_eq_true rfl, rfl, rfl⟩ (s_X8_copyFrom (d := d) hf (And.intro rfl h)))

theorem image_old_1 {gl : Nat} {gx : Nat → Int32} {d : Nat} {P : PL} {Q : PO} {mi : MI} {w : WS} {lv : LV} {r : MI} (e : w.2.2.1 1 = true) (hf : F_X8_copyFrom mi w 2 0 = some r) (h : Q (aI 1) (r, RS w, lv)) : Wp gl gx (d + 3) P 173 0 [aR 9 0, aI 1, aU] [] (mi, RS w, lv) Q := by
  refine image_in_1 (wp_rs (im_t e) ?_)
  refine wpT row_173 mt_173 [.aaload, .astore_n 2, .aload_n 2, .ifnonnull 18] (by decide +kernel) [] (by decide +kernel) 40 (And.intro (vpd (by decide)) ?_)
  exact wp_rs (im_t e).symm (image_cp_1 hf h)

theorem image_st_1 {gl : Nat} {gx : Nat → Int32} {d : Nat} {Q : PO} {mi : MI} {w : WS} {lv : LV} {P : PL} (h : Wp gl gx d P 173 37 [aR 9 0, aI 1, aR 7 2] [] (mi, RS (w.1, w.2.1, (fun j => if j = 1 then true else w.2.2.1 j), w.2.2.2), lv) Q) : Wp gl gx d P 173 29 [aR 9 0, aI 1, aN] [aR 7 2] (mi, RS w, lv) Q := by
  refine wpT row_173 mt_173 [.astore_n 2, .aload_n 0, .getfield 16, .iload_n 1, .aload_n 2, .aastore] (by decide +kernel) [] (by decide +kernel) 40 (And.intro ⟨rfl, by decide⟩ (And.intro (vpd (by decide)) (?_)))
  exact wp_rs rs_image h

theorem image_mk_1 {gl : Nat} {gx : Nat → Int32} {d : Nat} {Q : PO} {mi : MI} {w : WS} {lv : LV} (hl : nol lv 2) (h : Wp gl gx (d + 3) ((tn 2).drop 30) 173 29 [aR 9 0, aI 1, aN] [aR 7 2] ((N_X8_init_2 (mk (mi, RS w, lv) 7 2)).1, RS w, (N_X8_init_2 (mk (mi, RS w, lv) 7 2)).2.2) Q) : Wp gl gx (d + 3) ((7, 2) :: tn 2) 173 22 [aR 9 0, aI 1, aN] [] (mi, RS w, lv) Q := by
  refine wpT row_173 mt_173 [.new 7, .dup, .invokespecial 9] (by decide +kernel) [] (by decide +kernel) 40 (And.intro (show lv 7 2 = false from hl (7, 2) (by decide +kernel)) (And.intro ⟨Nat.le_of_ble_eq_true rfl, rfl, rfl⟩ (s_X8_init_2 (d := d) (show lv 20 2 = false from hl (20, 2) (by decide +kernel)) (show lv 21 2 = false from hl (21, 2) (by decide +kernel)) (show lv 22 2 = false from hl (22, 2) (by decide +kernel)) (show lv 23 2 = false from hl (23, 2) (by decide +kernel)) (show lv 24 2 = false from hl (24, 2) (by decide +kernel)) (show lv 25 2 = false from hl (25, 2) (by decide +kernel)) (show lv 5 4 = false from hl (5, 4) (by decide +kernel)) (show lv 26 4 = false from hl (26, 4) (by decide +kernel)) (show lv 27 4 = false from hl (27, 4) (by decide +kernel)) (show lv 28 4 = false from hl (28, 4) (by decide +kernel)) (show lv 0 4 = false from hl (0, 4) (by decide +kernel)) (show lv 29 4 = false from hl (29, 4) (by decide +kernel)) (show lv 3 4 = false from hl (3, 4) (by decide +kernel)) (show lv 30 4 = false from hl (30, 4) (by decide +kernel)) (show lv 1 4 = false from hl (1, 4) (by decide +kernel)) (show lv 31 4 = false from hl (31, 4) (by decide +kernel)) (show lv 32 4 = false from hl (32, 4) (by decide +kernel)) (show lv 33 4 = false from hl (33, 4) (by decide +kernel)) (show lv 5 5 = false from hl (5, 5) (by decide +kernel)) (show lv 26 5 = false from hl (26, 5) (by decide +kernel)) (show lv 27 5 = false from hl (27, 5) (by decide +kernel)) (show lv 28 5 = false from hl (28, 5) (by decide +kernel)) (show lv 0 5 = false from hl (0, 5) (by decide +kernel)) (show lv 29 5 = false from hl (29, 5) (by decide +kernel)) (show lv 3 5 = false from hl (3, 5) (by decide +kernel)) (show lv 30 5 = false from hl (30, 5) (by decide +kernel)) (show lv 1 5 = false from hl (1, 5) (by decide +kernel)) (show lv 31 5 = false from hl (31, 5) (by decide +kernel)) (show lv 32 5 = false from hl (32, 5) (by decide +kernel)) (show lv 33 5 = false from hl (33, 5) (by decide +kernel)) ?_)))
  exact wp_rs (eo_end (q_X8_init_2 eo_all)) h

theorem image_new_1 {gl : Nat} {gx : Nat → Int32} {d : Nat} {Q : PO} {mi : MI} {w : WS} {lv : LV} {r : MI} (e : w.2.2.1 1 = false) (hl : nol lv 2) (hf : F_X8_copyFrom (N_X8_init_2 (mk (mi, RS w, lv) 7 2)).1 (w.1, w.2.1, (fun j => if j = 1 then true else w.2.2.1 j), w.2.2.2) 2 0 = some r) (h : Q (aI 1) (r, RS (w.1, w.2.1, (fun j => if j = 1 then true else w.2.2.1 j), w.2.2.2), (N_X8_init_2 (mk (mi, RS w, lv) 7 2)).2.2)) : Wp gl gx (d + 3) ((7, 2) :: tn 2) 173 0 [aR 9 0, aI 1, aU] [] (mi, RS w, lv) Q := by
  refine image_in_1 (wp_rs (im_f e) ?_)
  refine wpT row_173 mt_173 [.aaload, .astore_n 2, .aload_n 2, .ifnonnull 18] (by decide +kernel) [] (by decide +kernel) 40 (And.intro (vpd (by decide)) ?_)
  exact wp_rs (im_f e).symm (image_mk_1 hl (image_st_1 (image_cp_1 hf h)))

theorem image_in_2 {gl : Nat} {gx : Nat → Int32} {d : Nat} {P : PL} {Q : PO} {mi : MI} {w : WS} {lv : LV} (h : Wp gl gx d P 173 16 [aR 9 0, aI 2, aU] [aI 2, aR 47 0] (mi, RS w, lv) Q) : Wp gl gx d P 173 0 [aR 9 0, aI 2, aU] [] (mi, RS w, lv) Q :=
  wpT row_173 mt_173 [.iload_n 1, .ifCond .lt 8] (by decide +kernel) [(4, [.iload_n 1, .iconst 3, .if_icmp .lt 5]), (11, [.aload_n 0, .getfield 16, .iload_n 1])] (by decide +kernel) 40 (And.intro (fun q => absurd q (by decide)) (fun _ => And.intro (fun _ => h) (fun q => absurd (by decide) q)))

theorem image_cp_2 {gl : Nat} {gx : Nat → Int32} {d : Nat} {P : PL} {Q : PO} {mi : MI} {w : WS} {lv : LV} {r : MI} (hf : F_X8_copyFrom mi w 3 0 = some r) (h : Q (aI 1) (r, RS w, lv)) : Wp gl gx (d + 3) P 173 37 [aR 9 0, aI 2, aR 7 3] [] (mi, RS w, lv) Q :=
  wpT row_173 mt_173 [.aload_n 2, .aload_n 0, .getfield 10, .invokevirtual 317, .iconst 1, .ireturn] (by decide +kernel) [] (by decide +kernel) 40 (And.intro ⟨Nat.le_of_ble_eq_true rfl, rfl, rfl⟩ (s_X8_copyFrom (d := d) hf (And.intro rfl h)))

theorem image_old_2 {gl : Nat} {gx : Nat → Int32} {d : Nat} {P : PL} {Q : PO} {mi : MI} {w : WS} {lv : LV} {r : MI} (e : w.2.2.1 2 = true) (hf : F_X8_copyFrom mi w 3 0 = some r) (h : Q (aI 1) (r, RS w, lv)) : Wp gl gx (d + 3) P 173 0 [aR 9 0, aI 2, aU] [] (mi, RS w, lv) Q := by
  refine image_in_2 (wp_rs (im_t e) ?_)
  refine wpT row_173 mt_173 [.aaload, .astore_n 2, .aload_n 2, .ifnonnull 18] (by decide +kernel) [] (by decide +kernel) 40 (And.intro (vpd (by decide)) ?_)
  exact wp_rs (im_t e).symm (image_cp_2 hf h)

theorem image_st_2 {gl : Nat} {gx : Nat → Int32} {d : Nat} {Q : PO} {mi : MI} {w : WS} {lv : LV} {P : PL} (h : Wp gl gx d P 173 37 [aR 9 0, aI 2, aR 7 3] [] (mi, RS (w.1, w.2.1, (fun j => if j = 2 then true else w.2.2.1 j), w.2.2.2), lv) Q) : Wp gl gx d P 173 29 [aR 9 0, aI 2, aN] [aR 7 3] (mi, RS w, lv) Q := by
  refine wpT row_173 mt_173 [.astore_n 2, .aload_n 0, .getfield 16, .iload_n 1, .aload_n 2, .aastore] (by decide +kernel) [] (by decide +kernel) 40 (And.intro ⟨rfl, by decide⟩ (And.intro (vpd (by decide)) (?_)))
  exact wp_rs rs_image h

theorem image_mk_2 {gl : Nat} {gx : Nat → Int32} {d : Nat} {Q : PO} {mi : MI} {w : WS} {lv : LV} (hl : nol lv 3) (h : Wp gl gx (d + 3) ((tn 3).drop 30) 173 29 [aR 9 0, aI 2, aN] [aR 7 3] ((N_X8_init_3 (mk (mi, RS w, lv) 7 3)).1, RS w, (N_X8_init_3 (mk (mi, RS w, lv) 7 3)).2.2) Q) : Wp gl gx (d + 3) ((7, 3) :: tn 3) 173 22 [aR 9 0, aI 2, aN] [] (mi, RS w, lv) Q := by
  refine wpT row_173 mt_173 [.new 7, .dup, .invokespecial 9] (by decide +kernel) [] (by decide +kernel) 40 (And.intro (show lv 7 3 = false from hl (7, 3) (by decide +kernel)) (And.intro ⟨Nat.le_of_ble_eq_true rfl, rfl, rfl⟩ (s_X8_init_3 (d := d) (show lv 20 3 = false from hl (20, 3) (by decide +kernel)) (show lv 21 3 = false from hl (21, 3) (by decide +kernel)) (show lv 22 3 = false from hl (22, 3) (by decide +kernel)) (show lv 23 3 = false from hl (23, 3) (by decide +kernel)) (show lv 24 3 = false from hl (24, 3) (by decide +kernel)) (show lv 25 3 = false from hl (25, 3) (by decide +kernel)) (show lv 5 6 = false from hl (5, 6) (by decide +kernel)) (show lv 26 6 = false from hl (26, 6) (by decide +kernel)) (show lv 27 6 = false from hl (27, 6) (by decide +kernel)) (show lv 28 6 = false from hl (28, 6) (by decide +kernel)) (show lv 0 6 = false from hl (0, 6) (by decide +kernel)) (show lv 29 6 = false from hl (29, 6) (by decide +kernel)) (show lv 3 6 = false from hl (3, 6) (by decide +kernel)) (show lv 30 6 = false from hl (30, 6) (by decide +kernel)) (show lv 1 6 = false from hl (1, 6) (by decide +kernel)) (show lv 31 6 = false from hl (31, 6) (by decide +kernel)) (show lv 32 6 = false from hl (32, 6) (by decide +kernel)) (show lv 33 6 = false from hl (33, 6) (by decide +kernel)) (show lv 5 7 = false from hl (5, 7) (by decide +kernel)) (show lv 26 7 = false from hl (26, 7) (by decide +kernel)) (show lv 27 7 = false from hl (27, 7) (by decide +kernel)) (show lv 28 7 = false from hl (28, 7) (by decide +kernel)) (show lv 0 7 = false from hl (0, 7) (by decide +kernel)) (show lv 29 7 = false from hl (29, 7) (by decide +kernel)) (show lv 3 7 = false from hl (3, 7) (by decide +kernel)) (show lv 30 7 = false from hl (30, 7) (by decide +kernel)) (show lv 1 7 = false from hl (1, 7) (by decide +kernel)) (show lv 31 7 = false from hl (31, 7) (by decide +kernel)) (show lv 32 7 = false from hl (32, 7) (by decide +kernel)) (show lv 33 7 = false from hl (33, 7) (by decide +kernel)) ?_)))
  exact wp_rs (eo_end (q_X8_init_3 eo_all)) h

theorem image_new_2 {gl : Nat} {gx : Nat → Int32} {d : Nat} {Q : PO} {mi : MI} {w : WS} {lv : LV} {r : MI} (e : w.2.2.1 2 = false) (hl : nol lv 3) (hf : F_X8_copyFrom (N_X8_init_3 (mk (mi, RS w, lv) 7 3)).1 (w.1, w.2.1, (fun j => if j = 2 then true else w.2.2.1 j), w.2.2.2) 3 0 = some r) (h : Q (aI 1) (r, RS (w.1, w.2.1, (fun j => if j = 2 then true else w.2.2.1 j), w.2.2.2), (N_X8_init_3 (mk (mi, RS w, lv) 7 3)).2.2)) : Wp gl gx (d + 3) ((7, 3) :: tn 3) 173 0 [aR 9 0, aI 2, aU] [] (mi, RS w, lv) Q := by
  refine image_in_2 (wp_rs (im_f e) ?_)
  refine wpT row_173 mt_173 [.aaload, .astore_n 2, .aload_n 2, .ifnonnull 18] (by decide +kernel) [] (by decide +kernel) 40 (And.intro (vpd (by decide)) ?_)
  exact wp_rs (im_f e).symm (image_mk_2 hl (image_st_2 (image_cp_2 hf h)))

theorem again_out {gl : Nat} {gx : Nat → Int32} {d : Nat} {P : PL} {Q : PO} {mi : MI} {w : WS} {lv : LV} {x1 : Int32} (hx : x1 < 0 ∨ ¬ x1 < 3) (h : Q (aI 0) (mi, RS w, lv)) : Wp gl gx d P 174 0 [aR 9 0, aI x1, aU] [] (mi, RS w, lv) Q :=
  wpT row_174 mt_174 [.iload_n 1, .ifCond .lt 8] (by decide +kernel) [(4, [.iload_n 1, .iconst 3, .if_icmp .lt 5]), (9, [.iconst 0, .ireturn])] (by decide +kernel) 40 (And.intro (fun _ => And.intro rfl h) (fun q => And.intro (fun q2 => absurd q2 (hx.elim (fun z => absurd z q) id)) (fun _ => And.intro rfl h)))

theorem again_in_0 {gl : Nat} {gx : Nat → Int32} {d : Nat} {P : PL} {Q : PO} {mi : MI} {w : WS} {lv : LV} (h : Wp gl gx d P 174 16 [aR 9 0, aI 0, aU] [aI 0, aR 47 0] (mi, RS w, lv) Q) : Wp gl gx d P 174 0 [aR 9 0, aI 0, aU] [] (mi, RS w, lv) Q :=
  wpT row_174 mt_174 [.iload_n 1, .ifCond .lt 8] (by decide +kernel) [(4, [.iload_n 1, .iconst 3, .if_icmp .lt 5]), (11, [.aload_n 0, .getfield 16, .iload_n 1])] (by decide +kernel) 40 (And.intro (fun q => absurd q (by decide)) (fun _ => And.intro (fun _ => h) (fun q => absurd (by decide) q)))

theorem again_cp_0 {gl : Nat} {gx : Nat → Int32} {d : Nat} {P : PL} {Q : PO} {mi : MI} {w : WS} {lv : LV} {r : MI} (hf : F_X8_copyFrom mi w 0 1 = some r) (h : Q (aI 1) (r, RS w, lv)) : Wp gl gx (d + 3) P 174 24 [aR 9 0, aI 0, aR 7 1] [] (mi, RS w, lv) Q :=
  wpT row_174 mt_174 [.aload_n 0, .getfield 10, .aload_n 2, .invokevirtual 317, .iconst 1, .ireturn] (by decide +kernel) [] (by decide +kernel) 40 (And.intro ⟨Nat.le_of_ble_eq_true rfl, rfl, rfl⟩ (s_X8_copyFrom (d := d) hf (And.intro rfl h)))

theorem again_old_0 {gl : Nat} {gx : Nat → Int32} {d : Nat} {P : PL} {Q : PO} {mi : MI} {w : WS} {lv : LV} {r : MI} (e : w.2.2.1 0 = true) (hf : F_X8_copyFrom mi w 0 1 = some r) (h : Q (aI 1) (r, RS w, lv)) : Wp gl gx (d + 3) P 174 0 [aR 9 0, aI 0, aU] [] (mi, RS w, lv) Q := by
  refine again_in_0 (wp_rs (im_t e) ?_)
  refine wpT row_174 mt_174 [.aaload, .astore_n 2, .aload_n 2, .ifnonnull 5] (by decide +kernel) [] (by decide +kernel) 40 (And.intro (vpd (by decide)) ?_)
  exact wp_rs (im_t e).symm (again_cp_0 hf h)

theorem again_none_0 {gl : Nat} {gx : Nat → Int32} {d : Nat} {P : PL} {Q : PO} {mi : MI} {w : WS} {lv : LV} (e : w.2.2.1 0 = false) (h : Q (aI 0) (mi, RS w, lv)) : Wp gl gx d P 174 0 [aR 9 0, aI 0, aU] [] (mi, RS w, lv) Q := by
  refine again_in_0 (wp_rs (im_f e) ?_)
  refine wpT row_174 mt_174 [.aaload, .astore_n 2, .aload_n 2, .ifnonnull 5] (by decide +kernel) [(22, [.iconst 0, .ireturn])] (by decide +kernel) 40 (And.intro (vpd (by decide)) ?_)
  exact And.intro rfl ((im_f e) ▸ h)

theorem again_in_1 {gl : Nat} {gx : Nat → Int32} {d : Nat} {P : PL} {Q : PO} {mi : MI} {w : WS} {lv : LV} (h : Wp gl gx d P 174 16 [aR 9 0, aI 1, aU] [aI 1, aR 47 0] (mi, RS w, lv) Q) : Wp gl gx d P 174 0 [aR 9 0, aI 1, aU] [] (mi, RS w, lv) Q :=
  wpT row_174 mt_174 [.iload_n 1, .ifCond .lt 8] (by decide +kernel) [(4, [.iload_n 1, .iconst 3, .if_icmp .lt 5]), (11, [.aload_n 0, .getfield 16, .iload_n 1])] (by decide +kernel) 40 (And.intro (fun q => absurd q (by decide)) (fun _ => And.intro (fun _ => h) (fun q => absurd (by decide) q)))

theorem again_cp_1 {gl : Nat} {gx : Nat → Int32} {d : Nat} {P : PL} {Q : PO} {mi : MI} {w : WS} {lv : LV} {r : MI} (hf : F_X8_copyFrom mi w 0 2 = some r) (h : Q (aI 1) (r, RS w, lv)) : Wp gl gx (d + 3) P 174 24 [aR 9 0, aI 1, aR 7 2] [] (mi, RS w, lv) Q :=
  wpT row_174 mt_174 [.aload_n 0, .getfield 10, .aload_n 2, .invokevirtual 317, .iconst 1, .ireturn] (by decide +kernel) [] (by decide +kernel) 40 (And.intro ⟨Nat.le_of_ble_eq_true rfl, rfl, rfl⟩ (s_X8_copyFrom (d := d) hf (And.intro rfl h)))

theorem again_old_1 {gl : Nat} {gx : Nat → Int32} {d : Nat} {P : PL} {Q : PO} {mi : MI} {w : WS} {lv : LV} {r : MI} (e : w.2.2.1 1 = true) (hf : F_X8_copyFrom mi w 0 2 = some r) (h : Q (aI 1) (r, RS w, lv)) : Wp gl gx (d + 3) P 174 0 [aR 9 0, aI 1, aU] [] (mi, RS w, lv) Q := by
  refine again_in_1 (wp_rs (im_t e) ?_)
  refine wpT row_174 mt_174 [.aaload, .astore_n 2, .aload_n 2, .ifnonnull 5] (by decide +kernel) [] (by decide +kernel) 40 (And.intro (vpd (by decide)) ?_)
  exact wp_rs (im_t e).symm (again_cp_1 hf h)

theorem again_none_1 {gl : Nat} {gx : Nat → Int32} {d : Nat} {P : PL} {Q : PO} {mi : MI} {w : WS} {lv : LV} (e : w.2.2.1 1 = false) (h : Q (aI 0) (mi, RS w, lv)) : Wp gl gx d P 174 0 [aR 9 0, aI 1, aU] [] (mi, RS w, lv) Q := by
  refine again_in_1 (wp_rs (im_f e) ?_)
  refine wpT row_174 mt_174 [.aaload, .astore_n 2, .aload_n 2, .ifnonnull 5] (by decide +kernel) [(22, [.iconst 0, .ireturn])] (by decide +kernel) 40 (And.intro (vpd (by decide)) ?_)
  exact And.intro rfl ((im_f e) ▸ h)

theorem again_in_2 {gl : Nat} {gx : Nat → Int32} {d : Nat} {P : PL} {Q : PO} {mi : MI} {w : WS} {lv : LV} (h : Wp gl gx d P 174 16 [aR 9 0, aI 2, aU] [aI 2, aR 47 0] (mi, RS w, lv) Q) : Wp gl gx d P 174 0 [aR 9 0, aI 2, aU] [] (mi, RS w, lv) Q :=
  wpT row_174 mt_174 [.iload_n 1, .ifCond .lt 8] (by decide +kernel) [(4, [.iload_n 1, .iconst 3, .if_icmp .lt 5]), (11, [.aload_n 0, .getfield 16, .iload_n 1])] (by decide +kernel) 40 (And.intro (fun q => absurd q (by decide)) (fun _ => And.intro (fun _ => h) (fun q => absurd (by decide) q)))

theorem again_cp_2 {gl : Nat} {gx : Nat → Int32} {d : Nat} {P : PL} {Q : PO} {mi : MI} {w : WS} {lv : LV} {r : MI} (hf : F_X8_copyFrom mi w 0 3 = some r) (h : Q (aI 1) (r, RS w, lv)) : Wp gl gx (d + 3) P 174 24 [aR 9 0, aI 2, aR 7 3] [] (mi, RS w, lv) Q :=
  wpT row_174 mt_174 [.aload_n 0, .getfield 10, .aload_n 2, .invokevirtual 317, .iconst 1, .ireturn] (by decide +kernel) [] (by decide +kernel) 40 (And.intro ⟨Nat.le_of_ble_eq_true rfl, rfl, rfl⟩ (s_X8_copyFrom (d := d) hf (And.intro rfl h)))

theorem again_old_2 {gl : Nat} {gx : Nat → Int32} {d : Nat} {P : PL} {Q : PO} {mi : MI} {w : WS} {lv : LV} {r : MI} (e : w.2.2.1 2 = true) (hf : F_X8_copyFrom mi w 0 3 = some r) (h : Q (aI 1) (r, RS w, lv)) : Wp gl gx (d + 3) P 174 0 [aR 9 0, aI 2, aU] [] (mi, RS w, lv) Q := by
  refine again_in_2 (wp_rs (im_t e) ?_)
  refine wpT row_174 mt_174 [.aaload, .astore_n 2, .aload_n 2, .ifnonnull 5] (by decide +kernel) [] (by decide +kernel) 40 (And.intro (vpd (by decide)) ?_)
  exact wp_rs (im_t e).symm (again_cp_2 hf h)

theorem again_none_2 {gl : Nat} {gx : Nat → Int32} {d : Nat} {P : PL} {Q : PO} {mi : MI} {w : WS} {lv : LV} (e : w.2.2.1 2 = false) (h : Q (aI 0) (mi, RS w, lv)) : Wp gl gx d P 174 0 [aR 9 0, aI 2, aU] [] (mi, RS w, lv) Q := by
  refine again_in_2 (wp_rs (im_f e) ?_)
  refine wpT row_174 mt_174 [.aaload, .astore_n 2, .aload_n 2, .ifnonnull 5] (by decide +kernel) [(22, [.iconst 0, .ireturn])] (by decide +kernel) 40 (And.intro (vpd (by decide)) ?_)
  exact And.intro rfl ((im_f e) ▸ h)

