/-! METHODS AS FUNCTIONS (2) -/
abbrev row_1 : MT := (⟨"StencilHouse$Day", "add", "(IIII)V"⟩, prog_2_method_2_code, 6, none, 1, lk_0)
set_option maxRecDepth 20000 in
theorem mt_1 : mt 1 = some row_1 := rfl
theorem r_X0_add_0 {gl : Nat} {gx : Nat → Int32} {d : Nat} {P : PL} {Q : PO} {mi : MI} {w : WS} {lv : LV} {i : Nat} {x1 : Int32} {x2 : Int32} {x3 : Int32} {x4 : Int32} (h : (((mi 0 i 0) < 40) → (vp_in ((mi 0 i 0) * 4) 160) ∧ ((∀ m2 : MI, m2 = u3 mi 29 i (((mi 0 i 0) * 4).toNatClampNeg) x1 → (vp_in (((mi 0 i 0) * 4) + 1) 160) ∧ ((∀ m3 : MI, m3 = u3 m2 29 i ((((mi 0 i 0) * 4) + 1).toNatClampNeg) x2 → (vp_in (((mi 0 i 0) * 4) + 2) 160) ∧ ((∀ m4 : MI, m4 = u3 m3 29 i ((((mi 0 i 0) * 4) + 2).toNatClampNeg) x3 → (vp_in (((mi 0 i 0) * 4) + 3) 160) ∧ ((∀ m5 : MI, m5 = u3 m4 29 i ((((mi 0 i 0) * 4) + 3).toNatClampNeg) x4 → Q aU (u3 m5 0 i 0 ((m5 0 i 0) + 1), RS w, lv)))))))))) ∧ (¬ ((mi 0 i 0) < 40) → Q aU (mi, RS w, lv))) : Wp gl gx d P 1 0 [aR 0 i, aI x1, aI x2, aI x3, aI x4, aU] [] (mi, RS w, lv) Q := 
  wpT row_1 mt_1 [.aload_n 0, .getfield 9, .bipush 40, .if_icmp .lt 4] (by decide +kernel) [(10, [.aload_n 0, .getfield 9, .iconst 4, .imul, .istore 5, .aload_n 0, .getfield 15, .iload 5, .iload_n 1, .iastore]), (26, [.aload_n 0, .getfield 15, .iload 5, .iconst 1, .iadd, .iload_n 2, .iastore]), (36, [.aload_n 0, .getfield 15, .iload 5, .iconst 2, .iadd, .iload_n 3, .iastore]), (46, [.aload_n 0, .getfield 15, .iload 5, .iconst 3, .iadd, .iload 4, .iastore]), (57, [.aload_n 0, .dup, .getfield 9, .iconst 1, .iadd, .putfield 9, .return_]), (9, [.return_])] (by decide +kernel) 106 (And.intro (fun q15 => And.intro (h.1 q15).1 (And.intro ((h.1 q15).2 _ rfl).1 (And.intro (((h.1 q15).2 _ rfl).2 _ rfl).1 (And.intro ((((h.1 q15).2 _ rfl).2 _ rfl).2 _ rfl).1 ((((((h.1 q15).2 _ rfl).2 _ rfl).2 _ rfl).2 _ rfl)))))) (fun q16 => (h.2 q16)))

def F_X0_add (mi : MI) (w : WS) (i : Nat) (x1 : Int32) (x2 : Int32) (x3 : Int32) (x4 : Int32) : Option MI := if (mi 0 i 0) < 40 then ck (¬ (((mi 0 i 0) * 4) < 0 ∨ 160 ≤ ((mi 0 i 0) * 4).toNatClampNeg)) (lt (u3 mi 29 i (((mi 0 i 0) * 4).toNatClampNeg) x1) fun m2 => ck (¬ ((((mi 0 i 0) * 4) + 1) < 0 ∨ 160 ≤ (((mi 0 i 0) * 4) + 1).toNatClampNeg)) (lt (u3 m2 29 i ((((mi 0 i 0) * 4) + 1).toNatClampNeg) x2) fun m3 => ck (¬ ((((mi 0 i 0) * 4) + 2) < 0 ∨ 160 ≤ (((mi 0 i 0) * 4) + 2).toNatClampNeg)) (lt (u3 m3 29 i ((((mi 0 i 0) * 4) + 2).toNatClampNeg) x3) fun m4 => ck (¬ ((((mi 0 i 0) * 4) + 3) < 0 ∨ 160 ≤ (((mi 0 i 0) * 4) + 3).toNatClampNeg)) (lt (u3 m4 29 i ((((mi 0 i 0) * 4) + 3).toNatClampNeg) x4) fun m5 => some (u3 m5 0 i 0 ((m5 0 i 0) + 1)))))) else some mi

theorem s_X0_add {gl : Nat} {gx : Nat → Int32} {d : Nat} {P : PL} {Q : PO} {mi : MI} {w : WS} {lv : LV} {i : Nat} {x1 : Int32} {x2 : Int32} {x3 : Int32} {x4 : Int32} {r : MI} (hf : F_X0_add mi w i x1 x2 x3 x4 = some r) (h0 : Q aU (r, RS w, lv)) : Wp gl gx d P 1 0 [aR 0 i, aI x1, aI x2, aI x3, aI x4, aU] [] (mi, RS w, lv) Q := r_X0_add_0 (⟨fun q17 => k_ifp q17 hf (fun q19 => k_ck q19 (fun q21 q20 => ⟨q21, fun m2 hm2 => k_lt q20 hm2 (fun q22 => k_ck q22 (fun q24 q23 => ⟨q24, fun m3 hm3 => k_lt q23 hm3 (fun q25 => k_ck q25 (fun q27 q26 => ⟨q27, fun m4 hm4 => k_lt q26 hm4 (fun q28 => k_ck q28 (fun q30 q29 => ⟨q30, fun m5 hm5 => k_lt q29 hm5 (fun q31 => o_rMV q31 h0)⟩))⟩))⟩))⟩)), fun q18 => k_ifn q18 hf (fun q19 => o_rMV q19 h0)⟩)

abbrev row_2 : MT := (⟨"StencilHouse$Day", "part", "(II)I"⟩, prog_2_method_3_code, 4, some .int, 1, lk_0)
set_option maxRecDepth 20000 in
theorem mt_2 : mt 2 = some row_2 := rfl
theorem r_X0_part_0 {gl : Nat} {gx : Nat → Int32} {d : Nat} {P : PL} {Q : PO} {mi : MI} {w : WS} {lv : LV} {i : Nat} {x1 : Int32} {x2 : Int32} (h : ((((x1 * 4) + x2) < 0) → Q (aI (-1)) (mi, RS w, lv)) ∧ (¬ (((x1 * 4) + x2) < 0) → ((160 ≤ ((x1 * 4) + x2)) → Q (aI (-1)) (mi, RS w, lv)) ∧ (¬ (160 ≤ ((x1 * 4) + x2)) → (vp_in ((x1 * 4) + x2) 160) ∧ (Q (aI (mi 29 i (((x1 * 4) + x2).toNatClampNeg))) (mi, RS w, lv))))) : Wp gl gx d P 2 0 [aR 0 i, aI x1, aI x2, aU] [] (mi, RS w, lv) Q := 
  wpT row_2 mt_2 [.iload_n 1, .iconst 4, .imul, .iload_n 2, .iadd, .istore_n 3, .iload_n 3, .ifCond .lt 21] (by decide +kernel) [(28, [.iconst (.negSucc 0), .ireturn]), (10, [.iload_n 3, .aload_n 0, .getfield 15, .arraylength, .if_icmp .ge 12]), (19, [.aload_n 0, .getfield 15, .iload_n 3, .iaload]), (25, [.goto 4]), (29, [.ireturn])] (by decide +kernel) 62 (And.intro (fun q32 => (h.1 q32)) (fun q33 => And.intro (fun q34 => ((h.2 q33).1 q34)) (fun q35 => And.intro ((h.2 q33).2 q35).1 (((h.2 q33).2 q35).2))))

def F_X0_part (mi : MI) (w : WS) (i : Nat) (x1 : Int32) (x2 : Int32) : Option Int32 := if ((x1 * 4) + x2) < 0 then some (-1 : Int32) else if 160 ≤ ((x1 * 4) + x2) then some (-1 : Int32) else ck (¬ (((x1 * 4) + x2) < 0 ∨ 160 ≤ ((x1 * 4) + x2).toNatClampNeg)) (some (mi 29 i (((x1 * 4) + x2).toNatClampNeg)))

theorem s_X0_part {gl : Nat} {gx : Nat → Int32} {d : Nat} {P : PL} {Q : PO} {mi : MI} {w : WS} {lv : LV} {i : Nat} {x1 : Int32} {x2 : Int32} {r : Int32} (hf : F_X0_part mi w i x1 x2 = some r) (h0 : Q (aI r) (mi, RS w, lv)) : Wp gl gx d P 2 0 [aR 0 i, aI x1, aI x2, aU] [] (mi, RS w, lv) Q := r_X0_part_0 (⟨fun q36 => k_ifp q36 hf (fun q38 => o_rP q38 h0), fun q37 => k_ifn q37 hf (fun q38 => ⟨fun q39 => k_ifp q39 q38 (fun q41 => o_rP q41 h0), fun q40 => k_ifn q40 q38 (fun q41 => k_ck q41 (fun q43 q42 => ⟨q43, o_rP q42 h0⟩))⟩)⟩)

abbrev row_3 : MT := (⟨"StencilHouse$Day", "copyFrom", "(LStencilHouse$Day;)V"⟩, prog_2_method_4_code, 2, none, 1, lk_0)
set_option maxRecDepth 20000 in
theorem mt_3 : mt 3 = some row_3 := rfl
theorem r_X0_copyFrom_0 {gl : Nat} {gx : Nat → Int32} {d : Nat} {P : PL} {Q : PO} {mi : MI} {w : WS} {lv : LV} {i : Nat} {i1 : Nat} (h : (∀ m6 : MI, m6 = u2 (u3 mi 0 i 0 (mi 0 i1 0)) 29 i (va_cpy ((u3 mi 0 i 0 (mi 0 i1 0)) 29 i1) ((u3 mi 0 i 0 (mi 0 i1 0)) 29 i) 0 0 160) → Q aU (m6, RS w, lv))) : Wp gl gx (d + 1) P 3 0 [aR 0 i, aR 0 i1] [] (mi, RS w, lv) Q := 
  wpT row_3 mt_3 [.aload_n 0, .aload_n 1, .getfield 9, .putfield 9, .aload_n 1, .getfield 15, .iconst 0, .aload_n 0, .getfield 15, .iconst 0, .aload_n 0, .getfield 15, .arraylength, .invokestatic 19] (by decide +kernel) [(26, [.return_])] (by decide +kernel) 50 (And.intro ⟨Nat.le_of_ble_eq_true rfl, by decide, by decide, by decide, by decide, by decide⟩ ((h _ rfl)))

def F_X0_copyFrom (mi : MI) (w : WS) (i : Nat) (i1 : Nat) : Option MI := lt (u2 (u3 mi 0 i 0 (mi 0 i1 0)) 29 i (va_cpy ((u3 mi 0 i 0 (mi 0 i1 0)) 29 i1) ((u3 mi 0 i 0 (mi 0 i1 0)) 29 i) 0 0 160)) fun m6 => some m6

theorem s_X0_copyFrom {gl : Nat} {gx : Nat → Int32} {d : Nat} {P : PL} {Q : PO} {mi : MI} {w : WS} {lv : LV} {i : Nat} {i1 : Nat} {r : MI} (hf : F_X0_copyFrom mi w i i1 = some r) (h0 : Q aU (r, RS w, lv)) : Wp gl gx (d + 1) P 3 0 [aR 0 i, aR 0 i1] [] (mi, RS w, lv) Q := r_X0_copyFrom_0 (fun m6 hm6 => k_lt hf hm6 (fun q44 => o_rMV q44 h0))

abbrev row_62 : MT := (⟨"StencilHouse$Picture", "clear", "()V"⟩, prog_6_method_2_code, 2, none, 1, lk_4)
set_option maxRecDepth 20000 in
theorem mt_62 : mt 62 = some row_62 := rfl
theorem r_X4_clear_2 {gl : Nat} {gx : Nat → Int32} {d : Nat} {P : PL} {Q : PO} {mi : MI} {w : WS} {lv : LV} {i : Nat} {x1 : Int32} (h : ((25 ≤ x1) → Q aU (mi, RS w, lv)) ∧ (¬ (25 ≤ x1) → (vp_in x1 25) ∧ ((∀ m7 : MI, m7 = u3 mi 30 i x1.toNatClampNeg 0 → Wp gl gx d P 62 2 [aR 3 i, aI (x1 + 1)] [] (m7, RS w, lv) Q)))) : Wp gl gx d P 62 2 [aR 3 i, aI x1] [] (mi, RS w, lv) Q := 
  wpT row_62 mt_62 [.iload_n 1, .aload_n 0, .getfield 9, .arraylength, .if_icmp .ge 16] (by decide +kernel) [(24, [.return_]), (11, [.aload_n 0, .getfield 9, .iload_n 1, .iconst 0, .iastore]), (18, [.iinc 1 1, .goto (.negSucc 18)])] (by decide +kernel) 46 (And.intro (fun q45 => (h.1 q45)) (fun q46 => And.intro (h.2 q46).1 (((h.2 q46).2 _ rfl))))

theorem r_X4_clear_0 {gl : Nat} {gx : Nat → Int32} {d : Nat} {P : PL} {Q : PO} {mi : MI} {w : WS} {lv : LV} {i : Nat} (h : Wp gl gx d P 62 2 [aR 3 i, aI 0] [] (mi, RS w, lv) Q) : Wp gl gx d P 62 0 [aR 3 i, aU] [] (mi, RS w, lv) Q := 
  wpT row_62 mt_62 [.iconst 0, .istore_n 1] (by decide +kernel) [] (by decide +kernel) 24 (h)

def L_X4_clear_2 (w : WS) : Nat → MI → Nat → Int32 → Option MI
  | 0, _, _, _ => none
  | n + 1, mi, i, x1 => if 25 ≤ x1 then some mi else ck (¬ (x1 < 0 ∨ 25 ≤ x1.toNatClampNeg)) (lt (u3 mi 30 i x1.toNatClampNeg 0) fun m7 => L_X4_clear_2 w n m7 i (x1 + 1))

theorem l_X4_clear_2 {gl : Nat} {gx : Nat → Int32} {d : Nat} {P : PL} {Q : PO} {lv : LV} {w : WS} (n : Nat) : ∀ {mi : MI} {i : Nat} {x1 : Int32} {r : MI}, L_X4_clear_2 w n mi i x1 = some r → (Q aU (r, RS w, lv)) → Wp gl gx d P 62 2 [aR 3 i, aI x1] [] (mi, RS w, lv) Q := by
  induction n with
  | zero => intro mi i x1 r hf h0; exact o_none hf
  | succ n ih => intro mi i x1 r hf h0; exact r_X4_clear_2 (⟨fun q47 => k_ifp q47 hf (fun q49 => o_rMV q49 h0), fun q48 => k_ifn q48 hf (fun q49 => k_ck q49 (fun q51 q50 => ⟨q51, fun m7 hm7 => k_lt q50 hm7 (fun q52 => ih q52 h0)⟩))⟩)

def F_X4_clear (mi : MI) (w : WS) (i : Nat) : Option MI := L_X4_clear_2 w 1000000 mi i 0

theorem s_X4_clear {gl : Nat} {gx : Nat → Int32} {d : Nat} {P : PL} {Q : PO} {mi : MI} {w : WS} {lv : LV} {i : Nat} {r : MI} (hf : F_X4_clear mi w i = some r) (h0 : Q aU (r, RS w, lv)) : Wp gl gx d P 62 0 [aR 3 i, aU] [] (mi, RS w, lv) Q := r_X4_clear_0 (l_X4_clear_2 1000000 hf h0)

abbrev row_63 : MT := (⟨"StencilHouse$Picture", "copyFrom", "(LStencilHouse$Picture;)V"⟩, prog_6_method_3_code, 2, none, 1, lk_4)
set_option maxRecDepth 20000 in
theorem mt_63 : mt 63 = some row_63 := rfl
theorem r_X4_copyFrom_0 {gl : Nat} {gx : Nat → Int32} {d : Nat} {P : PL} {Q : PO} {mi : MI} {w : WS} {lv : LV} {i : Nat} {i1 : Nat} (h : (∀ m8 : MI, m8 = u2 mi 30 i (va_cpy (mi 30 i1) (mi 30 i) 0 0 25) → Q aU (m8, RS w, lv))) : Wp gl gx (d + 1) P 63 0 [aR 3 i, aR 3 i1] [] (mi, RS w, lv) Q := 
  wpT row_63 mt_63 [.aload_n 1, .getfield 9, .iconst 0, .aload_n 0, .getfield 9, .iconst 0, .aload_n 0, .getfield 9, .arraylength, .invokestatic 15] (by decide +kernel) [(18, [.return_])] (by decide +kernel) 42 (And.intro ⟨Nat.le_of_ble_eq_true rfl, by decide, by decide, by decide, by decide, by decide⟩ ((h _ rfl)))

def F_X4_copyFrom (mi : MI) (w : WS) (i : Nat) (i1 : Nat) : Option MI := lt (u2 mi 30 i (va_cpy (mi 30 i1) (mi 30 i) 0 0 25)) fun m8 => some m8

theorem s_X4_copyFrom {gl : Nat} {gx : Nat → Int32} {d : Nat} {P : PL} {Q : PO} {mi : MI} {w : WS} {lv : LV} {i : Nat} {i1 : Nat} {r : MI} (hf : F_X4_copyFrom mi w i i1 = some r) (h0 : Q aU (r, RS w, lv)) : Wp gl gx (d + 1) P 63 0 [aR 3 i, aR 3 i1] [] (mi, RS w, lv) Q := r_X4_copyFrom_0 (fun m8 hm8 => k_lt hf hm8 (fun q53 => o_rMV q53 h0))

abbrev row_64 : MT := (⟨"StencilHouse$Picture", "colourAt", "(II)I"⟩, prog_6_method_4_code, 4, some .int, 1, lk_4)
set_option maxRecDepth 20000 in
theorem mt_64 : mt 64 = some row_64 := rfl
theorem r_X4_colourAt_0 {gl : Nat} {gx : Nat → Int32} {d : Nat} {P : PL} {Q : PO} {mi : MI} {w : WS} {lv : LV} {i : Nat} {x1 : Int32} {x2 : Int32} (h : ((((x2 * 5) + x1) < 0) → Q (aI 0) (mi, RS w, lv)) ∧ (¬ (((x2 * 5) + x1) < 0) → ((25 ≤ ((x2 * 5) + x1)) → Q (aI 0) (mi, RS w, lv)) ∧ (¬ (25 ≤ ((x2 * 5) + x1)) → (vp_in ((x2 * 5) + x1) 25) ∧ (Q (aI (mi 30 i (((x2 * 5) + x1).toNatClampNeg))) (mi, RS w, lv))))) : Wp gl gx d P 64 0 [aR 3 i, aI x1, aI x2, aU] [] (mi, RS w, lv) Q := 
  wpT row_64 mt_64 [.iload_n 2, .iconst 5, .imul, .iload_n 1, .iadd, .istore_n 3, .iload_n 3, .ifCond .lt 21] (by decide +kernel) [(28, [.iconst 0, .ireturn]), (10, [.iload_n 3, .aload_n 0, .getfield 9, .arraylength, .if_icmp .ge 12]), (19, [.aload_n 0, .getfield 9, .iload_n 3, .iaload]), (25, [.goto 4]), (29, [.ireturn])] (by decide +kernel) 62 (And.intro (fun q54 => (h.1 q54)) (fun q55 => And.intro (fun q56 => ((h.2 q55).1 q56)) (fun q57 => And.intro ((h.2 q55).2 q57).1 (((h.2 q55).2 q57).2))))

def F_X4_colourAt (mi : MI) (w : WS) (i : Nat) (x1 : Int32) (x2 : Int32) : Option Int32 := if ((x2 * 5) + x1) < 0 then some (0 : Int32) else if 25 ≤ ((x2 * 5) + x1) then some (0 : Int32) else ck (¬ (((x2 * 5) + x1) < 0 ∨ 25 ≤ ((x2 * 5) + x1).toNatClampNeg)) (some (mi 30 i (((x2 * 5) + x1).toNatClampNeg)))

theorem s_X4_colourAt {gl : Nat} {gx : Nat → Int32} {d : Nat} {P : PL} {Q : PO} {mi : MI} {w : WS} {lv : LV} {i : Nat} {x1 : Int32} {x2 : Int32} {r : Int32} (hf : F_X4_colourAt mi w i x1 x2 = some r) (h0 : Q (aI r) (mi, RS w, lv)) : Wp gl gx d P 64 0 [aR 3 i, aI x1, aI x2, aU] [] (mi, RS w, lv) Q := r_X4_colourAt_0 (⟨fun q58 => k_ifp q58 hf (fun q60 => o_rP q60 h0), fun q59 => k_ifn q59 hf (fun q60 => ⟨fun q61 => k_ifp q61 q60 (fun q63 => o_rP q63 h0), fun q62 => k_ifn q62 q60 (fun q63 => k_ck q63 (fun q65 q64 => ⟨q65, o_rP q64 h0⟩))⟩)⟩)

abbrev row_65 : MT := (⟨"StencilHouse$Picture", "placesOf", "(I)I"⟩, prog_6_method_5_code, 4, some .int, 1, lk_4)
set_option maxRecDepth 20000 in
theorem mt_65 : mt 65 = some row_65 := rfl
theorem r_X4_placesOf_26 {gl : Nat} {gx : Nat → Int32} {d : Nat} {P : PL} {Q : PO} {mi : MI} {w : WS} {lv : LV} {i : Nat} {x1 : Int32} {x2 : Int32} {x3 : Int32} (h : Wp gl gx d P 65 4 [aR 3 i, aI x1, aI x2, aI (x3 + 1)] [] (mi, RS w, lv) Q) : Wp gl gx d P 65 26 [aR 3 i, aI x1, aI x2, aI x3] [] (mi, RS w, lv) Q := 
  wpT row_65 mt_65 [.iinc 3 1, .goto (.negSucc 24)] (by decide +kernel) [] (by decide +kernel) 24 (h)

theorem r_X4_placesOf_4 {gl : Nat} {gx : Nat → Int32} {d : Nat} {P : PL} {Q : PO} {mi : MI} {w : WS} {lv : LV} {i : Nat} {x1 : Int32} {x2 : Int32} {x3 : Int32} (h : ((25 ≤ x3) → Q (aI x2) (mi, RS w, lv)) ∧ (¬ (25 ≤ x3) → (vp_in x3 25) ∧ (Wp gl gx d P 65 4 [aR 3 i, aI x1, aI (if (mi 30 i x3.toNatClampNeg) = x1 then x2 + 1 else x2), aI (x3 + 1)] [] (mi, RS w, lv) Q))) : Wp gl gx d P 65 4 [aR 3 i, aI x1, aI x2, aI x3] [] (mi, RS w, lv) Q := 
  wpT row_65 mt_65 [.iload_n 3, .aload_n 0, .getfield 9, .arraylength, .if_icmp .ge 22] (by decide +kernel) [(32, [.iload_n 2, .ireturn]), (13, [.aload_n 0, .getfield 9, .iload_n 3, .iaload]), (19, [.iload_n 1, .if_icmp .ne 6]), (23, [.iinc 2 1])] (by decide +kernel) 48 (And.intro (fun q66 => (h.1 q66)) (fun q67 => And.intro (h.2 q67).1 (And.intro (fun q68 => r_X4_placesOf_26 (i := i) (x1 := x1) (x2 := x2) (x3 := x3) (mi := mi) (mv9 (fun v => Wp gl gx d P 65 4 [aR 3 i, aI x1, aI v, aI (x3 + 1)] [] (mi, RS w, lv) Q) (show (if (mi 30 i x3.toNatClampNeg) = x1 then x2 + 1 else x2) = x2 from if_neg (show ¬ ((mi 30 i x3.toNatClampNeg) = x1) from q68)) ((h.2 q67).2))) (fun q69 => r_X4_placesOf_26 (i := i) (x1 := x1) (x2 := (x2 + 1)) (x3 := x3) (mi := mi) (mv9 (fun v => Wp gl gx d P 65 4 [aR 3 i, aI x1, aI v, aI (x3 + 1)] [] (mi, RS w, lv) Q) (show (if (mi 30 i x3.toNatClampNeg) = x1 then x2 + 1 else x2) = (x2 + 1) from if_pos (show (mi 30 i x3.toNatClampNeg) = x1 from q69)) ((h.2 q67).2))))))

theorem r_X4_placesOf_0 {gl : Nat} {gx : Nat → Int32} {d : Nat} {P : PL} {Q : PO} {mi : MI} {w : WS} {lv : LV} {i : Nat} {x1 : Int32} (h : Wp gl gx d P 65 4 [aR 3 i, aI x1, aI 0, aI 0] [] (mi, RS w, lv) Q) : Wp gl gx d P 65 0 [aR 3 i, aI x1, aU, aU] [] (mi, RS w, lv) Q := 
  wpT row_65 mt_65 [.iconst 0, .istore_n 2, .iconst 0, .istore_n 3] (by decide +kernel) [] (by decide +kernel) 28 (h)

def L_X4_placesOf_4 (mi : MI) (w : WS) : Nat → Nat → Int32 → Int32 → Int32 → Option Int32
  | 0, _, _, _, _ => none
  | n + 1, i, x1, x2, x3 => if 25 ≤ x3 then some x2 else ck (¬ (x3 < 0 ∨ 25 ≤ x3.toNatClampNeg)) (L_X4_placesOf_4 mi w n i x1 (if (mi 30 i x3.toNatClampNeg) = x1 then x2 + 1 else x2) (x3 + 1))

theorem l_X4_placesOf_4 {gl : Nat} {gx : Nat → Int32} {d : Nat} {P : PL} {Q : PO} {lv : LV} {mi : MI} {w : WS} (n : Nat) : ∀ {i : Nat} {x1 : Int32} {x2 : Int32} {x3 : Int32} {r : Int32}, L_X4_placesOf_4 mi w n i x1 x2 x3 = some r → (Q (aI r) (mi, RS w, lv)) → Wp gl gx d P 65 4 [aR 3 i, aI x1, aI x2, aI x3] [] (mi, RS w, lv) Q := by
  induction n with
  | zero => intro i x1 x2 x3 r hf h0; exact o_none hf
  | succ n ih => intro i x1 x2 x3 r hf h0; exact r_X4_placesOf_4 (⟨fun q70 => k_ifp q70 hf (fun q72 => o_rP q72 h0), fun q71 => k_ifn q71 hf (fun q72 => k_ck q72 (fun q74 q73 => ⟨q74, ih q73 h0⟩))⟩)

def F_X4_placesOf (mi : MI) (w : WS) (i : Nat) (x1 : Int32) : Option Int32 := L_X4_placesOf_4 mi w 1000000 i x1 0 0

theorem s_X4_placesOf {gl : Nat} {gx : Nat → Int32} {d : Nat} {P : PL} {Q : PO} {mi : MI} {w : WS} {lv : LV} {i : Nat} {x1 : Int32} {r : Int32} (hf : F_X4_placesOf mi w i x1 = some r) (h0 : Q (aI r) (mi, RS w, lv)) : Wp gl gx d P 65 0 [aR 3 i, aI x1, aU, aU] [] (mi, RS w, lv) Q := r_X4_placesOf_0 (l_X4_placesOf_4 1000000 hf h0)

abbrev row_66 : MT := (⟨"StencilHouse$Picture", "cellsOf", "(LStencilHouse$Shop;I)I"⟩, prog_6_method_6_code, 6, some .int, 1, lk_4)
set_option maxRecDepth 20000 in
theorem mt_66 : mt 66 = some row_66 := rfl
theorem r_X4_cellsOf_53 {gl : Nat} {gx : Nat → Int32} {d : Nat} {P : PL} {Q : PO} {mi : MI} {w : WS} {lv : LV} {i : Nat} {i1 : Nat} {x2 : Int32} {x3 : Int32} {x4 : Int32} {x5 : Int32} (h : Wp gl gx (d + 1) P 66 17 [aR 3 i, aR 5 i1, aI x2, aI x3, aI x4, aI (x5 + 1)] [] (mi, RS w, lv) Q) : Wp gl gx (d + 1) P 66 53 [aR 3 i, aR 5 i1, aI x2, aI x3, aI x4, aI x5] [] (mi, RS w, lv) Q := 
  wpT row_66 mt_66 [.iinc 5 1, .goto (.negSucc 38)] (by decide +kernel) [] (by decide +kernel) 24 (h)

theorem r_X4_cellsOf_17 {gl : Nat} {gx : Nat → Int32} {d : Nat} {P : PL} {Q : PO} {mi : MI} {w : WS} {lv : LV} {i : Nat} {i1 : Nat} {x2 : Int32} {x3 : Int32} {x4 : Int32} {x5 : Int32} (h : (((mi 5 i1 0) ≤ x5) → Wp gl gx (d + 1) P 66 5 [aR 3 i, aR 5 i1, aI x2, aI x3, aI (x4 + 1), aI x5] [] (mi, RS w, lv) Q) ∧ (¬ ((mi 5 i1 0) ≤ x5) → (∃ c9 : Int32, F_X4_colourAt mi w i x5 x4 = some c9 ∧ Wp gl gx (d + 1) P 66 17 [aR 3 i, aR 5 i1, aI x2, aI (if c9 = x2 then x3 ||| ((1 : Int32) <<< (((x4 * (mi 5 i1 0)) + x5) &&& 31)) else x3), aI x4, aI (x5 + 1)] [] (mi, RS w, lv) Q))) : Wp gl gx (d + 1) P 66 17 [aR 3 i, aR 5 i1, aI x2, aI x3, aI x4, aI x5] [] (mi, RS w, lv) Q := 
  wpT row_66 mt_66 [.iload 5, .aload_n 1, .getfield 27, .if_icmp .ge 36] (by decide +kernel) [(59, [.iinc 4 1, .goto (.negSucc 56)]), (26, [.aload_n 0, .iload 5, .iload 4, .invokevirtual 30]), (34, [.iload_n 2, .if_icmp .ne 18]), (38, [.iload_n 3, .iconst 1, .iload 4, .aload_n 1, .getfield 27, .imul, .iload 5, .iadd, .ishl, .ior, .istore_n 3])] (by decide +kernel) 66 (And.intro (fun q75 => (h.1 q75)) (fun q76 => Exists.elim (h.2 q76) (fun c9 zc9 => And.intro ⟨Nat.le_of_ble_eq_true rfl, rfl, rfl⟩ (s_X4_colourAt (d := d) zc9.1 (And.intro (fun q77 => r_X4_cellsOf_53 (i := i) (i1 := i1) (x2 := x2) (x3 := x3) (x4 := x4) (x5 := x5) (mi := mi) (mv9 (fun v => Wp gl gx (d + 1) P 66 17 [aR 3 i, aR 5 i1, aI x2, aI v, aI x4, aI (x5 + 1)] [] (mi, RS w, lv) Q) (show (if c9 = x2 then x3 ||| ((1 : Int32) <<< (((x4 * (mi 5 i1 0)) + x5) &&& 31)) else x3) = x3 from if_neg (show ¬ (c9 = x2) from q77)) zc9.2)) (fun q78 => r_X4_cellsOf_53 (i := i) (i1 := i1) (x2 := x2) (x3 := (x3 ||| ((1 : Int32) <<< (((x4 * (mi 5 i1 0)) + x5) &&& 31)))) (x4 := x4) (x5 := x5) (mi := mi) (mv9 (fun v => Wp gl gx (d + 1) P 66 17 [aR 3 i, aR 5 i1, aI x2, aI v, aI x4, aI (x5 + 1)] [] (mi, RS w, lv) Q) (show (if c9 = x2 then x3 ||| ((1 : Int32) <<< (((x4 * (mi 5 i1 0)) + x5) &&& 31)) else x3) = (x3 ||| ((1 : Int32) <<< (((x4 * (mi 5 i1 0)) + x5) &&& 31))) from if_pos (show c9 = x2 from q78)) zc9.2)))))))

theorem r_X4_cellsOf_5 {gl : Nat} {gx : Nat → Int32} {d : Nat} {P : PL} {Q : PO} {mi : MI} {w : WS} {lv : LV} {i : Nat} {i1 : Nat} {x2 : Int32} {x3 : Int32} {x4 : Int32} {v5 : AV} (h : (((mi 5 i1 1) ≤ x4) → Q (aI x3) (mi, RS w, lv)) ∧ (¬ ((mi 5 i1 1) ≤ x4) → Wp gl gx (d + 1) P 66 17 [aR 3 i, aR 5 i1, aI x2, aI x3, aI x4, aI 0] [] (mi, RS w, lv) Q)) : Wp gl gx (d + 1) P 66 5 [aR 3 i, aR 5 i1, aI x2, aI x3, aI x4, v5] [] (mi, RS w, lv) Q := 
  wpT row_66 mt_66 [.iload 4, .aload_n 1, .getfield 21, .if_icmp .ge 54] (by decide +kernel) [(65, [.iload_n 3, .ireturn]), (14, [.iconst 0, .istore 5])] (by decide +kernel) 36 (And.intro (fun q79 => (h.1 q79)) (fun q80 => (h.2 q80)))

theorem r_X4_cellsOf_0 {gl : Nat} {gx : Nat → Int32} {d : Nat} {P : PL} {Q : PO} {mi : MI} {w : WS} {lv : LV} {i : Nat} {i1 : Nat} {x2 : Int32} (h : Wp gl gx (d + 1) P 66 5 [aR 3 i, aR 5 i1, aI x2, aI 0, aI 0, aU] [] (mi, RS w, lv) Q) : Wp gl gx (d + 1) P 66 0 [aR 3 i, aR 5 i1, aI x2, aU, aU, aU] [] (mi, RS w, lv) Q := 
  wpT row_66 mt_66 [.iconst 0, .istore_n 3, .iconst 0, .istore 4] (by decide +kernel) [] (by decide +kernel) 28 (h)

def L_X4_cellsOf_17 (mi : MI) (w : WS) (k5 : Nat → Nat → Int32 → Int32 → Int32 → Option Int32) : Nat → Nat → Nat → Int32 → Int32 → Int32 → Int32 → Option Int32
  | 0, _, _, _, _, _, _ => none
  | n + 1, i, i1, x2, x3, x4, x5 => if (mi 5 i1 0) ≤ x5 then k5 i i1 x2 x3 (x4 + 1) else (F_X4_colourAt mi w i x5 x4).bind fun c9 => L_X4_cellsOf_17 mi w k5 n i i1 x2 (if c9 = x2 then x3 ||| ((1 : Int32) <<< (((x4 * (mi 5 i1 0)) + x5) &&& 31)) else x3) x4 (x5 + 1)

theorem l_X4_cellsOf_17 {gl : Nat} {gx : Nat → Int32} {d : Nat} {P : PL} {Q : PO} {lv : LV} {mi : MI} {w : WS} {k5 : Nat → Nat → Int32 → Int32 → Int32 → Option Int32} (hk5 : ∀ {i : Nat} {i1 : Nat} {x2 : Int32} {x3 : Int32} {x4 : Int32} {v5 : AV} {r : Int32}, k5 i i1 x2 x3 x4 = some r → (Q (aI r) (mi, RS w, lv)) → Wp gl gx (d + 1) P 66 5 [aR 3 i, aR 5 i1, aI x2, aI x3, aI x4, v5] [] (mi, RS w, lv) Q) (n : Nat) : ∀ {i : Nat} {i1 : Nat} {x2 : Int32} {x3 : Int32} {x4 : Int32} {x5 : Int32} {r : Int32}, L_X4_cellsOf_17 mi w k5 n i i1 x2 x3 x4 x5 = some r → (Q (aI r) (mi, RS w, lv)) → Wp gl gx (d + 1) P 66 17 [aR 3 i, aR 5 i1, aI x2, aI x3, aI x4, aI x5] [] (mi, RS w, lv) Q := by
  induction n with
  | zero => intro i i1 x2 x3 x4 x5 r hf h0; exact o_none hf
  | succ n ih => intro i i1 x2 x3 x4 x5 r hf h0; exact r_X4_cellsOf_17 (⟨fun q81 => k_ifp q81 hf (fun q83 => hk5 q83 h0), fun q82 => k_ifn q82 hf (fun q83 => o_bind q83 (fun c9 qc9 pc9 => ⟨c9, qc9, ih pc9 h0⟩))⟩)

def L_X4_cellsOf_5 (mi : MI) (w : WS) : Nat → Nat → Nat → Int32 → Int32 → Int32 → Option Int32
  | 0, _, _, _, _, _ => none
  | n + 1, i, i1, x2, x3, x4 => if (mi 5 i1 1) ≤ x4 then some x3 else L_X4_cellsOf_17 mi w (fun i i1 x2 x3 x4 => L_X4_cellsOf_5 mi w n i i1 x2 x3 x4) 1000000 i i1 x2 x3 x4 0

theorem l_X4_cellsOf_5 {gl : Nat} {gx : Nat → Int32} {d : Nat} {P : PL} {Q : PO} {lv : LV} {mi : MI} {w : WS} (n : Nat) : ∀ {i : Nat} {i1 : Nat} {x2 : Int32} {x3 : Int32} {x4 : Int32} {v5 : AV} {r : Int32}, L_X4_cellsOf_5 mi w n i i1 x2 x3 x4 = some r → (Q (aI r) (mi, RS w, lv)) → Wp gl gx (d + 1) P 66 5 [aR 3 i, aR 5 i1, aI x2, aI x3, aI x4, v5] [] (mi, RS w, lv) Q := by
  induction n with
  | zero => intro i i1 x2 x3 x4 v5 r hf h0; exact o_none hf
  | succ n ih => intro i i1 x2 x3 x4 v5 r hf h0; exact r_X4_cellsOf_5 (⟨fun q84 => k_ifp q84 hf (fun q86 => o_rP q86 h0), fun q85 => k_ifn q85 hf (fun q86 => l_X4_cellsOf_17 (fun hf h0 => ih hf h0) 1000000 q86 h0)⟩)

def F_X4_cellsOf (mi : MI) (w : WS) (i : Nat) (i1 : Nat) (x2 : Int32) : Option Int32 := L_X4_cellsOf_5 mi w 1000000 i i1 x2 0 0

theorem s_X4_cellsOf {gl : Nat} {gx : Nat → Int32} {d : Nat} {P : PL} {Q : PO} {mi : MI} {w : WS} {lv : LV} {i : Nat} {i1 : Nat} {x2 : Int32} {r : Int32} (hf : F_X4_cellsOf mi w i i1 x2 = some r) (h0 : Q (aI r) (mi, RS w, lv)) : Wp gl gx (d + 1) P 66 0 [aR 3 i, aR 5 i1, aI x2, aU, aU, aU] [] (mi, RS w, lv) Q := r_X4_cellsOf_0 (l_X4_cellsOf_5 1000000 hf h0)

abbrev row_67 : MT := (⟨"StencilHouse$Picture", "isWithin", "(LStencilHouse$Shop;)Z"⟩, prog_6_method_7_code, 4, some .boolean, 1, lk_4)
set_option maxRecDepth 20000 in
theorem mt_67 : mt 67 = some row_67 := rfl
theorem r_X4_isWithin_34 {gl : Nat} {gx : Nat → Int32} {d : Nat} {P : PL} {Q : PO} {mi : MI} {w : WS} {lv : LV} {i : Nat} {i1 : Nat} {x2 : Int32} {x3 : Int32} (h : Wp gl gx (d + 1) P 67 9 [aR 3 i, aR 5 i1, aI x2, aI (x3 + 1)] [] (mi, RS w, lv) Q) : Wp gl gx (d + 1) P 67 34 [aR 3 i, aR 5 i1, aI x2, aI x3] [] (mi, RS w, lv) Q := 
  wpT row_67 mt_67 [.iinc 3 1, .goto (.negSucc 27)] (by decide +kernel) [] (by decide +kernel) 24 (h)

theorem r_X4_isWithin_9 {gl : Nat} {gx : Nat → Int32} {d : Nat} {P : PL} {Q : PO} {mi : MI} {w : WS} {lv : LV} {i : Nat} {i1 : Nat} {x2 : Int32} {x3 : Int32} (h : ((5 ≤ x3) → Wp gl gx (d + 1) P 67 2 [aR 3 i, aR 5 i1, aI (x2 + 1), aI x3] [] (mi, RS w, lv) Q) ∧ (¬ (5 ≤ x3) → (∃ c10 : Int32, F_X4_colourAt mi w i x3 x2 = some c10 ∧ ((c10 = 0) → Wp gl gx (d + 1) P 67 9 [aR 3 i, aR 5 i1, aI x2, aI (x3 + 1)] [] (mi, RS w, lv) Q) ∧ (¬ (c10 = 0) → (¬ (x3 < 0) ∧ (¬ ((mi 5 i1 0) ≤ x3) ∧ (¬ (x2 < 0) ∧ (¬ ((mi 5 i1 1) ≤ x2)))) → Wp gl gx (d + 1) P 67 9 [aR 3 i, aR 5 i1, aI x2, aI (x3 + 1)] [] (mi, RS w, lv) Q) ∧ (¬ (¬ (x3 < 0) ∧ (¬ ((mi 5 i1 0) ≤ x3) ∧ (¬ (x2 < 0) ∧ (¬ ((mi 5 i1 1) ≤ x2))))) → Q (aI 0) (mi, RS w, lv)))))) : Wp gl gx (d + 1) P 67 9 [aR 3 i, aR 5 i1, aI x2, aI x3] [] (mi, RS w, lv) Q := 
  wpT row_67 mt_67 [.iload_n 3, .iconst 5, .if_icmp .ge 29] (by decide +kernel) [(40, [.iinc 2 1, .goto (.negSucc 40)]), (14, [.aload_n 0, .iload_n 3, .iload_n 2, .invokevirtual 30]), (20, [.ifCond .eq 14]), (23, [.aload_n 1, .iload_n 3, .iload_n 2, .invokevirtual 34]), (29, [.ifCond .ne 5]), (32, [.iconst 0, .ireturn])] (by decide +kernel) 54 (And.intro (fun q87 => (h.1 q87)) (fun q88 => Exists.elim (h.2 q88) (fun c10 zc10 => And.intro ⟨Nat.le_of_ble_eq_true rfl, rfl, rfl⟩ (s_X4_colourAt (d := d) zc10.1 (And.intro (fun q89 => r_X4_isWithin_34 (i := i) (i1 := i1) (x2 := x2) (x3 := x3) (mi := mi) (zc10.2.1 q89)) (fun q90 => And.intro ⟨Nat.le_of_ble_eq_true rfl, rfl, rfl⟩ (s_X6_hasPlace (d := d) (And.intro (fun q91 => r_X4_isWithin_34 (i := i) (i1 := i1) (x2 := x2) (x3 := x3) (mi := mi) ((zc10.2.2 q90).1 (b2_n q91))) (fun q92 => And.intro rfl ((zc10.2.2 q90).2 (b2_0 q92)))))))))))

theorem r_X4_isWithin_2 {gl : Nat} {gx : Nat → Int32} {d : Nat} {P : PL} {Q : PO} {mi : MI} {w : WS} {lv : LV} {i : Nat} {i1 : Nat} {x2 : Int32} {v3 : AV} (h : ((5 ≤ x2) → Q (aI 1) (mi, RS w, lv)) ∧ (¬ (5 ≤ x2) → Wp gl gx (d + 1) P 67 9 [aR 3 i, aR 5 i1, aI x2, aI 0] [] (mi, RS w, lv) Q)) : Wp gl gx (d + 1) P 67 2 [aR 3 i, aR 5 i1, aI x2, v3] [] (mi, RS w, lv) Q := 
  wpT row_67 mt_67 [.iload_n 2, .iconst 5, .if_icmp .ge 42] (by decide +kernel) [(46, [.iconst 1, .ireturn]), (7, [.iconst 0, .istore_n 3])] (by decide +kernel) 34 (And.intro (fun q93 => And.intro rfl (h.1 q93)) (fun q94 => (h.2 q94)))

theorem r_X4_isWithin_0 {gl : Nat} {gx : Nat → Int32} {d : Nat} {P : PL} {Q : PO} {mi : MI} {w : WS} {lv : LV} {i : Nat} {i1 : Nat} (h : Wp gl gx (d + 1) P 67 2 [aR 3 i, aR 5 i1, aI 0, aU] [] (mi, RS w, lv) Q) : Wp gl gx (d + 1) P 67 0 [aR 3 i, aR 5 i1, aU, aU] [] (mi, RS w, lv) Q := 
  wpT row_67 mt_67 [.iconst 0, .istore_n 2] (by decide +kernel) [] (by decide +kernel) 24 (h)

def L_X4_isWithin_9 (mi : MI) (w : WS) (k2 : Nat → Nat → Int32 → Option Int32) : Nat → Nat → Nat → Int32 → Int32 → Option Int32
  | 0, _, _, _, _ => none
  | n + 1, i, i1, x2, x3 => if 5 ≤ x3 then k2 i i1 (x2 + 1) else (F_X4_colourAt mi w i x3 x2).bind fun c10 => if c10 = 0 then L_X4_isWithin_9 mi w k2 n i i1 x2 (x3 + 1) else if ¬ (x3 < 0) ∧ (¬ ((mi 5 i1 0) ≤ x3) ∧ (¬ (x2 < 0) ∧ (¬ ((mi 5 i1 1) ≤ x2)))) then L_X4_isWithin_9 mi w k2 n i i1 x2 (x3 + 1) else some (0 : Int32)

theorem l_X4_isWithin_9 {gl : Nat} {gx : Nat → Int32} {d : Nat} {P : PL} {Q : PO} {lv : LV} {mi : MI} {w : WS} {k2 : Nat → Nat → Int32 → Option Int32} (hk2 : ∀ {i : Nat} {i1 : Nat} {x2 : Int32} {v3 : AV} {r : Int32}, k2 i i1 x2 = some r → (Q (aI r) (mi, RS w, lv)) → Wp gl gx (d + 1) P 67 2 [aR 3 i, aR 5 i1, aI x2, v3] [] (mi, RS w, lv) Q) (n : Nat) : ∀ {i : Nat} {i1 : Nat} {x2 : Int32} {x3 : Int32} {r : Int32}, L_X4_isWithin_9 mi w k2 n i i1 x2 x3 = some r → (Q (aI r) (mi, RS w, lv)) → Wp gl gx (d + 1) P 67 9 [aR 3 i, aR 5 i1, aI x2, aI x3] [] (mi, RS w, lv) Q := by
  induction n with
  | zero => intro i i1 x2 x3 r hf h0; exact o_none hf
  | succ n ih => intro i i1 x2 x3 r hf h0; exact r_X4_isWithin_9 (⟨fun q95 => k_ifp q95 hf (fun q97 => hk2 q97 h0), fun q96 => k_ifn q96 hf (fun q97 => o_bind q97 (fun c10 qc10 pc10 => ⟨c10, qc10, ⟨fun q98 => k_ifp q98 pc10 (fun q100 => ih q100 h0), fun q99 => k_ifn q99 pc10 (fun q100 => ⟨fun q101 => k_ifp q101 q100 (fun q103 => ih q103 h0), fun q102 => k_ifn q102 q100 (fun q103 => o_rP q103 h0)⟩)⟩⟩))⟩)

def L_X4_isWithin_2 (mi : MI) (w : WS) : Nat → Nat → Nat → Int32 → Option Int32
  | 0, _, _, _ => none
  | n + 1, i, i1, x2 => if 5 ≤ x2 then some (1 : Int32) else L_X4_isWithin_9 mi w (fun i i1 x2 => L_X4_isWithin_2 mi w n i i1 x2) 1000000 i i1 x2 0

theorem l_X4_isWithin_2 {gl : Nat} {gx : Nat → Int32} {d : Nat} {P : PL} {Q : PO} {lv : LV} {mi : MI} {w : WS} (n : Nat) : ∀ {i : Nat} {i1 : Nat} {x2 : Int32} {v3 : AV} {r : Int32}, L_X4_isWithin_2 mi w n i i1 x2 = some r → (Q (aI r) (mi, RS w, lv)) → Wp gl gx (d + 1) P 67 2 [aR 3 i, aR 5 i1, aI x2, v3] [] (mi, RS w, lv) Q := by
  induction n with
  | zero => intro i i1 x2 v3 r hf h0; exact o_none hf
  | succ n ih => intro i i1 x2 v3 r hf h0; exact r_X4_isWithin_2 (⟨fun q104 => k_ifp q104 hf (fun q106 => o_rP q106 h0), fun q105 => k_ifn q105 hf (fun q106 => l_X4_isWithin_9 (fun hf h0 => ih hf h0) 1000000 q106 h0)⟩)

def F_X4_isWithin (mi : MI) (w : WS) (i : Nat) (i1 : Nat) : Option Int32 := L_X4_isWithin_2 mi w 1000000 i i1 0

theorem s_X4_isWithin {gl : Nat} {gx : Nat → Int32} {d : Nat} {P : PL} {Q : PO} {mi : MI} {w : WS} {lv : LV} {i : Nat} {i1 : Nat} {r : Int32} (hf : F_X4_isWithin mi w i i1 = some r) (h0 : Q (aI r) (mi, RS w, lv)) : Wp gl gx (d + 1) P 67 0 [aR 3 i, aR 5 i1, aU, aU] [] (mi, RS w, lv) Q := r_X4_isWithin_0 (l_X4_isWithin_2 1000000 hf h0)

abbrev row_68 : MT := (⟨"StencilHouse$Picture", "colourCount", "()I"⟩, prog_6_method_8_code, 3, some .int, 1, lk_4)
set_option maxRecDepth 20000 in
theorem mt_68 : mt 68 = some row_68 := rfl
theorem r_X4_colourCount_21 {gl : Nat} {gx : Nat → Int32} {d : Nat} {P : PL} {Q : PO} {mi : MI} {w : WS} {lv : LV} {i : Nat} {x1 : Int32} {x2 : Int32} (h : Wp gl gx (d + 1) P 68 4 [aR 3 i, aI x1, aI (x2 + 1)] [] (mi, RS w, lv) Q) : Wp gl gx (d + 1) P 68 21 [aR 3 i, aI x1, aI x2] [] (mi, RS w, lv) Q := 
  wpT row_68 mt_68 [.iinc 2 1, .goto (.negSucc 19)] (by decide +kernel) [] (by decide +kernel) 24 (h)

theorem r_X4_colourCount_4 {gl : Nat} {gx : Nat → Int32} {d : Nat} {P : PL} {Q : PO} {mi : MI} {w : WS} {lv : LV} {i : Nat} {x1 : Int32} {x2 : Int32} (h : ((10 ≤ x2) → Q (aI x1) (mi, RS w, lv)) ∧ (¬ (10 ≤ x2) → (∃ c11 : Int32, F_X4_placesOf mi w i x2 = some c11 ∧ Wp gl gx (d + 1) P 68 4 [aR 3 i, aI (if c11 ≤ 0 then x1 else x1 + 1), aI (x2 + 1)] [] (mi, RS w, lv) Q))) : Wp gl gx (d + 1) P 68 4 [aR 3 i, aI x1, aI x2] [] (mi, RS w, lv) Q := 
  wpT row_68 mt_68 [.iload_n 2, .bipush 10, .if_icmp .ge 20] (by decide +kernel) [(27, [.iload_n 1, .ireturn]), (10, [.aload_n 0, .iload_n 2, .invokevirtual 38]), (15, [.ifCond .le 6]), (18, [.iinc 1 1])] (by decide +kernel) 40 (And.intro (fun q107 => (h.1 q107)) (fun q108 => Exists.elim (h.2 q108) (fun c11 zc11 => And.intro ⟨Nat.le_of_ble_eq_true rfl, rfl, rfl⟩ (s_X4_placesOf (d := d) zc11.1 (And.intro (fun q109 => r_X4_colourCount_21 (i := i) (x1 := x1) (x2 := x2) (mi := mi) (mv9 (fun v => Wp gl gx (d + 1) P 68 4 [aR 3 i, aI v, aI (x2 + 1)] [] (mi, RS w, lv) Q) (show (if c11 ≤ 0 then x1 else x1 + 1) = x1 from if_pos (show c11 ≤ 0 from q109)) zc11.2)) (fun q110 => r_X4_colourCount_21 (i := i) (x1 := (x1 + 1)) (x2 := x2) (mi := mi) (mv9 (fun v => Wp gl gx (d + 1) P 68 4 [aR 3 i, aI v, aI (x2 + 1)] [] (mi, RS w, lv) Q) (show (if c11 ≤ 0 then x1 else x1 + 1) = (x1 + 1) from if_neg (show ¬ (c11 ≤ 0) from q110)) zc11.2)))))))

theorem r_X4_colourCount_0 {gl : Nat} {gx : Nat → Int32} {d : Nat} {P : PL} {Q : PO} {mi : MI} {w : WS} {lv : LV} {i : Nat} (h : Wp gl gx (d + 1) P 68 4 [aR 3 i, aI 0, aI 1] [] (mi, RS w, lv) Q) : Wp gl gx (d + 1) P 68 0 [aR 3 i, aU, aU] [] (mi, RS w, lv) Q := 
  wpT row_68 mt_68 [.iconst 0, .istore_n 1, .iconst 1, .istore_n 2] (by decide +kernel) [] (by decide +kernel) 28 (h)

def L_X4_colourCount_4 (mi : MI) (w : WS) : Nat → Nat → Int32 → Int32 → Option Int32
  | 0, _, _, _ => none
  | n + 1, i, x1, x2 => if 10 ≤ x2 then some x1 else (F_X4_placesOf mi w i x2).bind fun c11 => L_X4_colourCount_4 mi w n i (if c11 ≤ 0 then x1 else x1 + 1) (x2 + 1)

theorem l_X4_colourCount_4 {gl : Nat} {gx : Nat → Int32} {d : Nat} {P : PL} {Q : PO} {lv : LV} {mi : MI} {w : WS} (n : Nat) : ∀ {i : Nat} {x1 : Int32} {x2 : Int32} {r : Int32}, L_X4_colourCount_4 mi w n i x1 x2 = some r → (Q (aI r) (mi, RS w, lv)) → Wp gl gx (d + 1) P 68 4 [aR 3 i, aI x1, aI x2] [] (mi, RS w, lv) Q := by
  induction n with
  | zero => intro i x1 x2 r hf h0; exact o_none hf
  | succ n ih => intro i x1 x2 r hf h0; exact r_X4_colourCount_4 (⟨fun q111 => k_ifp q111 hf (fun q113 => o_rP q113 h0), fun q112 => k_ifn q112 hf (fun q113 => o_bind q113 (fun c11 qc11 pc11 => ⟨c11, qc11, ih pc11 h0⟩))⟩)

def F_X4_colourCount (mi : MI) (w : WS) (i : Nat) : Option Int32 := L_X4_colourCount_4 mi w 1000000 i 0 1

theorem s_X4_colourCount {gl : Nat} {gx : Nat → Int32} {d : Nat} {P : PL} {Q : PO} {mi : MI} {w : WS} {lv : LV} {i : Nat} {r : Int32} (hf : F_X4_colourCount mi w i = some r) (h0 : Q (aI r) (mi, RS w, lv)) : Wp gl gx (d + 1) P 68 0 [aR 3 i, aU, aU] [] (mi, RS w, lv) Q := r_X4_colourCount_0 (l_X4_colourCount_4 1000000 hf h0)

abbrev row_69 : MT := (⟨"StencilHouse$Picture", "commonest", "()I"⟩, prog_6_method_9_code, 5, some .int, 1, lk_4)
set_option maxRecDepth 20000 in
theorem mt_69 : mt 69 = some row_69 := rfl
theorem r_X4_commonest_30 {gl : Nat} {gx : Nat → Int32} {d : Nat} {P : PL} {Q : PO} {mi : MI} {w : WS} {lv : LV} {i : Nat} {x1 : Int32} {x2 : Int32} {x3 : Int32} {x4 : Int32} (h : Wp gl gx (d + 1) P 69 6 [aR 3 i, aI x1, aI x2, aI (x3 + 1), aI x4] [] (mi, RS w, lv) Q) : Wp gl gx (d + 1) P 69 30 [aR 3 i, aI x1, aI x2, aI x3, aI x4] [] (mi, RS w, lv) Q := 
  wpT row_69 mt_69 [.iinc 3 1, .goto (.negSucc 26)] (by decide +kernel) [] (by decide +kernel) 24 (h)

theorem r_X4_commonest_6 {gl : Nat} {gx : Nat → Int32} {d : Nat} {P : PL} {Q : PO} {mi : MI} {w : WS} {lv : LV} {i : Nat} {x1 : Int32} {x2 : Int32} {x3 : Int32} {v4 : AV} (h : ((10 ≤ x3) → Q (aI x1) (mi, RS w, lv)) ∧ (¬ (10 ≤ x3) → (∃ c12 : Int32, F_X4_placesOf mi w i x3 = some c12 ∧ ((c12 ≤ x2) → Wp gl gx (d + 1) P 69 6 [aR 3 i, aI x1, aI x2, aI (x3 + 1), aI c12] [] (mi, RS w, lv) Q) ∧ (¬ (c12 ≤ x2) → Wp gl gx (d + 1) P 69 6 [aR 3 i, aI x3, aI c12, aI (x3 + 1), aI c12] [] (mi, RS w, lv) Q)))) : Wp gl gx (d + 1) P 69 6 [aR 3 i, aI x1, aI x2, aI x3, v4] [] (mi, RS w, lv) Q := 
  wpT row_69 mt_69 [.iload_n 3, .bipush 10, .if_icmp .ge 27] (by decide +kernel) [(36, [.iload_n 1, .ireturn]), (12, [.aload_n 0, .iload_n 3, .invokevirtual 38]), (17, [.istore 4, .iload 4, .iload_n 2, .if_icmp .le 8]), (25, [.iload 4, .istore_n 2, .iload_n 3, .istore_n 1])] (by decide +kernel) 52 (And.intro (fun q114 => (h.1 q114)) (fun q115 => Exists.elim (h.2 q115) (fun c12 zc12 => And.intro ⟨Nat.le_of_ble_eq_true rfl, rfl, rfl⟩ (s_X4_placesOf (d := d) zc12.1 (And.intro (fun q116 => r_X4_commonest_30 (i := i) (x1 := x1) (x2 := x2) (x3 := x3) (x4 := c12) (mi := mi) (zc12.2.1 q116)) (fun q117 => r_X4_commonest_30 (i := i) (x1 := x3) (x2 := c12) (x3 := x3) (x4 := c12) (mi := mi) (zc12.2.2 q117)))))))

theorem r_X4_commonest_0 {gl : Nat} {gx : Nat → Int32} {d : Nat} {P : PL} {Q : PO} {mi : MI} {w : WS} {lv : LV} {i : Nat} (h : Wp gl gx (d + 1) P 69 6 [aR 3 i, aI (-1), aI 0, aI 1, aU] [] (mi, RS w, lv) Q) : Wp gl gx (d + 1) P 69 0 [aR 3 i, aU, aU, aU, aU] [] (mi, RS w, lv) Q := 
  wpT row_69 mt_69 [.iconst (.negSucc 0), .istore_n 1, .iconst 0, .istore_n 2, .iconst 1, .istore_n 3] (by decide +kernel) [] (by decide +kernel) 32 (h)

def L_X4_commonest_6 (mi : MI) (w : WS) : Nat → Nat → Int32 → Int32 → Int32 → Option Int32
  | 0, _, _, _, _ => none
  | n + 1, i, x1, x2, x3 => if 10 ≤ x3 then some x1 else (F_X4_placesOf mi w i x3).bind fun c12 => if c12 ≤ x2 then L_X4_commonest_6 mi w n i x1 x2 (x3 + 1) else L_X4_commonest_6 mi w n i x3 c12 (x3 + 1)

theorem l_X4_commonest_6 {gl : Nat} {gx : Nat → Int32} {d : Nat} {P : PL} {Q : PO} {lv : LV} {mi : MI} {w : WS} (n : Nat) : ∀ {i : Nat} {x1 : Int32} {x2 : Int32} {x3 : Int32} {v4 : AV} {r : Int32}, L_X4_commonest_6 mi w n i x1 x2 x3 = some r → (Q (aI r) (mi, RS w, lv)) → Wp gl gx (d + 1) P 69 6 [aR 3 i, aI x1, aI x2, aI x3, v4] [] (mi, RS w, lv) Q := by
  induction n with
  | zero => intro i x1 x2 x3 v4 r hf h0; exact o_none hf
  | succ n ih => intro i x1 x2 x3 v4 r hf h0; exact r_X4_commonest_6 (⟨fun q118 => k_ifp q118 hf (fun q120 => o_rP q120 h0), fun q119 => k_ifn q119 hf (fun q120 => o_bind q120 (fun c12 qc12 pc12 => ⟨c12, qc12, ⟨fun q121 => k_ifp q121 pc12 (fun q123 => ih q123 h0), fun q122 => k_ifn q122 pc12 (fun q123 => ih q123 h0)⟩⟩))⟩)

def F_X4_commonest (mi : MI) (w : WS) (i : Nat) : Option Int32 := L_X4_commonest_6 mi w 1000000 i (-1) 0 1

theorem s_X4_commonest {gl : Nat} {gx : Nat → Int32} {d : Nat} {P : PL} {Q : PO} {mi : MI} {w : WS} {lv : LV} {i : Nat} {r : Int32} (hf : F_X4_commonest mi w i = some r) (h0 : Q (aI r) (mi, RS w, lv)) : Wp gl gx (d + 1) P 69 0 [aR 3 i, aU, aU, aU, aU] [] (mi, RS w, lv) Q := r_X4_commonest_0 (l_X4_commonest_6 1000000 hf h0)

theorem r_X6_clear_22 {gl : Nat} {gx : Nat → Int32} {d : Nat} {P : PL} {Q : PO} {mi : MI} {w : WS} {lv : LV} {i : Nat} {x1 : Int32} (h : ((6 ≤ x1) → Q aU (mi, RS w, lv)) ∧ (¬ (6 ≤ x1) → (vp_in x1 6) ∧ ((∀ m14 : MI, m14 = u3 mi 26 i x1.toNatClampNeg 0 → (vp_in x1 6) ∧ ((∀ m15 : MI, m15 = u3 m14 27 i x1.toNatClampNeg 3 → (vp_in x1 6) ∧ ((∀ m16 : MI, m16 = u3 m15 28 i x1.toNatClampNeg 0 → Wp gl gx d P 86 22 [aR 5 i, aI (x1 + 1)] [] (m16, RS w, lv) Q)))))))) : Wp gl gx d P 86 22 [aR 5 i, aI x1] [] (mi, RS w, lv) Q := 
  wpT row_86 mt_86 [.iload_n 1, .bipush 6, .if_icmp .ge 30] (by decide +kernel) [(55, [.return_]), (28, [.aload_n 0, .getfield 24, .iload_n 1, .iconst 0, .iastore]), (35, [.aload_n 0, .getfield 28, .iload_n 1, .iconst 3, .iastore]), (42, [.aload_n 0, .getfield 31, .iload_n 1, .iconst 0, .iastore]), (49, [.iinc 1 1, .goto (.negSucc 29)])] (by decide +kernel) 62 (And.intro (fun q124 => (h.1 q124)) (fun q125 => And.intro (h.2 q125).1 (And.intro ((h.2 q125).2 _ rfl).1 (And.intro (((h.2 q125).2 _ rfl).2 _ rfl).1 (((((h.2 q125).2 _ rfl).2 _ rfl).2 _ rfl))))))

theorem r_X6_clear_0 {gl : Nat} {gx : Nat → Int32} {d : Nat} {P : PL} {Q : PO} {mi : MI} {w : WS} {lv : LV} {i : Nat} (h : (∀ m13 : MI, m13 = u3 (u3 (u3 mi 5 i 0 3) 5 i 1 3) 5 i 2 0 → Wp gl gx d P 86 22 [aR 5 i, aI 0] [] (u3 m13 5 i 3 0, RS w, lv) Q)) : Wp gl gx d P 86 0 [aR 5 i, aU] [] (mi, RS w, lv) Q := 
  wpT row_86 mt_86 [.aload_n 0, .iconst 3, .putfield 9, .aload_n 0, .iconst 3, .putfield 15, .aload_n 0, .iconst 0, .putfield 18] (by decide +kernel) [(15, [.aload_n 0, .iconst 0, .putfield 21, .iconst 0, .istore_n 1])] (by decide +kernel) 48 ((h _ rfl))

def L_X6_clear_22 (w : WS) : Nat → MI → Nat → Int32 → Option MI
  | 0, _, _, _ => none
  | n + 1, mi, i, x1 => if 6 ≤ x1 then some mi else ck (¬ (x1 < 0 ∨ 6 ≤ x1.toNatClampNeg)) (lt (u3 mi 26 i x1.toNatClampNeg 0) fun m14 => ck (¬ (x1 < 0 ∨ 6 ≤ x1.toNatClampNeg)) (lt (u3 m14 27 i x1.toNatClampNeg 3) fun m15 => ck (¬ (x1 < 0 ∨ 6 ≤ x1.toNatClampNeg)) (lt (u3 m15 28 i x1.toNatClampNeg 0) fun m16 => L_X6_clear_22 w n m16 i (x1 + 1))))

theorem l_X6_clear_22 {gl : Nat} {gx : Nat → Int32} {d : Nat} {P : PL} {Q : PO} {lv : LV} {w : WS} (n : Nat) : ∀ {mi : MI} {i : Nat} {x1 : Int32} {r : MI}, L_X6_clear_22 w n mi i x1 = some r → (Q aU (r, RS w, lv)) → Wp gl gx d P 86 22 [aR 5 i, aI x1] [] (mi, RS w, lv) Q := by
  induction n with
  | zero => intro mi i x1 r hf h0; exact o_none hf
  | succ n ih => intro mi i x1 r hf h0; exact r_X6_clear_22 (⟨fun q126 => k_ifp q126 hf (fun q128 => o_rMV q128 h0), fun q127 => k_ifn q127 hf (fun q128 => k_ck q128 (fun q130 q129 => ⟨q130, fun m14 hm14 => k_lt q129 hm14 (fun q131 => k_ck q131 (fun q133 q132 => ⟨q133, fun m15 hm15 => k_lt q132 hm15 (fun q134 => k_ck q134 (fun q136 q135 => ⟨q136, fun m16 hm16 => k_lt q135 hm16 (fun q137 => ih q137 h0)⟩))⟩))⟩))⟩)

def F_X6_clear (mi : MI) (w : WS) (i : Nat) : Option MI := lt (u3 (u3 (u3 mi 5 i 0 3) 5 i 1 3) 5 i 2 0) fun m13 => L_X6_clear_22 w 1000000 (u3 m13 5 i 3 0) i 0

theorem s_X6_clear {gl : Nat} {gx : Nat → Int32} {d : Nat} {P : PL} {Q : PO} {mi : MI} {w : WS} {lv : LV} {i : Nat} {r : MI} (hf : F_X6_clear mi w i = some r) (h0 : Q aU (r, RS w, lv)) : Wp gl gx d P 86 0 [aR 5 i, aU] [] (mi, RS w, lv) Q := r_X6_clear_0 (fun m13 hm13 => k_lt hf hm13 (fun q138 => l_X6_clear_22 1000000 q138 h0))

theorem r_X6_copyFrom_0 {gl : Nat} {gx : Nat → Int32} {d : Nat} {P : PL} {Q : PO} {mi : MI} {w : WS} {lv : LV} {i : Nat} {i1 : Nat} (h : (∀ m17 : MI, m17 = u3 (u3 mi 5 i 0 (mi 5 i1 0)) 5 i 1 ((u3 mi 5 i 0 (mi 5 i1 0)) 5 i1 1) → (∀ m18 : MI, m18 = u3 (u3 m17 5 i 2 (m17 5 i1 2)) 5 i 3 ((u3 m17 5 i 2 (m17 5 i1 2)) 5 i1 3) → (∀ m19 : MI, m19 = u2 m18 26 i (va_cpy (m18 26 i1) (m18 26 i) 0 0 6) → (∀ m20 : MI, m20 = u2 m19 27 i (va_cpy (m19 27 i1) (m19 27 i) 0 0 6) → (∀ m21 : MI, m21 = u2 m20 28 i (va_cpy (m20 28 i1) (m20 28 i) 0 0 6) → (∀ m22 : MI, m22 = u3 (u3 m21 5 i 7 (m21 5 i1 7)) 5 i 8 ((u3 m21 5 i 7 (m21 5 i1 7)) 5 i1 8) → (∀ m23 : MI, m23 = u3 (u3 m22 5 i 9 (m22 5 i1 9)) 5 i 10 ((u3 m22 5 i 9 (m22 5 i1 9)) 5 i1 10) → Q aU (m23, RS w, lv))))))))) : Wp gl gx (d + 1) P 87 0 [aR 5 i, aR 5 i1] [] (mi, RS w, lv) Q := 
  wpT row_87 mt_87 [.aload_n 0, .aload_n 1, .getfield 9, .putfield 9, .aload_n 0, .aload_n 1, .getfield 15, .putfield 15] (by decide +kernel) [(16, [.aload_n 0, .aload_n 1, .getfield 18, .putfield 18, .aload_n 0, .aload_n 1, .getfield 21, .putfield 21]), (32, [.aload_n 1, .getfield 24, .iconst 0, .aload_n 0, .getfield 24, .iconst 0, .bipush 6, .invokestatic 46]), (47, [.aload_n 1, .getfield 28, .iconst 0, .aload_n 0, .getfield 28, .iconst 0, .bipush 6, .invokestatic 46]), (62, [.aload_n 1, .getfield 31, .iconst 0, .aload_n 0, .getfield 31, .iconst 0, .bipush 6, .invokestatic 46]), (77, [.aload_n 0, .aload_n 1, .getfield 34, .putfield 34, .aload_n 0, .aload_n 1, .getfield 37, .putfield 37]), (93, [.aload_n 0, .aload_n 1, .getfield 40, .putfield 40, .aload_n 0, .aload_n 1, .getfield 43, .putfield 43]), (109, [.return_])] (by decide +kernel) 134 (And.intro ⟨Nat.le_of_ble_eq_true rfl, by decide, by decide, by decide, by decide, by decide⟩ (And.intro ⟨Nat.le_of_ble_eq_true rfl, by decide, by decide, by decide, by decide, by decide⟩ (And.intro ⟨Nat.le_of_ble_eq_true rfl, by decide, by decide, by decide, by decide, by decide⟩ ((((((((h _ rfl) _ rfl) _ rfl) _ rfl) _ rfl) _ rfl) _ rfl)))))

def F_X6_copyFrom (mi : MI) (w : WS) (i : Nat) (i1 : Nat) : Option MI := lt (u3 (u3 mi 5 i 0 (mi 5 i1 0)) 5 i 1 ((u3 mi 5 i 0 (mi 5 i1 0)) 5 i1 1)) fun m17 => lt (u3 (u3 m17 5 i 2 (m17 5 i1 2)) 5 i 3 ((u3 m17 5 i 2 (m17 5 i1 2)) 5 i1 3)) fun m18 => lt (u2 m18 26 i (va_cpy (m18 26 i1) (m18 26 i) 0 0 6)) fun m19 => lt (u2 m19 27 i (va_cpy (m19 27 i1) (m19 27 i) 0 0 6)) fun m20 => lt (u2 m20 28 i (va_cpy (m20 28 i1) (m20 28 i) 0 0 6)) fun m21 => lt (u3 (u3 m21 5 i 7 (m21 5 i1 7)) 5 i 8 ((u3 m21 5 i 7 (m21 5 i1 7)) 5 i1 8)) fun m22 => lt (u3 (u3 m22 5 i 9 (m22 5 i1 9)) 5 i 10 ((u3 m22 5 i 9 (m22 5 i1 9)) 5 i1 10)) fun m23 => some m23

theorem s_X6_copyFrom {gl : Nat} {gx : Nat → Int32} {d : Nat} {P : PL} {Q : PO} {mi : MI} {w : WS} {lv : LV} {i : Nat} {i1 : Nat} {r : MI} (hf : F_X6_copyFrom mi w i i1 = some r) (h0 : Q aU (r, RS w, lv)) : Wp gl gx (d + 1) P 87 0 [aR 5 i, aR 5 i1] [] (mi, RS w, lv) Q := r_X6_copyFrom_0 (fun m17 hm17 => k_lt hf hm17 (fun q139 => fun m18 hm18 => k_lt q139 hm18 (fun q140 => fun m19 hm19 => k_lt q140 hm19 (fun q141 => fun m20 hm20 => k_lt q141 hm20 (fun q142 => fun m21 hm21 => k_lt q142 hm21 (fun q143 => fun m22 hm22 => k_lt q143 hm22 (fun q144 => fun m23 hm23 => k_lt q144 hm23 (fun q145 => o_rMV q145 h0))))))))

theorem r_X6_measure_29 {gl : Nat} {gx : Nat → Int32} {d : Nat} {P : PL} {Q : PO} {mi : MI} {w : WS} {lv : LV} {i : Nat} {x1 : Int32} (h : (((mi 5 i 1) ≤ x1) → (∀ m25 : MI, m25 = u3 mi 5 i 10 ((((mi 5 i 8) ||| (mi 5 i 9)) ||| (((1 : Int32) <<< ((mi 5 i 0) &&& 31)) - 1)) ||| ((((1 : Int32) <<< ((mi 5 i 0) &&& 31)) - 1) <<< ((((mi 5 i 1) - 1) * (mi 5 i 0)) &&& 31))) → Q aU (m25, RS w, lv))) ∧ (¬ ((mi 5 i 1) ≤ x1) → (∀ m26 : MI, m26 = u3 mi 5 i 8 ((mi 5 i 8) ||| ((1 : Int32) <<< ((x1 * (mi 5 i 0)) &&& 31))) → (∀ m27 : MI, m27 = u3 m26 5 i 9 ((m26 5 i 9) ||| ((1 : Int32) <<< ((((x1 * (m26 5 i 0)) + (m26 5 i 0)) - 1) &&& 31))) → Wp gl gx d P 88 29 [aR 5 i, aI (x1 + 1)] [] (m27, RS w, lv) Q)))) : Wp gl gx d P 88 29 [aR 5 i, aI x1] [] (mi, RS w, lv) Q := 
  wpT row_88 mt_88 [.iload_n 1, .aload_n 0, .getfield 15, .if_icmp .ge 50] (by decide +kernel) [(84, [.iconst 1, .aload_n 0, .getfield 9, .ishl, .iconst 1, .isub, .istore_n 1, .aload_n 0, .aload_n 0, .getfield 37, .aload_n 0, .getfield 40, .ior, .iload_n 1, .ior, .iload_n 1, .aload_n 0, .getfield 15, .iconst 1, .isub, .aload_n 0, .getfield 9, .imul, .ishl, .ior, .putfield 43]), (122, [.return_]), (37, [.aload_n 0, .dup, .getfield 37, .iconst 1, .iload_n 1, .aload_n 0, .getfield 9, .imul, .ishl, .ior, .putfield 37]), (54, [.aload_n 0, .dup, .getfield 40, .iconst 1, .iload_n 1, .aload_n 0, .getfield 9, .imul, .aload_n 0, .getfield 9, .iadd, .iconst 1, .isub, .ishl, .ior, .putfield 40]), (78, [.iinc 1 1, .goto (.negSucc 51)])] (by decide +kernel) 140 (And.intro (fun q146 => ((h.1 q146) _ rfl)) (fun q147 => (((h.2 q147) _ rfl) _ rfl)))

theorem r_X6_measure_0 {gl : Nat} {gx : Nat → Int32} {d : Nat} {P : PL} {Q : PO} {mi : MI} {w : WS} {lv : LV} {i : Nat} (h : (∀ m24 : MI, m24 = u3 mi 5 i 7 (((1 : Int32) <<< (((mi 5 i 0) * (mi 5 i 1)) &&& 31)) - 1) → Wp gl gx d P 88 29 [aR 5 i, aI 0] [] (u3 (u3 m24 5 i 8 0) 5 i 9 0, RS w, lv) Q)) : Wp gl gx d P 88 0 [aR 5 i, aU] [] (mi, RS w, lv) Q := 
  wpT row_88 mt_88 [.aload_n 0, .iconst 1, .aload_n 0, .getfield 9, .aload_n 0, .getfield 15, .imul, .ishl, .iconst 1, .isub, .putfield 34] (by decide +kernel) [(17, [.aload_n 0, .iconst 0, .putfield 37, .aload_n 0, .iconst 0, .putfield 40, .iconst 0, .istore_n 1])] (by decide +kernel) 58 ((h _ rfl))

def L_X6_measure_29 (w : WS) : Nat → MI → Nat → Int32 → Option MI
  | 0, _, _, _ => none
  | n + 1, mi, i, x1 => if (mi 5 i 1) ≤ x1 then lt (u3 mi 5 i 10 ((((mi 5 i 8) ||| (mi 5 i 9)) ||| (((1 : Int32) <<< ((mi 5 i 0) &&& 31)) - 1)) ||| ((((1 : Int32) <<< ((mi 5 i 0) &&& 31)) - 1) <<< ((((mi 5 i 1) - 1) * (mi 5 i 0)) &&& 31)))) fun m25 => some m25 else lt (u3 mi 5 i 8 ((mi 5 i 8) ||| ((1 : Int32) <<< ((x1 * (mi 5 i 0)) &&& 31)))) fun m26 => lt (u3 m26 5 i 9 ((m26 5 i 9) ||| ((1 : Int32) <<< ((((x1 * (m26 5 i 0)) + (m26 5 i 0)) - 1) &&& 31)))) fun m27 => L_X6_measure_29 w n m27 i (x1 + 1)

theorem l_X6_measure_29 {gl : Nat} {gx : Nat → Int32} {d : Nat} {P : PL} {Q : PO} {lv : LV} {w : WS} (n : Nat) : ∀ {mi : MI} {i : Nat} {x1 : Int32} {r : MI}, L_X6_measure_29 w n mi i x1 = some r → (Q aU (r, RS w, lv)) → Wp gl gx d P 88 29 [aR 5 i, aI x1] [] (mi, RS w, lv) Q := by
  induction n with
  | zero => intro mi i x1 r hf h0; exact o_none hf
  | succ n ih => intro mi i x1 r hf h0; exact r_X6_measure_29 (⟨fun q148 => k_ifp q148 hf (fun q150 => fun m25 hm25 => k_lt q150 hm25 (fun q151 => o_rMV q151 h0)), fun q149 => k_ifn q149 hf (fun q150 => fun m26 hm26 => k_lt q150 hm26 (fun q152 => fun m27 hm27 => k_lt q152 hm27 (fun q153 => ih q153 h0)))⟩)

def F_X6_measure (mi : MI) (w : WS) (i : Nat) : Option MI := lt (u3 mi 5 i 7 (((1 : Int32) <<< (((mi 5 i 0) * (mi 5 i 1)) &&& 31)) - 1)) fun m24 => L_X6_measure_29 w 1000000 (u3 (u3 m24 5 i 8 0) 5 i 9 0) i 0

theorem s_X6_measure {gl : Nat} {gx : Nat → Int32} {d : Nat} {P : PL} {Q : PO} {mi : MI} {w : WS} {lv : LV} {i : Nat} {r : MI} (hf : F_X6_measure mi w i = some r) (h0 : Q aU (r, RS w, lv)) : Wp gl gx d P 88 0 [aR 5 i, aU] [] (mi, RS w, lv) Q := r_X6_measure_0 (fun m24 hm24 => k_lt hf hm24 (fun q154 => l_X6_measure_29 1000000 q154 h0))

theorem r_X6_openSheets_2 {gl : Nat} {gx : Nat → Int32} {d : Nat} {P : PL} {Q : PO} {mi : MI} {w : WS} {lv : LV} {i : Nat} {x1 : Int32} (h : (((mi 5 i 3) ≤ x1) → Q aU (mi, RS w, lv)) ∧ (¬ ((mi 5 i 3) ≤ x1) → (vp_in x1 6) ∧ ((vp_in x1 6) ∧ ((∀ m28 : MI, m28 = u3 mi 28 i x1.toNatClampNeg (f_X6_opened mi i (mi 26 i x1.toNatClampNeg)) → Wp gl gx (d + 4) P 89 2 [aR 5 i, aI (x1 + 1)] [] (m28, RS w, lv) Q))))) : Wp gl gx (d + 4) P 89 2 [aR 5 i, aI x1] [] (mi, RS w, lv) Q := 
  wpT row_89 mt_89 [.iload_n 1, .aload_n 0, .getfield 21, .if_icmp .ge 25] (by decide +kernel) [(32, [.return_]), (10, [.aload_n 0, .getfield 31, .iload_n 1, .aload_n 0, .aload_n 0, .getfield 24, .iload_n 1, .iaload]), (22, [.invokevirtual 52]), (25, [.iastore]), (26, [.iinc 1 1, .goto (.negSucc 26)])] (by decide +kernel) 54 (And.intro (fun q155 => (h.1 q155)) (fun q156 => And.intro (h.2 q156).1 (And.intro ⟨Nat.le_of_ble_eq_true rfl, rfl, rfl⟩ (s_X6_opened (d := d) (And.intro (h.2 q156).2.1 (((h.2 q156).2.2 _ rfl)))))))

theorem r_X6_openSheets_0 {gl : Nat} {gx : Nat → Int32} {d : Nat} {P : PL} {Q : PO} {mi : MI} {w : WS} {lv : LV} {i : Nat} (h : Wp gl gx (d + 4) P 89 2 [aR 5 i, aI 0] [] (mi, RS w, lv) Q) : Wp gl gx (d + 4) P 89 0 [aR 5 i, aU] [] (mi, RS w, lv) Q := 
  wpT row_89 mt_89 [.iconst 0, .istore_n 1] (by decide +kernel) [] (by decide +kernel) 24 (h)

def L_X6_openSheets_2 (w : WS) : Nat → MI → Nat → Int32 → Option MI
  | 0, _, _, _ => none
  | n + 1, mi, i, x1 => if (mi 5 i 3) ≤ x1 then some mi else ck (¬ (x1 < 0 ∨ 6 ≤ x1.toNatClampNeg)) (ck (¬ (x1 < 0 ∨ 6 ≤ x1.toNatClampNeg)) (lt (u3 mi 28 i x1.toNatClampNeg (f_X6_opened mi i (mi 26 i x1.toNatClampNeg))) fun m28 => L_X6_openSheets_2 w n m28 i (x1 + 1)))

theorem l_X6_openSheets_2 {gl : Nat} {gx : Nat → Int32} {d : Nat} {P : PL} {Q : PO} {lv : LV} {w : WS} (n : Nat) : ∀ {mi : MI} {i : Nat} {x1 : Int32} {r : MI}, L_X6_openSheets_2 w n mi i x1 = some r → (Q aU (r, RS w, lv)) → Wp gl gx (d + 4) P 89 2 [aR 5 i, aI x1] [] (mi, RS w, lv) Q := by
  induction n with
  | zero => intro mi i x1 r hf h0; exact o_none hf
  | succ n ih => intro mi i x1 r hf h0; exact r_X6_openSheets_2 (⟨fun q157 => k_ifp q157 hf (fun q159 => o_rMV q159 h0), fun q158 => k_ifn q158 hf (fun q159 => k_ck q159 (fun q161 q160 => ⟨q161, k_ck q160 (fun q163 q162 => ⟨q163, fun m28 hm28 => k_lt q162 hm28 (fun q164 => ih q164 h0)⟩)⟩))⟩)

def F_X6_openSheets (mi : MI) (w : WS) (i : Nat) : Option MI := L_X6_openSheets_2 w 1000000 mi i 0

theorem s_X6_openSheets {gl : Nat} {gx : Nat → Int32} {d : Nat} {P : PL} {Q : PO} {mi : MI} {w : WS} {lv : LV} {i : Nat} {r : MI} (hf : F_X6_openSheets mi w i = some r) (h0 : Q aU (r, RS w, lv)) : Wp gl gx (d + 4) P 89 0 [aR 5 i, aU] [] (mi, RS w, lv) Q := r_X6_openSheets_0 (l_X6_openSheets_2 1000000 hf h0)

theorem r_X6_isOpen_0 {gl : Nat} {gx : Nat → Int32} {d : Nat} {P : PL} {Q : PO} {mi : MI} {w : WS} {lv : LV} {i : Nat} {x1 : Int32} {x2 : Int32} (h : (¬ (¬ (x1 < 0) ∧ (¬ ((mi 5 i 3) ≤ x1) ∧ (¬ (6 ≤ x1)))) → Q (aI 0) (mi, RS w, lv)) ∧ (¬ (x1 < 0) ∧ (¬ ((mi 5 i 3) ≤ x1) ∧ (¬ (6 ≤ x1))) → (vp_in x1 6) ∧ (Q (aI (b2 (¬ ((((mi 28 i x1.toNatClampNeg) >>> (x2 &&& 31)) &&& 1) = 0)))) (mi, RS w, lv)))) : Wp gl gx (d + 1) P 93 0 [aR 5 i, aI x1, aI x2] [] (mi, RS w, lv) Q := 
  wpT row_93 mt_93 [.aload_n 0, .iload_n 1, .invokevirtual 56] (by decide +kernel) [(5, [.ifCond .eq 20]), (25, [.iconst 0, .ireturn]), (8, [.aload_n 0, .getfield 31, .iload_n 1, .iaload]), (14, [.iload_n 2, .ishr, .iconst 1, .iand, .ifCond .eq 7]), (21, [.iconst 1, .goto 4]), (26, [.ireturn])] (by decide +kernel) 56 (And.intro ⟨Nat.le_of_ble_eq_true rfl, rfl, rfl⟩ (s_X6_hasSheet (d := d) (And.intro (fun q165 => And.intro rfl (h.1 (b2_0 q165))) (fun q166 => And.intro (h.2 (b2_n q166)).1 (And.intro (fun q167 => And.intro rfl (mv9 (fun v => Q (aI v) (mi, RS w, lv)) (show (b2 (¬ ((((mi 28 i x1.toNatClampNeg) >>> (x2 &&& 31)) &&& 1) = 0))) = 0 from b2n_t (show (((mi 28 i x1.toNatClampNeg) >>> (x2 &&& 31)) &&& 1) = 0 from q167)) ((h.2 (b2_n q166)).2))) (fun q168 => And.intro rfl (mv9 (fun v => Q (aI v) (mi, RS w, lv)) (show (b2 (¬ ((((mi 28 i x1.toNatClampNeg) >>> (x2 &&& 31)) &&& 1) = 0))) = 1 from b2n_f (show ¬ ((((mi 28 i x1.toNatClampNeg) >>> (x2 &&& 31)) &&& 1) = 0) from q168)) ((h.2 (b2_n q166)).2))))))))

def F_X6_isOpen (mi : MI) (w : WS) (i : Nat) (x1 : Int32) (x2 : Int32) : Option Int32 := if ¬ (x1 < 0) ∧ (¬ ((mi 5 i 3) ≤ x1) ∧ (¬ (6 ≤ x1))) then ck (¬ (x1 < 0 ∨ 6 ≤ x1.toNatClampNeg)) (some (b2 (¬ ((((mi 28 i x1.toNatClampNeg) >>> (x2 &&& 31)) &&& 1) = 0)))) else some (0 : Int32)

theorem s_X6_isOpen {gl : Nat} {gx : Nat → Int32} {d : Nat} {P : PL} {Q : PO} {mi : MI} {w : WS} {lv : LV} {i : Nat} {x1 : Int32} {x2 : Int32} {r : Int32} (hf : F_X6_isOpen mi w i x1 x2 = some r) (h0 : Q (aI r) (mi, RS w, lv)) : Wp gl gx (d + 1) P 93 0 [aR 5 i, aI x1, aI x2] [] (mi, RS w, lv) Q := r_X6_isOpen_0 (⟨fun q169 => k_ifn q169 hf (fun q171 => o_rP q171 h0), fun q170 => k_ifp q170 hf (fun q171 => k_ck q171 (fun q173 q172 => ⟨q173, o_rP q172 h0⟩))⟩)

theorem r_X6_union_29 {gl : Nat} {gx : Nat → Int32} {d : Nat} {P : PL} {Q : PO} {mi : MI} {w : WS} {lv : LV} {i : Nat} {x1 : Int32} {x2 : Int32} {x3 : Int32} (h : Wp gl gx d P 95 4 [aR 5 i, aI x1, aI x2, aI (x3 + 1)] [] (mi, RS w, lv) Q) : Wp gl gx d P 95 29 [aR 5 i, aI x1, aI x2, aI x3] [] (mi, RS w, lv) Q := 
  wpT row_95 mt_95 [.iinc 3 1, .goto (.negSucc 27)] (by decide +kernel) [] (by decide +kernel) 24 (h)

theorem r_X6_union_4 {gl : Nat} {gx : Nat → Int32} {d : Nat} {P : PL} {Q : PO} {mi : MI} {w : WS} {lv : LV} {i : Nat} {x1 : Int32} {x2 : Int32} {x3 : Int32} (h : (((mi 5 i 3) ≤ x3) → Q (aI x2) (mi, RS w, lv)) ∧ (¬ ((mi 5 i 3) ≤ x3) → ((((x1 >>> (x3 &&& 31)) &&& 1) = 0) → Wp gl gx d P 95 4 [aR 5 i, aI x1, aI x2, aI (x3 + 1)] [] (mi, RS w, lv) Q) ∧ (¬ (((x1 >>> (x3 &&& 31)) &&& 1) = 0) → (vp_in x3 6) ∧ (Wp gl gx d P 95 4 [aR 5 i, aI x1, aI (x2 ||| (mi 28 i x3.toNatClampNeg)), aI (x3 + 1)] [] (mi, RS w, lv) Q)))) : Wp gl gx d P 95 4 [aR 5 i, aI x1, aI x2, aI x3] [] (mi, RS w, lv) Q := 
  wpT row_95 mt_95 [.iload_n 3, .aload_n 0, .getfield 21, .if_icmp .ge 26] (by decide +kernel) [(35, [.iload_n 2, .ireturn]), (12, [.iload_n 1, .iload_n 3, .ishr, .iconst 1, .iand, .ifCond .eq 12]), (20, [.iload_n 2, .aload_n 0, .getfield 31, .iload_n 3, .iaload]), (27, [.ior, .istore_n 2])] (by decide +kernel) 58 (And.intro (fun q174 => (h.1 q174)) (fun q175 => And.intro (fun q176 => r_X6_union_29 (i := i) (x1 := x1) (x2 := x2) (x3 := x3) (mi := mi) ((h.2 q175).1 q176)) (fun q177 => And.intro ((h.2 q175).2 q177).1 (r_X6_union_29 (i := i) (x1 := x1) (x2 := (x2 ||| (mi 28 i x3.toNatClampNeg))) (x3 := x3) (mi := mi) (((h.2 q175).2 q177).2)))))

theorem r_X6_union_0 {gl : Nat} {gx : Nat → Int32} {d : Nat} {P : PL} {Q : PO} {mi : MI} {w : WS} {lv : LV} {i : Nat} {x1 : Int32} (h : Wp gl gx d P 95 4 [aR 5 i, aI x1, aI 0, aI 0] [] (mi, RS w, lv) Q) : Wp gl gx d P 95 0 [aR 5 i, aI x1, aU, aU] [] (mi, RS w, lv) Q := 
  wpT row_95 mt_95 [.iconst 0, .istore_n 2, .iconst 0, .istore_n 3] (by decide +kernel) [] (by decide +kernel) 28 (h)

def L_X6_union_4 (mi : MI) (w : WS) : Nat → Nat → Int32 → Int32 → Int32 → Option Int32
  | 0, _, _, _, _ => none
  | n + 1, i, x1, x2, x3 => if (mi 5 i 3) ≤ x3 then some x2 else if ((x1 >>> (x3 &&& 31)) &&& 1) = 0 then L_X6_union_4 mi w n i x1 x2 (x3 + 1) else ck (¬ (x3 < 0 ∨ 6 ≤ x3.toNatClampNeg)) (L_X6_union_4 mi w n i x1 (x2 ||| (mi 28 i x3.toNatClampNeg)) (x3 + 1))

theorem l_X6_union_4 {gl : Nat} {gx : Nat → Int32} {d : Nat} {P : PL} {Q : PO} {lv : LV} {mi : MI} {w : WS} (n : Nat) : ∀ {i : Nat} {x1 : Int32} {x2 : Int32} {x3 : Int32} {r : Int32}, L_X6_union_4 mi w n i x1 x2 x3 = some r → (Q (aI r) (mi, RS w, lv)) → Wp gl gx d P 95 4 [aR 5 i, aI x1, aI x2, aI x3] [] (mi, RS w, lv) Q := by
  induction n with
  | zero => intro i x1 x2 x3 r hf h0; exact o_none hf
  | succ n ih => intro i x1 x2 x3 r hf h0; exact r_X6_union_4 (⟨fun q178 => k_ifp q178 hf (fun q180 => o_rP q180 h0), fun q179 => k_ifn q179 hf (fun q180 => ⟨fun q181 => k_ifp q181 q180 (fun q183 => ih q183 h0), fun q182 => k_ifn q182 q180 (fun q183 => k_ck q183 (fun q185 q184 => ⟨q185, ih q184 h0⟩))⟩)⟩)

def F_X6_union (mi : MI) (w : WS) (i : Nat) (x1 : Int32) : Option Int32 := L_X6_union_4 mi w 1000000 i x1 0 0

theorem s_X6_union {gl : Nat} {gx : Nat → Int32} {d : Nat} {P : PL} {Q : PO} {mi : MI} {w : WS} {lv : LV} {i : Nat} {x1 : Int32} {r : Int32} (hf : F_X6_union mi w i x1 = some r) (h0 : Q (aI r) (mi, RS w, lv)) : Wp gl gx d P 95 0 [aR 5 i, aI x1, aU, aU] [] (mi, RS w, lv) Q := r_X6_union_0 (l_X6_union_4 1000000 hf h0)

theorem r_X6_slid_40 {gl : Nat} {gx : Nat → Int32} {d : Nat} {P : PL} {Q : PO} {mi : MI} {w : WS} {lv : LV} {i : Nat} {x1 : Int32} {x2 : Int32} {x3 : Int32} {x4 : Int32} {x5 : Int32} (h : ((x3 ≤ x5) → Q (aI x4) (mi, RS w, lv)) ∧ (¬ (x3 ≤ x5) → ((5 ≤ x5) → Q (aI x4) (mi, RS w, lv)) ∧ (¬ (5 ≤ x5) → Wp gl gx d P 101 40 [aR 5 i, aI x1, aI x2, aI x3, aI ((x4 <<< ((mi 5 i 0) &&& 31)) &&& (mi 5 i 7)), aI (x5 + 1)] [] (mi, RS w, lv) Q))) : Wp gl gx d P 101 40 [aR 5 i, aI x1, aI x2, aI x3, aI x4, aI x5] [] (mi, RS w, lv) Q := 
  wpT row_101 mt_101 [.iload 5, .iload_n 3, .if_icmp .ge 29] (by decide +kernel) [(72, [.iload 4, .ireturn]), (46, [.iload 5, .iconst 5, .if_icmp .ge 23]), (52, [.iload 4, .aload_n 0, .getfield 9, .ishl, .aload_n 0, .getfield 34, .iand, .istore 4, .iinc 5 1, .goto (.negSucc 28)])] (by decide +kernel) 56 (And.intro (fun q186 => (h.1 q186)) (fun q187 => And.intro (fun q188 => ((h.2 q187).1 q188)) (fun q189 => ((h.2 q187).2 q189))))

theorem r_X6_slid_37 {gl : Nat} {gx : Nat → Int32} {d : Nat} {P : PL} {Q : PO} {mi : MI} {w : WS} {lv : LV} {i : Nat} {x1 : Int32} {x2 : Int32} {x3 : Int32} {x4 : Int32} {x5 : Int32} (h : Wp gl gx d P 101 40 [aR 5 i, aI x1, aI x2, aI x3, aI x4, aI 0] [] (mi, RS w, lv) Q) : Wp gl gx d P 101 37 [aR 5 i, aI x1, aI x2, aI x3, aI x4, aI x5] [] (mi, RS w, lv) Q := 
  wpT row_101 mt_101 [.iconst 0, .istore 5] (by decide +kernel) [] (by decide +kernel) 24 (h)

theorem r_X6_slid_6 {gl : Nat} {gx : Nat → Int32} {d : Nat} {P : PL} {Q : PO} {mi : MI} {w : WS} {lv : LV} {i : Nat} {x1 : Int32} {x2 : Int32} {x3 : Int32} {x4 : Int32} {x5 : Int32} (h : ((x2 ≤ x5) → Wp gl gx d P 101 40 [aR 5 i, aI x1, aI x2, aI x3, aI x4, aI 0] [] (mi, RS w, lv) Q) ∧ (¬ (x2 ≤ x5) → ((5 ≤ x5) → Wp gl gx d P 101 40 [aR 5 i, aI x1, aI x2, aI x3, aI x4, aI 0] [] (mi, RS w, lv) Q) ∧ (¬ (5 ≤ x5) → Wp gl gx d P 101 6 [aR 5 i, aI x1, aI x2, aI x3, aI ((x4 &&& ((mi 5 i 9) ^^^ (-1))) <<< (1 &&& 31)), aI (x5 + 1)] [] (mi, RS w, lv) Q))) : Wp gl gx d P 101 6 [aR 5 i, aI x1, aI x2, aI x3, aI x4, aI x5] [] (mi, RS w, lv) Q := 
  wpT row_101 mt_101 [.iload 5, .iload_n 2, .if_icmp .ge 28] (by decide +kernel) [(12, [.iload 5, .iconst 5, .if_icmp .ge 22]), (18, [.iload 4, .aload_n 0, .getfield 40, .iconst (.negSucc 0), .ixor, .iand, .iconst 1, .ishl, .istore 4, .iinc 5 1, .goto (.negSucc 27)])] (by decide +kernel) 54 (And.intro (fun q190 => r_X6_slid_37 (i := i) (x1 := x1) (x2 := x2) (x3 := x3) (x4 := x4) (x5 := x5) (mi := mi) (h.1 q190)) (fun q191 => And.intro (fun q192 => r_X6_slid_37 (i := i) (x1 := x1) (x2 := x2) (x3 := x3) (x4 := x4) (x5 := x5) (mi := mi) ((h.2 q191).1 q192)) (fun q193 => ((h.2 q191).2 q193))))

theorem r_X6_slid_0 {gl : Nat} {gx : Nat → Int32} {d : Nat} {P : PL} {Q : PO} {mi : MI} {w : WS} {lv : LV} {i : Nat} {x1 : Int32} {x2 : Int32} {x3 : Int32} (h : Wp gl gx d P 101 6 [aR 5 i, aI x1, aI x2, aI x3, aI x1, aI 0] [] (mi, RS w, lv) Q) : Wp gl gx d P 101 0 [aR 5 i, aI x1, aI x2, aI x3, aU, aU] [] (mi, RS w, lv) Q := 
  wpT row_101 mt_101 [.iload_n 1, .istore 4, .iconst 0, .istore 5] (by decide +kernel) [] (by decide +kernel) 28 (h)

def L_X6_slid_40 (mi : MI) (w : WS) : Nat → Nat → Int32 → Int32 → Int32 → Int32 → Int32 → Option Int32
  | 0, _, _, _, _, _, _ => none
  | n + 1, i, x1, x2, x3, x4, x5 => if x3 ≤ x5 then some x4 else if 5 ≤ x5 then some x4 else L_X6_slid_40 mi w n i x1 x2 x3 ((x4 <<< ((mi 5 i 0) &&& 31)) &&& (mi 5 i 7)) (x5 + 1)

theorem l_X6_slid_40 {gl : Nat} {gx : Nat → Int32} {d : Nat} {P : PL} {Q : PO} {lv : LV} {mi : MI} {w : WS} (n : Nat) : ∀ {i : Nat} {x1 : Int32} {x2 : Int32} {x3 : Int32} {x4 : Int32} {x5 : Int32} {r : Int32}, L_X6_slid_40 mi w n i x1 x2 x3 x4 x5 = some r → (Q (aI r) (mi, RS w, lv)) → Wp gl gx d P 101 40 [aR 5 i, aI x1, aI x2, aI x3, aI x4, aI x5] [] (mi, RS w, lv) Q := by
  induction n with
  | zero => intro i x1 x2 x3 x4 x5 r hf h0; exact o_none hf
  | succ n ih => intro i x1 x2 x3 x4 x5 r hf h0; exact r_X6_slid_40 (⟨fun q194 => k_ifp q194 hf (fun q196 => o_rP q196 h0), fun q195 => k_ifn q195 hf (fun q196 => ⟨fun q197 => k_ifp q197 q196 (fun q199 => o_rP q199 h0), fun q198 => k_ifn q198 q196 (fun q199 => ih q199 h0)⟩)⟩)

def L_X6_slid_6 (mi : MI) (w : WS) : Nat → Nat → Int32 → Int32 → Int32 → Int32 → Int32 → Option Int32
  | 0, _, _, _, _, _, _ => none
  | n + 1, i, x1, x2, x3, x4, x5 => if x2 ≤ x5 then L_X6_slid_40 mi w 1000000 i x1 x2 x3 x4 0 else if 5 ≤ x5 then L_X6_slid_40 mi w 1000000 i x1 x2 x3 x4 0 else L_X6_slid_6 mi w n i x1 x2 x3 ((x4 &&& ((mi 5 i 9) ^^^ (-1))) <<< (1 &&& 31)) (x5 + 1)

theorem l_X6_slid_6 {gl : Nat} {gx : Nat → Int32} {d : Nat} {P : PL} {Q : PO} {lv : LV} {mi : MI} {w : WS} (n : Nat) : ∀ {i : Nat} {x1 : Int32} {x2 : Int32} {x3 : Int32} {x4 : Int32} {x5 : Int32} {r : Int32}, L_X6_slid_6 mi w n i x1 x2 x3 x4 x5 = some r → (Q (aI r) (mi, RS w, lv)) → Wp gl gx d P 101 6 [aR 5 i, aI x1, aI x2, aI x3, aI x4, aI x5] [] (mi, RS w, lv) Q := by
  induction n with
  | zero => intro i x1 x2 x3 x4 x5 r hf h0; exact o_none hf
  | succ n ih => intro i x1 x2 x3 x4 x5 r hf h0; exact r_X6_slid_6 (⟨fun q200 => k_ifp q200 hf (fun q202 => l_X6_slid_40 1000000 q202 h0), fun q201 => k_ifn q201 hf (fun q202 => ⟨fun q203 => k_ifp q203 q202 (fun q205 => l_X6_slid_40 1000000 q205 h0), fun q204 => k_ifn q204 q202 (fun q205 => ih q205 h0)⟩)⟩)

def F_X6_slid (mi : MI) (w : WS) (i : Nat) (x1 : Int32) (x2 : Int32) (x3 : Int32) : Option Int32 := L_X6_slid_6 mi w 1000000 i x1 x2 x3 x1 0

theorem s_X6_slid {gl : Nat} {gx : Nat → Int32} {d : Nat} {P : PL} {Q : PO} {mi : MI} {w : WS} {lv : LV} {i : Nat} {x1 : Int32} {x2 : Int32} {x3 : Int32} {r : Int32} (hf : F_X6_slid mi w i x1 x2 x3 = some r) (h0 : Q (aI r) (mi, RS w, lv)) : Wp gl gx d P 101 0 [aR 5 i, aI x1, aI x2, aI x3, aU, aU] [] (mi, RS w, lv) Q := r_X6_slid_0 (l_X6_slid_6 1000000 hf h0)

theorem r_X6_flipped_15 {gl : Nat} {gx : Nat → Int32} {d : Nat} {P : PL} {Q : PO} {mi : MI} {w : WS} {lv : LV} {i : Nat} {x1 : Int32} {x2 : Int32} {x3 : Int32} {x4 : Int32} {v5 : AV} (h : (((mi 5 i 0) ≤ x4) → Wp gl gx d P 102 4 [aR 5 i, aI x1, aI x2, aI (x3 + 1), aI x4, v5] [] (mi, RS w, lv) Q) ∧ (¬ ((mi 5 i 0) ≤ x4) → Wp gl gx d P 102 15 [aR 5 i, aI x1, aI (x2 ||| (((x1 >>> (((x3 * (mi 5 i 0)) + x4) &&& 31)) &&& 1) <<< (((((x3 * (mi 5 i 0)) + (mi 5 i 0)) - 1) - x4) &&& 31))), aI x3, aI (x4 + 1), aI ((x1 >>> (((x3 * (mi 5 i 0)) + x4) &&& 31)) &&& 1)] [] (mi, RS w, lv) Q)) : Wp gl gx d P 102 15 [aR 5 i, aI x1, aI x2, aI x3, aI x4, v5] [] (mi, RS w, lv) Q := 
  wpT row_102 mt_102 [.iload 4, .aload_n 0, .getfield 9, .if_icmp .ge 46] (by decide +kernel) [(67, [.iinc 3 1, .goto (.negSucc 65)]), (24, [.iload_n 1, .iload_n 3, .aload_n 0, .getfield 9, .imul, .iload 4, .iadd, .ishr, .iconst 1, .iand, .istore 5, .iload_n 2, .iload 5, .iload_n 3, .aload_n 0, .getfield 9, .imul, .aload_n 0, .getfield 9, .iadd, .iconst 1, .isub, .iload 4, .isub, .ishl, .ior, .istore_n 2, .iinc 4 1, .goto (.negSucc 48)])] (by decide +kernel) 90 (And.intro (fun q206 => (h.1 q206)) (fun q207 => (h.2 q207)))

theorem r_X6_flipped_4 {gl : Nat} {gx : Nat → Int32} {d : Nat} {P : PL} {Q : PO} {mi : MI} {w : WS} {lv : LV} {i : Nat} {x1 : Int32} {x2 : Int32} {x3 : Int32} {v4 : AV} {v5 : AV} (h : (((mi 5 i 1) ≤ x3) → Q (aI x2) (mi, RS w, lv)) ∧ (¬ ((mi 5 i 1) ≤ x3) → Wp gl gx d P 102 15 [aR 5 i, aI x1, aI x2, aI x3, aI 0, v5] [] (mi, RS w, lv) Q)) : Wp gl gx d P 102 4 [aR 5 i, aI x1, aI x2, aI x3, v4, v5] [] (mi, RS w, lv) Q := 
  wpT row_102 mt_102 [.iload_n 3, .aload_n 0, .getfield 15, .if_icmp .ge 64] (by decide +kernel) [(73, [.iload_n 2, .ireturn]), (12, [.iconst 0, .istore 4])] (by decide +kernel) 36 (And.intro (fun q208 => (h.1 q208)) (fun q209 => (h.2 q209)))

theorem r_X6_flipped_0 {gl : Nat} {gx : Nat → Int32} {d : Nat} {P : PL} {Q : PO} {mi : MI} {w : WS} {lv : LV} {i : Nat} {x1 : Int32} (h : Wp gl gx d P 102 4 [aR 5 i, aI x1, aI 0, aI 0, aU, aU] [] (mi, RS w, lv) Q) : Wp gl gx d P 102 0 [aR 5 i, aI x1, aU, aU, aU, aU] [] (mi, RS w, lv) Q := 
  wpT row_102 mt_102 [.iconst 0, .istore_n 2, .iconst 0, .istore_n 3] (by decide +kernel) [] (by decide +kernel) 28 (h)

def L_X6_flipped_15 (mi : MI) (w : WS) (k4 : Nat → Int32 → Int32 → Int32 → Option Int32) : Nat → Nat → Int32 → Int32 → Int32 → Int32 → Option Int32
  | 0, _, _, _, _, _ => none
  | n + 1, i, x1, x2, x3, x4 => if (mi 5 i 0) ≤ x4 then k4 i x1 x2 (x3 + 1) else L_X6_flipped_15 mi w k4 n i x1 (x2 ||| (((x1 >>> (((x3 * (mi 5 i 0)) + x4) &&& 31)) &&& 1) <<< (((((x3 * (mi 5 i 0)) + (mi 5 i 0)) - 1) - x4) &&& 31))) x3 (x4 + 1)

theorem l_X6_flipped_15 {gl : Nat} {gx : Nat → Int32} {d : Nat} {P : PL} {Q : PO} {lv : LV} {mi : MI} {w : WS} {k4 : Nat → Int32 → Int32 → Int32 → Option Int32} (hk4 : ∀ {i : Nat} {x1 : Int32} {x2 : Int32} {x3 : Int32} {v4 : AV} {v5 : AV} {r : Int32}, k4 i x1 x2 x3 = some r → (Q (aI r) (mi, RS w, lv)) → Wp gl gx d P 102 4 [aR 5 i, aI x1, aI x2, aI x3, v4, v5] [] (mi, RS w, lv) Q) (n : Nat) : ∀ {i : Nat} {x1 : Int32} {x2 : Int32} {x3 : Int32} {x4 : Int32} {v5 : AV} {r : Int32}, L_X6_flipped_15 mi w k4 n i x1 x2 x3 x4 = some r → (Q (aI r) (mi, RS w, lv)) → Wp gl gx d P 102 15 [aR 5 i, aI x1, aI x2, aI x3, aI x4, v5] [] (mi, RS w, lv) Q := by
  induction n with
  | zero => intro i x1 x2 x3 x4 v5 r hf h0; exact o_none hf
  | succ n ih => intro i x1 x2 x3 x4 v5 r hf h0; exact r_X6_flipped_15 (⟨fun q210 => k_ifp q210 hf (fun q212 => hk4 q212 h0), fun q211 => k_ifn q211 hf (fun q212 => ih q212 h0)⟩)

def L_X6_flipped_4 (mi : MI) (w : WS) : Nat → Nat → Int32 → Int32 → Int32 → Option Int32
  | 0, _, _, _, _ => none
  | n + 1, i, x1, x2, x3 => if (mi 5 i 1) ≤ x3 then some x2 else L_X6_flipped_15 mi w (fun i x1 x2 x3 => L_X6_flipped_4 mi w n i x1 x2 x3) 1000000 i x1 x2 x3 0

theorem l_X6_flipped_4 {gl : Nat} {gx : Nat → Int32} {d : Nat} {P : PL} {Q : PO} {lv : LV} {mi : MI} {w : WS} (n : Nat) : ∀ {i : Nat} {x1 : Int32} {x2 : Int32} {x3 : Int32} {v4 : AV} {v5 : AV} {r : Int32}, L_X6_flipped_4 mi w n i x1 x2 x3 = some r → (Q (aI r) (mi, RS w, lv)) → Wp gl gx d P 102 4 [aR 5 i, aI x1, aI x2, aI x3, v4, v5] [] (mi, RS w, lv) Q := by
  induction n with
  | zero => intro i x1 x2 x3 v4 v5 r hf h0; exact o_none hf
  | succ n ih => intro i x1 x2 x3 v4 v5 r hf h0; exact r_X6_flipped_4 (⟨fun q213 => k_ifp q213 hf (fun q215 => o_rP q215 h0), fun q214 => k_ifn q214 hf (fun q215 => l_X6_flipped_15 (fun hf h0 => ih hf h0) 1000000 q215 h0)⟩)

def F_X6_flipped (mi : MI) (w : WS) (i : Nat) (x1 : Int32) : Option Int32 := L_X6_flipped_4 mi w 1000000 i x1 0 0

theorem s_X6_flipped {gl : Nat} {gx : Nat → Int32} {d : Nat} {P : PL} {Q : PO} {mi : MI} {w : WS} {lv : LV} {i : Nat} {x1 : Int32} {r : Int32} (hf : F_X6_flipped mi w i x1 = some r) (h0 : Q (aI r) (mi, RS w, lv)) : Wp gl gx d P 102 0 [aR 5 i, aI x1, aU, aU, aU, aU] [] (mi, RS w, lv) Q := r_X6_flipped_0 (l_X6_flipped_4 1000000 hf h0)

theorem r_X6_turned_17 {gl : Nat} {gx : Nat → Int32} {d : Nat} {P : PL} {Q : PO} {mi : MI} {w : WS} {lv : LV} {i : Nat} {x1 : Int32} {x2 : Int32} {x3 : Int32} {x4 : Int32} (h : ((x2 < x4) → Q (aI x3) (mi, RS w, lv)) ∧ (¬ (x2 < x4) → Wp gl gx d P 103 17 [aR 5 i, aI x1, aI x2, aI (x3 ||| (((x1 >>> (x4 &&& 31)) &&& 1) <<< ((x2 - x4) &&& 31))), aI (x4 + 1)] [] (mi, RS w, lv) Q)) : Wp gl gx d P 103 17 [aR 5 i, aI x1, aI x2, aI x3, aI x4] [] (mi, RS w, lv) Q := 
  wpT row_103 mt_103 [.iload 4, .iload_n 2, .if_icmp .gt 23] (by decide +kernel) [(43, [.iload_n 3, .ireturn]), (23, [.iload_n 3, .iload_n 1, .iload 4, .ishr, .iconst 1, .iand, .iload_n 2, .iload 4, .isub, .ishl, .ior, .istore_n 3, .iinc 4 1, .goto (.negSucc 22)])] (by decide +kernel) 58 (And.intro (fun q216 => (h.1 q216)) (fun q217 => (h.2 q217)))

theorem r_X6_turned_0 {gl : Nat} {gx : Nat → Int32} {d : Nat} {P : PL} {Q : PO} {mi : MI} {w : WS} {lv : LV} {i : Nat} {x1 : Int32} (h : Wp gl gx d P 103 17 [aR 5 i, aI x1, aI (((mi 5 i 0) * (mi 5 i 1)) - 1), aI 0, aI 0] [] (mi, RS w, lv) Q) : Wp gl gx d P 103 0 [aR 5 i, aI x1, aU, aU, aU] [] (mi, RS w, lv) Q := 
  wpT row_103 mt_103 [.aload_n 0, .getfield 9, .aload_n 0, .getfield 15, .imul, .iconst 1, .isub, .istore_n 2, .iconst 0, .istore_n 3, .iconst 0, .istore 4] (by decide +kernel) [] (by decide +kernel) 44 (h)

def L_X6_turned_17 (mi : MI) (w : WS) : Nat → Nat → Int32 → Int32 → Int32 → Int32 → Option Int32
  | 0, _, _, _, _, _ => none
  | n + 1, i, x1, x2, x3, x4 => if x2 < x4 then some x3 else L_X6_turned_17 mi w n i x1 x2 (x3 ||| (((x1 >>> (x4 &&& 31)) &&& 1) <<< ((x2 - x4) &&& 31))) (x4 + 1)

theorem l_X6_turned_17 {gl : Nat} {gx : Nat → Int32} {d : Nat} {P : PL} {Q : PO} {lv : LV} {mi : MI} {w : WS} (n : Nat) : ∀ {i : Nat} {x1 : Int32} {x2 : Int32} {x3 : Int32} {x4 : Int32} {r : Int32}, L_X6_turned_17 mi w n i x1 x2 x3 x4 = some r → (Q (aI r) (mi, RS w, lv)) → Wp gl gx d P 103 17 [aR 5 i, aI x1, aI x2, aI x3, aI x4] [] (mi, RS w, lv) Q := by
  induction n with
  | zero => intro i x1 x2 x3 x4 r hf h0; exact o_none hf
  | succ n ih => intro i x1 x2 x3 x4 r hf h0; exact r_X6_turned_17 (⟨fun q218 => k_ifp q218 hf (fun q220 => o_rP q220 h0), fun q219 => k_ifn q219 hf (fun q220 => ih q220 h0)⟩)

def F_X6_turned (mi : MI) (w : WS) (i : Nat) (x1 : Int32) : Option Int32 := L_X6_turned_17 mi w 1000000 i x1 (((mi 5 i 0) * (mi 5 i 1)) - 1) 0 0

theorem s_X6_turned {gl : Nat} {gx : Nat → Int32} {d : Nat} {P : PL} {Q : PO} {mi : MI} {w : WS} {lv : LV} {i : Nat} {x1 : Int32} {r : Int32} (hf : F_X6_turned mi w i x1 = some r) (h0 : Q (aI r) (mi, RS w, lv)) : Wp gl gx d P 103 0 [aR 5 i, aI x1, aU, aU, aU] [] (mi, RS w, lv) Q := r_X6_turned_0 (l_X6_turned_17 1000000 hf h0)

theorem r_X6_tellSheet_0 {gl : Nat} {gx : Nat → Int32} {d : Nat} {P : PL} {Q : PO} {mi : MI} {w : WS} {lv : LV} {i : Nat} {x1 : Int32} (h : ((x1 < 10) → Q (aI (-1)) (mi, RS w, lv)) ∧ (¬ (x1 < 10) → ((50 ≤ x1) → Q (aI (-1)) (mi, RS w, lv)) ∧ (¬ (50 ≤ x1) → (¬ ((irem x1 10) < 0) ∧ (¬ ((mi 5 i 3) ≤ (irem x1 10)) ∧ (¬ (6 ≤ (irem x1 10)))) → (x1 / 10 < 1 ∨ 3 < x1 / 10 → (vp_in (irem x1 10) 6) ∧ (Q (aI (mi 27 i ((irem x1 10).toNatClampNeg))) (mi, RS w, lv))) ∧ (x1 / 10 = 1 → (vp_in (irem x1 10) 6) ∧ (Q (aI (mi 26 i ((irem x1 10).toNatClampNeg))) (mi, RS w, lv))) ∧ (x1 / 10 = 2 → (vp_in (irem x1 10) 6) ∧ (Q (aI (f_X6_falling mi i (mi 26 i ((irem x1 10).toNatClampNeg)))) (mi, RS w, lv))) ∧ (x1 / 10 = 3 → (vp_in (irem x1 10) 6) ∧ (Q (aI (mi 28 i ((irem x1 10).toNatClampNeg))) (mi, RS w, lv)))) ∧ (¬ (¬ ((irem x1 10) < 0) ∧ (¬ ((mi 5 i 3) ≤ (irem x1 10)) ∧ (¬ (6 ≤ (irem x1 10))))) → Q (aI (-1)) (mi, RS w, lv))))) : Wp gl gx (d + 5) P 104 0 [aR 5 i, aI x1, aU] [] (mi, RS w, lv) Q := 
  wpT row_104 mt_104 [.iload_n 1, .bipush 10, .irem] (by decide +kernel) [(4, [.istore_n 2, .iload_n 1, .bipush 10, .if_icmp .lt 17]), (25, [.iconst (.negSucc 0), .ireturn]), (11, [.iload_n 1, .bipush 50, .if_icmp .ge 11]), (17, [.aload_n 0, .iload_n 2, .invokevirtual 56]), (22, [.ifCond .ne 5]), (27, [.iload_n 1, .bipush 10, .idiv]), (31, [.tableswitch 50 1 3 #[25, 32, 43]]), (81, [.aload_n 0, .getfield 28, .iload_n 2, .iaload]), (87, [.ireturn]), (56, [.aload_n 0, .getfield 24, .iload_n 2, .iaload]), (62, [.ireturn]), (63, [.aload_n 0, .aload_n 0, .getfield 24, .iload_n 2, .iaload]), (70, [.invokevirtual 67]), (73, [.ireturn]), (74, [.aload_n 0, .getfield 31, .iload_n 2, .iaload]), (80, [.ireturn])] (by decide +kernel) 104 (And.intro (by decide) (And.intro (fun q221 => (h.1 q221)) (fun q222 => And.intro (fun q223 => ((h.2 q222).1 q223)) (fun q224 => And.intro ⟨Nat.le_of_ble_eq_true rfl, rfl, rfl⟩ (s_X6_hasSheet (d := d + 4) (And.intro (fun q225 => And.intro (by decide) (And.intro (fun q230 => And.intro ((((h.2 q222).2 q224).1 (b2_n q225)).1 q230).1 (((((h.2 q222).2 q224).1 (b2_n q225)).1 q230).2)) (And.intro (fun q229 => And.intro ((((h.2 q222).2 q224).1 (b2_n q225)).2.1 q229).1 (((((h.2 q222).2 q224).1 (b2_n q225)).2.1 q229).2)) (And.intro (fun q228 => And.intro ((((h.2 q222).2 q224).1 (b2_n q225)).2.2.1 q228).1 (And.intro ⟨Nat.le_of_ble_eq_true rfl, rfl, rfl⟩ (s_X6_falling (d := d) (((((h.2 q222).2 q224).1 (b2_n q225)).2.2.1 q228).2)))) (And.intro (fun q227 => And.intro ((((h.2 q222).2 q224).1 (b2_n q225)).2.2.2 q227).1 (((((h.2 q222).2 q224).1 (b2_n q225)).2.2.2 q227).2)) (trivial)))))) (fun q226 => (((h.2 q222).2 q224).2 (b2_0 q226)))))))))

def F_X6_tellSheet (mi : MI) (w : WS) (i : Nat) (x1 : Int32) : Option Int32 := if x1 < 10 then some (-1 : Int32) else if 50 ≤ x1 then some (-1 : Int32) else if ¬ ((irem x1 10) < 0) ∧ (¬ ((mi 5 i 3) ≤ (irem x1 10)) ∧ (¬ (6 ≤ (irem x1 10)))) then if x1 / 10 = 1 then ck (¬ ((irem x1 10) < 0 ∨ 6 ≤ (irem x1 10).toNatClampNeg)) (some (mi 26 i ((irem x1 10).toNatClampNeg))) else if x1 / 10 = 2 then ck (¬ ((irem x1 10) < 0 ∨ 6 ≤ (irem x1 10).toNatClampNeg)) (some (f_X6_falling mi i (mi 26 i ((irem x1 10).toNatClampNeg)))) else if x1 / 10 = 3 then ck (¬ ((irem x1 10) < 0 ∨ 6 ≤ (irem x1 10).toNatClampNeg)) (some (mi 28 i ((irem x1 10).toNatClampNeg))) else ck (¬ ((irem x1 10) < 0 ∨ 6 ≤ (irem x1 10).toNatClampNeg)) (some (mi 27 i ((irem x1 10).toNatClampNeg))) else some (-1 : Int32)

theorem s_X6_tellSheet {gl : Nat} {gx : Nat → Int32} {d : Nat} {P : PL} {Q : PO} {mi : MI} {w : WS} {lv : LV} {i : Nat} {x1 : Int32} {r : Int32} (hf : F_X6_tellSheet mi w i x1 = some r) (h0 : Q (aI r) (mi, RS w, lv)) : Wp gl gx (d + 5) P 104 0 [aR 5 i, aI x1, aU] [] (mi, RS w, lv) Q := r_X6_tellSheet_0 (⟨fun q231 => k_ifp q231 hf (fun q233 => o_rP q233 h0), fun q232 => k_ifn q232 hf (fun q233 => ⟨fun q234 => k_ifp q234 q233 (fun q236 => o_rP q236 h0), fun q235 => k_ifn q235 q233 (fun q236 => ⟨fun q237 => k_ifp q237 q236 (fun q239 => ⟨(fun q240 => k_ifn (sw_o q240 (by decide) (by decide)) q239 (fun q241 => k_ifn (sw_o q240 (by decide) (by decide)) q241 (fun q242 => k_ifn (sw_o q240 (by decide) (by decide)) q242 (fun q243 => k_ck q243 (fun q245 q244 => ⟨q245, o_rP q244 h0⟩))))), (fun q246 => k_ifp q246 q239 (fun q247 => k_ck q247 (fun q249 q248 => ⟨q249, o_rP q248 h0⟩))), (fun q250 => k_ifn (sw_n q250 (by decide)) q239 (fun q251 => k_ifp q250 q251 (fun q252 => k_ck q252 (fun q254 q253 => ⟨q254, o_rP q253 h0⟩)))), (fun q255 => k_ifn (sw_n q255 (by decide)) q239 (fun q256 => k_ifn (sw_n q255 (by decide)) q256 (fun q257 => k_ifp q255 q257 (fun q258 => k_ck q258 (fun q260 q259 => ⟨q260, o_rP q259 h0⟩)))))⟩), fun q238 => k_ifn q238 q236 (fun q239 => o_rP q239 h0)⟩)⟩)⟩)

