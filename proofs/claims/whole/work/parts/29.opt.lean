/-! METHODS AS FUNCTIONS (7): rows by kind -/
abbrev row_181 : MT := (⟨"StencilHouseModel", "copyRow", "([IIII)V"⟩, prog_13_method_8_code, 5, none, 0, lk_11)
set_option maxRecDepth 20000 in
theorem mt_181 : mt 181 = some row_181 := rfl
theorem r_X11_copyRow_a51_3 {gl : Nat} {gx : Nat → Int32} {d : Nat} {P : PL} {Q : PO} {mi : MI} {w : WS} {lv : LV} {x1 : Int32} {x2 : Int32} {x3 : Int32} {x4 : Int32} (h : ((x1 ≤ x4) → Q aU (mi, RS w, lv)) ∧ (¬ (x1 ≤ x4) → (vp_in ((x1 * x2) + x4) 4) ∧ ((vp_in ((x1 * x3) + x4) 4) ∧ ((∀ m1 : MI, m1 = u3 mi 51 0 (((x1 * x3) + x4).toNatClampNeg) (mi 51 0 (((x1 * x2) + x4).toNatClampNeg)) → Wp gl gx d P 181 3 [aR 51 0, aI x1, aI x2, aI x3, aI (x4 + 1)] [] (m1, RS w, lv) Q))))) : Wp gl gx d P 181 3 [aR 51 0, aI x1, aI x2, aI x3, aI x4] [] (mi, RS w, lv) Q := 
  wpT row_181 mt_181 [.iload 4, .iload_n 1, .if_icmp .ge 25] (by decide +kernel) [(31, [.return_]), (9, [.aload_n 0, .iload_n 1, .iload_n 3, .imul, .iload 4, .iadd, .aload_n 0, .iload_n 1, .iload_n 2, .imul, .iload 4, .iadd, .iaload]), (24, [.iastore]), (25, [.iinc 4 1, .goto (.negSucc 24)])] (by decide +kernel) 60 (And.intro (fun q1 => (h.1 q1)) (fun q2 => And.intro (h.2 q2).1 (And.intro (h.2 q2).2.1 (((h.2 q2).2.2 _ rfl)))))

theorem r_X11_copyRow_a51_0 {gl : Nat} {gx : Nat → Int32} {d : Nat} {P : PL} {Q : PO} {mi : MI} {w : WS} {lv : LV} {x1 : Int32} {x2 : Int32} {x3 : Int32} (h : Wp gl gx d P 181 3 [aR 51 0, aI x1, aI x2, aI x3, aI 0] [] (mi, RS w, lv) Q) : Wp gl gx d P 181 0 [aR 51 0, aI x1, aI x2, aI x3, aU] [] (mi, RS w, lv) Q := 
  wpT row_181 mt_181 [.iconst 0, .istore 4] (by decide +kernel) [] (by decide +kernel) 24 (h)

def L_X11_copyRow_a51_3 (w : WS) : Nat → MI → Int32 → Int32 → Int32 → Int32 → Option MI
  | 0, _, _, _, _, _ => none
  | n + 1, mi, x1, x2, x3, x4 => if x1 ≤ x4 then some mi else ck (¬ (((x1 * x2) + x4) < 0 ∨ 4 ≤ ((x1 * x2) + x4).toNatClampNeg)) (ck (¬ (((x1 * x3) + x4) < 0 ∨ 4 ≤ ((x1 * x3) + x4).toNatClampNeg)) (lt (u3 mi 51 0 (((x1 * x3) + x4).toNatClampNeg) (mi 51 0 (((x1 * x2) + x4).toNatClampNeg))) fun m1 => L_X11_copyRow_a51_3 w n m1 x1 x2 x3 (x4 + 1)))

theorem l_X11_copyRow_a51_3 {gl : Nat} {gx : Nat → Int32} {d : Nat} {P : PL} {Q : PO} {lv : LV} {w : WS} (n : Nat) : ∀ {mi : MI} {x1 : Int32} {x2 : Int32} {x3 : Int32} {x4 : Int32} {r : MI}, L_X11_copyRow_a51_3 w n mi x1 x2 x3 x4 = some r → (Q aU (r, RS w, lv)) → Wp gl gx d P 181 3 [aR 51 0, aI x1, aI x2, aI x3, aI x4] [] (mi, RS w, lv) Q := by
  induction n with
  | zero => intro mi x1 x2 x3 x4 r hf h0; exact o_none hf
  | succ n ih => intro mi x1 x2 x3 x4 r hf h0; exact r_X11_copyRow_a51_3 (⟨fun q3 => k_ifp q3 hf (fun q5 => o_rMV q5 h0), fun q4 => k_ifn q4 hf (fun q5 => k_ck q5 (fun q7 q6 => ⟨q7, k_ck q6 (fun q9 q8 => ⟨q9, fun m1 hm1 => k_lt q8 hm1 (fun q10 => ih q10 h0)⟩)⟩))⟩)

def F_X11_copyRow_a51 (mi : MI) (w : WS) (x1 : Int32) (x2 : Int32) (x3 : Int32) : Option MI := L_X11_copyRow_a51_3 w 1000000 mi x1 x2 x3 0

theorem s_X11_copyRow_a51 {gl : Nat} {gx : Nat → Int32} {d : Nat} {P : PL} {Q : PO} {mi : MI} {w : WS} {lv : LV} {x1 : Int32} {x2 : Int32} {x3 : Int32} {r : MI} (hf : F_X11_copyRow_a51 mi w x1 x2 x3 = some r) (h0 : Q aU (r, RS w, lv)) : Wp gl gx d P 181 0 [aR 51 0, aI x1, aI x2, aI x3, aU] [] (mi, RS w, lv) Q := r_X11_copyRow_a51_0 (l_X11_copyRow_a51_3 1000000 hf h0)

theorem r_X11_copyRow_a52_3 {gl : Nat} {gx : Nat → Int32} {d : Nat} {P : PL} {Q : PO} {mi : MI} {w : WS} {lv : LV} {x1 : Int32} {x2 : Int32} {x3 : Int32} {x4 : Int32} (h : ((x1 ≤ x4) → Q aU (mi, RS w, lv)) ∧ (¬ (x1 ≤ x4) → (vp_in ((x1 * x2) + x4) 4) ∧ ((vp_in ((x1 * x3) + x4) 4) ∧ ((∀ m2 : MI, m2 = u3 mi 52 0 (((x1 * x3) + x4).toNatClampNeg) (mi 52 0 (((x1 * x2) + x4).toNatClampNeg)) → Wp gl gx d P 181 3 [aR 52 0, aI x1, aI x2, aI x3, aI (x4 + 1)] [] (m2, RS w, lv) Q))))) : Wp gl gx d P 181 3 [aR 52 0, aI x1, aI x2, aI x3, aI x4] [] (mi, RS w, lv) Q := 
  wpT row_181 mt_181 [.iload 4, .iload_n 1, .if_icmp .ge 25] (by decide +kernel) [(31, [.return_]), (9, [.aload_n 0, .iload_n 1, .iload_n 3, .imul, .iload 4, .iadd, .aload_n 0, .iload_n 1, .iload_n 2, .imul, .iload 4, .iadd, .iaload]), (24, [.iastore]), (25, [.iinc 4 1, .goto (.negSucc 24)])] (by decide +kernel) 60 (And.intro (fun q11 => (h.1 q11)) (fun q12 => And.intro (h.2 q12).1 (And.intro (h.2 q12).2.1 (((h.2 q12).2.2 _ rfl)))))

theorem r_X11_copyRow_a52_0 {gl : Nat} {gx : Nat → Int32} {d : Nat} {P : PL} {Q : PO} {mi : MI} {w : WS} {lv : LV} {x1 : Int32} {x2 : Int32} {x3 : Int32} (h : Wp gl gx d P 181 3 [aR 52 0, aI x1, aI x2, aI x3, aI 0] [] (mi, RS w, lv) Q) : Wp gl gx d P 181 0 [aR 52 0, aI x1, aI x2, aI x3, aU] [] (mi, RS w, lv) Q := 
  wpT row_181 mt_181 [.iconst 0, .istore 4] (by decide +kernel) [] (by decide +kernel) 24 (h)

def L_X11_copyRow_a52_3 (w : WS) : Nat → MI → Int32 → Int32 → Int32 → Int32 → Option MI
  | 0, _, _, _, _, _ => none
  | n + 1, mi, x1, x2, x3, x4 => if x1 ≤ x4 then some mi else ck (¬ (((x1 * x2) + x4) < 0 ∨ 4 ≤ ((x1 * x2) + x4).toNatClampNeg)) (ck (¬ (((x1 * x3) + x4) < 0 ∨ 4 ≤ ((x1 * x3) + x4).toNatClampNeg)) (lt (u3 mi 52 0 (((x1 * x3) + x4).toNatClampNeg) (mi 52 0 (((x1 * x2) + x4).toNatClampNeg))) fun m2 => L_X11_copyRow_a52_3 w n m2 x1 x2 x3 (x4 + 1)))

theorem l_X11_copyRow_a52_3 {gl : Nat} {gx : Nat → Int32} {d : Nat} {P : PL} {Q : PO} {lv : LV} {w : WS} (n : Nat) : ∀ {mi : MI} {x1 : Int32} {x2 : Int32} {x3 : Int32} {x4 : Int32} {r : MI}, L_X11_copyRow_a52_3 w n mi x1 x2 x3 x4 = some r → (Q aU (r, RS w, lv)) → Wp gl gx d P 181 3 [aR 52 0, aI x1, aI x2, aI x3, aI x4] [] (mi, RS w, lv) Q := by
  induction n with
  | zero => intro mi x1 x2 x3 x4 r hf h0; exact o_none hf
  | succ n ih => intro mi x1 x2 x3 x4 r hf h0; exact r_X11_copyRow_a52_3 (⟨fun q13 => k_ifp q13 hf (fun q15 => o_rMV q15 h0), fun q14 => k_ifn q14 hf (fun q15 => k_ck q15 (fun q17 q16 => ⟨q17, k_ck q16 (fun q19 q18 => ⟨q19, fun m2 hm2 => k_lt q18 hm2 (fun q20 => ih q20 h0)⟩)⟩))⟩)

def F_X11_copyRow_a52 (mi : MI) (w : WS) (x1 : Int32) (x2 : Int32) (x3 : Int32) : Option MI := L_X11_copyRow_a52_3 w 1000000 mi x1 x2 x3 0

theorem s_X11_copyRow_a52 {gl : Nat} {gx : Nat → Int32} {d : Nat} {P : PL} {Q : PO} {mi : MI} {w : WS} {lv : LV} {x1 : Int32} {x2 : Int32} {x3 : Int32} {r : MI} (hf : F_X11_copyRow_a52 mi w x1 x2 x3 = some r) (h0 : Q aU (r, RS w, lv)) : Wp gl gx d P 181 0 [aR 52 0, aI x1, aI x2, aI x3, aU] [] (mi, RS w, lv) Q := r_X11_copyRow_a52_0 (l_X11_copyRow_a52_3 1000000 hf h0)

theorem r_X11_copyRow_a53_3 {gl : Nat} {gx : Nat → Int32} {d : Nat} {P : PL} {Q : PO} {mi : MI} {w : WS} {lv : LV} {x1 : Int32} {x2 : Int32} {x3 : Int32} {x4 : Int32} (h : ((x1 ≤ x4) → Q aU (mi, RS w, lv)) ∧ (¬ (x1 ≤ x4) → (vp_in ((x1 * x2) + x4) 4) ∧ ((vp_in ((x1 * x3) + x4) 4) ∧ ((∀ m3 : MI, m3 = u3 mi 53 0 (((x1 * x3) + x4).toNatClampNeg) (mi 53 0 (((x1 * x2) + x4).toNatClampNeg)) → Wp gl gx d P 181 3 [aR 53 0, aI x1, aI x2, aI x3, aI (x4 + 1)] [] (m3, RS w, lv) Q))))) : Wp gl gx d P 181 3 [aR 53 0, aI x1, aI x2, aI x3, aI x4] [] (mi, RS w, lv) Q := 
  wpT row_181 mt_181 [.iload 4, .iload_n 1, .if_icmp .ge 25] (by decide +kernel) [(31, [.return_]), (9, [.aload_n 0, .iload_n 1, .iload_n 3, .imul, .iload 4, .iadd, .aload_n 0, .iload_n 1, .iload_n 2, .imul, .iload 4, .iadd, .iaload]), (24, [.iastore]), (25, [.iinc 4 1, .goto (.negSucc 24)])] (by decide +kernel) 60 (And.intro (fun q21 => (h.1 q21)) (fun q22 => And.intro (h.2 q22).1 (And.intro (h.2 q22).2.1 (((h.2 q22).2.2 _ rfl)))))

theorem r_X11_copyRow_a53_0 {gl : Nat} {gx : Nat → Int32} {d : Nat} {P : PL} {Q : PO} {mi : MI} {w : WS} {lv : LV} {x1 : Int32} {x2 : Int32} {x3 : Int32} (h : Wp gl gx d P 181 3 [aR 53 0, aI x1, aI x2, aI x3, aI 0] [] (mi, RS w, lv) Q) : Wp gl gx d P 181 0 [aR 53 0, aI x1, aI x2, aI x3, aU] [] (mi, RS w, lv) Q := 
  wpT row_181 mt_181 [.iconst 0, .istore 4] (by decide +kernel) [] (by decide +kernel) 24 (h)

def L_X11_copyRow_a53_3 (w : WS) : Nat → MI → Int32 → Int32 → Int32 → Int32 → Option MI
  | 0, _, _, _, _, _ => none
  | n + 1, mi, x1, x2, x3, x4 => if x1 ≤ x4 then some mi else ck (¬ (((x1 * x2) + x4) < 0 ∨ 4 ≤ ((x1 * x2) + x4).toNatClampNeg)) (ck (¬ (((x1 * x3) + x4) < 0 ∨ 4 ≤ ((x1 * x3) + x4).toNatClampNeg)) (lt (u3 mi 53 0 (((x1 * x3) + x4).toNatClampNeg) (mi 53 0 (((x1 * x2) + x4).toNatClampNeg))) fun m3 => L_X11_copyRow_a53_3 w n m3 x1 x2 x3 (x4 + 1)))

theorem l_X11_copyRow_a53_3 {gl : Nat} {gx : Nat → Int32} {d : Nat} {P : PL} {Q : PO} {lv : LV} {w : WS} (n : Nat) : ∀ {mi : MI} {x1 : Int32} {x2 : Int32} {x3 : Int32} {x4 : Int32} {r : MI}, L_X11_copyRow_a53_3 w n mi x1 x2 x3 x4 = some r → (Q aU (r, RS w, lv)) → Wp gl gx d P 181 3 [aR 53 0, aI x1, aI x2, aI x3, aI x4] [] (mi, RS w, lv) Q := by
  induction n with
  | zero => intro mi x1 x2 x3 x4 r hf h0; exact o_none hf
  | succ n ih => intro mi x1 x2 x3 x4 r hf h0; exact r_X11_copyRow_a53_3 (⟨fun q23 => k_ifp q23 hf (fun q25 => o_rMV q25 h0), fun q24 => k_ifn q24 hf (fun q25 => k_ck q25 (fun q27 q26 => ⟨q27, k_ck q26 (fun q29 q28 => ⟨q29, fun m3 hm3 => k_lt q28 hm3 (fun q30 => ih q30 h0)⟩)⟩))⟩)

def F_X11_copyRow_a53 (mi : MI) (w : WS) (x1 : Int32) (x2 : Int32) (x3 : Int32) : Option MI := L_X11_copyRow_a53_3 w 1000000 mi x1 x2 x3 0

theorem s_X11_copyRow_a53 {gl : Nat} {gx : Nat → Int32} {d : Nat} {P : PL} {Q : PO} {mi : MI} {w : WS} {lv : LV} {x1 : Int32} {x2 : Int32} {x3 : Int32} {r : MI} (hf : F_X11_copyRow_a53 mi w x1 x2 x3 = some r) (h0 : Q aU (r, RS w, lv)) : Wp gl gx d P 181 0 [aR 53 0, aI x1, aI x2, aI x3, aU] [] (mi, RS w, lv) Q := r_X11_copyRow_a53_0 (l_X11_copyRow_a53_3 1000000 hf h0)

theorem r_X11_copyRow_a54_3 {gl : Nat} {gx : Nat → Int32} {d : Nat} {P : PL} {Q : PO} {mi : MI} {w : WS} {lv : LV} {x1 : Int32} {x2 : Int32} {x3 : Int32} {x4 : Int32} (h : ((x1 ≤ x4) → Q aU (mi, RS w, lv)) ∧ (¬ (x1 ≤ x4) → (vp_in ((x1 * x2) + x4) 16) ∧ ((vp_in ((x1 * x3) + x4) 16) ∧ ((∀ m4 : MI, m4 = u3 mi 54 0 (((x1 * x3) + x4).toNatClampNeg) (mi 54 0 (((x1 * x2) + x4).toNatClampNeg)) → Wp gl gx d P 181 3 [aR 54 0, aI x1, aI x2, aI x3, aI (x4 + 1)] [] (m4, RS w, lv) Q))))) : Wp gl gx d P 181 3 [aR 54 0, aI x1, aI x2, aI x3, aI x4] [] (mi, RS w, lv) Q := 
  wpT row_181 mt_181 [.iload 4, .iload_n 1, .if_icmp .ge 25] (by decide +kernel) [(31, [.return_]), (9, [.aload_n 0, .iload_n 1, .iload_n 3, .imul, .iload 4, .iadd, .aload_n 0, .iload_n 1, .iload_n 2, .imul, .iload 4, .iadd, .iaload]), (24, [.iastore]), (25, [.iinc 4 1, .goto (.negSucc 24)])] (by decide +kernel) 60 (And.intro (fun q31 => (h.1 q31)) (fun q32 => And.intro (h.2 q32).1 (And.intro (h.2 q32).2.1 (((h.2 q32).2.2 _ rfl)))))

theorem r_X11_copyRow_a54_0 {gl : Nat} {gx : Nat → Int32} {d : Nat} {P : PL} {Q : PO} {mi : MI} {w : WS} {lv : LV} {x1 : Int32} {x2 : Int32} {x3 : Int32} (h : Wp gl gx d P 181 3 [aR 54 0, aI x1, aI x2, aI x3, aI 0] [] (mi, RS w, lv) Q) : Wp gl gx d P 181 0 [aR 54 0, aI x1, aI x2, aI x3, aU] [] (mi, RS w, lv) Q := 
  wpT row_181 mt_181 [.iconst 0, .istore 4] (by decide +kernel) [] (by decide +kernel) 24 (h)

def L_X11_copyRow_a54_3 (w : WS) : Nat → MI → Int32 → Int32 → Int32 → Int32 → Option MI
  | 0, _, _, _, _, _ => none
  | n + 1, mi, x1, x2, x3, x4 => if x1 ≤ x4 then some mi else ck (¬ (((x1 * x2) + x4) < 0 ∨ 16 ≤ ((x1 * x2) + x4).toNatClampNeg)) (ck (¬ (((x1 * x3) + x4) < 0 ∨ 16 ≤ ((x1 * x3) + x4).toNatClampNeg)) (lt (u3 mi 54 0 (((x1 * x3) + x4).toNatClampNeg) (mi 54 0 (((x1 * x2) + x4).toNatClampNeg))) fun m4 => L_X11_copyRow_a54_3 w n m4 x1 x2 x3 (x4 + 1)))

theorem l_X11_copyRow_a54_3 {gl : Nat} {gx : Nat → Int32} {d : Nat} {P : PL} {Q : PO} {lv : LV} {w : WS} (n : Nat) : ∀ {mi : MI} {x1 : Int32} {x2 : Int32} {x3 : Int32} {x4 : Int32} {r : MI}, L_X11_copyRow_a54_3 w n mi x1 x2 x3 x4 = some r → (Q aU (r, RS w, lv)) → Wp gl gx d P 181 3 [aR 54 0, aI x1, aI x2, aI x3, aI x4] [] (mi, RS w, lv) Q := by
  induction n with
  | zero => intro mi x1 x2 x3 x4 r hf h0; exact o_none hf
  | succ n ih => intro mi x1 x2 x3 x4 r hf h0; exact r_X11_copyRow_a54_3 (⟨fun q33 => k_ifp q33 hf (fun q35 => o_rMV q35 h0), fun q34 => k_ifn q34 hf (fun q35 => k_ck q35 (fun q37 q36 => ⟨q37, k_ck q36 (fun q39 q38 => ⟨q39, fun m4 hm4 => k_lt q38 hm4 (fun q40 => ih q40 h0)⟩)⟩))⟩)

def F_X11_copyRow_a54 (mi : MI) (w : WS) (x1 : Int32) (x2 : Int32) (x3 : Int32) : Option MI := L_X11_copyRow_a54_3 w 1000000 mi x1 x2 x3 0

theorem s_X11_copyRow_a54 {gl : Nat} {gx : Nat → Int32} {d : Nat} {P : PL} {Q : PO} {mi : MI} {w : WS} {lv : LV} {x1 : Int32} {x2 : Int32} {x3 : Int32} {r : MI} (hf : F_X11_copyRow_a54 mi w x1 x2 x3 = some r) (h0 : Q aU (r, RS w, lv)) : Wp gl gx d P 181 0 [aR 54 0, aI x1, aI x2, aI x3, aU] [] (mi, RS w, lv) Q := r_X11_copyRow_a54_0 (l_X11_copyRow_a54_3 1000000 hf h0)

theorem r_X11_copyRow_a55_3 {gl : Nat} {gx : Nat → Int32} {d : Nat} {P : PL} {Q : PO} {mi : MI} {w : WS} {lv : LV} {x1 : Int32} {x2 : Int32} {x3 : Int32} {x4 : Int32} (h : ((x1 ≤ x4) → Q aU (mi, RS w, lv)) ∧ (¬ (x1 ≤ x4) → (vp_in ((x1 * x2) + x4) 320) ∧ ((vp_in ((x1 * x3) + x4) 320) ∧ ((∀ m5 : MI, m5 = u3 mi 55 0 (((x1 * x3) + x4).toNatClampNeg) (mi 55 0 (((x1 * x2) + x4).toNatClampNeg)) → Wp gl gx d P 181 3 [aR 55 0, aI x1, aI x2, aI x3, aI (x4 + 1)] [] (m5, RS w, lv) Q))))) : Wp gl gx d P 181 3 [aR 55 0, aI x1, aI x2, aI x3, aI x4] [] (mi, RS w, lv) Q := 
  wpT row_181 mt_181 [.iload 4, .iload_n 1, .if_icmp .ge 25] (by decide +kernel) [(31, [.return_]), (9, [.aload_n 0, .iload_n 1, .iload_n 3, .imul, .iload 4, .iadd, .aload_n 0, .iload_n 1, .iload_n 2, .imul, .iload 4, .iadd, .iaload]), (24, [.iastore]), (25, [.iinc 4 1, .goto (.negSucc 24)])] (by decide +kernel) 60 (And.intro (fun q41 => (h.1 q41)) (fun q42 => And.intro (h.2 q42).1 (And.intro (h.2 q42).2.1 (((h.2 q42).2.2 _ rfl)))))

theorem r_X11_copyRow_a55_0 {gl : Nat} {gx : Nat → Int32} {d : Nat} {P : PL} {Q : PO} {mi : MI} {w : WS} {lv : LV} {x1 : Int32} {x2 : Int32} {x3 : Int32} (h : Wp gl gx d P 181 3 [aR 55 0, aI x1, aI x2, aI x3, aI 0] [] (mi, RS w, lv) Q) : Wp gl gx d P 181 0 [aR 55 0, aI x1, aI x2, aI x3, aU] [] (mi, RS w, lv) Q := 
  wpT row_181 mt_181 [.iconst 0, .istore 4] (by decide +kernel) [] (by decide +kernel) 24 (h)

def L_X11_copyRow_a55_3 (w : WS) : Nat → MI → Int32 → Int32 → Int32 → Int32 → Option MI
  | 0, _, _, _, _, _ => none
  | n + 1, mi, x1, x2, x3, x4 => if x1 ≤ x4 then some mi else ck (¬ (((x1 * x2) + x4) < 0 ∨ 320 ≤ ((x1 * x2) + x4).toNatClampNeg)) (ck (¬ (((x1 * x3) + x4) < 0 ∨ 320 ≤ ((x1 * x3) + x4).toNatClampNeg)) (lt (u3 mi 55 0 (((x1 * x3) + x4).toNatClampNeg) (mi 55 0 (((x1 * x2) + x4).toNatClampNeg))) fun m5 => L_X11_copyRow_a55_3 w n m5 x1 x2 x3 (x4 + 1)))

theorem l_X11_copyRow_a55_3 {gl : Nat} {gx : Nat → Int32} {d : Nat} {P : PL} {Q : PO} {lv : LV} {w : WS} (n : Nat) : ∀ {mi : MI} {x1 : Int32} {x2 : Int32} {x3 : Int32} {x4 : Int32} {r : MI}, L_X11_copyRow_a55_3 w n mi x1 x2 x3 x4 = some r → (Q aU (r, RS w, lv)) → Wp gl gx d P 181 3 [aR 55 0, aI x1, aI x2, aI x3, aI x4] [] (mi, RS w, lv) Q := by
  induction n with
  | zero => intro mi x1 x2 x3 x4 r hf h0; exact o_none hf
  | succ n ih => intro mi x1 x2 x3 x4 r hf h0; exact r_X11_copyRow_a55_3 (⟨fun q43 => k_ifp q43 hf (fun q45 => o_rMV q45 h0), fun q44 => k_ifn q44 hf (fun q45 => k_ck q45 (fun q47 q46 => ⟨q47, k_ck q46 (fun q49 q48 => ⟨q49, fun m5 hm5 => k_lt q48 hm5 (fun q50 => ih q50 h0)⟩)⟩))⟩)

def F_X11_copyRow_a55 (mi : MI) (w : WS) (x1 : Int32) (x2 : Int32) (x3 : Int32) : Option MI := L_X11_copyRow_a55_3 w 1000000 mi x1 x2 x3 0

theorem s_X11_copyRow_a55 {gl : Nat} {gx : Nat → Int32} {d : Nat} {P : PL} {Q : PO} {mi : MI} {w : WS} {lv : LV} {x1 : Int32} {x2 : Int32} {x3 : Int32} {r : MI} (hf : F_X11_copyRow_a55 mi w x1 x2 x3 = some r) (h0 : Q aU (r, RS w, lv)) : Wp gl gx d P 181 0 [aR 55 0, aI x1, aI x2, aI x3, aU] [] (mi, RS w, lv) Q := r_X11_copyRow_a55_0 (l_X11_copyRow_a55_3 1000000 hf h0)

theorem r_X11_copyRow_a56_3 {gl : Nat} {gx : Nat → Int32} {d : Nat} {P : PL} {Q : PO} {mi : MI} {w : WS} {lv : LV} {x1 : Int32} {x2 : Int32} {x3 : Int32} {x4 : Int32} (h : ((x1 ≤ x4) → Q aU (mi, RS w, lv)) ∧ (¬ (x1 ≤ x4) → (vp_in ((x1 * x2) + x4) 1288) ∧ ((vp_in ((x1 * x3) + x4) 1288) ∧ ((∀ m6 : MI, m6 = u3 mi 56 0 (((x1 * x3) + x4).toNatClampNeg) (mi 56 0 (((x1 * x2) + x4).toNatClampNeg)) → Wp gl gx d P 181 3 [aR 56 0, aI x1, aI x2, aI x3, aI (x4 + 1)] [] (m6, RS w, lv) Q))))) : Wp gl gx d P 181 3 [aR 56 0, aI x1, aI x2, aI x3, aI x4] [] (mi, RS w, lv) Q := 
  wpT row_181 mt_181 [.iload 4, .iload_n 1, .if_icmp .ge 25] (by decide +kernel) [(31, [.return_]), (9, [.aload_n 0, .iload_n 1, .iload_n 3, .imul, .iload 4, .iadd, .aload_n 0, .iload_n 1, .iload_n 2, .imul, .iload 4, .iadd, .iaload]), (24, [.iastore]), (25, [.iinc 4 1, .goto (.negSucc 24)])] (by decide +kernel) 60 (And.intro (fun q51 => (h.1 q51)) (fun q52 => And.intro (h.2 q52).1 (And.intro (h.2 q52).2.1 (((h.2 q52).2.2 _ rfl)))))

theorem r_X11_copyRow_a56_0 {gl : Nat} {gx : Nat → Int32} {d : Nat} {P : PL} {Q : PO} {mi : MI} {w : WS} {lv : LV} {x1 : Int32} {x2 : Int32} {x3 : Int32} (h : Wp gl gx d P 181 3 [aR 56 0, aI x1, aI x2, aI x3, aI 0] [] (mi, RS w, lv) Q) : Wp gl gx d P 181 0 [aR 56 0, aI x1, aI x2, aI x3, aU] [] (mi, RS w, lv) Q := 
  wpT row_181 mt_181 [.iconst 0, .istore 4] (by decide +kernel) [] (by decide +kernel) 24 (h)

def L_X11_copyRow_a56_3 (w : WS) : Nat → MI → Int32 → Int32 → Int32 → Int32 → Option MI
  | 0, _, _, _, _, _ => none
  | n + 1, mi, x1, x2, x3, x4 => if x1 ≤ x4 then some mi else ck (¬ (((x1 * x2) + x4) < 0 ∨ 1288 ≤ ((x1 * x2) + x4).toNatClampNeg)) (ck (¬ (((x1 * x3) + x4) < 0 ∨ 1288 ≤ ((x1 * x3) + x4).toNatClampNeg)) (lt (u3 mi 56 0 (((x1 * x3) + x4).toNatClampNeg) (mi 56 0 (((x1 * x2) + x4).toNatClampNeg))) fun m6 => L_X11_copyRow_a56_3 w n m6 x1 x2 x3 (x4 + 1)))

theorem l_X11_copyRow_a56_3 {gl : Nat} {gx : Nat → Int32} {d : Nat} {P : PL} {Q : PO} {lv : LV} {w : WS} (n : Nat) : ∀ {mi : MI} {x1 : Int32} {x2 : Int32} {x3 : Int32} {x4 : Int32} {r : MI}, L_X11_copyRow_a56_3 w n mi x1 x2 x3 x4 = some r → (Q aU (r, RS w, lv)) → Wp gl gx d P 181 3 [aR 56 0, aI x1, aI x2, aI x3, aI x4] [] (mi, RS w, lv) Q := by
  induction n with
  | zero => intro mi x1 x2 x3 x4 r hf h0; exact o_none hf
  | succ n ih => intro mi x1 x2 x3 x4 r hf h0; exact r_X11_copyRow_a56_3 (⟨fun q53 => k_ifp q53 hf (fun q55 => o_rMV q55 h0), fun q54 => k_ifn q54 hf (fun q55 => k_ck q55 (fun q57 q56 => ⟨q57, k_ck q56 (fun q59 q58 => ⟨q59, fun m6 hm6 => k_lt q58 hm6 (fun q60 => ih q60 h0)⟩)⟩))⟩)

def F_X11_copyRow_a56 (mi : MI) (w : WS) (x1 : Int32) (x2 : Int32) (x3 : Int32) : Option MI := L_X11_copyRow_a56_3 w 1000000 mi x1 x2 x3 0

theorem s_X11_copyRow_a56 {gl : Nat} {gx : Nat → Int32} {d : Nat} {P : PL} {Q : PO} {mi : MI} {w : WS} {lv : LV} {x1 : Int32} {x2 : Int32} {x3 : Int32} {r : MI} (hf : F_X11_copyRow_a56 mi w x1 x2 x3 = some r) (h0 : Q aU (r, RS w, lv)) : Wp gl gx d P 181 0 [aR 56 0, aI x1, aI x2, aI x3, aU] [] (mi, RS w, lv) Q := r_X11_copyRow_a56_0 (l_X11_copyRow_a56_3 1000000 hf h0)

theorem r_X11_copyRow_a57_3 {gl : Nat} {gx : Nat → Int32} {d : Nat} {P : PL} {Q : PO} {mi : MI} {w : WS} {lv : LV} {x1 : Int32} {x2 : Int32} {x3 : Int32} {x4 : Int32} (h : ((x1 ≤ x4) → Q aU (mi, RS w, lv)) ∧ (¬ (x1 ≤ x4) → (vp_in ((x1 * x2) + x4) 208) ∧ ((vp_in ((x1 * x3) + x4) 208) ∧ ((∀ m7 : MI, m7 = u3 mi 57 0 (((x1 * x3) + x4).toNatClampNeg) (mi 57 0 (((x1 * x2) + x4).toNatClampNeg)) → Wp gl gx d P 181 3 [aR 57 0, aI x1, aI x2, aI x3, aI (x4 + 1)] [] (m7, RS w, lv) Q))))) : Wp gl gx d P 181 3 [aR 57 0, aI x1, aI x2, aI x3, aI x4] [] (mi, RS w, lv) Q := 
  wpT row_181 mt_181 [.iload 4, .iload_n 1, .if_icmp .ge 25] (by decide +kernel) [(31, [.return_]), (9, [.aload_n 0, .iload_n 1, .iload_n 3, .imul, .iload 4, .iadd, .aload_n 0, .iload_n 1, .iload_n 2, .imul, .iload 4, .iadd, .iaload]), (24, [.iastore]), (25, [.iinc 4 1, .goto (.negSucc 24)])] (by decide +kernel) 60 (And.intro (fun q61 => (h.1 q61)) (fun q62 => And.intro (h.2 q62).1 (And.intro (h.2 q62).2.1 (((h.2 q62).2.2 _ rfl)))))

theorem r_X11_copyRow_a57_0 {gl : Nat} {gx : Nat → Int32} {d : Nat} {P : PL} {Q : PO} {mi : MI} {w : WS} {lv : LV} {x1 : Int32} {x2 : Int32} {x3 : Int32} (h : Wp gl gx d P 181 3 [aR 57 0, aI x1, aI x2, aI x3, aI 0] [] (mi, RS w, lv) Q) : Wp gl gx d P 181 0 [aR 57 0, aI x1, aI x2, aI x3, aU] [] (mi, RS w, lv) Q := 
  wpT row_181 mt_181 [.iconst 0, .istore 4] (by decide +kernel) [] (by decide +kernel) 24 (h)

def L_X11_copyRow_a57_3 (w : WS) : Nat → MI → Int32 → Int32 → Int32 → Int32 → Option MI
  | 0, _, _, _, _, _ => none
  | n + 1, mi, x1, x2, x3, x4 => if x1 ≤ x4 then some mi else ck (¬ (((x1 * x2) + x4) < 0 ∨ 208 ≤ ((x1 * x2) + x4).toNatClampNeg)) (ck (¬ (((x1 * x3) + x4) < 0 ∨ 208 ≤ ((x1 * x3) + x4).toNatClampNeg)) (lt (u3 mi 57 0 (((x1 * x3) + x4).toNatClampNeg) (mi 57 0 (((x1 * x2) + x4).toNatClampNeg))) fun m7 => L_X11_copyRow_a57_3 w n m7 x1 x2 x3 (x4 + 1)))

theorem l_X11_copyRow_a57_3 {gl : Nat} {gx : Nat → Int32} {d : Nat} {P : PL} {Q : PO} {lv : LV} {w : WS} (n : Nat) : ∀ {mi : MI} {x1 : Int32} {x2 : Int32} {x3 : Int32} {x4 : Int32} {r : MI}, L_X11_copyRow_a57_3 w n mi x1 x2 x3 x4 = some r → (Q aU (r, RS w, lv)) → Wp gl gx d P 181 3 [aR 57 0, aI x1, aI x2, aI x3, aI x4] [] (mi, RS w, lv) Q := by
  induction n with
  | zero => intro mi x1 x2 x3 x4 r hf h0; exact o_none hf
  | succ n ih => intro mi x1 x2 x3 x4 r hf h0; exact r_X11_copyRow_a57_3 (⟨fun q63 => k_ifp q63 hf (fun q65 => o_rMV q65 h0), fun q64 => k_ifn q64 hf (fun q65 => k_ck q65 (fun q67 q66 => ⟨q67, k_ck q66 (fun q69 q68 => ⟨q69, fun m7 hm7 => k_lt q68 hm7 (fun q70 => ih q70 h0)⟩)⟩))⟩)

def F_X11_copyRow_a57 (mi : MI) (w : WS) (x1 : Int32) (x2 : Int32) (x3 : Int32) : Option MI := L_X11_copyRow_a57_3 w 1000000 mi x1 x2 x3 0

theorem s_X11_copyRow_a57 {gl : Nat} {gx : Nat → Int32} {d : Nat} {P : PL} {Q : PO} {mi : MI} {w : WS} {lv : LV} {x1 : Int32} {x2 : Int32} {x3 : Int32} {r : MI} (hf : F_X11_copyRow_a57 mi w x1 x2 x3 = some r) (h0 : Q aU (r, RS w, lv)) : Wp gl gx d P 181 0 [aR 57 0, aI x1, aI x2, aI x3, aU] [] (mi, RS w, lv) Q := r_X11_copyRow_a57_0 (l_X11_copyRow_a57_3 1000000 hf h0)

theorem r_X11_copyRow_a58_3 {gl : Nat} {gx : Nat → Int32} {d : Nat} {P : PL} {Q : PO} {mi : MI} {w : WS} {lv : LV} {x1 : Int32} {x2 : Int32} {x3 : Int32} {x4 : Int32} (h : ((x1 ≤ x4) → Q aU (mi, RS w, lv)) ∧ (¬ (x1 ≤ x4) → (vp_in ((x1 * x2) + x4) 264) ∧ ((vp_in ((x1 * x3) + x4) 264) ∧ ((∀ m8 : MI, m8 = u3 mi 58 0 (((x1 * x3) + x4).toNatClampNeg) (mi 58 0 (((x1 * x2) + x4).toNatClampNeg)) → Wp gl gx d P 181 3 [aR 58 0, aI x1, aI x2, aI x3, aI (x4 + 1)] [] (m8, RS w, lv) Q))))) : Wp gl gx d P 181 3 [aR 58 0, aI x1, aI x2, aI x3, aI x4] [] (mi, RS w, lv) Q := 
  wpT row_181 mt_181 [.iload 4, .iload_n 1, .if_icmp .ge 25] (by decide +kernel) [(31, [.return_]), (9, [.aload_n 0, .iload_n 1, .iload_n 3, .imul, .iload 4, .iadd, .aload_n 0, .iload_n 1, .iload_n 2, .imul, .iload 4, .iadd, .iaload]), (24, [.iastore]), (25, [.iinc 4 1, .goto (.negSucc 24)])] (by decide +kernel) 60 (And.intro (fun q71 => (h.1 q71)) (fun q72 => And.intro (h.2 q72).1 (And.intro (h.2 q72).2.1 (((h.2 q72).2.2 _ rfl)))))

theorem r_X11_copyRow_a58_0 {gl : Nat} {gx : Nat → Int32} {d : Nat} {P : PL} {Q : PO} {mi : MI} {w : WS} {lv : LV} {x1 : Int32} {x2 : Int32} {x3 : Int32} (h : Wp gl gx d P 181 3 [aR 58 0, aI x1, aI x2, aI x3, aI 0] [] (mi, RS w, lv) Q) : Wp gl gx d P 181 0 [aR 58 0, aI x1, aI x2, aI x3, aU] [] (mi, RS w, lv) Q := 
  wpT row_181 mt_181 [.iconst 0, .istore 4] (by decide +kernel) [] (by decide +kernel) 24 (h)

def L_X11_copyRow_a58_3 (w : WS) : Nat → MI → Int32 → Int32 → Int32 → Int32 → Option MI
  | 0, _, _, _, _, _ => none
  | n + 1, mi, x1, x2, x3, x4 => if x1 ≤ x4 then some mi else ck (¬ (((x1 * x2) + x4) < 0 ∨ 264 ≤ ((x1 * x2) + x4).toNatClampNeg)) (ck (¬ (((x1 * x3) + x4) < 0 ∨ 264 ≤ ((x1 * x3) + x4).toNatClampNeg)) (lt (u3 mi 58 0 (((x1 * x3) + x4).toNatClampNeg) (mi 58 0 (((x1 * x2) + x4).toNatClampNeg))) fun m8 => L_X11_copyRow_a58_3 w n m8 x1 x2 x3 (x4 + 1)))

theorem l_X11_copyRow_a58_3 {gl : Nat} {gx : Nat → Int32} {d : Nat} {P : PL} {Q : PO} {lv : LV} {w : WS} (n : Nat) : ∀ {mi : MI} {x1 : Int32} {x2 : Int32} {x3 : Int32} {x4 : Int32} {r : MI}, L_X11_copyRow_a58_3 w n mi x1 x2 x3 x4 = some r → (Q aU (r, RS w, lv)) → Wp gl gx d P 181 3 [aR 58 0, aI x1, aI x2, aI x3, aI x4] [] (mi, RS w, lv) Q := by
  induction n with
  | zero => intro mi x1 x2 x3 x4 r hf h0; exact o_none hf
  | succ n ih => intro mi x1 x2 x3 x4 r hf h0; exact r_X11_copyRow_a58_3 (⟨fun q73 => k_ifp q73 hf (fun q75 => o_rMV q75 h0), fun q74 => k_ifn q74 hf (fun q75 => k_ck q75 (fun q77 q76 => ⟨q77, k_ck q76 (fun q79 q78 => ⟨q79, fun m8 hm8 => k_lt q78 hm8 (fun q80 => ih q80 h0)⟩)⟩))⟩)

def F_X11_copyRow_a58 (mi : MI) (w : WS) (x1 : Int32) (x2 : Int32) (x3 : Int32) : Option MI := L_X11_copyRow_a58_3 w 1000000 mi x1 x2 x3 0

theorem s_X11_copyRow_a58 {gl : Nat} {gx : Nat → Int32} {d : Nat} {P : PL} {Q : PO} {mi : MI} {w : WS} {lv : LV} {x1 : Int32} {x2 : Int32} {x3 : Int32} {r : MI} (hf : F_X11_copyRow_a58 mi w x1 x2 x3 = some r) (h0 : Q aU (r, RS w, lv)) : Wp gl gx d P 181 0 [aR 58 0, aI x1, aI x2, aI x3, aU] [] (mi, RS w, lv) Q := r_X11_copyRow_a58_0 (l_X11_copyRow_a58_3 1000000 hf h0)

abbrev row_205 : MT := (⟨"StencilHouseModel", "store", "([III)V"⟩, prog_13_method_32_code, 5, none, 1, lk_11)
set_option maxRecDepth 20000 in
theorem mt_205 : mt 205 = some row_205 := rfl
theorem r_X11_store_a55_3 {gl : Nat} {gx : Nat → Int32} {d : Nat} {P : PL} {Q : PO} {mi : MI} {w : WS} {lv : LV} {x2 : Int32} {x3 : Int32} {x4 : Int32} (h : ((x2 ≤ x4) → Q aU (mi, RS w, lv)) ∧ (¬ (x2 ≤ x4) → (vp_in x4 161) ∧ ((vp_in ((x2 * x3) + x4) 320) ∧ ((∀ m9 : MI, m9 = u3 mi 55 0 (((x2 * x3) + x4).toNatClampNeg) (mi 59 0 x4.toNatClampNeg) → Wp gl gx d P 205 3 [aR 10 0, aR 55 0, aI x2, aI x3, aI (x4 + 1)] [] (m9, RS w, lv) Q))))) : Wp gl gx d P 205 3 [aR 10 0, aR 55 0, aI x2, aI x3, aI x4] [] (mi, RS w, lv) Q := 
  wpT row_205 mt_205 [.iload 4, .iload_n 2, .if_icmp .ge 24] (by decide +kernel) [(30, [.return_]), (9, [.aload_n 1, .iload_n 2, .iload_n 3, .imul, .iload 4, .iadd, .aload_n 0, .getfield 38, .iload 4, .iaload]), (23, [.iastore]), (24, [.iinc 4 1, .goto (.negSucc 23)])] (by decide +kernel) 54 (And.intro (fun q81 => (h.1 q81)) (fun q82 => And.intro (h.2 q82).1 (And.intro (h.2 q82).2.1 (((h.2 q82).2.2 _ rfl)))))

theorem r_X11_store_a55_0 {gl : Nat} {gx : Nat → Int32} {d : Nat} {P : PL} {Q : PO} {mi : MI} {w : WS} {lv : LV} {x2 : Int32} {x3 : Int32} (h : Wp gl gx d P 205 3 [aR 10 0, aR 55 0, aI x2, aI x3, aI 0] [] (mi, RS w, lv) Q) : Wp gl gx d P 205 0 [aR 10 0, aR 55 0, aI x2, aI x3, aU] [] (mi, RS w, lv) Q := 
  wpT row_205 mt_205 [.iconst 0, .istore 4] (by decide +kernel) [] (by decide +kernel) 24 (h)

def L_X11_store_a55_3 (w : WS) : Nat → MI → Int32 → Int32 → Int32 → Option MI
  | 0, _, _, _, _ => none
  | n + 1, mi, x2, x3, x4 => if x2 ≤ x4 then some mi else ck (¬ (x4 < 0 ∨ 161 ≤ x4.toNatClampNeg)) (ck (¬ (((x2 * x3) + x4) < 0 ∨ 320 ≤ ((x2 * x3) + x4).toNatClampNeg)) (lt (u3 mi 55 0 (((x2 * x3) + x4).toNatClampNeg) (mi 59 0 x4.toNatClampNeg)) fun m9 => L_X11_store_a55_3 w n m9 x2 x3 (x4 + 1)))

theorem l_X11_store_a55_3 {gl : Nat} {gx : Nat → Int32} {d : Nat} {P : PL} {Q : PO} {lv : LV} {w : WS} (n : Nat) : ∀ {mi : MI} {x2 : Int32} {x3 : Int32} {x4 : Int32} {r : MI}, L_X11_store_a55_3 w n mi x2 x3 x4 = some r → (Q aU (r, RS w, lv)) → Wp gl gx d P 205 3 [aR 10 0, aR 55 0, aI x2, aI x3, aI x4] [] (mi, RS w, lv) Q := by
  induction n with
  | zero => intro mi x2 x3 x4 r hf h0; exact o_none hf
  | succ n ih => intro mi x2 x3 x4 r hf h0; exact r_X11_store_a55_3 (⟨fun q83 => k_ifp q83 hf (fun q85 => o_rMV q85 h0), fun q84 => k_ifn q84 hf (fun q85 => k_ck q85 (fun q87 q86 => ⟨q87, k_ck q86 (fun q89 q88 => ⟨q89, fun m9 hm9 => k_lt q88 hm9 (fun q90 => ih q90 h0)⟩)⟩))⟩)

def F_X11_store_a55 (mi : MI) (w : WS) (x2 : Int32) (x3 : Int32) : Option MI := L_X11_store_a55_3 w 1000000 mi x2 x3 0

theorem s_X11_store_a55 {gl : Nat} {gx : Nat → Int32} {d : Nat} {P : PL} {Q : PO} {mi : MI} {w : WS} {lv : LV} {x2 : Int32} {x3 : Int32} {r : MI} (hf : F_X11_store_a55 mi w x2 x3 = some r) (h0 : Q aU (r, RS w, lv)) : Wp gl gx d P 205 0 [aR 10 0, aR 55 0, aI x2, aI x3, aU] [] (mi, RS w, lv) Q := r_X11_store_a55_0 (l_X11_store_a55_3 1000000 hf h0)

theorem r_X11_store_a56_3 {gl : Nat} {gx : Nat → Int32} {d : Nat} {P : PL} {Q : PO} {mi : MI} {w : WS} {lv : LV} {x2 : Int32} {x3 : Int32} {x4 : Int32} (h : ((x2 ≤ x4) → Q aU (mi, RS w, lv)) ∧ (¬ (x2 ≤ x4) → (vp_in x4 161) ∧ ((vp_in ((x2 * x3) + x4) 1288) ∧ ((∀ m10 : MI, m10 = u3 mi 56 0 (((x2 * x3) + x4).toNatClampNeg) (mi 59 0 x4.toNatClampNeg) → Wp gl gx d P 205 3 [aR 10 0, aR 56 0, aI x2, aI x3, aI (x4 + 1)] [] (m10, RS w, lv) Q))))) : Wp gl gx d P 205 3 [aR 10 0, aR 56 0, aI x2, aI x3, aI x4] [] (mi, RS w, lv) Q := 
  wpT row_205 mt_205 [.iload 4, .iload_n 2, .if_icmp .ge 24] (by decide +kernel) [(30, [.return_]), (9, [.aload_n 1, .iload_n 2, .iload_n 3, .imul, .iload 4, .iadd, .aload_n 0, .getfield 38, .iload 4, .iaload]), (23, [.iastore]), (24, [.iinc 4 1, .goto (.negSucc 23)])] (by decide +kernel) 54 (And.intro (fun q91 => (h.1 q91)) (fun q92 => And.intro (h.2 q92).1 (And.intro (h.2 q92).2.1 (((h.2 q92).2.2 _ rfl)))))

theorem r_X11_store_a56_0 {gl : Nat} {gx : Nat → Int32} {d : Nat} {P : PL} {Q : PO} {mi : MI} {w : WS} {lv : LV} {x2 : Int32} {x3 : Int32} (h : Wp gl gx d P 205 3 [aR 10 0, aR 56 0, aI x2, aI x3, aI 0] [] (mi, RS w, lv) Q) : Wp gl gx d P 205 0 [aR 10 0, aR 56 0, aI x2, aI x3, aU] [] (mi, RS w, lv) Q := 
  wpT row_205 mt_205 [.iconst 0, .istore 4] (by decide +kernel) [] (by decide +kernel) 24 (h)

def L_X11_store_a56_3 (w : WS) : Nat → MI → Int32 → Int32 → Int32 → Option MI
  | 0, _, _, _, _ => none
  | n + 1, mi, x2, x3, x4 => if x2 ≤ x4 then some mi else ck (¬ (x4 < 0 ∨ 161 ≤ x4.toNatClampNeg)) (ck (¬ (((x2 * x3) + x4) < 0 ∨ 1288 ≤ ((x2 * x3) + x4).toNatClampNeg)) (lt (u3 mi 56 0 (((x2 * x3) + x4).toNatClampNeg) (mi 59 0 x4.toNatClampNeg)) fun m10 => L_X11_store_a56_3 w n m10 x2 x3 (x4 + 1)))

theorem l_X11_store_a56_3 {gl : Nat} {gx : Nat → Int32} {d : Nat} {P : PL} {Q : PO} {lv : LV} {w : WS} (n : Nat) : ∀ {mi : MI} {x2 : Int32} {x3 : Int32} {x4 : Int32} {r : MI}, L_X11_store_a56_3 w n mi x2 x3 x4 = some r → (Q aU (r, RS w, lv)) → Wp gl gx d P 205 3 [aR 10 0, aR 56 0, aI x2, aI x3, aI x4] [] (mi, RS w, lv) Q := by
  induction n with
  | zero => intro mi x2 x3 x4 r hf h0; exact o_none hf
  | succ n ih => intro mi x2 x3 x4 r hf h0; exact r_X11_store_a56_3 (⟨fun q93 => k_ifp q93 hf (fun q95 => o_rMV q95 h0), fun q94 => k_ifn q94 hf (fun q95 => k_ck q95 (fun q97 q96 => ⟨q97, k_ck q96 (fun q99 q98 => ⟨q99, fun m10 hm10 => k_lt q98 hm10 (fun q100 => ih q100 h0)⟩)⟩))⟩)

def F_X11_store_a56 (mi : MI) (w : WS) (x2 : Int32) (x3 : Int32) : Option MI := L_X11_store_a56_3 w 1000000 mi x2 x3 0

theorem s_X11_store_a56 {gl : Nat} {gx : Nat → Int32} {d : Nat} {P : PL} {Q : PO} {mi : MI} {w : WS} {lv : LV} {x2 : Int32} {x3 : Int32} {r : MI} (hf : F_X11_store_a56 mi w x2 x3 = some r) (h0 : Q aU (r, RS w, lv)) : Wp gl gx d P 205 0 [aR 10 0, aR 56 0, aI x2, aI x3, aU] [] (mi, RS w, lv) Q := r_X11_store_a56_0 (l_X11_store_a56_3 1000000 hf h0)

theorem r_X11_store_a57_3 {gl : Nat} {gx : Nat → Int32} {d : Nat} {P : PL} {Q : PO} {mi : MI} {w : WS} {lv : LV} {x2 : Int32} {x3 : Int32} {x4 : Int32} (h : ((x2 ≤ x4) → Q aU (mi, RS w, lv)) ∧ (¬ (x2 ≤ x4) → (vp_in x4 161) ∧ ((vp_in ((x2 * x3) + x4) 208) ∧ ((∀ m11 : MI, m11 = u3 mi 57 0 (((x2 * x3) + x4).toNatClampNeg) (mi 59 0 x4.toNatClampNeg) → Wp gl gx d P 205 3 [aR 10 0, aR 57 0, aI x2, aI x3, aI (x4 + 1)] [] (m11, RS w, lv) Q))))) : Wp gl gx d P 205 3 [aR 10 0, aR 57 0, aI x2, aI x3, aI x4] [] (mi, RS w, lv) Q := 
  wpT row_205 mt_205 [.iload 4, .iload_n 2, .if_icmp .ge 24] (by decide +kernel) [(30, [.return_]), (9, [.aload_n 1, .iload_n 2, .iload_n 3, .imul, .iload 4, .iadd, .aload_n 0, .getfield 38, .iload 4, .iaload]), (23, [.iastore]), (24, [.iinc 4 1, .goto (.negSucc 23)])] (by decide +kernel) 54 (And.intro (fun q101 => (h.1 q101)) (fun q102 => And.intro (h.2 q102).1 (And.intro (h.2 q102).2.1 (((h.2 q102).2.2 _ rfl)))))

theorem r_X11_store_a57_0 {gl : Nat} {gx : Nat → Int32} {d : Nat} {P : PL} {Q : PO} {mi : MI} {w : WS} {lv : LV} {x2 : Int32} {x3 : Int32} (h : Wp gl gx d P 205 3 [aR 10 0, aR 57 0, aI x2, aI x3, aI 0] [] (mi, RS w, lv) Q) : Wp gl gx d P 205 0 [aR 10 0, aR 57 0, aI x2, aI x3, aU] [] (mi, RS w, lv) Q := 
  wpT row_205 mt_205 [.iconst 0, .istore 4] (by decide +kernel) [] (by decide +kernel) 24 (h)

def L_X11_store_a57_3 (w : WS) : Nat → MI → Int32 → Int32 → Int32 → Option MI
  | 0, _, _, _, _ => none
  | n + 1, mi, x2, x3, x4 => if x2 ≤ x4 then some mi else ck (¬ (x4 < 0 ∨ 161 ≤ x4.toNatClampNeg)) (ck (¬ (((x2 * x3) + x4) < 0 ∨ 208 ≤ ((x2 * x3) + x4).toNatClampNeg)) (lt (u3 mi 57 0 (((x2 * x3) + x4).toNatClampNeg) (mi 59 0 x4.toNatClampNeg)) fun m11 => L_X11_store_a57_3 w n m11 x2 x3 (x4 + 1)))

theorem l_X11_store_a57_3 {gl : Nat} {gx : Nat → Int32} {d : Nat} {P : PL} {Q : PO} {lv : LV} {w : WS} (n : Nat) : ∀ {mi : MI} {x2 : Int32} {x3 : Int32} {x4 : Int32} {r : MI}, L_X11_store_a57_3 w n mi x2 x3 x4 = some r → (Q aU (r, RS w, lv)) → Wp gl gx d P 205 3 [aR 10 0, aR 57 0, aI x2, aI x3, aI x4] [] (mi, RS w, lv) Q := by
  induction n with
  | zero => intro mi x2 x3 x4 r hf h0; exact o_none hf
  | succ n ih => intro mi x2 x3 x4 r hf h0; exact r_X11_store_a57_3 (⟨fun q103 => k_ifp q103 hf (fun q105 => o_rMV q105 h0), fun q104 => k_ifn q104 hf (fun q105 => k_ck q105 (fun q107 q106 => ⟨q107, k_ck q106 (fun q109 q108 => ⟨q109, fun m11 hm11 => k_lt q108 hm11 (fun q110 => ih q110 h0)⟩)⟩))⟩)

def F_X11_store_a57 (mi : MI) (w : WS) (x2 : Int32) (x3 : Int32) : Option MI := L_X11_store_a57_3 w 1000000 mi x2 x3 0

theorem s_X11_store_a57 {gl : Nat} {gx : Nat → Int32} {d : Nat} {P : PL} {Q : PO} {mi : MI} {w : WS} {lv : LV} {x2 : Int32} {x3 : Int32} {r : MI} (hf : F_X11_store_a57 mi w x2 x3 = some r) (h0 : Q aU (r, RS w, lv)) : Wp gl gx d P 205 0 [aR 10 0, aR 57 0, aI x2, aI x3, aU] [] (mi, RS w, lv) Q := r_X11_store_a57_0 (l_X11_store_a57_3 1000000 hf h0)

theorem r_X11_store_a58_3 {gl : Nat} {gx : Nat → Int32} {d : Nat} {P : PL} {Q : PO} {mi : MI} {w : WS} {lv : LV} {x2 : Int32} {x3 : Int32} {x4 : Int32} (h : ((x2 ≤ x4) → Q aU (mi, RS w, lv)) ∧ (¬ (x2 ≤ x4) → (vp_in x4 161) ∧ ((vp_in ((x2 * x3) + x4) 264) ∧ ((∀ m12 : MI, m12 = u3 mi 58 0 (((x2 * x3) + x4).toNatClampNeg) (mi 59 0 x4.toNatClampNeg) → Wp gl gx d P 205 3 [aR 10 0, aR 58 0, aI x2, aI x3, aI (x4 + 1)] [] (m12, RS w, lv) Q))))) : Wp gl gx d P 205 3 [aR 10 0, aR 58 0, aI x2, aI x3, aI x4] [] (mi, RS w, lv) Q := 
  wpT row_205 mt_205 [.iload 4, .iload_n 2, .if_icmp .ge 24] (by decide +kernel) [(30, [.return_]), (9, [.aload_n 1, .iload_n 2, .iload_n 3, .imul, .iload 4, .iadd, .aload_n 0, .getfield 38, .iload 4, .iaload]), (23, [.iastore]), (24, [.iinc 4 1, .goto (.negSucc 23)])] (by decide +kernel) 54 (And.intro (fun q111 => (h.1 q111)) (fun q112 => And.intro (h.2 q112).1 (And.intro (h.2 q112).2.1 (((h.2 q112).2.2 _ rfl)))))

theorem r_X11_store_a58_0 {gl : Nat} {gx : Nat → Int32} {d : Nat} {P : PL} {Q : PO} {mi : MI} {w : WS} {lv : LV} {x2 : Int32} {x3 : Int32} (h : Wp gl gx d P 205 3 [aR 10 0, aR 58 0, aI x2, aI x3, aI 0] [] (mi, RS w, lv) Q) : Wp gl gx d P 205 0 [aR 10 0, aR 58 0, aI x2, aI x3, aU] [] (mi, RS w, lv) Q := 
  wpT row_205 mt_205 [.iconst 0, .istore 4] (by decide +kernel) [] (by decide +kernel) 24 (h)

def L_X11_store_a58_3 (w : WS) : Nat → MI → Int32 → Int32 → Int32 → Option MI
  | 0, _, _, _, _ => none
  | n + 1, mi, x2, x3, x4 => if x2 ≤ x4 then some mi else ck (¬ (x4 < 0 ∨ 161 ≤ x4.toNatClampNeg)) (ck (¬ (((x2 * x3) + x4) < 0 ∨ 264 ≤ ((x2 * x3) + x4).toNatClampNeg)) (lt (u3 mi 58 0 (((x2 * x3) + x4).toNatClampNeg) (mi 59 0 x4.toNatClampNeg)) fun m12 => L_X11_store_a58_3 w n m12 x2 x3 (x4 + 1)))

theorem l_X11_store_a58_3 {gl : Nat} {gx : Nat → Int32} {d : Nat} {P : PL} {Q : PO} {lv : LV} {w : WS} (n : Nat) : ∀ {mi : MI} {x2 : Int32} {x3 : Int32} {x4 : Int32} {r : MI}, L_X11_store_a58_3 w n mi x2 x3 x4 = some r → (Q aU (r, RS w, lv)) → Wp gl gx d P 205 3 [aR 10 0, aR 58 0, aI x2, aI x3, aI x4] [] (mi, RS w, lv) Q := by
  induction n with
  | zero => intro mi x2 x3 x4 r hf h0; exact o_none hf
  | succ n ih => intro mi x2 x3 x4 r hf h0; exact r_X11_store_a58_3 (⟨fun q113 => k_ifp q113 hf (fun q115 => o_rMV q115 h0), fun q114 => k_ifn q114 hf (fun q115 => k_ck q115 (fun q117 q116 => ⟨q117, k_ck q116 (fun q119 q118 => ⟨q119, fun m12 hm12 => k_lt q118 hm12 (fun q120 => ih q120 h0)⟩)⟩))⟩)

def F_X11_store_a58 (mi : MI) (w : WS) (x2 : Int32) (x3 : Int32) : Option MI := L_X11_store_a58_3 w 1000000 mi x2 x3 0

theorem s_X11_store_a58 {gl : Nat} {gx : Nat → Int32} {d : Nat} {P : PL} {Q : PO} {mi : MI} {w : WS} {lv : LV} {x2 : Int32} {x3 : Int32} {r : MI} (hf : F_X11_store_a58 mi w x2 x3 = some r) (h0 : Q aU (r, RS w, lv)) : Wp gl gx d P 205 0 [aR 10 0, aR 58 0, aI x2, aI x3, aU] [] (mi, RS w, lv) Q := r_X11_store_a58_0 (l_X11_store_a58_3 1000000 hf h0)

