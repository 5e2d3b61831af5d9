/-! METHODS AS FUNCTIONS (1): the class -/
theorem k_ifp {α : Type} {G c : Prop} {i : Decidable c} {a b r : α} (q : c) (h : @ite α c i a b = r) (k : a = r → G) : G := by rw [if_pos q] at h; exact k h
theorem k_ifn {α : Type} {G c : Prop} {i : Decidable c} {a b r : α} (q : ¬ c) (h : @ite α c i a b = r) (k : b = r → G) : G := by rw [if_neg q] at h; exact k h
def ck {α : Type} (c : Prop) [Decidable c] (a : Option α) : Option α := if c then a else none
theorem k_ck {α : Type} {G c : Prop} {i : Decidable c} {a : Option α} {r : α} (h : @ck α c i a = some r) (k : c → a = some r → G) : G := by
  unfold ck at h
  by_cases q : c
  · rw [if_pos q] at h; exact k q h
  · rw [if_neg q] at h; cases h
theorem o_none {α : Type} {p : Prop} {r : α} (h : (none : Option α) = some r) : p := by cases h
theorem o_bind {α β : Type} {p : Prop} {o : Option α} {f : α → Option β} {r : β} (h : o.bind f = some r) (k : ∀ v, o = some v → f v = some r → p) : p := by
  cases o with
  | none => cases h
  | some v => exact k v rfl h
def lt {α β : Type} (a : α) (f : α → β) : β := f a
theorem k_lt {α β : Type} {G : Prop} {a m : α} {f : α → β} {r : β} (h : lt a f = r) (e : m = a) (k : f m = r → G) : G := by subst e; exact k h
def onO {β : Type} (o : Option Nat) (a : β) (f : Nat → β) : β := match o with
  | none => a
  | some j => f j
theorem k_oN {β : Type} {G : Prop} {o : Option Nat} {a r : β} {f : Nat → β} (e : o = none) (h : onO o a f = r) (k : a = r → G) : G := by subst e; exact k h
theorem k_oS {β : Type} {G : Prop} {o : Option Nat} {j : Nat} {a r : β} {f : Nat → β} (e : o = some j) (h : onO o a f = r) (k : f j = r → G) : G := by subst e; exact k h
theorem o_rP {Q : PO} {v r : Int32} {M : MM} (hf : some v = some r) (h : Q (aI r) M) : Q (aI v) M := by cases hf; exact h
theorem o_rW {Q : PO} {v : Int32} {mi : MI} {w : WS} {lv : LV} {r : Int32 × MI × WS} (hf : some (v, mi, w) = some r) (h : Q (aI r.1) (r.2.1, RS r.2.2, lv)) : Q (aI v) (mi, RS w, lv) := by cases hf; exact h
theorem o_rV {Q : PO} {mi : MI} {w : WS} {lv : LV} {r : MI × WS} (hf : some (mi, w) = some r) (h : Q aU (r.1, RS r.2, lv)) : Q aU (mi, RS w, lv) := by cases hf; exact h
theorem o_rN {G : Prop} {r : Option Nat} (hf : some none = some r) (h : r = none → G) : G := by cases hf; exact h rfl
theorem o_rS {Q : PO} {k j : Nat} {M : MM} {r : Option Nat} (hf : some (some j) = some r) (h : ∀ j, r = some j → Q (aR k j) M) : Q (aR k j) M := by cases hf; exact h j rfl
theorem nb_01 {x : Int32} (h : x = 0 ∨ x = 1) : narrow .boolean (.int x) = .int x := by rcases h with h | h <;> subst h <;> rfl
theorem sw_o {x a b c : Int32} (h : x < a ∨ b < x) (h1 : a ≤ c) (h2 : c ≤ b) : ¬ x = c := by
  intro e; subst e
  rcases h with h | h
  · exact Int32.lt_irrefl (Int32.lt_of_lt_of_le h h1)
  · exact Int32.lt_irrefl (Int32.lt_of_lt_of_le h h2)
theorem sw_n {x a b : Int32} (h : x = a) (h1 : ¬ a = b) : ¬ x = b := by subst h; exact h1
abbrev row_1 : MT := (⟨"StencilHouse$Day", "add", "(IIII)V"⟩, prog_2_method_2_code, 6, none, 1, lk_0)
theorem mt_1 : mt 1 = some row_1 := rfl
theorem r_X0_add_0 {gl : Nat} {gx : Nat → Int32} {d : Nat} {P : PL} {Q : PO} {mi : MI} {w : WS} {lv : LV} {i : Nat} {x1 : Int32} {x2 : Int32} {x3 : Int32} {x4 : Int32} (h : (((mi 0 i 0) < 40) → (vp_in ((mi 0 i 0) * 4) 160) ∧ ((∀ m1 : MI, m1 = u3 mi 29 i (((mi 0 i 0) * 4).toNatClampNeg) x1 → (vp_in (((mi 0 i 0) * 4) + 1) 160) ∧ ((∀ m2 : MI, m2 = u3 m1 29 i ((((mi 0 i 0) * 4) + 1).toNatClampNeg) x2 → (vp_in (((mi 0 i 0) * 4) + 2) 160) ∧ ((∀ m3 : MI, m3 = u3 m2 29 i ((((mi 0 i 0) * 4) + 2).toNatClampNeg) x3 → (vp_in (((mi 0 i 0) * 4) + 3) 160) ∧ ((∀ m4 : MI, m4 = u3 m3 29 i ((((mi 0 i 0) * 4) + 3).toNatClampNeg) x4 → Q aU (u3 m4 0 i 0 ((m4 0 i 0) + 1), RS w, lv)))))))))) ∧ (¬ ((mi 0 i 0) < 40) → Q aU (mi, RS w, lv))) : Wp gl gx d P 1 0 [aR 0 i, aI x1, aI x2, aI x3, aI x4, aU] [] (mi, RS w, lv) Q :=
  wpT row_1 mt_1 [.aload_n 0, .getfield 9, .bipush 40, .if_icmp .lt 4] (by decide +kernel) [(10, [.aload_n 0, .getfield 9, .iconst 4, .imul, .istore 5, .aload_n 0, .getfield 15, .iload 5, .iload_n 1, .iastore]), (26, [.aload_n 0, .getfield 15, .iload 5, .iconst 1, .iadd, .iload_n 2, .iastore]), (36, [.aload_n 0, .getfield 15, .iload 5, .iconst 2, .iadd, .iload_n 3, .iastore]), (46, [.aload_n 0, .getfield 15, .iload 5, .iconst 3, .iadd, .iload 4, .iastore]), (57, [.aload_n 0, .dup, .getfield 9, .iconst 1, .iadd, .putfield 9, .return_]), (9, [.return_])] (by decide +kernel) 106 (And.intro (fun q1 => And.intro (h.1 q1).1 (And.intro ((h.1 q1).2 _ rfl).1 (And.intro (((h.1 q1).2 _ rfl).2 _ rfl).1 (And.intro ((((h.1 q1).2 _ rfl).2 _ rfl).2 _ rfl).1 ((((((h.1 q1).2 _ rfl).2 _ rfl).2 _ rfl).2 _ rfl)))))) (fun q2 => (h.2 q2)))

def F_X0_add (mi : MI) (w : WS) (i : Nat) (x1 : Int32) (x2 : Int32) (x3 : Int32) (x4 : Int32) : Option (MI × WS) := if (mi 0 i 0) < 40 then ck (¬ (((mi 0 i 0) * 4) < 0 ∨ 160 ≤ ((mi 0 i 0) * 4).toNatClampNeg)) (lt (u3 mi 29 i (((mi 0 i 0) * 4).toNatClampNeg) x1) fun m1 => ck (¬ ((((mi 0 i 0) * 4) + 1) < 0 ∨ 160 ≤ (((mi 0 i 0) * 4) + 1).toNatClampNeg)) (lt (u3 m1 29 i ((((mi 0 i 0) * 4) + 1).toNatClampNeg) x2) fun m2 => ck (¬ ((((mi 0 i 0) * 4) + 2) < 0 ∨ 160 ≤ (((mi 0 i 0) * 4) + 2).toNatClampNeg)) (lt (u3 m2 29 i ((((mi 0 i 0) * 4) + 2).toNatClampNeg) x3) fun m3 => ck (¬ ((((mi 0 i 0) * 4) + 3) < 0 ∨ 160 ≤ (((mi 0 i 0) * 4) + 3).toNatClampNeg)) (lt (u3 m3 29 i ((((mi 0 i 0) * 4) + 3).toNatClampNeg) x4) fun m4 => some (u3 m4 0 i 0 ((m4 0 i 0) + 1), w))))) else some (mi, w)

theorem s_X0_add {gl : Nat} {gx : Nat → Int32} {d : Nat} {P : PL} {Q : PO} {mi : MI} {w : WS} {lv : LV} {i : Nat} {x1 : Int32} {x2 : Int32} {x3 : Int32} {x4 : Int32} {r : (MI × WS)} (hf : F_X0_add mi w i x1 x2 x3 x4 = some r) (h0 : Q aU (r.1, RS r.2, lv)) : Wp gl gx d P 1 0 [aR 0 i, aI x1, aI x2, aI x3, aI x4, aU] [] (mi, RS w, lv) Q := r_X0_add_0 (⟨fun q3 => k_ifp q3 hf (fun q5 => k_ck q5 (fun q7 q6 => ⟨q7, fun m1 hm1 => k_lt q6 hm1 (fun q8 => k_ck q8 (fun q10 q9 => ⟨q10, fun m2 hm2 => k_lt q9 hm2 (fun q11 => k_ck q11 (fun q13 q12 => ⟨q13, fun m3 hm3 => k_lt q12 hm3 (fun q14 => k_ck q14 (fun q16 q15 => ⟨q16, fun m4 hm4 => k_lt q15 hm4 (fun q17 => o_rV q17 h0)⟩))⟩))⟩))⟩)), fun q4 => k_ifn q4 hf (fun q5 => o_rV q5 h0)⟩)

abbrev row_2 : MT := (⟨"StencilHouse$Day", "part", "(II)I"⟩, prog_2_method_3_code, 3, some .int, 1, lk_0)
theorem mt_2 : mt 2 = some row_2 := rfl
theorem r_X0_part_0 {gl : Nat} {gx : Nat → Int32} {d : Nat} {P : PL} {Q : PO} {mi : MI} {w : WS} {lv : LV} {i : Nat} {x1 : Int32} {x2 : Int32} (h : (vp_in ((x1 * 4) + x2) 160) ∧ (Q (aI (mi 29 i (((x1 * 4) + x2).toNatClampNeg))) (mi, RS w, lv))) : Wp gl gx d P 2 0 [aR 0 i, aI x1, aI x2] [] (mi, RS w, lv) Q :=
  wpT row_2 mt_2 [.aload_n 0, .getfield 15, .iload_n 1, .iconst 4, .imul, .iload_n 2, .iadd, .iaload] (by decide +kernel) [(10, [.ireturn])] (by decide +kernel) 38 (And.intro h.1 (h.2))

def F_X0_part (mi : MI) (w : WS) (i : Nat) (x1 : Int32) (x2 : Int32) : Option Int32 := ck (¬ (((x1 * 4) + x2) < 0 ∨ 160 ≤ ((x1 * 4) + x2).toNatClampNeg)) (some (mi 29 i (((x1 * 4) + x2).toNatClampNeg)))

theorem s_X0_part {gl : Nat} {gx : Nat → Int32} {d : Nat} {P : PL} {Q : PO} {mi : MI} {w : WS} {lv : LV} {i : Nat} {x1 : Int32} {x2 : Int32} {r : Int32} (hf : F_X0_part mi w i x1 x2 = some r) (h0 : Q (aI r) (mi, RS w, lv)) : Wp gl gx d P 2 0 [aR 0 i, aI x1, aI x2] [] (mi, RS w, lv) Q := r_X0_part_0 (k_ck hf (fun q19 q18 => ⟨q19, o_rP q18 h0⟩))

abbrev row_3 : MT := (⟨"StencilHouse$Day", "copyFrom", "(LStencilHouse$Day;)V"⟩, prog_2_method_4_code, 2, none, 1, lk_0)
theorem mt_3 : mt 3 = some row_3 := rfl
theorem r_X0_copyFrom_0 {gl : Nat} {gx : Nat → Int32} {d : Nat} {P : PL} {Q : PO} {mi : MI} {w : WS} {lv : LV} {i : Nat} {i1 : Nat} (h : (∀ m5 : MI, m5 = u2 (u3 mi 0 i 0 (mi 0 i1 0)) 29 i (va_cpy ((u3 mi 0 i 0 (mi 0 i1 0)) 29 i1) ((u3 mi 0 i 0 (mi 0 i1 0)) 29 i) 0 0 160) → Q aU (m5, RS w, lv))) : Wp gl gx (d + 1) P 3 0 [aR 0 i, aR 0 i1] [] (mi, RS w, lv) Q :=
  wpT row_3 mt_3 [.aload_n 0, .aload_n 1, .getfield 9, .putfield 9, .aload_n 1, .getfield 15, .iconst 0, .aload_n 0, .getfield 15, .iconst 0, .aload_n 0, .getfield 15, .arraylength, .invokestatic 19] (by decide +kernel) [(26, [.return_])] (by decide +kernel) 50 (And.intro ⟨Nat.le_of_ble_eq_true rfl, by decide, by decide, by decide, by decide, by decide⟩ ((h _ rfl)))

def F_X0_copyFrom (mi : MI) (w : WS) (i : Nat) (i1 : Nat) : Option (MI × WS) := lt (u2 (u3 mi 0 i 0 (mi 0 i1 0)) 29 i (va_cpy ((u3 mi 0 i 0 (mi 0 i1 0)) 29 i1) ((u3 mi 0 i 0 (mi 0 i1 0)) 29 i) 0 0 160)) fun m5 => some (m5, w)

theorem s_X0_copyFrom {gl : Nat} {gx : Nat → Int32} {d : Nat} {P : PL} {Q : PO} {mi : MI} {w : WS} {lv : LV} {i : Nat} {i1 : Nat} {r : (MI × WS)} (hf : F_X0_copyFrom mi w i i1 = some r) (h0 : Q aU (r.1, RS r.2, lv)) : Wp gl gx (d + 1) P 3 0 [aR 0 i, aR 0 i1] [] (mi, RS w, lv) Q := r_X0_copyFrom_0 (fun m5 hm5 => k_lt hf hm5 (fun q20 => o_rV q20 h0))

abbrev row_62 : MT := (⟨"StencilHouse$Picture", "clear", "()V"⟩, prog_6_method_2_code, 2, none, 1, lk_4)
theorem mt_62 : mt 62 = some row_62 := rfl
theorem r_X4_clear_2 {gl : Nat} {gx : Nat → Int32} {d : Nat} {P : PL} {Q : PO} {mi : MI} {w : WS} {lv : LV} {i : Nat} {x1 : Int32} (h : ((25 ≤ x1) → Q aU (mi, RS w, lv)) ∧ (¬ (25 ≤ x1) → (vp_in x1 25) ∧ ((∀ m6 : MI, m6 = u3 mi 30 i x1.toNatClampNeg 0 → Wp gl gx d P 62 2 [aR 3 i, aI (x1 + 1)] [] (m6, RS w, lv) Q)))) : Wp gl gx d P 62 2 [aR 3 i, aI x1] [] (mi, RS w, lv) Q :=
  wpT row_62 mt_62 [.iload_n 1, .aload_n 0, .getfield 9, .arraylength, .if_icmp .ge 16] (by decide +kernel) [(24, [.return_]), (11, [.aload_n 0, .getfield 9, .iload_n 1, .iconst 0, .iastore]), (18, [.iinc 1 1, .goto (.negSucc 18)])] (by decide +kernel) 46 (And.intro (fun q21 => (h.1 q21)) (fun q22 => And.intro (h.2 q22).1 (((h.2 q22).2 _ rfl))))

theorem r_X4_clear_0 {gl : Nat} {gx : Nat → Int32} {d : Nat} {P : PL} {Q : PO} {mi : MI} {w : WS} {lv : LV} {i : Nat} (h : Wp gl gx d P 62 2 [aR 3 i, aI 0] [] (mi, RS w, lv) Q) : Wp gl gx d P 62 0 [aR 3 i, aU] [] (mi, RS w, lv) Q :=
  wpT row_62 mt_62 [.iconst 0, .istore_n 1] (by decide +kernel) [] (by decide +kernel) 24 (h)

def L_X4_clear_2 : Nat → MI → WS → Nat → Int32 → Option (MI × WS)
  | 0, _, _, _, _ => none
  | n + 1, mi, w, i, x1 => if 25 ≤ x1 then some (mi, w) else ck (¬ (x1 < 0 ∨ 25 ≤ x1.toNatClampNeg)) (lt (u3 mi 30 i x1.toNatClampNeg 0) fun m6 => L_X4_clear_2 n m6 w i (x1 + 1))

theorem l_X4_clear_2 {gl : Nat} {gx : Nat → Int32} {d : Nat} {P : PL} {Q : PO} {lv : LV} (n : Nat) : ∀ {mi : MI} {w : WS} {i : Nat} {x1 : Int32} {r : (MI × WS)}, L_X4_clear_2 n mi w i x1 = some r → (Q aU (r.1, RS r.2, lv)) → Wp gl gx d P 62 2 [aR 3 i, aI x1] [] (mi, RS w, lv) Q := by
  induction n with
  | zero => intro mi w i x1 r hf h0; exact o_none hf
  | succ n ih => intro mi w i x1 r hf h0; exact r_X4_clear_2 (⟨fun q23 => k_ifp q23 hf (fun q25 => o_rV q25 h0), fun q24 => k_ifn q24 hf (fun q25 => k_ck q25 (fun q27 q26 => ⟨q27, fun m6 hm6 => k_lt q26 hm6 (fun q28 => ih q28 h0)⟩))⟩)

def F_X4_clear (mi : MI) (w : WS) (i : Nat) : Option (MI × WS) := L_X4_clear_2 1000000 mi w i 0

theorem s_X4_clear {gl : Nat} {gx : Nat → Int32} {d : Nat} {P : PL} {Q : PO} {mi : MI} {w : WS} {lv : LV} {i : Nat} {r : (MI × WS)} (hf : F_X4_clear mi w i = some r) (h0 : Q aU (r.1, RS r.2, lv)) : Wp gl gx d P 62 0 [aR 3 i, aU] [] (mi, RS w, lv) Q := r_X4_clear_0 (l_X4_clear_2 1000000 hf h0)

abbrev row_63 : MT := (⟨"StencilHouse$Picture", "copyFrom", "(LStencilHouse$Picture;)V"⟩, prog_6_method_3_code, 2, none, 1, lk_4)
theorem mt_63 : mt 63 = some row_63 := rfl
theorem r_X4_copyFrom_0 {gl : Nat} {gx : Nat → Int32} {d : Nat} {P : PL} {Q : PO} {mi : MI} {w : WS} {lv : LV} {i : Nat} {i1 : Nat} (h : (∀ m7 : MI, m7 = u2 mi 30 i (va_cpy (mi 30 i1) (mi 30 i) 0 0 25) → Q aU (m7, RS w, lv))) : Wp gl gx (d + 1) P 63 0 [aR 3 i, aR 3 i1] [] (mi, RS w, lv) Q :=
  wpT row_63 mt_63 [.aload_n 1, .getfield 9, .iconst 0, .aload_n 0, .getfield 9, .iconst 0, .aload_n 0, .getfield 9, .arraylength, .invokestatic 15] (by decide +kernel) [(18, [.return_])] (by decide +kernel) 42 (And.intro ⟨Nat.le_of_ble_eq_true rfl, by decide, by decide, by decide, by decide, by decide⟩ ((h _ rfl)))

def F_X4_copyFrom (mi : MI) (w : WS) (i : Nat) (i1 : Nat) : Option (MI × WS) := lt (u2 mi 30 i (va_cpy (mi 30 i1) (mi 30 i) 0 0 25)) fun m7 => some (m7, w)

theorem s_X4_copyFrom {gl : Nat} {gx : Nat → Int32} {d : Nat} {P : PL} {Q : PO} {mi : MI} {w : WS} {lv : LV} {i : Nat} {i1 : Nat} {r : (MI × WS)} (hf : F_X4_copyFrom mi w i i1 = some r) (h0 : Q aU (r.1, RS r.2, lv)) : Wp gl gx (d + 1) P 63 0 [aR 3 i, aR 3 i1] [] (mi, RS w, lv) Q := r_X4_copyFrom_0 (fun m7 hm7 => k_lt hf hm7 (fun q29 => o_rV q29 h0))

abbrev row_64 : MT := (⟨"StencilHouse$Picture", "colourAt", "(II)I"⟩, prog_6_method_4_code, 3, some .int, 1, lk_4)
theorem mt_64 : mt 64 = some row_64 := rfl
theorem r_X4_colourAt_0 {gl : Nat} {gx : Nat → Int32} {d : Nat} {P : PL} {Q : PO} {mi : MI} {w : WS} {lv : LV} {i : Nat} {x1 : Int32} {x2 : Int32} (h : (vp_in ((x2 * 5) + x1) 25) ∧ (Q (aI (mi 30 i (((x2 * 5) + x1).toNatClampNeg))) (mi, RS w, lv))) : Wp gl gx d P 64 0 [aR 3 i, aI x1, aI x2] [] (mi, RS w, lv) Q :=
  wpT row_64 mt_64 [.aload_n 0, .getfield 9, .iload_n 2, .iconst 5, .imul, .iload_n 1, .iadd, .iaload] (by decide +kernel) [(10, [.ireturn])] (by decide +kernel) 38 (And.intro h.1 (h.2))

def F_X4_colourAt (mi : MI) (w : WS) (i : Nat) (x1 : Int32) (x2 : Int32) : Option Int32 := ck (¬ (((x2 * 5) + x1) < 0 ∨ 25 ≤ ((x2 * 5) + x1).toNatClampNeg)) (some (mi 30 i (((x2 * 5) + x1).toNatClampNeg)))

theorem s_X4_colourAt {gl : Nat} {gx : Nat → Int32} {d : Nat} {P : PL} {Q : PO} {mi : MI} {w : WS} {lv : LV} {i : Nat} {x1 : Int32} {x2 : Int32} {r : Int32} (hf : F_X4_colourAt mi w i x1 x2 = some r) (h0 : Q (aI r) (mi, RS w, lv)) : Wp gl gx d P 64 0 [aR 3 i, aI x1, aI x2] [] (mi, RS w, lv) Q := r_X4_colourAt_0 (k_ck hf (fun q31 q30 => ⟨q31, o_rP q30 h0⟩))

abbrev row_65 : MT := (⟨"StencilHouse$Picture", "placesOf", "(I)I"⟩, prog_6_method_5_code, 4, some .int, 1, lk_4)
theorem mt_65 : mt 65 = some row_65 := rfl
theorem r_X4_placesOf_26 {gl : Nat} {gx : Nat → Int32} {d : Nat} {P : PL} {Q : PO} {mi : MI} {w : WS} {lv : LV} {i : Nat} {x1 : Int32} {x2 : Int32} {x3 : Int32} (h : Wp gl gx d P 65 4 [aR 3 i, aI x1, aI x2, aI (x3 + 1)] [] (mi, RS w, lv) Q) : Wp gl gx d P 65 26 [aR 3 i, aI x1, aI x2, aI x3] [] (mi, RS w, lv) Q :=
  wpT row_65 mt_65 [.iinc 3 1, .goto (.negSucc 24)] (by decide +kernel) [] (by decide +kernel) 24 (h)

theorem r_X4_placesOf_4 {gl : Nat} {gx : Nat → Int32} {d : Nat} {P : PL} {Q : PO} {mi : MI} {w : WS} {lv : LV} {i : Nat} {x1 : Int32} {x2 : Int32} {x3 : Int32} (h : ((25 ≤ x3) → Q (aI x2) (mi, RS w, lv)) ∧ (¬ (25 ≤ x3) → (vp_in x3 25) ∧ (Wp gl gx d P 65 4 [aR 3 i, aI x1, aI (if (mi 30 i x3.toNatClampNeg) = x1 then x2 + 1 else x2), aI (x3 + 1)] [] (mi, RS w, lv) Q))) : Wp gl gx d P 65 4 [aR 3 i, aI x1, aI x2, aI x3] [] (mi, RS w, lv) Q :=
  wpT row_65 mt_65 [.iload_n 3, .aload_n 0, .getfield 9, .arraylength, .if_icmp .ge 22] (by decide +kernel) [(32, [.iload_n 2, .ireturn]), (13, [.aload_n 0, .getfield 9, .iload_n 3, .iaload]), (19, [.iload_n 1, .if_icmp .ne 6]), (23, [.iinc 2 1])] (by decide +kernel) 48 (And.intro (fun q32 => (h.1 q32)) (fun q33 => And.intro (h.2 q33).1 (And.intro (fun q34 => r_X4_placesOf_26 (i := i) (x1 := x1) (x2 := x2) (x3 := x3) (mi := mi) (mv9 (fun v => Wp gl gx d P 65 4 [aR 3 i, aI x1, aI v, aI (x3 + 1)] [] (mi, RS w, lv) Q) (show (if (mi 30 i x3.toNatClampNeg) = x1 then x2 + 1 else x2) = x2 from if_neg (show ¬ ((mi 30 i x3.toNatClampNeg) = x1) from q34)) ((h.2 q33).2))) (fun q35 => r_X4_placesOf_26 (i := i) (x1 := x1) (x2 := (x2 + 1)) (x3 := x3) (mi := mi) (mv9 (fun v => Wp gl gx d P 65 4 [aR 3 i, aI x1, aI v, aI (x3 + 1)] [] (mi, RS w, lv) Q) (show (if (mi 30 i x3.toNatClampNeg) = x1 then x2 + 1 else x2) = (x2 + 1) from if_pos (show (mi 30 i x3.toNatClampNeg) = x1 from q35)) ((h.2 q33).2))))))

theorem r_X4_placesOf_0 {gl : Nat} {gx : Nat → Int32} {d : Nat} {P : PL} {Q : PO} {mi : MI} {w : WS} {lv : LV} {i : Nat} {x1 : Int32} (h : Wp gl gx d P 65 4 [aR 3 i, aI x1, aI 0, aI 0] [] (mi, RS w, lv) Q) : Wp gl gx d P 65 0 [aR 3 i, aI x1, aU, aU] [] (mi, RS w, lv) Q :=
  wpT row_65 mt_65 [.iconst 0, .istore_n 2, .iconst 0, .istore_n 3] (by decide +kernel) [] (by decide +kernel) 28 (h)

def L_X4_placesOf_4 (mi : MI) (w : WS) : Nat → Nat → Int32 → Int32 → Int32 → Option Int32
  | 0, _, _, _, _ => none
  | n + 1, i, x1, x2, x3 => if 25 ≤ x3 then some x2 else ck (¬ (x3 < 0 ∨ 25 ≤ x3.toNatClampNeg)) (L_X4_placesOf_4 mi w n i x1 (if (mi 30 i x3.toNatClampNeg) = x1 then x2 + 1 else x2) (x3 + 1))

theorem l_X4_placesOf_4 {gl : Nat} {gx : Nat → Int32} {d : Nat} {P : PL} {Q : PO} {lv : LV} {mi : MI} {w : WS} (n : Nat) : ∀ {i : Nat} {x1 : Int32} {x2 : Int32} {x3 : Int32} {r : Int32}, L_X4_placesOf_4 mi w n i x1 x2 x3 = some r → (Q (aI r) (mi, RS w, lv)) → Wp gl gx d P 65 4 [aR 3 i, aI x1, aI x2, aI x3] [] (mi, RS w, lv) Q := by
  induction n with
  | zero => intro i x1 x2 x3 r hf h0; exact o_none hf
  | succ n ih => intro i x1 x2 x3 r hf h0; exact r_X4_placesOf_4 (⟨fun q36 => k_ifp q36 hf (fun q38 => o_rP q38 h0), fun q37 => k_ifn q37 hf (fun q38 => k_ck q38 (fun q40 q39 => ⟨q40, ih q39 h0⟩))⟩)

def F_X4_placesOf (mi : MI) (w : WS) (i : Nat) (x1 : Int32) : Option Int32 := L_X4_placesOf_4 mi w 1000000 i x1 0 0

theorem s_X4_placesOf {gl : Nat} {gx : Nat → Int32} {d : Nat} {P : PL} {Q : PO} {mi : MI} {w : WS} {lv : LV} {i : Nat} {x1 : Int32} {r : Int32} (hf : F_X4_placesOf mi w i x1 = some r) (h0 : Q (aI r) (mi, RS w, lv)) : Wp gl gx d P 65 0 [aR 3 i, aI x1, aU, aU] [] (mi, RS w, lv) Q := r_X4_placesOf_0 (l_X4_placesOf_4 1000000 hf h0)

abbrev row_66 : MT := (⟨"StencilHouse$Picture", "cellsOf", "(LStencilHouse$Shop;I)I"⟩, prog_6_method_6_code, 6, some .int, 1, lk_4)
theorem mt_66 : mt 66 = some row_66 := rfl
theorem r_X4_cellsOf_53 {gl : Nat} {gx : Nat → Int32} {d : Nat} {P : PL} {Q : PO} {mi : MI} {w : WS} {lv : LV} {i : Nat} {i1 : Nat} {x2 : Int32} {x3 : Int32} {x4 : Int32} {x5 : Int32} (h : Wp gl gx (d + 1) P 66 17 [aR 3 i, aR 5 i1, aI x2, aI x3, aI x4, aI (x5 + 1)] [] (mi, RS w, lv) Q) : Wp gl gx (d + 1) P 66 53 [aR 3 i, aR 5 i1, aI x2, aI x3, aI x4, aI x5] [] (mi, RS w, lv) Q :=
  wpT row_66 mt_66 [.iinc 5 1, .goto (.negSucc 38)] (by decide +kernel) [] (by decide +kernel) 24 (h)

theorem r_X4_cellsOf_17 {gl : Nat} {gx : Nat → Int32} {d : Nat} {P : PL} {Q : PO} {mi : MI} {w : WS} {lv : LV} {i : Nat} {i1 : Nat} {x2 : Int32} {x3 : Int32} {x4 : Int32} {x5 : Int32} (h : (((mi 5 i1 0) ≤ x5) → Wp gl gx (d + 1) P 66 5 [aR 3 i, aR 5 i1, aI x2, aI x3, aI (x4 + 1), aI x5] [] (mi, RS w, lv) Q) ∧ (¬ ((mi 5 i1 0) ≤ x5) → (∃ c8 : Int32, F_X4_colourAt mi w i x5 x4 = some c8 ∧ Wp gl gx (d + 1) P 66 17 [aR 3 i, aR 5 i1, aI x2, aI (if c8 = x2 then x3 ||| ((1 : Int32) <<< (((x4 * (mi 5 i1 0)) + x5) &&& 31)) else x3), aI x4, aI (x5 + 1)] [] (mi, RS w, lv) Q))) : Wp gl gx (d + 1) P 66 17 [aR 3 i, aR 5 i1, aI x2, aI x3, aI x4, aI x5] [] (mi, RS w, lv) Q :=
  wpT row_66 mt_66 [.iload 5, .aload_n 1, .getfield 27, .if_icmp .ge 36] (by decide +kernel) [(59, [.iinc 4 1, .goto (.negSucc 56)]), (26, [.aload_n 0, .iload 5, .iload 4, .invokevirtual 30]), (34, [.iload_n 2, .if_icmp .ne 18]), (38, [.iload_n 3, .iconst 1, .iload 4, .aload_n 1, .getfield 27, .imul, .iload 5, .iadd, .ishl, .ior, .istore_n 3])] (by decide +kernel) 66 (And.intro (fun q41 => (h.1 q41)) (fun q42 => Exists.elim (h.2 q42) (fun c8 zc8 => And.intro ⟨Nat.le_of_ble_eq_true rfl, rfl, rfl⟩ (s_X4_colourAt (d := d) zc8.1 (And.intro (fun q43 => r_X4_cellsOf_53 (i := i) (i1 := i1) (x2 := x2) (x3 := x3) (x4 := x4) (x5 := x5) (mi := mi) (mv9 (fun v => Wp gl gx (d + 1) P 66 17 [aR 3 i, aR 5 i1, aI x2, aI v, aI x4, aI (x5 + 1)] [] (mi, RS w, lv) Q) (show (if c8 = x2 then x3 ||| ((1 : Int32) <<< (((x4 * (mi 5 i1 0)) + x5) &&& 31)) else x3) = x3 from if_neg (show ¬ (c8 = x2) from q43)) zc8.2)) (fun q44 => r_X4_cellsOf_53 (i := i) (i1 := i1) (x2 := x2) (x3 := (x3 ||| ((1 : Int32) <<< (((x4 * (mi 5 i1 0)) + x5) &&& 31)))) (x4 := x4) (x5 := x5) (mi := mi) (mv9 (fun v => Wp gl gx (d + 1) P 66 17 [aR 3 i, aR 5 i1, aI x2, aI v, aI x4, aI (x5 + 1)] [] (mi, RS w, lv) Q) (show (if c8 = x2 then x3 ||| ((1 : Int32) <<< (((x4 * (mi 5 i1 0)) + x5) &&& 31)) else x3) = (x3 ||| ((1 : Int32) <<< (((x4 * (mi 5 i1 0)) + x5) &&& 31))) from if_pos (show c8 = x2 from q44)) zc8.2)))))))

theorem r_X4_cellsOf_5 {gl : Nat} {gx : Nat → Int32} {d : Nat} {P : PL} {Q : PO} {mi : MI} {w : WS} {lv : LV} {i : Nat} {i1 : Nat} {x2 : Int32} {x3 : Int32} {x4 : Int32} {v5 : AV} (h : (((mi 5 i1 1) ≤ x4) → Q (aI x3) (mi, RS w, lv)) ∧ (¬ ((mi 5 i1 1) ≤ x4) → Wp gl gx (d + 1) P 66 17 [aR 3 i, aR 5 i1, aI x2, aI x3, aI x4, aI 0] [] (mi, RS w, lv) Q)) : Wp gl gx (d + 1) P 66 5 [aR 3 i, aR 5 i1, aI x2, aI x3, aI x4, v5] [] (mi, RS w, lv) Q :=
  wpT row_66 mt_66 [.iload 4, .aload_n 1, .getfield 21, .if_icmp .ge 54] (by decide +kernel) [(65, [.iload_n 3, .ireturn]), (14, [.iconst 0, .istore 5])] (by decide +kernel) 36 (And.intro (fun q45 => (h.1 q45)) (fun q46 => (h.2 q46)))

theorem r_X4_cellsOf_0 {gl : Nat} {gx : Nat → Int32} {d : Nat} {P : PL} {Q : PO} {mi : MI} {w : WS} {lv : LV} {i : Nat} {i1 : Nat} {x2 : Int32} (h : Wp gl gx (d + 1) P 66 5 [aR 3 i, aR 5 i1, aI x2, aI 0, aI 0, aU] [] (mi, RS w, lv) Q) : Wp gl gx (d + 1) P 66 0 [aR 3 i, aR 5 i1, aI x2, aU, aU, aU] [] (mi, RS w, lv) Q :=
  wpT row_66 mt_66 [.iconst 0, .istore_n 3, .iconst 0, .istore 4] (by decide +kernel) [] (by decide +kernel) 28 (h)

def L_X4_cellsOf_17 (mi : MI) (w : WS) (k5 : Nat → Nat → Int32 → Int32 → Int32 → Option Int32) : Nat → Nat → Nat → Int32 → Int32 → Int32 → Int32 → Option Int32
  | 0, _, _, _, _, _, _ => none
  | n + 1, i, i1, x2, x3, x4, x5 => if (mi 5 i1 0) ≤ x5 then k5 i i1 x2 x3 (x4 + 1) else (F_X4_colourAt mi w i x5 x4).bind fun c8 => L_X4_cellsOf_17 mi w k5 n i i1 x2 (if c8 = x2 then x3 ||| ((1 : Int32) <<< (((x4 * (mi 5 i1 0)) + x5) &&& 31)) else x3) x4 (x5 + 1)

theorem l_X4_cellsOf_17 {gl : Nat} {gx : Nat → Int32} {d : Nat} {P : PL} {Q : PO} {lv : LV} {mi : MI} {w : WS} {k5 : Nat → Nat → Int32 → Int32 → Int32 → Option Int32} (hk5 : ∀ {i : Nat} {i1 : Nat} {x2 : Int32} {x3 : Int32} {x4 : Int32} {v5 : AV} {r : Int32}, k5 i i1 x2 x3 x4 = some r → (Q (aI r) (mi, RS w, lv)) → Wp gl gx (d + 1) P 66 5 [aR 3 i, aR 5 i1, aI x2, aI x3, aI x4, v5] [] (mi, RS w, lv) Q) (n : Nat) : ∀ {i : Nat} {i1 : Nat} {x2 : Int32} {x3 : Int32} {x4 : Int32} {x5 : Int32} {r : Int32}, L_X4_cellsOf_17 mi w k5 n i i1 x2 x3 x4 x5 = some r → (Q (aI r) (mi, RS w, lv)) → Wp gl gx (d + 1) P 66 17 [aR 3 i, aR 5 i1, aI x2, aI x3, aI x4, aI x5] [] (mi, RS w, lv) Q := by
  induction n with
  | zero => intro i i1 x2 x3 x4 x5 r hf h0; exact o_none hf
  | succ n ih => intro i i1 x2 x3 x4 x5 r hf h0; exact r_X4_cellsOf_17 (⟨fun q47 => k_ifp q47 hf (fun q49 => hk5 q49 h0), fun q48 => k_ifn q48 hf (fun q49 => o_bind q49 (fun c8 qc8 pc8 => ⟨c8, qc8, ih pc8 h0⟩))⟩)

def L_X4_cellsOf_5 (mi : MI) (w : WS) : Nat → Nat → Nat → Int32 → Int32 → Int32 → Option Int32
  | 0, _, _, _, _, _ => none
  | n + 1, i, i1, x2, x3, x4 => if (mi 5 i1 1) ≤ x4 then some x3 else L_X4_cellsOf_17 mi w (fun i i1 x2 x3 x4 => L_X4_cellsOf_5 mi w n i i1 x2 x3 x4) 1000000 i i1 x2 x3 x4 0

theorem l_X4_cellsOf_5 {gl : Nat} {gx : Nat → Int32} {d : Nat} {P : PL} {Q : PO} {lv : LV} {mi : MI} {w : WS} (n : Nat) : ∀ {i : Nat} {i1 : Nat} {x2 : Int32} {x3 : Int32} {x4 : Int32} {v5 : AV} {r : Int32}, L_X4_cellsOf_5 mi w n i i1 x2 x3 x4 = some r → (Q (aI r) (mi, RS w, lv)) → Wp gl gx (d + 1) P 66 5 [aR 3 i, aR 5 i1, aI x2, aI x3, aI x4, v5] [] (mi, RS w, lv) Q := by
  induction n with
  | zero => intro i i1 x2 x3 x4 v5 r hf h0; exact o_none hf
  | succ n ih => intro i i1 x2 x3 x4 v5 r hf h0; exact r_X4_cellsOf_5 (⟨fun q50 => k_ifp q50 hf (fun q52 => o_rP q52 h0), fun q51 => k_ifn q51 hf (fun q52 => l_X4_cellsOf_17 (fun hf h0 => ih hf h0) 1000000 q52 h0)⟩)

def F_X4_cellsOf (mi : MI) (w : WS) (i : Nat) (i1 : Nat) (x2 : Int32) : Option Int32 := L_X4_cellsOf_5 mi w 1000000 i i1 x2 0 0

theorem s_X4_cellsOf {gl : Nat} {gx : Nat → Int32} {d : Nat} {P : PL} {Q : PO} {mi : MI} {w : WS} {lv : LV} {i : Nat} {i1 : Nat} {x2 : Int32} {r : Int32} (hf : F_X4_cellsOf mi w i i1 x2 = some r) (h0 : Q (aI r) (mi, RS w, lv)) : Wp gl gx (d + 1) P 66 0 [aR 3 i, aR 5 i1, aI x2, aU, aU, aU] [] (mi, RS w, lv) Q := r_X4_cellsOf_0 (l_X4_cellsOf_5 1000000 hf h0)

abbrev row_67 : MT := (⟨"StencilHouse$Picture", "isWithin", "(LStencilHouse$Shop;)Z"⟩, prog_6_method_7_code, 4, some .boolean, 1, lk_4)
theorem mt_67 : mt 67 = some row_67 := rfl
theorem r_X4_isWithin_34 {gl : Nat} {gx : Nat → Int32} {d : Nat} {P : PL} {Q : PO} {mi : MI} {w : WS} {lv : LV} {i : Nat} {i1 : Nat} {x2 : Int32} {x3 : Int32} (h : Wp gl gx (d + 1) P 67 9 [aR 3 i, aR 5 i1, aI x2, aI (x3 + 1)] [] (mi, RS w, lv) Q) : Wp gl gx (d + 1) P 67 34 [aR 3 i, aR 5 i1, aI x2, aI x3] [] (mi, RS w, lv) Q :=
  wpT row_67 mt_67 [.iinc 3 1, .goto (.negSucc 27)] (by decide +kernel) [] (by decide +kernel) 24 (h)

theorem r_X4_isWithin_9 {gl : Nat} {gx : Nat → Int32} {d : Nat} {P : PL} {Q : PO} {mi : MI} {w : WS} {lv : LV} {i : Nat} {i1 : Nat} {x2 : Int32} {x3 : Int32} (h : ((5 ≤ x3) → Wp gl gx (d + 1) P 67 2 [aR 3 i, aR 5 i1, aI (x2 + 1), aI x3] [] (mi, RS w, lv) Q) ∧ (¬ (5 ≤ x3) → (∃ c9 : Int32, F_X4_colourAt mi w i x3 x2 = some c9 ∧ ((c9 = 0) → Wp gl gx (d + 1) P 67 9 [aR 3 i, aR 5 i1, aI x2, aI (x3 + 1)] [] (mi, RS w, lv) Q) ∧ (¬ (c9 = 0) → (¬ (x3 < 0) ∧ (¬ ((mi 5 i1 0) ≤ x3) ∧ (¬ (x2 < 0) ∧ (¬ ((mi 5 i1 1) ≤ x2)))) → Wp gl gx (d + 1) P 67 9 [aR 3 i, aR 5 i1, aI x2, aI (x3 + 1)] [] (mi, RS w, lv) Q) ∧ (¬ (¬ (x3 < 0) ∧ (¬ ((mi 5 i1 0) ≤ x3) ∧ (¬ (x2 < 0) ∧ (¬ ((mi 5 i1 1) ≤ x2))))) → Q (aI 0) (mi, RS w, lv)))))) : Wp gl gx (d + 1) P 67 9 [aR 3 i, aR 5 i1, aI x2, aI x3] [] (mi, RS w, lv) Q :=
  wpT row_67 mt_67 [.iload_n 3, .iconst 5, .if_icmp .ge 29] (by decide +kernel) [(40, [.iinc 2 1, .goto (.negSucc 40)]), (14, [.aload_n 0, .iload_n 3, .iload_n 2, .invokevirtual 30]), (20, [.ifCond .eq 14]), (23, [.aload_n 1, .iload_n 3, .iload_n 2, .invokevirtual 34]), (29, [.ifCond .ne 5]), (32, [.iconst 0, .ireturn])] (by decide +kernel) 54 (And.intro (fun q53 => (h.1 q53)) (fun q54 => Exists.elim (h.2 q54) (fun c9 zc9 => And.intro ⟨Nat.le_of_ble_eq_true rfl, rfl, rfl⟩ (s_X4_colourAt (d := d) zc9.1 (And.intro (fun q55 => r_X4_isWithin_34 (i := i) (i1 := i1) (x2 := x2) (x3 := x3) (mi := mi) (zc9.2.1 q55)) (fun q56 => And.intro ⟨Nat.le_of_ble_eq_true rfl, rfl, rfl⟩ (s_X6_hasPlace (d := d) (And.intro (fun q57 => r_X4_isWithin_34 (i := i) (i1 := i1) (x2 := x2) (x3 := x3) (mi := mi) ((zc9.2.2 q56).1 (b2_n q57))) (fun q58 => And.intro rfl ((zc9.2.2 q56).2 (b2_0 q58)))))))))))

theorem r_X4_isWithin_2 {gl : Nat} {gx : Nat → Int32} {d : Nat} {P : PL} {Q : PO} {mi : MI} {w : WS} {lv : LV} {i : Nat} {i1 : Nat} {x2 : Int32} {v3 : AV} (h : ((5 ≤ x2) → Q (aI 1) (mi, RS w, lv)) ∧ (¬ (5 ≤ x2) → Wp gl gx (d + 1) P 67 9 [aR 3 i, aR 5 i1, aI x2, aI 0] [] (mi, RS w, lv) Q)) : Wp gl gx (d + 1) P 67 2 [aR 3 i, aR 5 i1, aI x2, v3] [] (mi, RS w, lv) Q :=
  wpT row_67 mt_67 [.iload_n 2, .iconst 5, .if_icmp .ge 42] (by decide +kernel) [(46, [.iconst 1, .ireturn]), (7, [.iconst 0, .istore_n 3])] (by decide +kernel) 34 (And.intro (fun q59 => And.intro rfl (h.1 q59)) (fun q60 => (h.2 q60)))

theorem r_X4_isWithin_0 {gl : Nat} {gx : Nat → Int32} {d : Nat} {P : PL} {Q : PO} {mi : MI} {w : WS} {lv : LV} {i : Nat} {i1 : Nat} (h : Wp gl gx (d + 1) P 67 2 [aR 3 i, aR 5 i1, aI 0, aU] [] (mi, RS w, lv) Q) : Wp gl gx (d + 1) P 67 0 [aR 3 i, aR 5 i1, aU, aU] [] (mi, RS w, lv) Q :=
  wpT row_67 mt_67 [.iconst 0, .istore_n 2] (by decide +kernel) [] (by decide +kernel) 24 (h)

def L_X4_isWithin_9 (mi : MI) (w : WS) (k2 : Nat → Nat → Int32 → Option Int32) : Nat → Nat → Nat → Int32 → Int32 → Option Int32
  | 0, _, _, _, _ => none
  | n + 1, i, i1, x2, x3 => if 5 ≤ x3 then k2 i i1 (x2 + 1) else (F_X4_colourAt mi w i x3 x2).bind fun c9 => if c9 = 0 then L_X4_isWithin_9 mi w k2 n i i1 x2 (x3 + 1) else if ¬ (x3 < 0) ∧ (¬ ((mi 5 i1 0) ≤ x3) ∧ (¬ (x2 < 0) ∧ (¬ ((mi 5 i1 1) ≤ x2)))) then L_X4_isWithin_9 mi w k2 n i i1 x2 (x3 + 1) else some (0 : Int32)

theorem l_X4_isWithin_9 {gl : Nat} {gx : Nat → Int32} {d : Nat} {P : PL} {Q : PO} {lv : LV} {mi : MI} {w : WS} {k2 : Nat → Nat → Int32 → Option Int32} (hk2 : ∀ {i : Nat} {i1 : Nat} {x2 : Int32} {v3 : AV} {r : Int32}, k2 i i1 x2 = some r → (Q (aI r) (mi, RS w, lv)) → Wp gl gx (d + 1) P 67 2 [aR 3 i, aR 5 i1, aI x2, v3] [] (mi, RS w, lv) Q) (n : Nat) : ∀ {i : Nat} {i1 : Nat} {x2 : Int32} {x3 : Int32} {r : Int32}, L_X4_isWithin_9 mi w k2 n i i1 x2 x3 = some r → (Q (aI r) (mi, RS w, lv)) → Wp gl gx (d + 1) P 67 9 [aR 3 i, aR 5 i1, aI x2, aI x3] [] (mi, RS w, lv) Q := by
  induction n with
  | zero => intro i i1 x2 x3 r hf h0; exact o_none hf
  | succ n ih => intro i i1 x2 x3 r hf h0; exact r_X4_isWithin_9 (⟨fun q61 => k_ifp q61 hf (fun q63 => hk2 q63 h0), fun q62 => k_ifn q62 hf (fun q63 => o_bind q63 (fun c9 qc9 pc9 => ⟨c9, qc9, ⟨fun q64 => k_ifp q64 pc9 (fun q66 => ih q66 h0), fun q65 => k_ifn q65 pc9 (fun q66 => ⟨fun q67 => k_ifp q67 q66 (fun q69 => ih q69 h0), fun q68 => k_ifn q68 q66 (fun q69 => o_rP q69 h0)⟩)⟩⟩))⟩)

def L_X4_isWithin_2 (mi : MI) (w : WS) : Nat → Nat → Nat → Int32 → Option Int32
  | 0, _, _, _ => none
  | n + 1, i, i1, x2 => if 5 ≤ x2 then some (1 : Int32) else L_X4_isWithin_9 mi w (fun i i1 x2 => L_X4_isWithin_2 mi w n i i1 x2) 1000000 i i1 x2 0

theorem l_X4_isWithin_2 {gl : Nat} {gx : Nat → Int32} {d : Nat} {P : PL} {Q : PO} {lv : LV} {mi : MI} {w : WS} (n : Nat) : ∀ {i : Nat} {i1 : Nat} {x2 : Int32} {v3 : AV} {r : Int32}, L_X4_isWithin_2 mi w n i i1 x2 = some r → (Q (aI r) (mi, RS w, lv)) → Wp gl gx (d + 1) P 67 2 [aR 3 i, aR 5 i1, aI x2, v3] [] (mi, RS w, lv) Q := by
  induction n with
  | zero => intro i i1 x2 v3 r hf h0; exact o_none hf
  | succ n ih => intro i i1 x2 v3 r hf h0; exact r_X4_isWithin_2 (⟨fun q70 => k_ifp q70 hf (fun q72 => o_rP q72 h0), fun q71 => k_ifn q71 hf (fun q72 => l_X4_isWithin_9 (fun hf h0 => ih hf h0) 1000000 q72 h0)⟩)

def F_X4_isWithin (mi : MI) (w : WS) (i : Nat) (i1 : Nat) : Option Int32 := L_X4_isWithin_2 mi w 1000000 i i1 0

theorem s_X4_isWithin {gl : Nat} {gx : Nat → Int32} {d : Nat} {P : PL} {Q : PO} {mi : MI} {w : WS} {lv : LV} {i : Nat} {i1 : Nat} {r : Int32} (hf : F_X4_isWithin mi w i i1 = some r) (h0 : Q (aI r) (mi, RS w, lv)) : Wp gl gx (d + 1) P 67 0 [aR 3 i, aR 5 i1, aU, aU] [] (mi, RS w, lv) Q := r_X4_isWithin_0 (l_X4_isWithin_2 1000000 hf h0)

abbrev row_68 : MT := (⟨"StencilHouse$Picture", "colourCount", "()I"⟩, prog_6_method_8_code, 3, some .int, 1, lk_4)
theorem mt_68 : mt 68 = some row_68 := rfl
theorem r_X4_colourCount_21 {gl : Nat} {gx : Nat → Int32} {d : Nat} {P : PL} {Q : PO} {mi : MI} {w : WS} {lv : LV} {i : Nat} {x1 : Int32} {x2 : Int32} (h : Wp gl gx (d + 1) P 68 4 [aR 3 i, aI x1, aI (x2 + 1)] [] (mi, RS w, lv) Q) : Wp gl gx (d + 1) P 68 21 [aR 3 i, aI x1, aI x2] [] (mi, RS w, lv) Q :=
  wpT row_68 mt_68 [.iinc 2 1, .goto (.negSucc 19)] (by decide +kernel) [] (by decide +kernel) 24 (h)

theorem r_X4_colourCount_4 {gl : Nat} {gx : Nat → Int32} {d : Nat} {P : PL} {Q : PO} {mi : MI} {w : WS} {lv : LV} {i : Nat} {x1 : Int32} {x2 : Int32} (h : ((10 ≤ x2) → Q (aI x1) (mi, RS w, lv)) ∧ (¬ (10 ≤ x2) → (∃ c10 : Int32, F_X4_placesOf mi w i x2 = some c10 ∧ Wp gl gx (d + 1) P 68 4 [aR 3 i, aI (if c10 ≤ 0 then x1 else x1 + 1), aI (x2 + 1)] [] (mi, RS w, lv) Q))) : Wp gl gx (d + 1) P 68 4 [aR 3 i, aI x1, aI x2] [] (mi, RS w, lv) Q :=
  wpT row_68 mt_68 [.iload_n 2, .bipush 10, .if_icmp .ge 20] (by decide +kernel) [(27, [.iload_n 1, .ireturn]), (10, [.aload_n 0, .iload_n 2, .invokevirtual 38]), (15, [.ifCond .le 6]), (18, [.iinc 1 1])] (by decide +kernel) 40 (And.intro (fun q73 => (h.1 q73)) (fun q74 => Exists.elim (h.2 q74) (fun c10 zc10 => And.intro ⟨Nat.le_of_ble_eq_true rfl, rfl, rfl⟩ (s_X4_placesOf (d := d) zc10.1 (And.intro (fun q75 => r_X4_colourCount_21 (i := i) (x1 := x1) (x2 := x2) (mi := mi) (mv9 (fun v => Wp gl gx (d + 1) P 68 4 [aR 3 i, aI v, aI (x2 + 1)] [] (mi, RS w, lv) Q) (show (if c10 ≤ 0 then x1 else x1 + 1) = x1 from if_pos (show c10 ≤ 0 from q75)) zc10.2)) (fun q76 => r_X4_colourCount_21 (i := i) (x1 := (x1 + 1)) (x2 := x2) (mi := mi) (mv9 (fun v => Wp gl gx (d + 1) P 68 4 [aR 3 i, aI v, aI (x2 + 1)] [] (mi, RS w, lv) Q) (show (if c10 ≤ 0 then x1 else x1 + 1) = (x1 + 1) from if_neg (show ¬ (c10 ≤ 0) from q76)) zc10.2)))))))

theorem r_X4_colourCount_0 {gl : Nat} {gx : Nat → Int32} {d : Nat} {P : PL} {Q : PO} {mi : MI} {w : WS} {lv : LV} {i : Nat} (h : Wp gl gx (d + 1) P 68 4 [aR 3 i, aI 0, aI 1] [] (mi, RS w, lv) Q) : Wp gl gx (d + 1) P 68 0 [aR 3 i, aU, aU] [] (mi, RS w, lv) Q :=
  wpT row_68 mt_68 [.iconst 0, .istore_n 1, .iconst 1, .istore_n 2] (by decide +kernel) [] (by decide +kernel) 28 (h)

def L_X4_colourCount_4 (mi : MI) (w : WS) : Nat → Nat → Int32 → Int32 → Option Int32
  | 0, _, _, _ => none
  | n + 1, i, x1, x2 => if 10 ≤ x2 then some x1 else (F_X4_placesOf mi w i x2).bind fun c10 => L_X4_colourCount_4 mi w n i (if c10 ≤ 0 then x1 else x1 + 1) (x2 + 1)

theorem l_X4_colourCount_4 {gl : Nat} {gx : Nat → Int32} {d : Nat} {P : PL} {Q : PO} {lv : LV} {mi : MI} {w : WS} (n : Nat) : ∀ {i : Nat} {x1 : Int32} {x2 : Int32} {r : Int32}, L_X4_colourCount_4 mi w n i x1 x2 = some r → (Q (aI r) (mi, RS w, lv)) → Wp gl gx (d + 1) P 68 4 [aR 3 i, aI x1, aI x2] [] (mi, RS w, lv) Q := by
  induction n with
  | zero => intro i x1 x2 r hf h0; exact o_none hf
  | succ n ih => intro i x1 x2 r hf h0; exact r_X4_colourCount_4 (⟨fun q77 => k_ifp q77 hf (fun q79 => o_rP q79 h0), fun q78 => k_ifn q78 hf (fun q79 => o_bind q79 (fun c10 qc10 pc10 => ⟨c10, qc10, ih pc10 h0⟩))⟩)

def F_X4_colourCount (mi : MI) (w : WS) (i : Nat) : Option Int32 := L_X4_colourCount_4 mi w 1000000 i 0 1

theorem s_X4_colourCount {gl : Nat} {gx : Nat → Int32} {d : Nat} {P : PL} {Q : PO} {mi : MI} {w : WS} {lv : LV} {i : Nat} {r : Int32} (hf : F_X4_colourCount mi w i = some r) (h0 : Q (aI r) (mi, RS w, lv)) : Wp gl gx (d + 1) P 68 0 [aR 3 i, aU, aU] [] (mi, RS w, lv) Q := r_X4_colourCount_0 (l_X4_colourCount_4 1000000 hf h0)

abbrev row_69 : MT := (⟨"StencilHouse$Picture", "commonest", "()I"⟩, prog_6_method_9_code, 5, some .int, 1, lk_4)
theorem mt_69 : mt 69 = some row_69 := rfl
theorem r_X4_commonest_30 {gl : Nat} {gx : Nat → Int32} {d : Nat} {P : PL} {Q : PO} {mi : MI} {w : WS} {lv : LV} {i : Nat} {x1 : Int32} {x2 : Int32} {x3 : Int32} {x4 : Int32} (h : Wp gl gx (d + 1) P 69 6 [aR 3 i, aI x1, aI x2, aI (x3 + 1), aI x4] [] (mi, RS w, lv) Q) : Wp gl gx (d + 1) P 69 30 [aR 3 i, aI x1, aI x2, aI x3, aI x4] [] (mi, RS w, lv) Q :=
  wpT row_69 mt_69 [.iinc 3 1, .goto (.negSucc 26)] (by decide +kernel) [] (by decide +kernel) 24 (h)

theorem r_X4_commonest_6 {gl : Nat} {gx : Nat → Int32} {d : Nat} {P : PL} {Q : PO} {mi : MI} {w : WS} {lv : LV} {i : Nat} {x1 : Int32} {x2 : Int32} {x3 : Int32} {v4 : AV} (h : ((10 ≤ x3) → Q (aI x1) (mi, RS w, lv)) ∧ (¬ (10 ≤ x3) → (∃ c11 : Int32, F_X4_placesOf mi w i x3 = some c11 ∧ ((c11 ≤ x2) → Wp gl gx (d + 1) P 69 6 [aR 3 i, aI x1, aI x2, aI (x3 + 1), aI c11] [] (mi, RS w, lv) Q) ∧ (¬ (c11 ≤ x2) → Wp gl gx (d + 1) P 69 6 [aR 3 i, aI x3, aI c11, aI (x3 + 1), aI c11] [] (mi, RS w, lv) Q)))) : Wp gl gx (d + 1) P 69 6 [aR 3 i, aI x1, aI x2, aI x3, v4] [] (mi, RS w, lv) Q :=
  wpT row_69 mt_69 [.iload_n 3, .bipush 10, .if_icmp .ge 27] (by decide +kernel) [(36, [.iload_n 1, .ireturn]), (12, [.aload_n 0, .iload_n 3, .invokevirtual 38]), (17, [.istore 4, .iload 4, .iload_n 2, .if_icmp .le 8]), (25, [.iload 4, .istore_n 2, .iload_n 3, .istore_n 1])] (by decide +kernel) 52 (And.intro (fun q80 => (h.1 q80)) (fun q81 => Exists.elim (h.2 q81) (fun c11 zc11 => And.intro ⟨Nat.le_of_ble_eq_true rfl, rfl, rfl⟩ (s_X4_placesOf (d := d) zc11.1 (And.intro (fun q82 => r_X4_commonest_30 (i := i) (x1 := x1) (x2 := x2) (x3 := x3) (x4 := c11) (mi := mi) (zc11.2.1 q82)) (fun q83 => r_X4_commonest_30 (i := i) (x1 := x3) (x2 := c11) (x3 := x3) (x4 := c11) (mi := mi) (zc11.2.2 q83)))))))

theorem r_X4_commonest_0 {gl : Nat} {gx : Nat → Int32} {d : Nat} {P : PL} {Q : PO} {mi : MI} {w : WS} {lv : LV} {i : Nat} (h : Wp gl gx (d + 1) P 69 6 [aR 3 i, aI (-1), aI 0, aI 1, aU] [] (mi, RS w, lv) Q) : Wp gl gx (d + 1) P 69 0 [aR 3 i, aU, aU, aU, aU] [] (mi, RS w, lv) Q :=
  wpT row_69 mt_69 [.iconst (.negSucc 0), .istore_n 1, .iconst 0, .istore_n 2, .iconst 1, .istore_n 3] (by decide +kernel) [] (by decide +kernel) 32 (h)

def L_X4_commonest_6 (mi : MI) (w : WS) : Nat → Nat → Int32 → Int32 → Int32 → Option Int32
  | 0, _, _, _, _ => none
  | n + 1, i, x1, x2, x3 => if 10 ≤ x3 then some x1 else (F_X4_placesOf mi w i x3).bind fun c11 => if c11 ≤ x2 then L_X4_commonest_6 mi w n i x1 x2 (x3 + 1) else L_X4_commonest_6 mi w n i x3 c11 (x3 + 1)

theorem l_X4_commonest_6 {gl : Nat} {gx : Nat → Int32} {d : Nat} {P : PL} {Q : PO} {lv : LV} {mi : MI} {w : WS} (n : Nat) : ∀ {i : Nat} {x1 : Int32} {x2 : Int32} {x3 : Int32} {v4 : AV} {r : Int32}, L_X4_commonest_6 mi w n i x1 x2 x3 = some r → (Q (aI r) (mi, RS w, lv)) → Wp gl gx (d + 1) P 69 6 [aR 3 i, aI x1, aI x2, aI x3, v4] [] (mi, RS w, lv) Q := by
  induction n with
  | zero => intro i x1 x2 x3 v4 r hf h0; exact o_none hf
  | succ n ih => intro i x1 x2 x3 v4 r hf h0; exact r_X4_commonest_6 (⟨fun q84 => k_ifp q84 hf (fun q86 => o_rP q86 h0), fun q85 => k_ifn q85 hf (fun q86 => o_bind q86 (fun c11 qc11 pc11 => ⟨c11, qc11, ⟨fun q87 => k_ifp q87 pc11 (fun q89 => ih q89 h0), fun q88 => k_ifn q88 pc11 (fun q89 => ih q89 h0)⟩⟩))⟩)

def F_X4_commonest (mi : MI) (w : WS) (i : Nat) : Option Int32 := L_X4_commonest_6 mi w 1000000 i (-1) 0 1

theorem s_X4_commonest {gl : Nat} {gx : Nat → Int32} {d : Nat} {P : PL} {Q : PO} {mi : MI} {w : WS} {lv : LV} {i : Nat} {r : Int32} (hf : F_X4_commonest mi w i = some r) (h0 : Q (aI r) (mi, RS w, lv)) : Wp gl gx (d + 1) P 69 0 [aR 3 i, aU, aU, aU, aU] [] (mi, RS w, lv) Q := r_X4_commonest_0 (l_X4_commonest_6 1000000 hf h0)

theorem r_X6_clear_22 {gl : Nat} {gx : Nat → Int32} {d : Nat} {P : PL} {Q : PO} {mi : MI} {w : WS} {lv : LV} {i : Nat} {x1 : Int32} (h : ((6 ≤ x1) → Q aU (mi, RS w, lv)) ∧ (¬ (6 ≤ x1) → (vp_in x1 6) ∧ ((∀ m13 : MI, m13 = u3 mi 26 i x1.toNatClampNeg 0 → (vp_in x1 6) ∧ ((∀ m14 : MI, m14 = u3 m13 27 i x1.toNatClampNeg 3 → (vp_in x1 6) ∧ ((∀ m15 : MI, m15 = u3 m14 28 i x1.toNatClampNeg 0 → Wp gl gx d P 86 22 [aR 5 i, aI (x1 + 1)] [] (m15, RS w, lv) Q)))))))) : Wp gl gx d P 86 22 [aR 5 i, aI x1] [] (mi, RS w, lv) Q :=
  wpT row_86 mt_86 [.iload_n 1, .bipush 6, .if_icmp .ge 30] (by decide +kernel) [(55, [.return_]), (28, [.aload_n 0, .getfield 24, .iload_n 1, .iconst 0, .iastore]), (35, [.aload_n 0, .getfield 28, .iload_n 1, .iconst 3, .iastore]), (42, [.aload_n 0, .getfield 31, .iload_n 1, .iconst 0, .iastore]), (49, [.iinc 1 1, .goto (.negSucc 29)])] (by decide +kernel) 62 (And.intro (fun q90 => (h.1 q90)) (fun q91 => And.intro (h.2 q91).1 (And.intro ((h.2 q91).2 _ rfl).1 (And.intro (((h.2 q91).2 _ rfl).2 _ rfl).1 (((((h.2 q91).2 _ rfl).2 _ rfl).2 _ rfl))))))

theorem r_X6_clear_0 {gl : Nat} {gx : Nat → Int32} {d : Nat} {P : PL} {Q : PO} {mi : MI} {w : WS} {lv : LV} {i : Nat} (h : (∀ m12 : MI, m12 = u3 (u3 (u3 mi 5 i 0 3) 5 i 1 3) 5 i 2 0 → Wp gl gx d P 86 22 [aR 5 i, aI 0] [] (u3 m12 5 i 3 0, RS w, lv) Q)) : Wp gl gx d P 86 0 [aR 5 i, aU] [] (mi, RS w, lv) Q :=
  wpT row_86 mt_86 [.aload_n 0, .iconst 3, .putfield 9, .aload_n 0, .iconst 3, .putfield 15, .aload_n 0, .iconst 0, .putfield 18] (by decide +kernel) [(15, [.aload_n 0, .iconst 0, .putfield 21, .iconst 0, .istore_n 1])] (by decide +kernel) 48 ((h _ rfl))

def L_X6_clear_22 : Nat → MI → WS → Nat → Int32 → Option (MI × WS)
  | 0, _, _, _, _ => none
  | n + 1, mi, w, i, x1 => if 6 ≤ x1 then some (mi, w) else ck (¬ (x1 < 0 ∨ 6 ≤ x1.toNatClampNeg)) (lt (u3 mi 26 i x1.toNatClampNeg 0) fun m13 => ck (¬ (x1 < 0 ∨ 6 ≤ x1.toNatClampNeg)) (lt (u3 m13 27 i x1.toNatClampNeg 3) fun m14 => ck (¬ (x1 < 0 ∨ 6 ≤ x1.toNatClampNeg)) (lt (u3 m14 28 i x1.toNatClampNeg 0) fun m15 => L_X6_clear_22 n m15 w i (x1 + 1))))

theorem l_X6_clear_22 {gl : Nat} {gx : Nat → Int32} {d : Nat} {P : PL} {Q : PO} {lv : LV} (n : Nat) : ∀ {mi : MI} {w : WS} {i : Nat} {x1 : Int32} {r : (MI × WS)}, L_X6_clear_22 n mi w i x1 = some r → (Q aU (r.1, RS r.2, lv)) → Wp gl gx d P 86 22 [aR 5 i, aI x1] [] (mi, RS w, lv) Q := by
  induction n with
  | zero => intro mi w i x1 r hf h0; exact o_none hf
  | succ n ih => intro mi w i x1 r hf h0; exact r_X6_clear_22 (⟨fun q92 => k_ifp q92 hf (fun q94 => o_rV q94 h0), fun q93 => k_ifn q93 hf (fun q94 => k_ck q94 (fun q96 q95 => ⟨q96, fun m13 hm13 => k_lt q95 hm13 (fun q97 => k_ck q97 (fun q99 q98 => ⟨q99, fun m14 hm14 => k_lt q98 hm14 (fun q100 => k_ck q100 (fun q102 q101 => ⟨q102, fun m15 hm15 => k_lt q101 hm15 (fun q103 => ih q103 h0)⟩))⟩))⟩))⟩)

def F_X6_clear (mi : MI) (w : WS) (i : Nat) : Option (MI × WS) := lt (u3 (u3 (u3 mi 5 i 0 3) 5 i 1 3) 5 i 2 0) fun m12 => L_X6_clear_22 1000000 (u3 m12 5 i 3 0) w i 0

theorem s_X6_clear {gl : Nat} {gx : Nat → Int32} {d : Nat} {P : PL} {Q : PO} {mi : MI} {w : WS} {lv : LV} {i : Nat} {r : (MI × WS)} (hf : F_X6_clear mi w i = some r) (h0 : Q aU (r.1, RS r.2, lv)) : Wp gl gx d P 86 0 [aR 5 i, aU] [] (mi, RS w, lv) Q := r_X6_clear_0 (fun m12 hm12 => k_lt hf hm12 (fun q104 => l_X6_clear_22 1000000 q104 h0))

theorem r_X6_copyFrom_0 {gl : Nat} {gx : Nat → Int32} {d : Nat} {P : PL} {Q : PO} {mi : MI} {w : WS} {lv : LV} {i : Nat} {i1 : Nat} (h : (∀ m16 : MI, m16 = u3 (u3 mi 5 i 0 (mi 5 i1 0)) 5 i 1 ((u3 mi 5 i 0 (mi 5 i1 0)) 5 i1 1) → (∀ m17 : MI, m17 = u3 (u3 m16 5 i 2 (m16 5 i1 2)) 5 i 3 ((u3 m16 5 i 2 (m16 5 i1 2)) 5 i1 3) → (∀ m18 : MI, m18 = u2 m17 26 i (va_cpy (m17 26 i1) (m17 26 i) 0 0 6) → (∀ m19 : MI, m19 = u2 m18 27 i (va_cpy (m18 27 i1) (m18 27 i) 0 0 6) → (∀ m20 : MI, m20 = u2 m19 28 i (va_cpy (m19 28 i1) (m19 28 i) 0 0 6) → (∀ m21 : MI, m21 = u3 (u3 m20 5 i 7 (m20 5 i1 7)) 5 i 8 ((u3 m20 5 i 7 (m20 5 i1 7)) 5 i1 8) → (∀ m22 : MI, m22 = u3 (u3 m21 5 i 9 (m21 5 i1 9)) 5 i 10 ((u3 m21 5 i 9 (m21 5 i1 9)) 5 i1 10) → Q aU (m22, RS w, lv))))))))) : Wp gl gx (d + 1) P 87 0 [aR 5 i, aR 5 i1] [] (mi, RS w, lv) Q :=
  wpT row_87 mt_87 [.aload_n 0, .aload_n 1, .getfield 9, .putfield 9, .aload_n 0, .aload_n 1, .getfield 15, .putfield 15] (by decide +kernel) [(16, [.aload_n 0, .aload_n 1, .getfield 18, .putfield 18, .aload_n 0, .aload_n 1, .getfield 21, .putfield 21]), (32, [.aload_n 1, .getfield 24, .iconst 0, .aload_n 0, .getfield 24, .iconst 0, .bipush 6, .invokestatic 46]), (47, [.aload_n 1, .getfield 28, .iconst 0, .aload_n 0, .getfield 28, .iconst 0, .bipush 6, .invokestatic 46]), (62, [.aload_n 1, .getfield 31, .iconst 0, .aload_n 0, .getfield 31, .iconst 0, .bipush 6, .invokestatic 46]), (77, [.aload_n 0, .aload_n 1, .getfield 34, .putfield 34, .aload_n 0, .aload_n 1, .getfield 37, .putfield 37]), (93, [.aload_n 0, .aload_n 1, .getfield 40, .putfield 40, .aload_n 0, .aload_n 1, .getfield 43, .putfield 43]), (109, [.return_])] (by decide +kernel) 134 (And.intro ⟨Nat.le_of_ble_eq_true rfl, by decide, by decide, by decide, by decide, by decide⟩ (And.intro ⟨Nat.le_of_ble_eq_true rfl, by decide, by decide, by decide, by decide, by decide⟩ (And.intro ⟨Nat.le_of_ble_eq_true rfl, by decide, by decide, by decide, by decide, by decide⟩ ((((((((h _ rfl) _ rfl) _ rfl) _ rfl) _ rfl) _ rfl) _ rfl)))))

def F_X6_copyFrom (mi : MI) (w : WS) (i : Nat) (i1 : Nat) : Option (MI × WS) := lt (u3 (u3 mi 5 i 0 (mi 5 i1 0)) 5 i 1 ((u3 mi 5 i 0 (mi 5 i1 0)) 5 i1 1)) fun m16 => lt (u3 (u3 m16 5 i 2 (m16 5 i1 2)) 5 i 3 ((u3 m16 5 i 2 (m16 5 i1 2)) 5 i1 3)) fun m17 => lt (u2 m17 26 i (va_cpy (m17 26 i1) (m17 26 i) 0 0 6)) fun m18 => lt (u2 m18 27 i (va_cpy (m18 27 i1) (m18 27 i) 0 0 6)) fun m19 => lt (u2 m19 28 i (va_cpy (m19 28 i1) (m19 28 i) 0 0 6)) fun m20 => lt (u3 (u3 m20 5 i 7 (m20 5 i1 7)) 5 i 8 ((u3 m20 5 i 7 (m20 5 i1 7)) 5 i1 8)) fun m21 => lt (u3 (u3 m21 5 i 9 (m21 5 i1 9)) 5 i 10 ((u3 m21 5 i 9 (m21 5 i1 9)) 5 i1 10)) fun m22 => some (m22, w)

theorem s_X6_copyFrom {gl : Nat} {gx : Nat → Int32} {d : Nat} {P : PL} {Q : PO} {mi : MI} {w : WS} {lv : LV} {i : Nat} {i1 : Nat} {r : (MI × WS)} (hf : F_X6_copyFrom mi w i i1 = some r) (h0 : Q aU (r.1, RS r.2, lv)) : Wp gl gx (d + 1) P 87 0 [aR 5 i, aR 5 i1] [] (mi, RS w, lv) Q := r_X6_copyFrom_0 (fun m16 hm16 => k_lt hf hm16 (fun q105 => fun m17 hm17 => k_lt q105 hm17 (fun q106 => fun m18 hm18 => k_lt q106 hm18 (fun q107 => fun m19 hm19 => k_lt q107 hm19 (fun q108 => fun m20 hm20 => k_lt q108 hm20 (fun q109 => fun m21 hm21 => k_lt q109 hm21 (fun q110 => fun m22 hm22 => k_lt q110 hm22 (fun q111 => o_rV q111 h0))))))))

theorem r_X6_measure_29 {gl : Nat} {gx : Nat → Int32} {d : Nat} {P : PL} {Q : PO} {mi : MI} {w : WS} {lv : LV} {i : Nat} {x1 : Int32} (h : (((mi 5 i 1) ≤ x1) → (∀ m24 : MI, m24 = u3 mi 5 i 10 ((((mi 5 i 8) ||| (mi 5 i 9)) ||| (((1 : Int32) <<< ((mi 5 i 0) &&& 31)) - 1)) ||| ((((1 : Int32) <<< ((mi 5 i 0) &&& 31)) - 1) <<< ((((mi 5 i 1) - 1) * (mi 5 i 0)) &&& 31))) → Q aU (m24, RS w, lv))) ∧ (¬ ((mi 5 i 1) ≤ x1) → (∀ m25 : MI, m25 = u3 mi 5 i 8 ((mi 5 i 8) ||| ((1 : Int32) <<< ((x1 * (mi 5 i 0)) &&& 31))) → (∀ m26 : MI, m26 = u3 m25 5 i 9 ((m25 5 i 9) ||| ((1 : Int32) <<< ((((x1 * (m25 5 i 0)) + (m25 5 i 0)) - 1) &&& 31))) → Wp gl gx d P 88 29 [aR 5 i, aI (x1 + 1)] [] (m26, RS w, lv) Q)))) : Wp gl gx d P 88 29 [aR 5 i, aI x1] [] (mi, RS w, lv) Q :=
  wpT row_88 mt_88 [.iload_n 1, .aload_n 0, .getfield 15, .if_icmp .ge 50] (by decide +kernel) [(84, [.iconst 1, .aload_n 0, .getfield 9, .ishl, .iconst 1, .isub, .istore_n 1, .aload_n 0, .aload_n 0, .getfield 37, .aload_n 0, .getfield 40, .ior, .iload_n 1, .ior, .iload_n 1, .aload_n 0, .getfield 15, .iconst 1, .isub, .aload_n 0, .getfield 9, .imul, .ishl, .ior, .putfield 43]), (122, [.return_]), (37, [.aload_n 0, .dup, .getfield 37, .iconst 1, .iload_n 1, .aload_n 0, .getfield 9, .imul, .ishl, .ior, .putfield 37]), (54, [.aload_n 0, .dup, .getfield 40, .iconst 1, .iload_n 1, .aload_n 0, .getfield 9, .imul, .aload_n 0, .getfield 9, .iadd, .iconst 1, .isub, .ishl, .ior, .putfield 40]), (78, [.iinc 1 1, .goto (.negSucc 51)])] (by decide +kernel) 140 (And.intro (fun q112 => ((h.1 q112) _ rfl)) (fun q113 => (((h.2 q113) _ rfl) _ rfl)))

theorem r_X6_measure_0 {gl : Nat} {gx : Nat → Int32} {d : Nat} {P : PL} {Q : PO} {mi : MI} {w : WS} {lv : LV} {i : Nat} (h : (∀ m23 : MI, m23 = u3 mi 5 i 7 (((1 : Int32) <<< (((mi 5 i 0) * (mi 5 i 1)) &&& 31)) - 1) → Wp gl gx d P 88 29 [aR 5 i, aI 0] [] (u3 (u3 m23 5 i 8 0) 5 i 9 0, RS w, lv) Q)) : Wp gl gx d P 88 0 [aR 5 i, aU] [] (mi, RS w, lv) Q :=
  wpT row_88 mt_88 [.aload_n 0, .iconst 1, .aload_n 0, .getfield 9, .aload_n 0, .getfield 15, .imul, .ishl, .iconst 1, .isub, .putfield 34] (by decide +kernel) [(17, [.aload_n 0, .iconst 0, .putfield 37, .aload_n 0, .iconst 0, .putfield 40, .iconst 0, .istore_n 1])] (by decide +kernel) 58 ((h _ rfl))

def L_X6_measure_29 : Nat → MI → WS → Nat → Int32 → Option (MI × WS)
  | 0, _, _, _, _ => none
  | n + 1, mi, w, i, x1 => if (mi 5 i 1) ≤ x1 then lt (u3 mi 5 i 10 ((((mi 5 i 8) ||| (mi 5 i 9)) ||| (((1 : Int32) <<< ((mi 5 i 0) &&& 31)) - 1)) ||| ((((1 : Int32) <<< ((mi 5 i 0) &&& 31)) - 1) <<< ((((mi 5 i 1) - 1) * (mi 5 i 0)) &&& 31)))) fun m24 => some (m24, w) else lt (u3 mi 5 i 8 ((mi 5 i 8) ||| ((1 : Int32) <<< ((x1 * (mi 5 i 0)) &&& 31)))) fun m25 => lt (u3 m25 5 i 9 ((m25 5 i 9) ||| ((1 : Int32) <<< ((((x1 * (m25 5 i 0)) + (m25 5 i 0)) - 1) &&& 31)))) fun m26 => L_X6_measure_29 n m26 w i (x1 + 1)

theorem l_X6_measure_29 {gl : Nat} {gx : Nat → Int32} {d : Nat} {P : PL} {Q : PO} {lv : LV} (n : Nat) : ∀ {mi : MI} {w : WS} {i : Nat} {x1 : Int32} {r : (MI × WS)}, L_X6_measure_29 n mi w i x1 = some r → (Q aU (r.1, RS r.2, lv)) → Wp gl gx d P 88 29 [aR 5 i, aI x1] [] (mi, RS w, lv) Q := by
  induction n with
  | zero => intro mi w i x1 r hf h0; exact o_none hf
  | succ n ih => intro mi w i x1 r hf h0; exact r_X6_measure_29 (⟨fun q114 => k_ifp q114 hf (fun q116 => fun m24 hm24 => k_lt q116 hm24 (fun q117 => o_rV q117 h0)), fun q115 => k_ifn q115 hf (fun q116 => fun m25 hm25 => k_lt q116 hm25 (fun q118 => fun m26 hm26 => k_lt q118 hm26 (fun q119 => ih q119 h0)))⟩)

def F_X6_measure (mi : MI) (w : WS) (i : Nat) : Option (MI × WS) := lt (u3 mi 5 i 7 (((1 : Int32) <<< (((mi 5 i 0) * (mi 5 i 1)) &&& 31)) - 1)) fun m23 => L_X6_measure_29 1000000 (u3 (u3 m23 5 i 8 0) 5 i 9 0) w i 0

theorem s_X6_measure {gl : Nat} {gx : Nat → Int32} {d : Nat} {P : PL} {Q : PO} {mi : MI} {w : WS} {lv : LV} {i : Nat} {r : (MI × WS)} (hf : F_X6_measure mi w i = some r) (h0 : Q aU (r.1, RS r.2, lv)) : Wp gl gx d P 88 0 [aR 5 i, aU] [] (mi, RS w, lv) Q := r_X6_measure_0 (fun m23 hm23 => k_lt hf hm23 (fun q120 => l_X6_measure_29 1000000 q120 h0))

theorem r_X6_openSheets_2 {gl : Nat} {gx : Nat → Int32} {d : Nat} {P : PL} {Q : PO} {mi : MI} {w : WS} {lv : LV} {i : Nat} {x1 : Int32} (h : (((mi 5 i 3) ≤ x1) → Q aU (mi, RS w, lv)) ∧ (¬ ((mi 5 i 3) ≤ x1) → (vp_in x1 6) ∧ ((vp_in x1 6) ∧ ((∀ m27 : MI, m27 = u3 mi 28 i x1.toNatClampNeg (f_X6_opened mi i (mi 26 i x1.toNatClampNeg)) → Wp gl gx (d + 5) P 89 2 [aR 5 i, aI (x1 + 1)] [] (m27, RS w, lv) Q))))) : Wp gl gx (d + 5) P 89 2 [aR 5 i, aI x1] [] (mi, RS w, lv) Q :=
  wpT row_89 mt_89 [.iload_n 1, .aload_n 0, .getfield 21, .if_icmp .ge 25] (by decide +kernel) [(32, [.return_]), (10, [.aload_n 0, .getfield 31, .iload_n 1, .aload_n 0, .aload_n 0, .getfield 24, .iload_n 1, .iaload]), (22, [.invokevirtual 52]), (25, [.iastore]), (26, [.iinc 1 1, .goto (.negSucc 26)])] (by decide +kernel) 54 (And.intro (fun q121 => (h.1 q121)) (fun q122 => And.intro (h.2 q122).1 (And.intro ⟨Nat.le_of_ble_eq_true rfl, rfl, rfl⟩ (s_X6_opened (d := d) (And.intro (h.2 q122).2.1 (((h.2 q122).2.2 _ rfl)))))))

theorem r_X6_openSheets_0 {gl : Nat} {gx : Nat → Int32} {d : Nat} {P : PL} {Q : PO} {mi : MI} {w : WS} {lv : LV} {i : Nat} (h : Wp gl gx (d + 5) P 89 2 [aR 5 i, aI 0] [] (mi, RS w, lv) Q) : Wp gl gx (d + 5) P 89 0 [aR 5 i, aU] [] (mi, RS w, lv) Q :=
  wpT row_89 mt_89 [.iconst 0, .istore_n 1] (by decide +kernel) [] (by decide +kernel) 24 (h)

def L_X6_openSheets_2 : Nat → MI → WS → Nat → Int32 → Option (MI × WS)
  | 0, _, _, _, _ => none
  | n + 1, mi, w, i, x1 => if (mi 5 i 3) ≤ x1 then some (mi, w) else ck (¬ (x1 < 0 ∨ 6 ≤ x1.toNatClampNeg)) (ck (¬ (x1 < 0 ∨ 6 ≤ x1.toNatClampNeg)) (lt (u3 mi 28 i x1.toNatClampNeg (f_X6_opened mi i (mi 26 i x1.toNatClampNeg))) fun m27 => L_X6_openSheets_2 n m27 w i (x1 + 1)))

theorem l_X6_openSheets_2 {gl : Nat} {gx : Nat → Int32} {d : Nat} {P : PL} {Q : PO} {lv : LV} (n : Nat) : ∀ {mi : MI} {w : WS} {i : Nat} {x1 : Int32} {r : (MI × WS)}, L_X6_openSheets_2 n mi w i x1 = some r → (Q aU (r.1, RS r.2, lv)) → Wp gl gx (d + 5) P 89 2 [aR 5 i, aI x1] [] (mi, RS w, lv) Q := by
  induction n with
  | zero => intro mi w i x1 r hf h0; exact o_none hf
  | succ n ih => intro mi w i x1 r hf h0; exact r_X6_openSheets_2 (⟨fun q123 => k_ifp q123 hf (fun q125 => o_rV q125 h0), fun q124 => k_ifn q124 hf (fun q125 => k_ck q125 (fun q127 q126 => ⟨q127, k_ck q126 (fun q129 q128 => ⟨q129, fun m27 hm27 => k_lt q128 hm27 (fun q130 => ih q130 h0)⟩)⟩))⟩)

def F_X6_openSheets (mi : MI) (w : WS) (i : Nat) : Option (MI × WS) := L_X6_openSheets_2 1000000 mi w i 0

theorem s_X6_openSheets {gl : Nat} {gx : Nat → Int32} {d : Nat} {P : PL} {Q : PO} {mi : MI} {w : WS} {lv : LV} {i : Nat} {r : (MI × WS)} (hf : F_X6_openSheets mi w i = some r) (h0 : Q aU (r.1, RS r.2, lv)) : Wp gl gx (d + 5) P 89 0 [aR 5 i, aU] [] (mi, RS w, lv) Q := r_X6_openSheets_0 (l_X6_openSheets_2 1000000 hf h0)

theorem r_X6_union_29 {gl : Nat} {gx : Nat → Int32} {d : Nat} {P : PL} {Q : PO} {mi : MI} {w : WS} {lv : LV} {i : Nat} {x1 : Int32} {x2 : Int32} {x3 : Int32} (h : Wp gl gx d P 95 4 [aR 5 i, aI x1, aI x2, aI (x3 + 1)] [] (mi, RS w, lv) Q) : Wp gl gx d P 95 29 [aR 5 i, aI x1, aI x2, aI x3] [] (mi, RS w, lv) Q :=
  wpT row_95 mt_95 [.iinc 3 1, .goto (.negSucc 27)] (by decide +kernel) [] (by decide +kernel) 24 (h)

theorem r_X6_union_4 {gl : Nat} {gx : Nat → Int32} {d : Nat} {P : PL} {Q : PO} {mi : MI} {w : WS} {lv : LV} {i : Nat} {x1 : Int32} {x2 : Int32} {x3 : Int32} (h : (((mi 5 i 3) ≤ x3) → Q (aI x2) (mi, RS w, lv)) ∧ (¬ ((mi 5 i 3) ≤ x3) → ((((x1 >>> (x3 &&& 31)) &&& 1) = 0) → Wp gl gx d P 95 4 [aR 5 i, aI x1, aI x2, aI (x3 + 1)] [] (mi, RS w, lv) Q) ∧ (¬ (((x1 >>> (x3 &&& 31)) &&& 1) = 0) → (vp_in x3 6) ∧ (Wp gl gx d P 95 4 [aR 5 i, aI x1, aI (x2 ||| (mi 28 i x3.toNatClampNeg)), aI (x3 + 1)] [] (mi, RS w, lv) Q)))) : Wp gl gx d P 95 4 [aR 5 i, aI x1, aI x2, aI x3] [] (mi, RS w, lv) Q :=
  wpT row_95 mt_95 [.iload_n 3, .aload_n 0, .getfield 21, .if_icmp .ge 26] (by decide +kernel) [(35, [.iload_n 2, .ireturn]), (12, [.iload_n 1, .iload_n 3, .ishr, .iconst 1, .iand, .ifCond .eq 12]), (20, [.iload_n 2, .aload_n 0, .getfield 31, .iload_n 3, .iaload]), (27, [.ior, .istore_n 2])] (by decide +kernel) 58 (And.intro (fun q131 => (h.1 q131)) (fun q132 => And.intro (fun q133 => r_X6_union_29 (i := i) (x1 := x1) (x2 := x2) (x3 := x3) (mi := mi) ((h.2 q132).1 q133)) (fun q134 => And.intro ((h.2 q132).2 q134).1 (r_X6_union_29 (i := i) (x1 := x1) (x2 := (x2 ||| (mi 28 i x3.toNatClampNeg))) (x3 := x3) (mi := mi) (((h.2 q132).2 q134).2)))))

theorem r_X6_union_0 {gl : Nat} {gx : Nat → Int32} {d : Nat} {P : PL} {Q : PO} {mi : MI} {w : WS} {lv : LV} {i : Nat} {x1 : Int32} (h : Wp gl gx d P 95 4 [aR 5 i, aI x1, aI 0, aI 0] [] (mi, RS w, lv) Q) : Wp gl gx d P 95 0 [aR 5 i, aI x1, aU, aU] [] (mi, RS w, lv) Q :=
  wpT row_95 mt_95 [.iconst 0, .istore_n 2, .iconst 0, .istore_n 3] (by decide +kernel) [] (by decide +kernel) 28 (h)

def L_X6_union_4 (mi : MI) (w : WS) : Nat → Nat → Int32 → Int32 → Int32 → Option Int32
  | 0, _, _, _, _ => none
  | n + 1, i, x1, x2, x3 => if (mi 5 i 3) ≤ x3 then some x2 else if ((x1 >>> (x3 &&& 31)) &&& 1) = 0 then L_X6_union_4 mi w n i x1 x2 (x3 + 1) else ck (¬ (x3 < 0 ∨ 6 ≤ x3.toNatClampNeg)) (L_X6_union_4 mi w n i x1 (x2 ||| (mi 28 i x3.toNatClampNeg)) (x3 + 1))

theorem l_X6_union_4 {gl : Nat} {gx : Nat → Int32} {d : Nat} {P : PL} {Q : PO} {lv : LV} {mi : MI} {w : WS} (n : Nat) : ∀ {i : Nat} {x1 : Int32} {x2 : Int32} {x3 : Int32} {r : Int32}, L_X6_union_4 mi w n i x1 x2 x3 = some r → (Q (aI r) (mi, RS w, lv)) → Wp gl gx d P 95 4 [aR 5 i, aI x1, aI x2, aI x3] [] (mi, RS w, lv) Q := by
  induction n with
  | zero => intro i x1 x2 x3 r hf h0; exact o_none hf
  | succ n ih => intro i x1 x2 x3 r hf h0; exact r_X6_union_4 (⟨fun q135 => k_ifp q135 hf (fun q137 => o_rP q137 h0), fun q136 => k_ifn q136 hf (fun q137 => ⟨fun q138 => k_ifp q138 q137 (fun q140 => ih q140 h0), fun q139 => k_ifn q139 q137 (fun q140 => k_ck q140 (fun q142 q141 => ⟨q142, ih q141 h0⟩))⟩)⟩)

def F_X6_union (mi : MI) (w : WS) (i : Nat) (x1 : Int32) : Option Int32 := L_X6_union_4 mi w 1000000 i x1 0 0

theorem s_X6_union {gl : Nat} {gx : Nat → Int32} {d : Nat} {P : PL} {Q : PO} {mi : MI} {w : WS} {lv : LV} {i : Nat} {x1 : Int32} {r : Int32} (hf : F_X6_union mi w i x1 = some r) (h0 : Q (aI r) (mi, RS w, lv)) : Wp gl gx d P 95 0 [aR 5 i, aI x1, aU, aU] [] (mi, RS w, lv) Q := r_X6_union_0 (l_X6_union_4 1000000 hf h0)

theorem r_X6_slid_35 {gl : Nat} {gx : Nat → Int32} {d : Nat} {P : PL} {Q : PO} {mi : MI} {w : WS} {lv : LV} {i : Nat} {x1 : Int32} {x2 : Int32} {x3 : Int32} {x4 : Int32} {x5 : Int32} (h : ((x3 ≤ x5) → Q (aI x4) (mi, RS w, lv)) ∧ (¬ (x3 ≤ x5) → ((5 ≤ x5) → Q (aI x4) (mi, RS w, lv)) ∧ (¬ (5 ≤ x5) → Wp gl gx (d + 1) P 101 35 [aR 5 i, aI x1, aI x2, aI x3, aI ((x4 <<< ((mi 5 i 0) &&& 31)) &&& (mi 5 i 7)), aI (x5 + 1)] [] (mi, RS w, lv) Q))) : Wp gl gx (d + 1) P 101 35 [aR 5 i, aI x1, aI x2, aI x3, aI x4, aI x5] [] (mi, RS w, lv) Q :=
  wpT row_101 mt_101 [.iload 5, .iload_n 3, .if_icmp .ge 29] (by decide +kernel) [(67, [.iload 4, .ireturn]), (41, [.iload 5, .iconst 5, .if_icmp .ge 23]), (47, [.iload 4, .aload_n 0, .getfield 9, .ishl, .aload_n 0, .getfield 34, .iand, .istore 4, .iinc 5 1, .goto (.negSucc 28)])] (by decide +kernel) 56 (And.intro (fun q143 => (h.1 q143)) (fun q144 => And.intro (fun q145 => ((h.2 q144).1 q145)) (fun q146 => ((h.2 q144).2 q146))))

theorem r_X6_slid_32 {gl : Nat} {gx : Nat → Int32} {d : Nat} {P : PL} {Q : PO} {mi : MI} {w : WS} {lv : LV} {i : Nat} {x1 : Int32} {x2 : Int32} {x3 : Int32} {x4 : Int32} {x5 : Int32} (h : Wp gl gx (d + 1) P 101 35 [aR 5 i, aI x1, aI x2, aI x3, aI x4, aI 0] [] (mi, RS w, lv) Q) : Wp gl gx (d + 1) P 101 32 [aR 5 i, aI x1, aI x2, aI x3, aI x4, aI x5] [] (mi, RS w, lv) Q :=
  wpT row_101 mt_101 [.iconst 0, .istore 5] (by decide +kernel) [] (by decide +kernel) 24 (h)

theorem r_X6_slid_6 {gl : Nat} {gx : Nat → Int32} {d : Nat} {P : PL} {Q : PO} {mi : MI} {w : WS} {lv : LV} {i : Nat} {x1 : Int32} {x2 : Int32} {x3 : Int32} {x4 : Int32} {x5 : Int32} (h : ((x2 ≤ x5) → Wp gl gx (d + 1) P 101 35 [aR 5 i, aI x1, aI x2, aI x3, aI x4, aI 0] [] (mi, RS w, lv) Q) ∧ (¬ (x2 ≤ x5) → ((5 ≤ x5) → Wp gl gx (d + 1) P 101 35 [aR 5 i, aI x1, aI x2, aI x3, aI x4, aI 0] [] (mi, RS w, lv) Q) ∧ (¬ (5 ≤ x5) → Wp gl gx (d + 1) P 101 6 [aR 5 i, aI x1, aI x2, aI x3, aI (f_X6_toRight mi i x4), aI (x5 + 1)] [] (mi, RS w, lv) Q))) : Wp gl gx (d + 1) P 101 6 [aR 5 i, aI x1, aI x2, aI x3, aI x4, aI x5] [] (mi, RS w, lv) Q :=
  wpT row_101 mt_101 [.iload 5, .iload_n 2, .if_icmp .ge 23] (by decide +kernel) [(12, [.iload 5, .iconst 5, .if_icmp .ge 17]), (18, [.aload_n 0, .iload 4, .invokevirtual 56]), (24, [.istore 4, .iinc 5 1, .goto (.negSucc 22)])] (by decide +kernel) 44 (And.intro (fun q147 => r_X6_slid_32 (i := i) (x1 := x1) (x2 := x2) (x3 := x3) (x4 := x4) (x5 := x5) (mi := mi) (h.1 q147)) (fun q148 => And.intro (fun q149 => r_X6_slid_32 (i := i) (x1 := x1) (x2 := x2) (x3 := x3) (x4 := x4) (x5 := x5) (mi := mi) ((h.2 q148).1 q149)) (fun q150 => And.intro ⟨Nat.le_of_ble_eq_true rfl, rfl, rfl⟩ (s_X6_toRight (d := d) (((h.2 q148).2 q150))))))

theorem r_X6_slid_0 {gl : Nat} {gx : Nat → Int32} {d : Nat} {P : PL} {Q : PO} {mi : MI} {w : WS} {lv : LV} {i : Nat} {x1 : Int32} {x2 : Int32} {x3 : Int32} (h : Wp gl gx (d + 1) P 101 6 [aR 5 i, aI x1, aI x2, aI x3, aI x1, aI 0] [] (mi, RS w, lv) Q) : Wp gl gx (d + 1) P 101 0 [aR 5 i, aI x1, aI x2, aI x3, aU, aU] [] (mi, RS w, lv) Q :=
  wpT row_101 mt_101 [.iload_n 1, .istore 4, .iconst 0, .istore 5] (by decide +kernel) [] (by decide +kernel) 28 (h)

def L_X6_slid_35 (mi : MI) (w : WS) : Nat → Nat → Int32 → Int32 → Int32 → Int32 → Int32 → Option Int32
  | 0, _, _, _, _, _, _ => none
  | n + 1, i, x1, x2, x3, x4, x5 => if x3 ≤ x5 then some x4 else if 5 ≤ x5 then some x4 else L_X6_slid_35 mi w n i x1 x2 x3 ((x4 <<< ((mi 5 i 0) &&& 31)) &&& (mi 5 i 7)) (x5 + 1)

theorem l_X6_slid_35 {gl : Nat} {gx : Nat → Int32} {d : Nat} {P : PL} {Q : PO} {lv : LV} {mi : MI} {w : WS} (n : Nat) : ∀ {i : Nat} {x1 : Int32} {x2 : Int32} {x3 : Int32} {x4 : Int32} {x5 : Int32} {r : Int32}, L_X6_slid_35 mi w n i x1 x2 x3 x4 x5 = some r → (Q (aI r) (mi, RS w, lv)) → Wp gl gx (d + 1) P 101 35 [aR 5 i, aI x1, aI x2, aI x3, aI x4, aI x5] [] (mi, RS w, lv) Q := by
  induction n with
  | zero => intro i x1 x2 x3 x4 x5 r hf h0; exact o_none hf
  | succ n ih => intro i x1 x2 x3 x4 x5 r hf h0; exact r_X6_slid_35 (⟨fun q151 => k_ifp q151 hf (fun q153 => o_rP q153 h0), fun q152 => k_ifn q152 hf (fun q153 => ⟨fun q154 => k_ifp q154 q153 (fun q156 => o_rP q156 h0), fun q155 => k_ifn q155 q153 (fun q156 => ih q156 h0)⟩)⟩)

def L_X6_slid_6 (mi : MI) (w : WS) : Nat → Nat → Int32 → Int32 → Int32 → Int32 → Int32 → Option Int32
  | 0, _, _, _, _, _, _ => none
  | n + 1, i, x1, x2, x3, x4, x5 => if x2 ≤ x5 then L_X6_slid_35 mi w 1000000 i x1 x2 x3 x4 0 else if 5 ≤ x5 then L_X6_slid_35 mi w 1000000 i x1 x2 x3 x4 0 else L_X6_slid_6 mi w n i x1 x2 x3 (f_X6_toRight mi i x4) (x5 + 1)

theorem l_X6_slid_6 {gl : Nat} {gx : Nat → Int32} {d : Nat} {P : PL} {Q : PO} {lv : LV} {mi : MI} {w : WS} (n : Nat) : ∀ {i : Nat} {x1 : Int32} {x2 : Int32} {x3 : Int32} {x4 : Int32} {x5 : Int32} {r : Int32}, L_X6_slid_6 mi w n i x1 x2 x3 x4 x5 = some r → (Q (aI r) (mi, RS w, lv)) → Wp gl gx (d + 1) P 101 6 [aR 5 i, aI x1, aI x2, aI x3, aI x4, aI x5] [] (mi, RS w, lv) Q := by
  induction n with
  | zero => intro i x1 x2 x3 x4 x5 r hf h0; exact o_none hf
  | succ n ih => intro i x1 x2 x3 x4 x5 r hf h0; exact r_X6_slid_6 (⟨fun q157 => k_ifp q157 hf (fun q159 => l_X6_slid_35 1000000 q159 h0), fun q158 => k_ifn q158 hf (fun q159 => ⟨fun q160 => k_ifp q160 q159 (fun q162 => l_X6_slid_35 1000000 q162 h0), fun q161 => k_ifn q161 q159 (fun q162 => ih q162 h0)⟩)⟩)

def F_X6_slid (mi : MI) (w : WS) (i : Nat) (x1 : Int32) (x2 : Int32) (x3 : Int32) : Option Int32 := L_X6_slid_6 mi w 1000000 i x1 x2 x3 x1 0

theorem s_X6_slid {gl : Nat} {gx : Nat → Int32} {d : Nat} {P : PL} {Q : PO} {mi : MI} {w : WS} {lv : LV} {i : Nat} {x1 : Int32} {x2 : Int32} {x3 : Int32} {r : Int32} (hf : F_X6_slid mi w i x1 x2 x3 = some r) (h0 : Q (aI r) (mi, RS w, lv)) : Wp gl gx (d + 1) P 101 0 [aR 5 i, aI x1, aI x2, aI x3, aU, aU] [] (mi, RS w, lv) Q := r_X6_slid_0 (l_X6_slid_6 1000000 hf h0)

theorem r_X6_flipped_15 {gl : Nat} {gx : Nat → Int32} {d : Nat} {P : PL} {Q : PO} {mi : MI} {w : WS} {lv : LV} {i : Nat} {x1 : Int32} {x2 : Int32} {x3 : Int32} {x4 : Int32} {v5 : AV} (h : (((mi 5 i 0) ≤ x4) → Wp gl gx d P 102 4 [aR 5 i, aI x1, aI x2, aI (x3 + 1), aI x4, v5] [] (mi, RS w, lv) Q) ∧ (¬ ((mi 5 i 0) ≤ x4) → Wp gl gx d P 102 15 [aR 5 i, aI x1, aI (x2 ||| (((x1 >>> (((x3 * (mi 5 i 0)) + x4) &&& 31)) &&& 1) <<< (((((x3 * (mi 5 i 0)) + (mi 5 i 0)) - 1) - x4) &&& 31))), aI x3, aI (x4 + 1), aI ((x1 >>> (((x3 * (mi 5 i 0)) + x4) &&& 31)) &&& 1)] [] (mi, RS w, lv) Q)) : Wp gl gx d P 102 15 [aR 5 i, aI x1, aI x2, aI x3, aI x4, v5] [] (mi, RS w, lv) Q :=
  wpT row_102 mt_102 [.iload 4, .aload_n 0, .getfield 9, .if_icmp .ge 46] (by decide +kernel) [(67, [.iinc 3 1, .goto (.negSucc 65)]), (24, [.iload_n 1, .iload_n 3, .aload_n 0, .getfield 9, .imul, .iload 4, .iadd, .ishr, .iconst 1, .iand, .istore 5, .iload_n 2, .iload 5, .iload_n 3, .aload_n 0, .getfield 9, .imul, .aload_n 0, .getfield 9, .iadd, .iconst 1, .isub, .iload 4, .isub, .ishl, .ior, .istore_n 2, .iinc 4 1, .goto (.negSucc 48)])] (by decide +kernel) 90 (And.intro (fun q163 => (h.1 q163)) (fun q164 => (h.2 q164)))

theorem r_X6_flipped_4 {gl : Nat} {gx : Nat → Int32} {d : Nat} {P : PL} {Q : PO} {mi : MI} {w : WS} {lv : LV} {i : Nat} {x1 : Int32} {x2 : Int32} {x3 : Int32} {v4 : AV} {v5 : AV} (h : (((mi 5 i 1) ≤ x3) → Q (aI x2) (mi, RS w, lv)) ∧ (¬ ((mi 5 i 1) ≤ x3) → Wp gl gx d P 102 15 [aR 5 i, aI x1, aI x2, aI x3, aI 0, v5] [] (mi, RS w, lv) Q)) : Wp gl gx d P 102 4 [aR 5 i, aI x1, aI x2, aI x3, v4, v5] [] (mi, RS w, lv) Q :=
  wpT row_102 mt_102 [.iload_n 3, .aload_n 0, .getfield 15, .if_icmp .ge 64] (by decide +kernel) [(73, [.iload_n 2, .ireturn]), (12, [.iconst 0, .istore 4])] (by decide +kernel) 36 (And.intro (fun q165 => (h.1 q165)) (fun q166 => (h.2 q166)))

theorem r_X6_flipped_0 {gl : Nat} {gx : Nat → Int32} {d : Nat} {P : PL} {Q : PO} {mi : MI} {w : WS} {lv : LV} {i : Nat} {x1 : Int32} (h : Wp gl gx d P 102 4 [aR 5 i, aI x1, aI 0, aI 0, aU, aU] [] (mi, RS w, lv) Q) : Wp gl gx d P 102 0 [aR 5 i, aI x1, aU, aU, aU, aU] [] (mi, RS w, lv) Q :=
  wpT row_102 mt_102 [.iconst 0, .istore_n 2, .iconst 0, .istore_n 3] (by decide +kernel) [] (by decide +kernel) 28 (h)

def L_X6_flipped_15 (mi : MI) (w : WS) (k4 : Nat → Int32 → Int32 → Int32 → Option Int32) : Nat → Nat → Int32 → Int32 → Int32 → Int32 → Option Int32
  | 0, _, _, _, _, _ => none
  | n + 1, i, x1, x2, x3, x4 => if (mi 5 i 0) ≤ x4 then k4 i x1 x2 (x3 + 1) else L_X6_flipped_15 mi w k4 n i x1 (x2 ||| (((x1 >>> (((x3 * (mi 5 i 0)) + x4) &&& 31)) &&& 1) <<< (((((x3 * (mi 5 i 0)) + (mi 5 i 0)) - 1) - x4) &&& 31))) x3 (x4 + 1)

theorem l_X6_flipped_15 {gl : Nat} {gx : Nat → Int32} {d : Nat} {P : PL} {Q : PO} {lv : LV} {mi : MI} {w : WS} {k4 : Nat → Int32 → Int32 → Int32 → Option Int32} (hk4 : ∀ {i : Nat} {x1 : Int32} {x2 : Int32} {x3 : Int32} {v4 : AV} {v5 : AV} {r : Int32}, k4 i x1 x2 x3 = some r → (Q (aI r) (mi, RS w, lv)) → Wp gl gx d P 102 4 [aR 5 i, aI x1, aI x2, aI x3, v4, v5] [] (mi, RS w, lv) Q) (n : Nat) : ∀ {i : Nat} {x1 : Int32} {x2 : Int32} {x3 : Int32} {x4 : Int32} {v5 : AV} {r : Int32}, L_X6_flipped_15 mi w k4 n i x1 x2 x3 x4 = some r → (Q (aI r) (mi, RS w, lv)) → Wp gl gx d P 102 15 [aR 5 i, aI x1, aI x2, aI x3, aI x4, v5] [] (mi, RS w, lv) Q := by
  induction n with
  | zero => intro i x1 x2 x3 x4 v5 r hf h0; exact o_none hf
  | succ n ih => intro i x1 x2 x3 x4 v5 r hf h0; exact r_X6_flipped_15 (⟨fun q167 => k_ifp q167 hf (fun q169 => hk4 q169 h0), fun q168 => k_ifn q168 hf (fun q169 => ih q169 h0)⟩)

def L_X6_flipped_4 (mi : MI) (w : WS) : Nat → Nat → Int32 → Int32 → Int32 → Option Int32
  | 0, _, _, _, _ => none
  | n + 1, i, x1, x2, x3 => if (mi 5 i 1) ≤ x3 then some x2 else L_X6_flipped_15 mi w (fun i x1 x2 x3 => L_X6_flipped_4 mi w n i x1 x2 x3) 1000000 i x1 x2 x3 0

theorem l_X6_flipped_4 {gl : Nat} {gx : Nat → Int32} {d : Nat} {P : PL} {Q : PO} {lv : LV} {mi : MI} {w : WS} (n : Nat) : ∀ {i : Nat} {x1 : Int32} {x2 : Int32} {x3 : Int32} {v4 : AV} {v5 : AV} {r : Int32}, L_X6_flipped_4 mi w n i x1 x2 x3 = some r → (Q (aI r) (mi, RS w, lv)) → Wp gl gx d P 102 4 [aR 5 i, aI x1, aI x2, aI x3, v4, v5] [] (mi, RS w, lv) Q := by
  induction n with
  | zero => intro i x1 x2 x3 v4 v5 r hf h0; exact o_none hf
  | succ n ih => intro i x1 x2 x3 v4 v5 r hf h0; exact r_X6_flipped_4 (⟨fun q170 => k_ifp q170 hf (fun q172 => o_rP q172 h0), fun q171 => k_ifn q171 hf (fun q172 => l_X6_flipped_15 (fun hf h0 => ih hf h0) 1000000 q172 h0)⟩)

def F_X6_flipped (mi : MI) (w : WS) (i : Nat) (x1 : Int32) : Option Int32 := L_X6_flipped_4 mi w 1000000 i x1 0 0

theorem s_X6_flipped {gl : Nat} {gx : Nat → Int32} {d : Nat} {P : PL} {Q : PO} {mi : MI} {w : WS} {lv : LV} {i : Nat} {x1 : Int32} {r : Int32} (hf : F_X6_flipped mi w i x1 = some r) (h0 : Q (aI r) (mi, RS w, lv)) : Wp gl gx d P 102 0 [aR 5 i, aI x1, aU, aU, aU, aU] [] (mi, RS w, lv) Q := r_X6_flipped_0 (l_X6_flipped_4 1000000 hf h0)

theorem r_X6_turned_17 {gl : Nat} {gx : Nat → Int32} {d : Nat} {P : PL} {Q : PO} {mi : MI} {w : WS} {lv : LV} {i : Nat} {x1 : Int32} {x2 : Int32} {x3 : Int32} {x4 : Int32} (h : ((x2 < x4) → Q (aI x3) (mi, RS w, lv)) ∧ (¬ (x2 < x4) → Wp gl gx d P 103 17 [aR 5 i, aI x1, aI x2, aI (x3 ||| (((x1 >>> (x4 &&& 31)) &&& 1) <<< ((x2 - x4) &&& 31))), aI (x4 + 1)] [] (mi, RS w, lv) Q)) : Wp gl gx d P 103 17 [aR 5 i, aI x1, aI x2, aI x3, aI x4] [] (mi, RS w, lv) Q :=
  wpT row_103 mt_103 [.iload 4, .iload_n 2, .if_icmp .gt 23] (by decide +kernel) [(43, [.iload_n 3, .ireturn]), (23, [.iload_n 3, .iload_n 1, .iload 4, .ishr, .iconst 1, .iand, .iload_n 2, .iload 4, .isub, .ishl, .ior, .istore_n 3, .iinc 4 1, .goto (.negSucc 22)])] (by decide +kernel) 58 (And.intro (fun q173 => (h.1 q173)) (fun q174 => (h.2 q174)))

theorem r_X6_turned_0 {gl : Nat} {gx : Nat → Int32} {d : Nat} {P : PL} {Q : PO} {mi : MI} {w : WS} {lv : LV} {i : Nat} {x1 : Int32} (h : Wp gl gx d P 103 17 [aR 5 i, aI x1, aI (((mi 5 i 0) * (mi 5 i 1)) - 1), aI 0, aI 0] [] (mi, RS w, lv) Q) : Wp gl gx d P 103 0 [aR 5 i, aI x1, aU, aU, aU] [] (mi, RS w, lv) Q :=
  wpT row_103 mt_103 [.aload_n 0, .getfield 9, .aload_n 0, .getfield 15, .imul, .iconst 1, .isub, .istore_n 2, .iconst 0, .istore_n 3, .iconst 0, .istore 4] (by decide +kernel) [] (by decide +kernel) 44 (h)

def L_X6_turned_17 (mi : MI) (w : WS) : Nat → Nat → Int32 → Int32 → Int32 → Int32 → Option Int32
  | 0, _, _, _, _, _ => none
  | n + 1, i, x1, x2, x3, x4 => if x2 < x4 then some x3 else L_X6_turned_17 mi w n i x1 x2 (x3 ||| (((x1 >>> (x4 &&& 31)) &&& 1) <<< ((x2 - x4) &&& 31))) (x4 + 1)

theorem l_X6_turned_17 {gl : Nat} {gx : Nat → Int32} {d : Nat} {P : PL} {Q : PO} {lv : LV} {mi : MI} {w : WS} (n : Nat) : ∀ {i : Nat} {x1 : Int32} {x2 : Int32} {x3 : Int32} {x4 : Int32} {r : Int32}, L_X6_turned_17 mi w n i x1 x2 x3 x4 = some r → (Q (aI r) (mi, RS w, lv)) → Wp gl gx d P 103 17 [aR 5 i, aI x1, aI x2, aI x3, aI x4] [] (mi, RS w, lv) Q := by
  induction n with
  | zero => intro i x1 x2 x3 x4 r hf h0; exact o_none hf
  | succ n ih => intro i x1 x2 x3 x4 r hf h0; exact r_X6_turned_17 (⟨fun q175 => k_ifp q175 hf (fun q177 => o_rP q177 h0), fun q176 => k_ifn q176 hf (fun q177 => ih q177 h0)⟩)

def F_X6_turned (mi : MI) (w : WS) (i : Nat) (x1 : Int32) : Option Int32 := L_X6_turned_17 mi w 1000000 i x1 (((mi 5 i 0) * (mi 5 i 1)) - 1) 0 0

theorem s_X6_turned {gl : Nat} {gx : Nat → Int32} {d : Nat} {P : PL} {Q : PO} {mi : MI} {w : WS} {lv : LV} {i : Nat} {x1 : Int32} {r : Int32} (hf : F_X6_turned mi w i x1 = some r) (h0 : Q (aI r) (mi, RS w, lv)) : Wp gl gx d P 103 0 [aR 5 i, aI x1, aU, aU, aU] [] (mi, RS w, lv) Q := r_X6_turned_0 (l_X6_turned_17 1000000 hf h0)

theorem r_X6_tellSheet_0 {gl : Nat} {gx : Nat → Int32} {d : Nat} {P : PL} {Q : PO} {mi : MI} {w : WS} {lv : LV} {i : Nat} {x1 : Int32} (h : ((x1 < 10) → Q (aI (-1)) (mi, RS w, lv)) ∧ (¬ (x1 < 10) → ((50 ≤ x1) → Q (aI (-1)) (mi, RS w, lv)) ∧ (¬ (50 ≤ x1) → (¬ ((irem x1 10) < 0) ∧ (¬ ((mi 5 i 3) ≤ (irem x1 10)) ∧ (¬ (6 ≤ (irem x1 10)))) → (x1 / 10 < 1 ∨ 3 < x1 / 10 → (vp_in (irem x1 10) 6) ∧ (Q (aI (mi 27 i ((irem x1 10).toNatClampNeg))) (mi, RS w, lv))) ∧ (x1 / 10 = 1 → (vp_in (irem x1 10) 6) ∧ (Q (aI (mi 26 i ((irem x1 10).toNatClampNeg))) (mi, RS w, lv))) ∧ (x1 / 10 = 2 → (vp_in (irem x1 10) 6) ∧ (Q (aI (f_X6_falling mi i (mi 26 i ((irem x1 10).toNatClampNeg)))) (mi, RS w, lv))) ∧ (x1 / 10 = 3 → (vp_in (irem x1 10) 6) ∧ (Q (aI (mi 28 i ((irem x1 10).toNatClampNeg))) (mi, RS w, lv)))) ∧ (¬ (¬ ((irem x1 10) < 0) ∧ (¬ ((mi 5 i 3) ≤ (irem x1 10)) ∧ (¬ (6 ≤ (irem x1 10))))) → Q (aI (-1)) (mi, RS w, lv))))) : Wp gl gx (d + 4) P 104 0 [aR 5 i, aI x1, aU] [] (mi, RS w, lv) Q :=
  wpT row_104 mt_104 [.iload_n 1, .bipush 10, .irem] (by decide +kernel) [(4, [.istore_n 2, .iload_n 1, .bipush 10, .if_icmp .lt 17]), (25, [.iconst (.negSucc 0), .ireturn]), (11, [.iload_n 1, .bipush 50, .if_icmp .ge 11]), (17, [.aload_n 0, .iload_n 2, .invokevirtual 69]), (22, [.ifCond .ne 5]), (27, [.iload_n 1, .bipush 10, .idiv]), (31, [.tableswitch 50 1 3 #[25, 32, 43]]), (81, [.aload_n 0, .getfield 28, .iload_n 2, .iaload]), (87, [.ireturn]), (56, [.aload_n 0, .getfield 24, .iload_n 2, .iaload]), (62, [.ireturn]), (63, [.aload_n 0, .aload_n 0, .getfield 24, .iload_n 2, .iaload]), (70, [.invokevirtual 66]), (73, [.ireturn]), (74, [.aload_n 0, .getfield 31, .iload_n 2, .iaload]), (80, [.ireturn])] (by decide +kernel) 104 (And.intro (by decide) (And.intro (fun q178 => (h.1 q178)) (fun q179 => And.intro (fun q180 => ((h.2 q179).1 q180)) (fun q181 => And.intro ⟨Nat.le_of_ble_eq_true rfl, rfl, rfl⟩ (s_X6_hasSheet (d := d + 3) (And.intro (fun q182 => And.intro (by decide) (And.intro (fun q187 => And.intro ((((h.2 q179).2 q181).1 (b2_n q182)).1 q187).1 (((((h.2 q179).2 q181).1 (b2_n q182)).1 q187).2)) (And.intro (fun q186 => And.intro ((((h.2 q179).2 q181).1 (b2_n q182)).2.1 q186).1 (((((h.2 q179).2 q181).1 (b2_n q182)).2.1 q186).2)) (And.intro (fun q185 => And.intro ((((h.2 q179).2 q181).1 (b2_n q182)).2.2.1 q185).1 (And.intro ⟨Nat.le_of_ble_eq_true rfl, rfl, rfl⟩ (s_X6_falling (d := d) (((((h.2 q179).2 q181).1 (b2_n q182)).2.2.1 q185).2)))) (And.intro (fun q184 => And.intro ((((h.2 q179).2 q181).1 (b2_n q182)).2.2.2 q184).1 (((((h.2 q179).2 q181).1 (b2_n q182)).2.2.2 q184).2)) (trivial)))))) (fun q183 => (((h.2 q179).2 q181).2 (b2_0 q183)))))))))

def F_X6_tellSheet (mi : MI) (w : WS) (i : Nat) (x1 : Int32) : Option Int32 := if x1 < 10 then some (-1 : Int32) else if 50 ≤ x1 then some (-1 : Int32) else if ¬ ((irem x1 10) < 0) ∧ (¬ ((mi 5 i 3) ≤ (irem x1 10)) ∧ (¬ (6 ≤ (irem x1 10)))) then if x1 / 10 = 1 then ck (¬ ((irem x1 10) < 0 ∨ 6 ≤ (irem x1 10).toNatClampNeg)) (some (mi 26 i ((irem x1 10).toNatClampNeg))) else if x1 / 10 = 2 then ck (¬ ((irem x1 10) < 0 ∨ 6 ≤ (irem x1 10).toNatClampNeg)) (some (f_X6_falling mi i (mi 26 i ((irem x1 10).toNatClampNeg)))) else if x1 / 10 = 3 then ck (¬ ((irem x1 10) < 0 ∨ 6 ≤ (irem x1 10).toNatClampNeg)) (some (mi 28 i ((irem x1 10).toNatClampNeg))) else ck (¬ ((irem x1 10) < 0 ∨ 6 ≤ (irem x1 10).toNatClampNeg)) (some (mi 27 i ((irem x1 10).toNatClampNeg))) else some (-1 : Int32)

theorem s_X6_tellSheet {gl : Nat} {gx : Nat → Int32} {d : Nat} {P : PL} {Q : PO} {mi : MI} {w : WS} {lv : LV} {i : Nat} {x1 : Int32} {r : Int32} (hf : F_X6_tellSheet mi w i x1 = some r) (h0 : Q (aI r) (mi, RS w, lv)) : Wp gl gx (d + 4) P 104 0 [aR 5 i, aI x1, aU] [] (mi, RS w, lv) Q := r_X6_tellSheet_0 (⟨fun q188 => k_ifp q188 hf (fun q190 => o_rP q190 h0), fun q189 => k_ifn q189 hf (fun q190 => ⟨fun q191 => k_ifp q191 q190 (fun q193 => o_rP q193 h0), fun q192 => k_ifn q192 q190 (fun q193 => ⟨fun q194 => k_ifp q194 q193 (fun q196 => ⟨(fun q197 => k_ifn (sw_o q197 (by decide) (by decide)) q196 (fun q198 => k_ifn (sw_o q197 (by decide) (by decide)) q198 (fun q199 => k_ifn (sw_o q197 (by decide) (by decide)) q199 (fun q200 => k_ck q200 (fun q202 q201 => ⟨q202, o_rP q201 h0⟩))))), (fun q203 => k_ifp q203 q196 (fun q204 => k_ck q204 (fun q206 q205 => ⟨q206, o_rP q205 h0⟩))), (fun q207 => k_ifn (sw_n q207 (by decide)) q196 (fun q208 => k_ifp q207 q208 (fun q209 => k_ck q209 (fun q211 q210 => ⟨q211, o_rP q210 h0⟩)))), (fun q212 => k_ifn (sw_n q212 (by decide)) q196 (fun q213 => k_ifn (sw_n q212 (by decide)) q213 (fun q214 => k_ifp q212 q214 (fun q215 => k_ck q215 (fun q217 q216 => ⟨q217, o_rP q216 h0⟩)))))⟩), fun q195 => k_ifn q195 q193 (fun q196 => o_rP q196 h0)⟩)⟩)⟩)

abbrev row_111 : MT := (⟨"StencilHouse$Tokens", "isBlank", "(I)Z"⟩, prog_9_method_7_code, 1, some .boolean, 0, lk_7)
theorem mt_111 : mt 111 = some row_111 := rfl
theorem r_X7_isBlank_0 {gl : Nat} {gx : Nat → Int32} {d : Nat} {P : PL} {Q : PO} {mi : MI} {w : WS} {lv : LV} {x0 : Int32} (h : Q (aI (b2 ((x0 = 10) ∨ (x0 = 32)))) (mi, RS w, lv)) : Wp gl gx d P 111 0 [aI x0] [] (mi, RS w, lv) Q :=
  wpT row_111 mt_111 [.iload_n 0, .bipush 10, .if_icmp .eq 9] (by decide +kernel) [(12, [.iconst 1, .goto 4]), (17, [.ireturn]), (6, [.iload_n 0, .bipush 32, .if_icmp .ne 7]), (16, [.iconst 0, .ireturn])] (by decide +kernel) 42 (And.intro (fun q218 => And.intro rfl (mv9 (fun v => Q (aI v) (mi, RS w, lv)) (show (b2 ((x0 = 10) ∨ (x0 = 32))) = 1 from b2o_t (show x0 = 10 from q218)) h)) (fun q219 => And.intro (fun q220 => And.intro rfl (mv9 (fun v => Q (aI v) (mi, RS w, lv)) (show (b2 (x0 = 32)) = 0 from b2_f (show ¬ (x0 = 32) from q220)) (mv9 (fun v => Q (aI v) (mi, RS w, lv)) (show (b2 ((x0 = 10) ∨ (x0 = 32))) = (b2 (x0 = 32)) from b2o_f (show ¬ (x0 = 10) from q219)) h))) (fun q221 => And.intro rfl (mv9 (fun v => Q (aI v) (mi, RS w, lv)) (show (b2 (x0 = 32)) = 1 from b2_t (show x0 = 32 from q221)) (mv9 (fun v => Q (aI v) (mi, RS w, lv)) (show (b2 ((x0 = 10) ∨ (x0 = 32))) = (b2 (x0 = 32)) from b2o_f (show ¬ (x0 = 10) from q219)) h)))))

abbrev f_X7_isBlank (mi : MI) (x0 : Int32) : Int32 := b2 ((x0 = 10) ∨ (x0 = 32))
theorem s_X7_isBlank {gl : Nat} {gx : Nat → Int32} {d : Nat} {P : PL} {Q : PO} {mi : MI} {w : WS} {lv : LV} {x0 : Int32} (h : Q (aI (f_X7_isBlank mi x0)) (mi, RS w, lv)) : Wp gl gx d P 111 0 [aI x0] [] (mi, RS w, lv) Q := r_X7_isBlank_0 h

abbrev row_112 : MT := (⟨"StencilHouse$Tokens", "isLetter", "(I)Z"⟩, prog_9_method_8_code, 1, some .boolean, 0, lk_7)
theorem mt_112 : mt 112 = some row_112 := rfl
theorem r_X7_isLetter_0 {gl : Nat} {gx : Nat → Int32} {d : Nat} {P : PL} {Q : PO} {mi : MI} {w : WS} {lv : LV} {x0 : Int32} (h : Q (aI (b2 (¬ (x0 < 97) ∧ (¬ (122 < x0))))) (mi, RS w, lv)) : Wp gl gx d P 112 0 [aI x0] [] (mi, RS w, lv) Q :=
  wpT row_112 mt_112 [.iload_n 0, .bipush 97, .if_icmp .lt 13] (by decide +kernel) [(16, [.iconst 0, .ireturn]), (6, [.iload_n 0, .bipush 122, .if_icmp .gt 7]), (12, [.iconst 1, .goto 4]), (17, [.ireturn])] (by decide +kernel) 42 (And.intro (fun q222 => And.intro rfl (mv9 (fun v => Q (aI v) (mi, RS w, lv)) (show (b2 (¬ (x0 < 97) ∧ (¬ (122 < x0)))) = 0 from b2na_t (show x0 < 97 from q222)) h)) (fun q223 => And.intro (fun q224 => And.intro rfl (mv9 (fun v => Q (aI v) (mi, RS w, lv)) (show (b2 (¬ (122 < x0))) = 0 from b2n_t (show 122 < x0 from q224)) (mv9 (fun v => Q (aI v) (mi, RS w, lv)) (show (b2 (¬ (x0 < 97) ∧ (¬ (122 < x0)))) = (b2 (¬ (122 < x0))) from b2na_f (show ¬ (x0 < 97) from q223)) h))) (fun q225 => And.intro rfl (mv9 (fun v => Q (aI v) (mi, RS w, lv)) (show (b2 (¬ (122 < x0))) = 1 from b2n_f (show ¬ (122 < x0) from q225)) (mv9 (fun v => Q (aI v) (mi, RS w, lv)) (show (b2 (¬ (x0 < 97) ∧ (¬ (122 < x0)))) = (b2 (¬ (122 < x0))) from b2na_f (show ¬ (x0 < 97) from q223)) h)))))

abbrev f_X7_isLetter (mi : MI) (x0 : Int32) : Int32 := b2 (¬ (x0 < 97) ∧ (¬ (122 < x0)))
theorem s_X7_isLetter {gl : Nat} {gx : Nat → Int32} {d : Nat} {P : PL} {Q : PO} {mi : MI} {w : WS} {lv : LV} {x0 : Int32} (h : Q (aI (f_X7_isLetter mi x0)) (mi, RS w, lv)) : Wp gl gx d P 112 0 [aI x0] [] (mi, RS w, lv) Q := r_X7_isLetter_0 h

abbrev row_113 : MT := (⟨"StencilHouse$Tokens", "isDigit", "(I)Z"⟩, prog_9_method_9_code, 1, some .boolean, 0, lk_7)
theorem mt_113 : mt 113 = some row_113 := rfl
theorem r_X7_isDigit_0 {gl : Nat} {gx : Nat → Int32} {d : Nat} {P : PL} {Q : PO} {mi : MI} {w : WS} {lv : LV} {x0 : Int32} (h : Q (aI (b2 (¬ (x0 < 48) ∧ (¬ (57 < x0))))) (mi, RS w, lv)) : Wp gl gx d P 113 0 [aI x0] [] (mi, RS w, lv) Q :=
  wpT row_113 mt_113 [.iload_n 0, .bipush 48, .if_icmp .lt 13] (by decide +kernel) [(16, [.iconst 0, .ireturn]), (6, [.iload_n 0, .bipush 57, .if_icmp .gt 7]), (12, [.iconst 1, .goto 4]), (17, [.ireturn])] (by decide +kernel) 42 (And.intro (fun q226 => And.intro rfl (mv9 (fun v => Q (aI v) (mi, RS w, lv)) (show (b2 (¬ (x0 < 48) ∧ (¬ (57 < x0)))) = 0 from b2na_t (show x0 < 48 from q226)) h)) (fun q227 => And.intro (fun q228 => And.intro rfl (mv9 (fun v => Q (aI v) (mi, RS w, lv)) (show (b2 (¬ (57 < x0))) = 0 from b2n_t (show 57 < x0 from q228)) (mv9 (fun v => Q (aI v) (mi, RS w, lv)) (show (b2 (¬ (x0 < 48) ∧ (¬ (57 < x0)))) = (b2 (¬ (57 < x0))) from b2na_f (show ¬ (x0 < 48) from q227)) h))) (fun q229 => And.intro rfl (mv9 (fun v => Q (aI v) (mi, RS w, lv)) (show (b2 (¬ (57 < x0))) = 1 from b2n_f (show ¬ (57 < x0) from q229)) (mv9 (fun v => Q (aI v) (mi, RS w, lv)) (show (b2 (¬ (x0 < 48) ∧ (¬ (57 < x0)))) = (b2 (¬ (57 < x0))) from b2na_f (show ¬ (x0 < 48) from q227)) h)))))

abbrev f_X7_isDigit (mi : MI) (x0 : Int32) : Int32 := b2 (¬ (x0 < 48) ∧ (¬ (57 < x0)))
theorem s_X7_isDigit {gl : Nat} {gx : Nat → Int32} {d : Nat} {P : PL} {Q : PO} {mi : MI} {w : WS} {lv : LV} {x0 : Int32} (h : Q (aI (f_X7_isDigit mi x0)) (mi, RS w, lv)) : Wp gl gx d P 113 0 [aI x0] [] (mi, RS w, lv) Q := r_X7_isDigit_0 h

abbrev row_313 : MT := (⟨"java/lang/Integer", "bitCount", "(I)I"⟩, prog_14_method_49_code, 1, some .int, 0, lk_12)
theorem mt_313 : mt 313 = some row_313 := rfl
theorem r_J6_bitCount_0f7a4_0 {gl : Nat} {gx : Nat → Int32} {d : Nat} {P : PL} {Q : PO} {mi : MI} {w : WS} {lv : LV} {x0 : Int32} (h : Q (aI ((((((((x0 - ((ushr x0 1) &&& (1431655765))) &&& (858993459)) + ((ushr (x0 - ((ushr x0 1) &&& (1431655765))) 2) &&& (858993459))) + (ushr (((x0 - ((ushr x0 1) &&& (1431655765))) &&& (858993459)) + ((ushr (x0 - ((ushr x0 1) &&& (1431655765))) 2) &&& (858993459))) 4)) &&& (252645135)) + (ushr (((((x0 - ((ushr x0 1) &&& (1431655765))) &&& (858993459)) + ((ushr (x0 - ((ushr x0 1) &&& (1431655765))) 2) &&& (858993459))) + (ushr (((x0 - ((ushr x0 1) &&& (1431655765))) &&& (858993459)) + ((ushr (x0 - ((ushr x0 1) &&& (1431655765))) 2) &&& (858993459))) 4)) &&& (252645135)) 8)) + (ushr ((((((x0 - ((ushr x0 1) &&& (1431655765))) &&& (858993459)) + ((ushr (x0 - ((ushr x0 1) &&& (1431655765))) 2) &&& (858993459))) + (ushr (((x0 - ((ushr x0 1) &&& (1431655765))) &&& (858993459)) + ((ushr (x0 - ((ushr x0 1) &&& (1431655765))) 2) &&& (858993459))) 4)) &&& (252645135)) + (ushr (((((x0 - ((ushr x0 1) &&& (1431655765))) &&& (858993459)) + ((ushr (x0 - ((ushr x0 1) &&& (1431655765))) 2) &&& (858993459))) + (ushr (((x0 - ((ushr x0 1) &&& (1431655765))) &&& (858993459)) + ((ushr (x0 - ((ushr x0 1) &&& (1431655765))) 2) &&& (858993459))) 4)) &&& (252645135)) 8)) 16)) &&& 63)) (mi, RS w, lv)) : Wp gl gx d P 313 0 [aI x0] [] (mi, RS w, lv) Q :=
  wpT row_313 mt_313 [.iload_n 0, .iload_n 0, .iconst 1, .iushr, .ldc_w 265, .iand, .isub, .istore_n 0, .iload_n 0, .ldc_w 266, .iand, .iload_n 0, .iconst 2, .iushr, .ldc_w 266, .iand, .iadd, .istore_n 0, .iload_n 0, .iload_n 0, .iconst 4, .iushr, .iadd, .ldc_w 267, .iand, .istore_n 0, .iload_n 0, .iload_n 0, .bipush 8, .iushr, .iadd, .istore_n 0, .iload_n 0, .iload_n 0, .bipush 16, .iushr, .iadd, .istore_n 0, .iload_n 0, .bipush 63, .iand, .ireturn] (by decide +kernel) [] (by decide +kernel) 104 (h)

def f_J6_bitCount_0f7a4 (mi : MI) (x0 : Int32) : Int32 := (((((((x0 - ((ushr x0 1) &&& (1431655765))) &&& (858993459)) + ((ushr (x0 - ((ushr x0 1) &&& (1431655765))) 2) &&& (858993459))) + (ushr (((x0 - ((ushr x0 1) &&& (1431655765))) &&& (858993459)) + ((ushr (x0 - ((ushr x0 1) &&& (1431655765))) 2) &&& (858993459))) 4)) &&& (252645135)) + (ushr (((((x0 - ((ushr x0 1) &&& (1431655765))) &&& (858993459)) + ((ushr (x0 - ((ushr x0 1) &&& (1431655765))) 2) &&& (858993459))) + (ushr (((x0 - ((ushr x0 1) &&& (1431655765))) &&& (858993459)) + ((ushr (x0 - ((ushr x0 1) &&& (1431655765))) 2) &&& (858993459))) 4)) &&& (252645135)) 8)) + (ushr ((((((x0 - ((ushr x0 1) &&& (1431655765))) &&& (858993459)) + ((ushr (x0 - ((ushr x0 1) &&& (1431655765))) 2) &&& (858993459))) + (ushr (((x0 - ((ushr x0 1) &&& (1431655765))) &&& (858993459)) + ((ushr (x0 - ((ushr x0 1) &&& (1431655765))) 2) &&& (858993459))) 4)) &&& (252645135)) + (ushr (((((x0 - ((ushr x0 1) &&& (1431655765))) &&& (858993459)) + ((ushr (x0 - ((ushr x0 1) &&& (1431655765))) 2) &&& (858993459))) + (ushr (((x0 - ((ushr x0 1) &&& (1431655765))) &&& (858993459)) + ((ushr (x0 - ((ushr x0 1) &&& (1431655765))) 2) &&& (858993459))) 4)) &&& (252645135)) 8)) 16)) &&& 63
theorem s_J6_bitCount_0f7a4 {gl : Nat} {gx : Nat → Int32} {d : Nat} {P : PL} {Q : PO} {mi : MI} {w : WS} {lv : LV} {x0 : Int32} (h : Q (aI (f_J6_bitCount_0f7a4 mi x0)) (mi, RS w, lv)) : Wp gl gx d P 313 0 [aI x0] [] (mi, RS w, lv) Q := r_J6_bitCount_0f7a4_0 h

abbrev row_315 : MT := (⟨"java/lang/String", "coder", "()B"⟩, prog_16_method_152_code, 1, some .byte, 1, lk_13)
theorem mt_315 : mt 315 = some row_315 := rfl
theorem r_J0_coder_7d493_0 {gl : Nat} {gx : Nat → Int32} {d : Nat} {P : PL} {Q : PO} {mi : MI} {w : WS} {lv : LV} {i : Nat} (h : Q (aI (b2 ((1 : Int32) = (0 : Int32)))) (mi, RS w, lv)) : Wp gl gx d P 315 0 [aR 16 i] [] (mi, RS w, lv) Q :=
  wpT row_315 mt_315 [.getstatic 38, .ifCond .eq 10] (by decide +kernel) [(13, [.iconst 1, .ireturn]), (6, [.aload_n 0, .getfield 15, .goto 4]), (14, [.ireturn])] (by decide +kernel) 36 (And.intro (fun q230 => And.intro rfl (mv9 (fun v => Q (aI v) (mi, RS w, lv)) (show (b2 ((1 : Int32) = (0 : Int32))) = 1 from b2_t (show (1 : Int32) = (0 : Int32) from q230)) h)) (fun q231 => And.intro rfl (mv9 (fun v => Q (aI v) (mi, RS w, lv)) (show (b2 ((1 : Int32) = (0 : Int32))) = 0 from b2_f (show ¬ ((1 : Int32) = (0 : Int32)) from q231)) h)))

abbrev f_J0_coder_7d493 (mi : MI) (i : Nat) : Int32 := b2 ((1 : Int32) = (0 : Int32))
theorem s_J0_coder_7d493 {gl : Nat} {gx : Nat → Int32} {d : Nat} {P : PL} {Q : PO} {mi : MI} {w : WS} {lv : LV} {i : Nat} (h : Q (aI (f_J0_coder_7d493 mi i)) (mi, RS w, lv)) : Wp gl gx d P 315 0 [aR 16 i] [] (mi, RS w, lv) Q := r_J0_coder_7d493_0 h

abbrev row_316 : MT := (⟨"java/lang/String", "isLatin1", "()Z"⟩, prog_16_method_154_code, 1, some .boolean, 1, lk_13)
theorem mt_316 : mt 316 = some row_316 := rfl
theorem r_J0_isLatin1_aae02_0 {gl : Nat} {gx : Nat → Int32} {d : Nat} {P : PL} {Q : PO} {mi : MI} {w : WS} {lv : LV} {i : Nat} (h : Q (aI (b2 (¬ ((1 : Int32) = (0 : Int32)) ∧ ((0 : Int32) = (0 : Int32))))) (mi, RS w, lv)) : Wp gl gx d P 316 0 [aR 16 i] [] (mi, RS w, lv) Q :=
  wpT row_316 mt_316 [.getstatic 38, .ifCond .eq 14] (by decide +kernel) [(17, [.iconst 0, .ireturn]), (6, [.aload_n 0, .getfield 15, .ifCond .ne 7]), (13, [.iconst 1, .goto 4]), (18, [.ireturn])] (by decide +kernel) 40 (And.intro (fun q232 => And.intro rfl (mv9 (fun v => Q (aI v) (mi, RS w, lv)) (show (b2 (¬ ((1 : Int32) = (0 : Int32)) ∧ ((0 : Int32) = (0 : Int32)))) = 0 from b2na_t (show (1 : Int32) = (0 : Int32) from q232)) h)) (fun q233 => And.intro (fun q234 => And.intro rfl (mv9 (fun v => Q (aI v) (mi, RS w, lv)) (show (b2 ((0 : Int32) = (0 : Int32))) = 0 from b2_f (show ¬ ((0 : Int32) = (0 : Int32)) from q234)) (mv9 (fun v => Q (aI v) (mi, RS w, lv)) (show (b2 (¬ ((1 : Int32) = (0 : Int32)) ∧ ((0 : Int32) = (0 : Int32)))) = (b2 ((0 : Int32) = (0 : Int32))) from b2na_f (show ¬ ((1 : Int32) = (0 : Int32)) from q233)) h))) (fun q235 => And.intro rfl (mv9 (fun v => Q (aI v) (mi, RS w, lv)) (show (b2 ((0 : Int32) = (0 : Int32))) = 1 from b2_t (show (0 : Int32) = (0 : Int32) from q235)) (mv9 (fun v => Q (aI v) (mi, RS w, lv)) (show (b2 (¬ ((1 : Int32) = (0 : Int32)) ∧ ((0 : Int32) = (0 : Int32)))) = (b2 ((0 : Int32) = (0 : Int32))) from b2na_f (show ¬ ((1 : Int32) = (0 : Int32)) from q233)) h)))))

abbrev f_J0_isLatin1_aae02 (mi : MI) (i : Nat) : Int32 := b2 (¬ ((1 : Int32) = (0 : Int32)) ∧ ((0 : Int32) = (0 : Int32)))
theorem s_J0_isLatin1_aae02 {gl : Nat} {gx : Nat → Int32} {d : Nat} {P : PL} {Q : PO} {mi : MI} {w : WS} {lv : LV} {i : Nat} (h : Q (aI (f_J0_isLatin1_aae02 mi i)) (mi, RS w, lv)) : Wp gl gx d P 316 0 [aR 16 i] [] (mi, RS w, lv) Q := r_J0_isLatin1_aae02_0 h

abbrev row_318 : MT := (⟨"java/lang/StringLatin1", "charAt", "([BI)C"⟩, prog_17_method_2_code, 2, some .char, 0, lk_14)
theorem mt_318 : mt 318 = some row_318 := rfl
theorem r_J1_charAt_3b067_0 {gl : Nat} {gx : Nat → Int32} {d : Nat} {P : PL} {Q : PO} {mi : MI} {w : WS} {lv : LV} {i0 : Nat} {x1 : Int32} (h : (¬ x1 < 0 ∧ x1 < (Int32.ofNat (stx.getD i0 []).length)) ∧ ((vp_in x1 (stx.getD i0 []).length) ∧ ((narrow .boolean (.int (((((stx.getD i0 []).getD x1.toNatClampNeg 0) &&& 255).toUInt32 % 65536).toInt32)) = .int (((((stx.getD i0 []).getD x1.toNatClampNeg 0) &&& 255).toUInt32 % 65536).toInt32)) ∧ Q (aI (((((stx.getD i0 []).getD x1.toNatClampNeg 0) &&& 255).toUInt32 % 65536).toInt32)) (mi, RS w, lv)))) : Wp gl gx (d + 2) P 318 0 [aR 17 i0, aI x1] [] (mi, RS w, lv) Q :=
  wpT row_318 mt_318 [.iload_n 1, .aload_n 0, .arraylength, .invokestatic 9] (by decide +kernel) [(6, [.aload_n 0, .iload_n 1, .baload]), (9, [.sipush 255, .iand, .i2c, .ireturn])] (by decide +kernel) 42 (And.intro ⟨Nat.le_of_ble_eq_true rfl, h.1⟩ (And.intro h.2.1 (h.2.2)))

def F_J1_charAt_3b067 (mi : MI) (w : WS) (i0 : Nat) (x1 : Int32) : Option Int32 := ck (¬ x1 < 0 ∧ x1 < (Int32.ofNat (stx.getD i0 []).length)) (ck (¬ (x1 < 0 ∨ (stx.getD i0 []).length ≤ x1.toNatClampNeg)) (ck ((((((stx.getD i0 []).getD x1.toNatClampNeg 0) &&& 255).toUInt32 % 65536).toInt32) = 0 ∨ (((((stx.getD i0 []).getD x1.toNatClampNeg 0) &&& 255).toUInt32 % 65536).toInt32) = 1) (some (((((stx.getD i0 []).getD x1.toNatClampNeg 0) &&& 255).toUInt32 % 65536).toInt32))))

theorem s_J1_charAt_3b067 {gl : Nat} {gx : Nat → Int32} {d : Nat} {P : PL} {Q : PO} {mi : MI} {w : WS} {lv : LV} {i0 : Nat} {x1 : Int32} {r : Int32} (hf : F_J1_charAt_3b067 mi w i0 x1 = some r) (h0 : Q (aI r) (mi, RS w, lv)) : Wp gl gx (d + 2) P 318 0 [aR 17 i0, aI x1] [] (mi, RS w, lv) Q := r_J1_charAt_3b067_0 (k_ck hf (fun q237 q236 => ⟨q237, k_ck q236 (fun q239 q238 => ⟨q239, k_ck q238 (fun q241 q240 => ⟨nb_01 q241, o_rP q240 h0⟩)⟩)⟩))

abbrev row_108 : MT := (⟨"StencilHouse$Tokens", "nextWord", "()V"⟩, prog_9_method_4_code, 1, none, 1, lk_7)
theorem mt_108 : mt 108 = some row_108 := rfl
theorem r_X7_nextWord_5 {gl : Nat} {gx : Nat → Int32} {d : Nat} {P : PL} {Q : PO} {mi : MI} {w : WS} {lv : LV}  (h : (((mi 6 0 1) ≤ (mi 6 0 2)) → Q aU (mi, RS w, lv)) ∧ (¬ ((mi 6 0 1) ≤ (mi 6 0 2)) → (vp_in (mi 6 0 2) 600) ∧ ((¬ (¬ ((mi 20 0 ((mi 6 0 2).toNatClampNeg)) < 97) ∧ (¬ (122 < (mi 20 0 ((mi 6 0 2).toNatClampNeg))))) → Q aU (mi, RS w, lv)) ∧ (¬ ((mi 20 0 ((mi 6 0 2).toNatClampNeg)) < 97) ∧ (¬ (122 < (mi 20 0 ((mi 6 0 2).toNatClampNeg)))) → Wp gl gx (d + 1) P 108 5 [aR 6 0] [] (u3 mi 6 0 2 ((mi 6 0 2) + 1), RS w, lv) Q)))) : Wp gl gx (d + 1) P 108 5 [aR 6 0] [] (mi, RS w, lv) Q :=
  wpT row_108 mt_108 [.aload_n 0, .getfield 17, .aload_n 0, .getfield 13, .if_icmp .ge 31] (by decide +kernel) [(44, [.return_]), (16, [.aload_n 0, .getfield 7, .aload_n 0, .getfield 17, .iaload]), (25, [.invokestatic 42]), (28, [.ifCond .eq 16]), (31, [.aload_n 0, .dup, .getfield 17, .iconst 1, .iadd, .putfield 17, .goto (.negSucc 35)])] (by decide +kernel) 60 (And.intro (fun q242 => (h.1 q242)) (fun q243 => And.intro (h.2 q243).1 (And.intro ⟨Nat.le_of_ble_eq_true rfl, rfl, rfl⟩ (s_X7_isLetter (d := d) (And.intro (fun q244 => ((h.2 q243).2.1 (b2_0 q244))) (fun q245 => ((h.2 q243).2.2 (b2_n q245))))))))

theorem r_X7_nextWord_0 {gl : Nat} {gx : Nat → Int32} {d : Nat} {P : PL} {Q : PO} {mi : MI} {w : WS} {lv : LV}  (h : Wp gl gx (d + 1) P 108 5 [aR 6 0] [] (u3 mi 6 0 3 0, RS w, lv) Q) : Wp gl gx (d + 1) P 108 0 [aR 6 0] [] (mi, RS w, lv) Q :=
  wpT row_108 mt_108 [.aload_n 0, .iconst 0, .putfield 20] (by decide +kernel) [] (by decide +kernel) 26 (h)

def L_X7_nextWord_5 : Nat → MI → WS → Option (MI × WS)
  | 0, _, _ => none
  | n + 1, mi, w => if (mi 6 0 1) ≤ (mi 6 0 2) then some (mi, w) else ck (¬ ((mi 6 0 2) < 0 ∨ 600 ≤ (mi 6 0 2).toNatClampNeg)) (if ¬ ((mi 20 0 ((mi 6 0 2).toNatClampNeg)) < 97) ∧ (¬ (122 < (mi 20 0 ((mi 6 0 2).toNatClampNeg)))) then L_X7_nextWord_5 n (u3 mi 6 0 2 ((mi 6 0 2) + 1)) w else some (mi, w))

theorem l_X7_nextWord_5 {gl : Nat} {gx : Nat → Int32} {d : Nat} {P : PL} {Q : PO} {lv : LV} (n : Nat) : ∀ {mi : MI} {w : WS} {r : (MI × WS)}, L_X7_nextWord_5 n mi w = some r → (Q aU (r.1, RS r.2, lv)) → Wp gl gx (d + 1) P 108 5 [aR 6 0] [] (mi, RS w, lv) Q := by
  induction n with
  | zero => intro mi w r hf h0; exact o_none hf
  | succ n ih => intro mi w r hf h0; exact r_X7_nextWord_5 (⟨fun q246 => k_ifp q246 hf (fun q248 => o_rV q248 h0), fun q247 => k_ifn q247 hf (fun q248 => k_ck q248 (fun q250 q249 => ⟨q250, ⟨fun q251 => k_ifn q251 q249 (fun q253 => o_rV q253 h0), fun q252 => k_ifp q252 q249 (fun q253 => ih q253 h0)⟩⟩))⟩)

def F_X7_nextWord (mi : MI) (w : WS)  : Option (MI × WS) := L_X7_nextWord_5 1000000 (u3 mi 6 0 3 0) w

theorem s_X7_nextWord {gl : Nat} {gx : Nat → Int32} {d : Nat} {P : PL} {Q : PO} {mi : MI} {w : WS} {lv : LV}  {r : (MI × WS)} (hf : F_X7_nextWord mi w  = some r) (h0 : Q aU (r.1, RS r.2, lv)) : Wp gl gx (d + 1) P 108 0 [aR 6 0] [] (mi, RS w, lv) Q := r_X7_nextWord_0 (l_X7_nextWord_5 1000000 hf h0)

abbrev row_109 : MT := (⟨"StencilHouse$Tokens", "nextNumber", "()V"⟩, prog_9_method_5_code, 1, none, 1, lk_7)
theorem mt_109 : mt 109 = some row_109 := rfl
theorem r_X7_nextNumber_100 {gl : Nat} {gx : Nat → Int32} {d : Nat} {P : PL} {Q : PO} {mi : MI} {w : WS} {lv : LV} {s0 : Int32} (h : Q aU (u3 mi 6 0 3 s0, RS w, lv)) : Wp gl gx (d + 1) P 109 100 [aR 6 0] [aI s0, aR 6 0] (mi, RS w, lv) Q :=
  wpT row_109 mt_109 [.putfield 20, .return_] (by decide +kernel) [] (by decide +kernel) 24 (h)

theorem r_X7_nextNumber_81 {gl : Nat} {gx : Nat → Int32} {d : Nat} {P : PL} {Q : PO} {mi : MI} {w : WS} {lv : LV}  (h : Q aU (u3 mi 6 0 3 (if ((mi 6 0 2) - (mi 6 0 4)) ≤ 2 then 1 else 4), RS w, lv)) : Wp gl gx (d + 1) P 109 81 [aR 6 0] [] (mi, RS w, lv) Q :=
  wpT row_109 mt_109 [.aload_n 0, .aload_n 0, .getfield 17, .aload_n 0, .getfield 23, .isub, .iconst 2, .if_icmp .le 7] (by decide +kernel) [(99, [.iconst 1]), (95, [.iconst 4, .goto 4])] (by decide +kernel) 42 (And.intro (fun q254 => r_X7_nextNumber_100 (s0 := 1) (mi := mi) (mv9 (fun v => Q aU (u3 mi 6 0 3 v, RS w, lv)) (show (if ((mi 6 0 2) - (mi 6 0 4)) ≤ 2 then 1 else 4) = 1 from if_pos (show ((mi 6 0 2) - (mi 6 0 4)) ≤ 2 from q254)) h)) (fun q255 => r_X7_nextNumber_100 (s0 := 4) (mi := mi) (mv9 (fun v => Q aU (u3 mi 6 0 3 v, RS w, lv)) (show (if ((mi 6 0 2) - (mi 6 0 4)) ≤ 2 then 1 else 4) = 4 from if_neg (show ¬ (((mi 6 0 2) - (mi 6 0 4)) ≤ 2) from q255)) h)))

theorem r_X7_nextNumber_68 {gl : Nat} {gx : Nat → Int32} {d : Nat} {P : PL} {Q : PO} {mi : MI} {w : WS} {lv : LV}  (h : Wp gl gx (d + 1) P 109 5 [aR 6 0] [] (u3 mi 6 0 2 ((mi 6 0 2) + 1), RS w, lv) Q) : Wp gl gx (d + 1) P 109 68 [aR 6 0] [] (mi, RS w, lv) Q :=
  wpT row_109 mt_109 [.aload_n 0, .dup, .getfield 17, .iconst 1, .iadd, .putfield 17, .goto (.negSucc 72)] (by decide +kernel) [] (by decide +kernel) 34 (h)

theorem r_X7_nextNumber_5 {gl : Nat} {gx : Nat → Int32} {d : Nat} {P : PL} {Q : PO} {mi : MI} {w : WS} {lv : LV}  (h : (((mi 6 0 1) ≤ (mi 6 0 2)) → Q aU (u3 mi 6 0 3 (if ((mi 6 0 2) - (mi 6 0 4)) ≤ 2 then 1 else 4), RS w, lv)) ∧ (¬ ((mi 6 0 1) ≤ (mi 6 0 2)) → (vp_in (mi 6 0 2) 600) ∧ ((¬ (¬ ((mi 20 0 ((mi 6 0 2).toNatClampNeg)) < 48) ∧ (¬ (57 < (mi 20 0 ((mi 6 0 2).toNatClampNeg))))) → Q aU (u3 mi 6 0 3 (if ((mi 6 0 2) - (mi 6 0 4)) ≤ 2 then 1 else 4), RS w, lv)) ∧ (¬ ((mi 20 0 ((mi 6 0 2).toNatClampNeg)) < 48) ∧ (¬ (57 < (mi 20 0 ((mi 6 0 2).toNatClampNeg)))) → ((2 ≤ ((mi 6 0 2) - (mi 6 0 4))) → Wp gl gx (d + 1) P 109 5 [aR 6 0] [] (u3 mi 6 0 2 ((mi 6 0 2) + 1), RS w, lv) Q) ∧ (¬ (2 ≤ ((mi 6 0 2) - (mi 6 0 4))) → (vp_in (mi 6 0 2) 600) ∧ ((∀ m28 : MI, m28 = u3 mi 6 0 5 ((((mi 6 0 5) * 10) + (mi 20 0 ((mi 6 0 2).toNatClampNeg))) - 48) → Wp gl gx (d + 1) P 109 5 [aR 6 0] [] (u3 m28 6 0 2 ((m28 6 0 2) + 1), RS w, lv) Q))))))) : Wp gl gx (d + 1) P 109 5 [aR 6 0] [] (mi, RS w, lv) Q :=
  wpT row_109 mt_109 [.aload_n 0, .getfield 17, .aload_n 0, .getfield 13, .if_icmp .ge 68] (by decide +kernel) [(16, [.aload_n 0, .getfield 7, .aload_n 0, .getfield 17, .iaload]), (25, [.invokestatic 48]), (28, [.ifCond .eq 53]), (31, [.aload_n 0, .getfield 17, .aload_n 0, .getfield 23, .isub, .iconst 2, .if_icmp .ge 27]), (44, [.aload_n 0, .aload_n 0, .getfield 26, .bipush 10, .imul, .aload_n 0, .getfield 7, .aload_n 0, .getfield 17, .iaload]), (61, [.iadd, .bipush 48, .isub, .putfield 26])] (by decide +kernel) 86 (And.intro (fun q256 => r_X7_nextNumber_81 (mi := mi) (h.1 q256)) (fun q257 => And.intro (h.2 q257).1 (And.intro ⟨Nat.le_of_ble_eq_true rfl, rfl, rfl⟩ (s_X7_isDigit (d := d) (And.intro (fun q258 => r_X7_nextNumber_81 (mi := mi) ((h.2 q257).2.1 (b2_0 q258))) (fun q259 => And.intro (fun q260 => r_X7_nextNumber_68 (mi := mi) (((h.2 q257).2.2 (b2_n q259)).1 q260)) (fun q261 => And.intro (((h.2 q257).2.2 (b2_n q259)).2 q261).1 (r_X7_nextNumber_68 (mi := m28) ((((h.2 q257).2.2 (b2_n q259)).2 q261).2 _ rfl)))))))))

theorem r_X7_nextNumber_0 {gl : Nat} {gx : Nat → Int32} {d : Nat} {P : PL} {Q : PO} {mi : MI} {w : WS} {lv : LV}  (h : Wp gl gx (d + 1) P 109 5 [aR 6 0] [] (u3 mi 6 0 5 0, RS w, lv) Q) : Wp gl gx (d + 1) P 109 0 [aR 6 0] [] (mi, RS w, lv) Q :=
  wpT row_109 mt_109 [.aload_n 0, .iconst 0, .putfield 26] (by decide +kernel) [] (by decide +kernel) 26 (h)

def L_X7_nextNumber_5 : Nat → MI → WS → Option (MI × WS)
  | 0, _, _ => none
  | n + 1, mi, w => if (mi 6 0 1) ≤ (mi 6 0 2) then some (u3 mi 6 0 3 (if ((mi 6 0 2) - (mi 6 0 4)) ≤ 2 then 1 else 4), w) else ck (¬ ((mi 6 0 2) < 0 ∨ 600 ≤ (mi 6 0 2).toNatClampNeg)) (if ¬ ((mi 20 0 ((mi 6 0 2).toNatClampNeg)) < 48) ∧ (¬ (57 < (mi 20 0 ((mi 6 0 2).toNatClampNeg)))) then if 2 ≤ ((mi 6 0 2) - (mi 6 0 4)) then L_X7_nextNumber_5 n (u3 mi 6 0 2 ((mi 6 0 2) + 1)) w else ck (¬ ((mi 6 0 2) < 0 ∨ 600 ≤ (mi 6 0 2).toNatClampNeg)) (lt (u3 mi 6 0 5 ((((mi 6 0 5) * 10) + (mi 20 0 ((mi 6 0 2).toNatClampNeg))) - 48)) fun m28 => L_X7_nextNumber_5 n (u3 m28 6 0 2 ((m28 6 0 2) + 1)) w) else some (u3 mi 6 0 3 (if ((mi 6 0 2) - (mi 6 0 4)) ≤ 2 then 1 else 4), w))

theorem l_X7_nextNumber_5 {gl : Nat} {gx : Nat → Int32} {d : Nat} {P : PL} {Q : PO} {lv : LV} (n : Nat) : ∀ {mi : MI} {w : WS} {r : (MI × WS)}, L_X7_nextNumber_5 n mi w = some r → (Q aU (r.1, RS r.2, lv)) → Wp gl gx (d + 1) P 109 5 [aR 6 0] [] (mi, RS w, lv) Q := by
  induction n with
  | zero => intro mi w r hf h0; exact o_none hf
  | succ n ih => intro mi w r hf h0; exact r_X7_nextNumber_5 (⟨fun q262 => k_ifp q262 hf (fun q264 => o_rV q264 h0), fun q263 => k_ifn q263 hf (fun q264 => k_ck q264 (fun q266 q265 => ⟨q266, ⟨fun q267 => k_ifn q267 q265 (fun q269 => o_rV q269 h0), fun q268 => k_ifp q268 q265 (fun q269 => ⟨fun q270 => k_ifp q270 q269 (fun q272 => ih q272 h0), fun q271 => k_ifn q271 q269 (fun q272 => k_ck q272 (fun q274 q273 => ⟨q274, fun m28 hm28 => k_lt q273 hm28 (fun q275 => ih q275 h0)⟩))⟩)⟩⟩))⟩)

def F_X7_nextNumber (mi : MI) (w : WS)  : Option (MI × WS) := L_X7_nextNumber_5 1000000 (u3 mi 6 0 5 0) w

theorem s_X7_nextNumber {gl : Nat} {gx : Nat → Int32} {d : Nat} {P : PL} {Q : PO} {mi : MI} {w : WS} {lv : LV}  {r : (MI × WS)} (hf : F_X7_nextNumber mi w  = some r) (h0 : Q aU (r.1, RS r.2, lv)) : Wp gl gx (d + 1) P 109 0 [aR 6 0] [] (mi, RS w, lv) Q := r_X7_nextNumber_0 (l_X7_nextNumber_5 1000000 hf h0)

abbrev row_314 : MT := (⟨"java/lang/String", "length", "()I"⟩, prog_16_method_54_code, 1, some .int, 1, lk_13)
theorem mt_314 : mt 314 = some row_314 := rfl
theorem r_J0_length_8abf5_0 {gl : Nat} {gx : Nat → Int32} {d : Nat} {P : PL} {Q : PO} {mi : MI} {w : WS} {lv : LV} {i : Nat} (h : Q (aI ((Int32.ofNat (stx.getD i []).length) >>> ((b2 ((1 : Int32) = (0 : Int32))) &&& 31))) (mi, RS w, lv)) : Wp gl gx (d + 1) P 314 0 [aR 16 i] [] (mi, RS w, lv) Q :=
  wpT row_314 mt_314 [.aload_n 0, .getfield 9, .arraylength, .aload_n 0, .invokevirtual 335] (by decide +kernel) [(9, [.ishr, .ireturn])] (by decide +kernel) 34 (And.intro ⟨Nat.le_of_ble_eq_true rfl, rfl, rfl⟩ (s_J0_coder_7d493 (d := d) (h)))

def f_J0_length_8abf5 (mi : MI) (i : Nat) : Int32 := (Int32.ofNat (stx.getD i []).length) >>> ((b2 ((1 : Int32) = (0 : Int32))) &&& 31)
theorem s_J0_length_8abf5 {gl : Nat} {gx : Nat → Int32} {d : Nat} {P : PL} {Q : PO} {mi : MI} {w : WS} {lv : LV} {i : Nat} (h : Q (aI (f_J0_length_8abf5 mi i)) (mi, RS w, lv)) : Wp gl gx (d + 1) P 314 0 [aR 16 i] [] (mi, RS w, lv) Q := r_J0_length_8abf5_0 h

abbrev row_107 : MT := (⟨"StencilHouse$Tokens", "next", "()V"⟩, prog_9_method_3_code, 1, none, 1, lk_7)
theorem mt_107 : mt 107 = some row_107 := rfl
theorem r_X7_next_138 {gl : Nat} {gx : Nat → Int32} {d : Nat} {P : PL} {Q : PO} {mi : MI} {w : WS} {lv : LV} {s0 : Int32} (h : (∀ m32 : MI, m32 = u3 (u3 mi 6 0 3 s0) 6 0 2 (((u3 mi 6 0 3 s0) 6 0 2) + 1) → Q aU (m32, RS w, lv))) : Wp gl gx (d + 2) P 107 138 [aR 6 0] [aI s0, aR 6 0] (mi, RS w, lv) Q :=
  wpT row_107 mt_107 [.putfield 20, .aload_n 0, .dup, .getfield 17, .iconst 1, .iadd, .putfield 17] (by decide +kernel) [(151, [.return_])] (by decide +kernel) 36 ((h _ rfl))

theorem r_X7_next_47 {gl : Nat} {gx : Nat → Int32} {d : Nat} {P : PL} {Q : PO} {mi : MI} {w : WS} {lv : LV}  (h : ((((u3 mi 6 0 2 (mi 6 0 4)) 6 0 4) < ((u3 mi 6 0 2 (mi 6 0 4)) 6 0 1)) → (vp_in ((u3 mi 6 0 2 (mi 6 0 4)) 6 0 4) 600) ∧ ((¬ (¬ (((u3 mi 6 0 2 (mi 6 0 4)) 20 0 (((u3 mi 6 0 2 (mi 6 0 4)) 6 0 4).toNatClampNeg)) < 97) ∧ (¬ (122 < ((u3 mi 6 0 2 (mi 6 0 4)) 20 0 (((u3 mi 6 0 2 (mi 6 0 4)) 6 0 4).toNatClampNeg))))) → (vp_in ((u3 mi 6 0 2 (mi 6 0 4)) 6 0 4) 600) ∧ ((¬ (¬ (((u3 mi 6 0 2 (mi 6 0 4)) 20 0 (((u3 mi 6 0 2 (mi 6 0 4)) 6 0 4).toNatClampNeg)) < 48) ∧ (¬ (57 < ((u3 mi 6 0 2 (mi 6 0 4)) 20 0 (((u3 mi 6 0 2 (mi 6 0 4)) 6 0 4).toNatClampNeg))))) → (vp_in ((u3 mi 6 0 2 (mi 6 0 4)) 6 0 4) 600) ∧ ((∀ m32 : MI, m32 = u3 (u3 (u3 mi 6 0 2 (mi 6 0 4)) 6 0 3 (if ((u3 mi 6 0 2 (mi 6 0 4)) 20 0 (((u3 mi 6 0 2 (mi 6 0 4)) 6 0 4).toNatClampNeg)) = 59 then 2 else 4)) 6 0 2 (((u3 (u3 mi 6 0 2 (mi 6 0 4)) 6 0 3 (if ((u3 mi 6 0 2 (mi 6 0 4)) 20 0 (((u3 mi 6 0 2 (mi 6 0 4)) 6 0 4).toNatClampNeg)) = 59 then 2 else 4)) 6 0 2) + 1) → Q aU (m32, RS w, lv)))) ∧ (¬ (((u3 mi 6 0 2 (mi 6 0 4)) 20 0 (((u3 mi 6 0 2 (mi 6 0 4)) 6 0 4).toNatClampNeg)) < 48) ∧ (¬ (57 < ((u3 mi 6 0 2 (mi 6 0 4)) 20 0 (((u3 mi 6 0 2 (mi 6 0 4)) 6 0 4).toNatClampNeg)))) → (∃ c29 : MI × WS, F_X7_nextNumber (u3 mi 6 0 2 (mi 6 0 4)) w  = some c29 ∧ Q aU (c29.1, RS c29.2, lv))))) ∧ (¬ (((u3 mi 6 0 2 (mi 6 0 4)) 20 0 (((u3 mi 6 0 2 (mi 6 0 4)) 6 0 4).toNatClampNeg)) < 97) ∧ (¬ (122 < ((u3 mi 6 0 2 (mi 6 0 4)) 20 0 (((u3 mi 6 0 2 (mi 6 0 4)) 6 0 4).toNatClampNeg)))) → (∃ c30 : MI × WS, F_X7_nextWord (u3 mi 6 0 2 (mi 6 0 4)) w  = some c30 ∧ Q aU (c30.1, RS c30.2, lv))))) ∧ (¬ (((u3 mi 6 0 2 (mi 6 0 4)) 6 0 4) < ((u3 mi 6 0 2 (mi 6 0 4)) 6 0 1)) → (∀ m31 : MI, m31 = u3 (u3 mi 6 0 2 (mi 6 0 4)) 6 0 3 3 → Q aU (m31, RS w, lv)))) : Wp gl gx (d + 2) P 107 47 [aR 6 0] [] (mi, RS w, lv) Q :=
  wpT row_107 mt_107 [.aload_n 0, .aload_n 0, .getfield 23, .putfield 17, .aload_n 0, .getfield 23, .aload_n 0, .getfield 13, .if_icmp .lt 11] (by decide +kernel) [(74, [.aload_n 0, .getfield 7, .aload_n 0, .getfield 23, .iaload]), (83, [.invokestatic 42]), (86, [.ifCond .eq 10]), (96, [.aload_n 0, .getfield 7, .aload_n 0, .getfield 23, .iaload]), (105, [.invokestatic 48]), (108, [.ifCond .eq 10]), (118, [.aload_n 0, .aload_n 0, .getfield 7, .aload_n 0, .getfield 23, .iaload]), (128, [.bipush 59, .if_icmp .ne 7]), (137, [.iconst 4]), (133, [.iconst 2, .goto 4]), (111, [.aload_n 0, .invokevirtual 51]), (115, [.goto 36]), (151, [.return_]), (89, [.aload_n 0, .invokevirtual 45]), (93, [.goto 58]), (66, [.aload_n 0, .iconst 3, .putfield 20]), (71, [.goto 80])] (by decide +kernel) 110 (And.intro (fun q276 => And.intro (h.1 q276).1 (And.intro ⟨Nat.le_of_ble_eq_true rfl, rfl, rfl⟩ (s_X7_isLetter (d := d + 1) (And.intro (fun q278 => And.intro ((h.1 q276).2.1 (b2_0 q278)).1 (And.intro ⟨Nat.le_of_ble_eq_true rfl, rfl, rfl⟩ (s_X7_isDigit (d := d + 1) (And.intro (fun q280 => And.intro (((h.1 q276).2.1 (b2_0 q278)).2.1 (b2_0 q280)).1 (And.intro (fun q282 => r_X7_next_138 (s0 := 4) (mi := (u3 mi 6 0 2 (mi 6 0 4))) (mv9 (fun v => (∀ m32 : MI, m32 = u3 (u3 (u3 mi 6 0 2 (mi 6 0 4)) 6 0 3 v) 6 0 2 (((u3 (u3 mi 6 0 2 (mi 6 0 4)) 6 0 3 v) 6 0 2) + 1) → Q aU (m32, RS w, lv))) (show (if ((u3 mi 6 0 2 (mi 6 0 4)) 20 0 (((u3 mi 6 0 2 (mi 6 0 4)) 6 0 4).toNatClampNeg)) = 59 then 2 else 4) = 4 from if_neg (show ¬ (((u3 mi 6 0 2 (mi 6 0 4)) 20 0 (((u3 mi 6 0 2 (mi 6 0 4)) 6 0 4).toNatClampNeg)) = 59) from q282)) ((((h.1 q276).2.1 (b2_0 q278)).2.1 (b2_0 q280)).2))) (fun q283 => r_X7_next_138 (s0 := 2) (mi := (u3 mi 6 0 2 (mi 6 0 4))) (mv9 (fun v => (∀ m32 : MI, m32 = u3 (u3 (u3 mi 6 0 2 (mi 6 0 4)) 6 0 3 v) 6 0 2 (((u3 (u3 mi 6 0 2 (mi 6 0 4)) 6 0 3 v) 6 0 2) + 1) → Q aU (m32, RS w, lv))) (show (if ((u3 mi 6 0 2 (mi 6 0 4)) 20 0 (((u3 mi 6 0 2 (mi 6 0 4)) 6 0 4).toNatClampNeg)) = 59 then 2 else 4) = 2 from if_pos (show ((u3 mi 6 0 2 (mi 6 0 4)) 20 0 (((u3 mi 6 0 2 (mi 6 0 4)) 6 0 4).toNatClampNeg)) = 59 from q283)) ((((h.1 q276).2.1 (b2_0 q278)).2.1 (b2_0 q280)).2))))) (fun q281 => Exists.elim (((h.1 q276).2.1 (b2_0 q278)).2.2 (b2_n q281)) (fun c29 zc29 => And.intro ⟨Nat.le_of_ble_eq_true rfl, rfl, rfl⟩ (s_X7_nextNumber (d := d) zc29.1 (zc29.2)))))))) (fun q279 => Exists.elim ((h.1 q276).2.2 (b2_n q279)) (fun c30 zc30 => And.intro ⟨Nat.le_of_ble_eq_true rfl, rfl, rfl⟩ (s_X7_nextWord (d := d) zc30.1 (zc30.2)))))))) (fun q277 => ((h.2 q277) _ rfl)))

theorem r_X7_next_8 {gl : Nat} {gx : Nat → Int32} {d : Nat} {P : PL} {Q : PO} {mi : MI} {w : WS} {lv : LV}  (h : (((mi 6 0 1) ≤ (mi 6 0 4)) → Wp gl gx (d + 2) P 107 47 [aR 6 0] [] (mi, RS w, lv) Q) ∧ (¬ ((mi 6 0 1) ≤ (mi 6 0 4)) → (vp_in (mi 6 0 4) 600) ∧ ((¬ (((mi 20 0 ((mi 6 0 4).toNatClampNeg)) = 10) ∨ ((mi 20 0 ((mi 6 0 4).toNatClampNeg)) = 32)) → Wp gl gx (d + 2) P 107 47 [aR 6 0] [] (mi, RS w, lv) Q) ∧ (((mi 20 0 ((mi 6 0 4).toNatClampNeg)) = 10) ∨ ((mi 20 0 ((mi 6 0 4).toNatClampNeg)) = 32) → Wp gl gx (d + 2) P 107 8 [aR 6 0] [] (u3 mi 6 0 4 ((mi 6 0 4) + 1), RS w, lv) Q)))) : Wp gl gx (d + 2) P 107 8 [aR 6 0] [] (mi, RS w, lv) Q :=
  wpT row_107 mt_107 [.aload_n 0, .getfield 23, .aload_n 0, .getfield 13, .if_icmp .ge 31] (by decide +kernel) [(19, [.aload_n 0, .getfield 7, .aload_n 0, .getfield 23, .iaload]), (28, [.invokestatic 38]), (31, [.ifCond .eq 16]), (34, [.aload_n 0, .dup, .getfield 23, .iconst 1, .iadd, .putfield 23, .goto (.negSucc 35)])] (by decide +kernel) 58 (And.intro (fun q284 => (h.1 q284)) (fun q285 => And.intro (h.2 q285).1 (And.intro ⟨Nat.le_of_ble_eq_true rfl, rfl, rfl⟩ (s_X7_isBlank (d := d + 1) (And.intro (fun q286 => ((h.2 q285).2.1 (b2_0 q286))) (fun q287 => ((h.2 q285).2.2 (b2_n q287))))))))

theorem r_X7_next_0 {gl : Nat} {gx : Nat → Int32} {d : Nat} {P : PL} {Q : PO} {mi : MI} {w : WS} {lv : LV}  (h : Wp gl gx (d + 2) P 107 8 [aR 6 0] [] (u3 mi 6 0 4 (mi 6 0 2), RS w, lv) Q) : Wp gl gx (d + 2) P 107 0 [aR 6 0] [] (mi, RS w, lv) Q :=
  wpT row_107 mt_107 [.aload_n 0, .aload_n 0, .getfield 17, .putfield 23] (by decide +kernel) [] (by decide +kernel) 28 (h)

def L_X7_next_8 : Nat → MI → WS → Option (MI × WS)
  | 0, _, _ => none
  | n + 1, mi, w => if (mi 6 0 1) ≤ (mi 6 0 4) then if ((u3 mi 6 0 2 (mi 6 0 4)) 6 0 4) < ((u3 mi 6 0 2 (mi 6 0 4)) 6 0 1) then ck (¬ (((u3 mi 6 0 2 (mi 6 0 4)) 6 0 4) < 0 ∨ 600 ≤ ((u3 mi 6 0 2 (mi 6 0 4)) 6 0 4).toNatClampNeg)) (if ¬ (((u3 mi 6 0 2 (mi 6 0 4)) 20 0 (((u3 mi 6 0 2 (mi 6 0 4)) 6 0 4).toNatClampNeg)) < 97) ∧ (¬ (122 < ((u3 mi 6 0 2 (mi 6 0 4)) 20 0 (((u3 mi 6 0 2 (mi 6 0 4)) 6 0 4).toNatClampNeg)))) then (F_X7_nextWord (u3 mi 6 0 2 (mi 6 0 4)) w ).bind fun c30 => some (c30.1, c30.2) else ck (¬ (((u3 mi 6 0 2 (mi 6 0 4)) 6 0 4) < 0 ∨ 600 ≤ ((u3 mi 6 0 2 (mi 6 0 4)) 6 0 4).toNatClampNeg)) (if ¬ (((u3 mi 6 0 2 (mi 6 0 4)) 20 0 (((u3 mi 6 0 2 (mi 6 0 4)) 6 0 4).toNatClampNeg)) < 48) ∧ (¬ (57 < ((u3 mi 6 0 2 (mi 6 0 4)) 20 0 (((u3 mi 6 0 2 (mi 6 0 4)) 6 0 4).toNatClampNeg)))) then (F_X7_nextNumber (u3 mi 6 0 2 (mi 6 0 4)) w ).bind fun c29 => some (c29.1, c29.2) else ck (¬ (((u3 mi 6 0 2 (mi 6 0 4)) 6 0 4) < 0 ∨ 600 ≤ ((u3 mi 6 0 2 (mi 6 0 4)) 6 0 4).toNatClampNeg)) (lt (u3 (u3 (u3 mi 6 0 2 (mi 6 0 4)) 6 0 3 (if ((u3 mi 6 0 2 (mi 6 0 4)) 20 0 (((u3 mi 6 0 2 (mi 6 0 4)) 6 0 4).toNatClampNeg)) = 59 then 2 else 4)) 6 0 2 (((u3 (u3 mi 6 0 2 (mi 6 0 4)) 6 0 3 (if ((u3 mi 6 0 2 (mi 6 0 4)) 20 0 (((u3 mi 6 0 2 (mi 6 0 4)) 6 0 4).toNatClampNeg)) = 59 then 2 else 4)) 6 0 2) + 1)) fun m32 => some (m32, w)))) else lt (u3 (u3 mi 6 0 2 (mi 6 0 4)) 6 0 3 3) fun m31 => some (m31, w) else ck (¬ ((mi 6 0 4) < 0 ∨ 600 ≤ (mi 6 0 4).toNatClampNeg)) (if ((mi 20 0 ((mi 6 0 4).toNatClampNeg)) = 10) ∨ ((mi 20 0 ((mi 6 0 4).toNatClampNeg)) = 32) then L_X7_next_8 n (u3 mi 6 0 4 ((mi 6 0 4) + 1)) w else if ((u3 mi 6 0 2 (mi 6 0 4)) 6 0 4) < ((u3 mi 6 0 2 (mi 6 0 4)) 6 0 1) then ck (¬ (((u3 mi 6 0 2 (mi 6 0 4)) 6 0 4) < 0 ∨ 600 ≤ ((u3 mi 6 0 2 (mi 6 0 4)) 6 0 4).toNatClampNeg)) (if ¬ (((u3 mi 6 0 2 (mi 6 0 4)) 20 0 (((u3 mi 6 0 2 (mi 6 0 4)) 6 0 4).toNatClampNeg)) < 97) ∧ (¬ (122 < ((u3 mi 6 0 2 (mi 6 0 4)) 20 0 (((u3 mi 6 0 2 (mi 6 0 4)) 6 0 4).toNatClampNeg)))) then (F_X7_nextWord (u3 mi 6 0 2 (mi 6 0 4)) w ).bind fun c30 => some (c30.1, c30.2) else ck (¬ (((u3 mi 6 0 2 (mi 6 0 4)) 6 0 4) < 0 ∨ 600 ≤ ((u3 mi 6 0 2 (mi 6 0 4)) 6 0 4).toNatClampNeg)) (if ¬ (((u3 mi 6 0 2 (mi 6 0 4)) 20 0 (((u3 mi 6 0 2 (mi 6 0 4)) 6 0 4).toNatClampNeg)) < 48) ∧ (¬ (57 < ((u3 mi 6 0 2 (mi 6 0 4)) 20 0 (((u3 mi 6 0 2 (mi 6 0 4)) 6 0 4).toNatClampNeg)))) then (F_X7_nextNumber (u3 mi 6 0 2 (mi 6 0 4)) w ).bind fun c29 => some (c29.1, c29.2) else ck (¬ (((u3 mi 6 0 2 (mi 6 0 4)) 6 0 4) < 0 ∨ 600 ≤ ((u3 mi 6 0 2 (mi 6 0 4)) 6 0 4).toNatClampNeg)) (lt (u3 (u3 (u3 mi 6 0 2 (mi 6 0 4)) 6 0 3 (if ((u3 mi 6 0 2 (mi 6 0 4)) 20 0 (((u3 mi 6 0 2 (mi 6 0 4)) 6 0 4).toNatClampNeg)) = 59 then 2 else 4)) 6 0 2 (((u3 (u3 mi 6 0 2 (mi 6 0 4)) 6 0 3 (if ((u3 mi 6 0 2 (mi 6 0 4)) 20 0 (((u3 mi 6 0 2 (mi 6 0 4)) 6 0 4).toNatClampNeg)) = 59 then 2 else 4)) 6 0 2) + 1)) fun m32 => some (m32, w)))) else lt (u3 (u3 mi 6 0 2 (mi 6 0 4)) 6 0 3 3) fun m31 => some (m31, w))

theorem l_X7_next_8 {gl : Nat} {gx : Nat → Int32} {d : Nat} {P : PL} {Q : PO} {lv : LV} (n : Nat) : ∀ {mi : MI} {w : WS} {r : (MI × WS)}, L_X7_next_8 n mi w = some r → (Q aU (r.1, RS r.2, lv)) → Wp gl gx (d + 2) P 107 8 [aR 6 0] [] (mi, RS w, lv) Q := by
  induction n with
  | zero => intro mi w r hf h0; exact o_none hf
  | succ n ih => intro mi w r hf h0; exact r_X7_next_8 (⟨fun q288 => k_ifp q288 hf (fun q290 => r_X7_next_47 (⟨fun q291 => k_ifp q291 q290 (fun q293 => k_ck q293 (fun q295 q294 => ⟨q295, ⟨fun q296 => k_ifn q296 q294 (fun q298 => k_ck q298 (fun q300 q299 => ⟨q300, ⟨fun q301 => k_ifn q301 q299 (fun q303 => k_ck q303 (fun q305 q304 => ⟨q305, fun m32 hm32 => k_lt q304 hm32 (fun q306 => o_rV q306 h0)⟩)), fun q302 => k_ifp q302 q299 (fun q303 => o_bind q303 (fun c29 qc29 pc29 => ⟨c29, qc29, o_rV pc29 h0⟩))⟩⟩)), fun q297 => k_ifp q297 q294 (fun q298 => o_bind q298 (fun c30 qc30 pc30 => ⟨c30, qc30, o_rV pc30 h0⟩))⟩⟩)), fun q292 => k_ifn q292 q290 (fun q293 => fun m31 hm31 => k_lt q293 hm31 (fun q307 => o_rV q307 h0))⟩)), fun q289 => k_ifn q289 hf (fun q290 => k_ck q290 (fun q309 q308 => ⟨q309, ⟨fun q310 => k_ifn q310 q308 (fun q312 => r_X7_next_47 (⟨fun q313 => k_ifp q313 q312 (fun q315 => k_ck q315 (fun q317 q316 => ⟨q317, ⟨fun q318 => k_ifn q318 q316 (fun q320 => k_ck q320 (fun q322 q321 => ⟨q322, ⟨fun q323 => k_ifn q323 q321 (fun q325 => k_ck q325 (fun q327 q326 => ⟨q327, fun m32 hm32 => k_lt q326 hm32 (fun q328 => o_rV q328 h0)⟩)), fun q324 => k_ifp q324 q321 (fun q325 => o_bind q325 (fun c29 qc29 pc29 => ⟨c29, qc29, o_rV pc29 h0⟩))⟩⟩)), fun q319 => k_ifp q319 q316 (fun q320 => o_bind q320 (fun c30 qc30 pc30 => ⟨c30, qc30, o_rV pc30 h0⟩))⟩⟩)), fun q314 => k_ifn q314 q312 (fun q315 => fun m31 hm31 => k_lt q315 hm31 (fun q329 => o_rV q329 h0))⟩)), fun q311 => k_ifp q311 q308 (fun q312 => ih q312 h0)⟩⟩))⟩)

def F_X7_next (mi : MI) (w : WS)  : Option (MI × WS) := L_X7_next_8 1000000 (u3 mi 6 0 4 (mi 6 0 2)) w

theorem s_X7_next {gl : Nat} {gx : Nat → Int32} {d : Nat} {P : PL} {Q : PO} {mi : MI} {w : WS} {lv : LV}  {r : (MI × WS)} (hf : F_X7_next mi w  = some r) (h0 : Q aU (r.1, RS r.2, lv)) : Wp gl gx (d + 2) P 107 0 [aR 6 0] [] (mi, RS w, lv) Q := r_X7_next_0 (l_X7_next_8 1000000 hf h0)

