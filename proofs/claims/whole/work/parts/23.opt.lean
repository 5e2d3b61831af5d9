/-! METHODS AS FUNCTIONS (1) -/
theorem k_ifp {α : Type} {G c : Prop} {i : Decidable c} {a b r : α} (q : c) (h : @ite α c i a b = r) (k : a = r → G) : G := by rw [if_pos q] at h; exact k h
theorem k_ifn {α : Type} {G c : Prop} {i : Decidable c} {a b r : α} (q : ¬ c) (h : @ite α c i a b = r) (k : b = r → G) : G := by rw [if_neg q] at h; exact k h
def ck {α : Type} (c : Prop) [Decidable c] (a : Option α) : Option α := if c then a else none
theorem k_ck {α : Type} {G c : Prop} {i : Decidable c} {a : Option α} {r : α} (h : @ck α c i a = some r) (k : c → a = some r → G) : G := by
  unfold ck at h
  by_cases q : c
  · rw [if_pos q] at h; exact k q h
  · rw [if_neg q] at h; cases h
theorem o_none {α : Type} {p : Prop} {r : α} (h : (none : Option α) = some r) : p := by cases h
theorem o_bind {α β : Type} {p : Prop} {o : Option α} {f : α → Option β} {r : β} (h : o.bind f = some r) (k : ∀ v, o = some v → f v = some r → p) : p := by
  cases o with
  | none => cases h
  | some v => exact k v rfl h
def lt {α β : Type} (a : α) (f : α → β) : β := f a
theorem k_lt {α β : Type} {G : Prop} {a m : α} {f : α → β} {r : β} (h : lt a f = r) (e : m = a) (k : f m = r → G) : G := by subst e; exact k h
def onO {β : Type} (o : Option Nat) (a : β) (f : Nat → β) : β := match o with
  | none => a
  | some j => f j
theorem k_oN {β : Type} {G : Prop} {o : Option Nat} {a r : β} {f : Nat → β} (e : o = none) (h : onO o a f = r) (k : a = r → G) : G := by subst e; exact k h
theorem k_oS {β : Type} {G : Prop} {o : Option Nat} {j : Nat} {a r : β} {f : Nat → β} (e : o = some j) (h : onO o a f = r) (k : f j = r → G) : G := by subst e; exact k h
theorem o_rP {Q : PO} {v r : Int32} {M : MM} (hf : some v = some r) (h : Q (aI r) M) : Q (aI v) M := by cases hf; exact h
theorem o_rW {Q : PO} {v : Int32} {mi : MI} {w : WS} {lv : LV} {r : Int32 × MI × WS} (hf : some (v, mi, w) = some r) (h : Q (aI r.1) (r.2.1, RS r.2.2, lv)) : Q (aI v) (mi, RS w, lv) := by cases hf; exact h
theorem o_rV {Q : PO} {mi : MI} {w : WS} {lv : LV} {r : MI × WS} (hf : some (mi, w) = some r) (h : Q aU (r.1, RS r.2, lv)) : Q aU (mi, RS w, lv) := by cases hf; exact h
theorem o_rM {Q : PO} {v : Int32} {mi : MI} {R : MR} {lv : LV} {r : Int32 × MI} (hf : some (v, mi) = some r) (h : Q (aI r.1) (r.2, R, lv)) : Q (aI v) (mi, R, lv) := by cases hf; exact h
theorem o_rMV {Q : PO} {mi : MI} {R : MR} {lv : LV} {r : MI} (hf : some mi = some r) (h : Q aU (r, R, lv)) : Q aU (mi, R, lv) := by cases hf; exact h
theorem wp_rs {gl : Nat} {gx : Nat → Int32} {d : Nat} {P : PL} {y pc : Nat} {L S : List AV} {mi : MI} {R R' : MR} {lv : LV} {Q : PO} (e : R = R') (h : Wp gl gx d P y pc L S (mi, R', lv) Q) : Wp gl gx d P y pc L S (mi, R, lv) Q := e ▸ h
theorem nb_c (x : UInt32) : narrow .char (.int (x % 65536).toInt32) = .int (x % 65536).toInt32 := by
  have e : x % 65536 % 65536 = x % 65536 := UInt32.toNat_inj.mp (by simp [UInt32.toNat_mod])
  simp [narrow, e]
theorem o_rN {G : Prop} {r : Option Nat} (hf : some none = some r) (h : r = none → G) : G := by cases hf; exact h rfl
theorem o_rS {Q : PO} {k j : Nat} {M : MM} {r : Option Nat} (hf : some (some j) = some r) (h : ∀ j, r = some j → Q (aR k j) M) : Q (aR k j) M := by cases hf; exact h j rfl
theorem nb_01 {x : Int32} (h : x = 0 ∨ x = 1) : narrow .boolean (.int x) = .int x := by rcases h with h | h <;> subst h <;> rfl
theorem nb_ch {x : Int32} (h : (x.toUInt32 % 65536).toInt32 = x) : narrow .char (.int x) = .int x := by simp [narrow, h]
theorem sw_o {x a b c : Int32} (h : x < a ∨ b < x) (h1 : a ≤ c) (h2 : c ≤ b) : ¬ x = c := by
  intro e; subst e
  rcases h with h | h
  · exact Int32.lt_irrefl (Int32.lt_of_lt_of_le h h1)
  · exact Int32.lt_irrefl (Int32.lt_of_lt_of_le h h2)
theorem sw_n {x a b : Int32} (h : x = a) (h1 : ¬ a = b) : ¬ x = b := by subst h; exact h1
abbrev row_313 : MT := (⟨"java/lang/Integer", "bitCount", "(I)I"⟩, prog_14_method_49_code, 1, some .int, 0, lk_12)
set_option maxRecDepth 20000 in
theorem mt_313 : mt 313 = some row_313 := rfl
theorem r_J6_bitCount_0f7a4_48 {gl : Nat} {gx : Nat → Int32} {d : Nat} {P : PL} {Q : PO} {mi : MI} {w : WS} {lv : LV} {x0 : Int32} (h : Q (aI (x0 &&& 63)) (mi, RS w, lv)) : Wp gl gx d P 313 48 [aI x0] [] (mi, RS w, lv) Q := 
  wpT row_313 mt_313 [.iload_n 0, .bipush 63, .iand, .ireturn] (by decide +kernel) [] (by decide +kernel) 28 (h)

theorem r_J6_bitCount_0f7a4_41 {gl : Nat} {gx : Nat → Int32} {d : Nat} {P : PL} {Q : PO} {mi : MI} {w : WS} {lv : LV} {x0 : Int32} (h : Wp gl gx d P 313 48 [aI (x0 + (ushr x0 16))] [] (mi, RS w, lv) Q) : Wp gl gx d P 313 41 [aI x0] [] (mi, RS w, lv) Q := 
  wpT row_313 mt_313 [.iload_n 0, .iload_n 0, .bipush 16, .iushr, .iadd, .istore_n 0] (by decide +kernel) [] (by decide +kernel) 32 (h)

theorem r_J6_bitCount_0f7a4_34 {gl : Nat} {gx : Nat → Int32} {d : Nat} {P : PL} {Q : PO} {mi : MI} {w : WS} {lv : LV} {x0 : Int32} (h : Wp gl gx d P 313 41 [aI (x0 + (ushr x0 8))] [] (mi, RS w, lv) Q) : Wp gl gx d P 313 34 [aI x0] [] (mi, RS w, lv) Q := 
  wpT row_313 mt_313 [.iload_n 0, .iload_n 0, .bipush 8, .iushr, .iadd, .istore_n 0] (by decide +kernel) [] (by decide +kernel) 32 (h)

theorem r_J6_bitCount_0f7a4_24 {gl : Nat} {gx : Nat → Int32} {d : Nat} {P : PL} {Q : PO} {mi : MI} {w : WS} {lv : LV} {x0 : Int32} (h : Wp gl gx d P 313 34 [aI ((x0 + (ushr x0 4)) &&& (252645135))] [] (mi, RS w, lv) Q) : Wp gl gx d P 313 24 [aI x0] [] (mi, RS w, lv) Q := 
  wpT row_313 mt_313 [.iload_n 0, .iload_n 0, .iconst 4, .iushr, .iadd, .ldc_w 267, .iand, .istore_n 0] (by decide +kernel) [] (by decide +kernel) 36 (h)

theorem r_J6_bitCount_0f7a4_10 {gl : Nat} {gx : Nat → Int32} {d : Nat} {P : PL} {Q : PO} {mi : MI} {w : WS} {lv : LV} {x0 : Int32} (h : Wp gl gx d P 313 24 [aI ((x0 &&& (858993459)) + ((ushr x0 2) &&& (858993459)))] [] (mi, RS w, lv) Q) : Wp gl gx d P 313 10 [aI x0] [] (mi, RS w, lv) Q := 
  wpT row_313 mt_313 [.iload_n 0, .ldc_w 266, .iand, .iload_n 0, .iconst 2, .iushr, .ldc_w 266, .iand, .iadd, .istore_n 0] (by decide +kernel) [] (by decide +kernel) 40 (h)

theorem r_J6_bitCount_0f7a4_0 {gl : Nat} {gx : Nat → Int32} {d : Nat} {P : PL} {Q : PO} {mi : MI} {w : WS} {lv : LV} {x0 : Int32} (h : Wp gl gx d P 313 10 [aI (x0 - ((ushr x0 1) &&& (1431655765)))] [] (mi, RS w, lv) Q) : Wp gl gx d P 313 0 [aI x0] [] (mi, RS w, lv) Q := 
  wpT row_313 mt_313 [.iload_n 0, .iload_n 0, .iconst 1, .iushr, .ldc_w 265, .iand, .isub, .istore_n 0] (by decide +kernel) [] (by decide +kernel) 36 (h)

def pc1 (x : Int32) : Int32 := x - ((ushr x 1) &&& 1431655765)
def pc2 (x : Int32) : Int32 := (x &&& 858993459) + ((ushr x 2) &&& 858993459)
def pc3 (x : Int32) : Int32 := (x + (ushr x 4)) &&& 252645135
def pc4 (x : Int32) : Int32 := x + (ushr x 8)
def pc5 (x : Int32) : Int32 := x + (ushr x 16)
/-- how many bits a set has -/
def pop32 (x : Int32) : Int32 := pc5 (pc4 (pc3 (pc2 (pc1 x)))) &&& 63
theorem s_J6_bitCount_0f7a4 {gl : Nat} {gx : Nat → Int32} {d : Nat} {P : PL} {Q : PO} {mi : MI} {w : WS} {lv : LV} {x0 : Int32} (h : Q (aI (pop32 x0)) (mi, RS w, lv)) : Wp gl gx d P 313 0 [aI x0] [] (mi, RS w, lv) Q :=
  r_J6_bitCount_0f7a4_0 (r_J6_bitCount_0f7a4_10 (r_J6_bitCount_0f7a4_24 (r_J6_bitCount_0f7a4_34 (r_J6_bitCount_0f7a4_41 (r_J6_bitCount_0f7a4_48 h)))))
abbrev row_315 : MT := (⟨"java/lang/String", "coder", "()B"⟩, prog_16_method_152_code, 1, some .byte, 1, lk_13)
set_option maxRecDepth 20000 in
theorem mt_315 : mt 315 = some row_315 := rfl
theorem r_J0_coder_7d493_0 {gl : Nat} {gx : Nat → Int32} {d : Nat} {P : PL} {Q : PO} {mi : MI} {w : WS} {lv : LV} {i : Nat} (h : Q (aI (b2 ((1 : Int32) = (0 : Int32)))) (mi, RS w, lv)) : Wp gl gx d P 315 0 [aR 16 i] [] (mi, RS w, lv) Q := 
  wpT row_315 mt_315 [.getstatic 38, .ifCond .eq 10] (by decide +kernel) [(13, [.iconst 1, .ireturn]), (6, [.aload_n 0, .getfield 15, .goto 4]), (14, [.ireturn])] (by decide +kernel) 36 (And.intro (fun q1 => And.intro rfl (mv9 (fun v => Q (aI v) (mi, RS w, lv)) (show (b2 ((1 : Int32) = (0 : Int32))) = 1 from b2_t (show (1 : Int32) = (0 : Int32) from q1)) h)) (fun q2 => And.intro rfl (mv9 (fun v => Q (aI v) (mi, RS w, lv)) (show (b2 ((1 : Int32) = (0 : Int32))) = 0 from b2_f (show ¬ ((1 : Int32) = (0 : Int32)) from q2)) h)))

abbrev f_J0_coder_7d493 (mi : MI) (i : Nat) : Int32 := b2 ((1 : Int32) = (0 : Int32))
theorem s_J0_coder_7d493 {gl : Nat} {gx : Nat → Int32} {d : Nat} {P : PL} {Q : PO} {mi : MI} {w : WS} {lv : LV} {i : Nat} (h : Q (aI (f_J0_coder_7d493 mi i)) (mi, RS w, lv)) : Wp gl gx d P 315 0 [aR 16 i] [] (mi, RS w, lv) Q := r_J0_coder_7d493_0 h

abbrev row_316 : MT := (⟨"java/lang/String", "isLatin1", "()Z"⟩, prog_16_method_154_code, 1, some .boolean, 1, lk_13)
set_option maxRecDepth 20000 in
theorem mt_316 : mt 316 = some row_316 := rfl
theorem r_J0_isLatin1_aae02_0 {gl : Nat} {gx : Nat → Int32} {d : Nat} {P : PL} {Q : PO} {mi : MI} {w : WS} {lv : LV} {i : Nat} (h : Q (aI (b2 (¬ ((1 : Int32) = (0 : Int32)) ∧ ((0 : Int32) = (0 : Int32))))) (mi, RS w, lv)) : Wp gl gx d P 316 0 [aR 16 i] [] (mi, RS w, lv) Q := 
  wpT row_316 mt_316 [.getstatic 38, .ifCond .eq 14] (by decide +kernel) [(17, [.iconst 0, .ireturn]), (6, [.aload_n 0, .getfield 15, .ifCond .ne 7]), (13, [.iconst 1, .goto 4]), (18, [.ireturn])] (by decide +kernel) 40 (And.intro (fun q3 => And.intro rfl (mv9 (fun v => Q (aI v) (mi, RS w, lv)) (show (b2 (¬ ((1 : Int32) = (0 : Int32)) ∧ ((0 : Int32) = (0 : Int32)))) = 0 from b2na_t (show (1 : Int32) = (0 : Int32) from q3)) h)) (fun q4 => And.intro (fun q5 => And.intro rfl (mv9 (fun v => Q (aI v) (mi, RS w, lv)) (show (b2 ((0 : Int32) = (0 : Int32))) = 0 from b2_f (show ¬ ((0 : Int32) = (0 : Int32)) from q5)) (mv9 (fun v => Q (aI v) (mi, RS w, lv)) (show (b2 (¬ ((1 : Int32) = (0 : Int32)) ∧ ((0 : Int32) = (0 : Int32)))) = (b2 ((0 : Int32) = (0 : Int32))) from b2na_f (show ¬ ((1 : Int32) = (0 : Int32)) from q4)) h))) (fun q6 => And.intro rfl (mv9 (fun v => Q (aI v) (mi, RS w, lv)) (show (b2 ((0 : Int32) = (0 : Int32))) = 1 from b2_t (show (0 : Int32) = (0 : Int32) from q6)) (mv9 (fun v => Q (aI v) (mi, RS w, lv)) (show (b2 (¬ ((1 : Int32) = (0 : Int32)) ∧ ((0 : Int32) = (0 : Int32)))) = (b2 ((0 : Int32) = (0 : Int32))) from b2na_f (show ¬ ((1 : Int32) = (0 : Int32)) from q4)) h)))))

abbrev f_J0_isLatin1_aae02 (mi : MI) (i : Nat) : Int32 := b2 (¬ ((1 : Int32) = (0 : Int32)) ∧ ((0 : Int32) = (0 : Int32)))
theorem s_J0_isLatin1_aae02 {gl : Nat} {gx : Nat → Int32} {d : Nat} {P : PL} {Q : PO} {mi : MI} {w : WS} {lv : LV} {i : Nat} (h : Q (aI (f_J0_isLatin1_aae02 mi i)) (mi, RS w, lv)) : Wp gl gx d P 316 0 [aR 16 i] [] (mi, RS w, lv) Q := r_J0_isLatin1_aae02_0 h

abbrev row_318 : MT := (⟨"java/lang/StringLatin1", "charAt", "([BI)C"⟩, prog_17_method_2_code, 2, some .char, 0, lk_14)
set_option maxRecDepth 20000 in
theorem mt_318 : mt 318 = some row_318 := rfl
theorem r_J1_charAt_3b067_0 {gl : Nat} {gx : Nat → Int32} {d : Nat} {P : PL} {Q : PO} {mi : MI} {w : WS} {lv : LV} {i0 : Nat} {x1 : Int32} (h : (¬ x1 < 0 ∧ x1 < (Int32.ofNat (stx.getD i0 []).length)) ∧ ((vp_in x1 (stx.getD i0 []).length) ∧ (Q (aI (((((stx.getD i0 []).getD x1.toNatClampNeg 0) &&& 255).toUInt32 % 65536).toInt32)) (mi, RS w, lv)))) : Wp gl gx (d + 2) P 318 0 [aR 17 i0, aI x1] [] (mi, RS w, lv) Q := 
  wpT row_318 mt_318 [.iload_n 1, .aload_n 0, .arraylength, .invokestatic 9] (by decide +kernel) [(6, [.aload_n 0, .iload_n 1, .baload]), (9, [.sipush 255, .iand, .i2c, .ireturn])] (by decide +kernel) 42 (And.intro ⟨Nat.le_of_ble_eq_true rfl, h.1⟩ (And.intro h.2.1 (And.intro (nb_c _) h.2.2)))

def F_J1_charAt_3b067 (mi : MI) (w : WS) (i0 : Nat) (x1 : Int32) : Option Int32 := ck (¬ x1 < 0 ∧ x1 < (Int32.ofNat (stx.getD i0 []).length)) (ck (¬ (x1 < 0 ∨ (stx.getD i0 []).length ≤ x1.toNatClampNeg)) (some (((((stx.getD i0 []).getD x1.toNatClampNeg 0) &&& 255).toUInt32 % 65536).toInt32)))

theorem s_J1_charAt_3b067 {gl : Nat} {gx : Nat → Int32} {d : Nat} {P : PL} {Q : PO} {mi : MI} {w : WS} {lv : LV} {i0 : Nat} {x1 : Int32} {r : Int32} (hf : F_J1_charAt_3b067 mi w i0 x1 = some r) (h0 : Q (aI r) (mi, RS w, lv)) : Wp gl gx (d + 2) P 318 0 [aR 17 i0, aI x1] [] (mi, RS w, lv) Q := r_J1_charAt_3b067_0 (k_ck hf (fun q8 q7 => ⟨q8, k_ck q7 (fun q10 q9 => ⟨q10, o_rP q9 h0⟩)⟩))

abbrev row_314 : MT := (⟨"java/lang/String", "length", "()I"⟩, prog_16_method_54_code, 1, some .int, 1, lk_13)
set_option maxRecDepth 20000 in
theorem mt_314 : mt 314 = some row_314 := rfl
theorem r_J0_length_8abf5_0 {gl : Nat} {gx : Nat → Int32} {d : Nat} {P : PL} {Q : PO} {mi : MI} {w : WS} {lv : LV} {i : Nat} (h : Q (aI ((Int32.ofNat (stx.getD i []).length) >>> ((b2 ((1 : Int32) = (0 : Int32))) &&& 31))) (mi, RS w, lv)) : Wp gl gx (d + 1) P 314 0 [aR 16 i] [] (mi, RS w, lv) Q := 
  wpT row_314 mt_314 [.aload_n 0, .getfield 9, .arraylength, .aload_n 0, .invokevirtual 335] (by decide +kernel) [(9, [.ishr, .ireturn])] (by decide +kernel) 34 (And.intro ⟨Nat.le_of_ble_eq_true rfl, rfl, rfl⟩ (s_J0_coder_7d493 (d := d) (h)))

def f_J0_length_8abf5 (mi : MI) (i : Nat) : Int32 := (Int32.ofNat (stx.getD i []).length) >>> ((b2 ((1 : Int32) = (0 : Int32))) &&& 31)
theorem s_J0_length_8abf5 {gl : Nat} {gx : Nat → Int32} {d : Nat} {P : PL} {Q : PO} {mi : MI} {w : WS} {lv : LV} {i : Nat} (h : Q (aI (f_J0_length_8abf5 mi i)) (mi, RS w, lv)) : Wp gl gx (d + 1) P 314 0 [aR 16 i] [] (mi, RS w, lv) Q := r_J0_length_8abf5_0 h

abbrev row_317 : MT := (⟨"java/lang/String", "charAt", "(I)C"⟩, prog_16_method_56_code, 2, some .char, 1, lk_13)
set_option maxRecDepth 20000 in
theorem mt_317 : mt 317 = some row_317 := rfl
theorem r_J0_charAt_5068e_0 {gl : Nat} {gx : Nat → Int32} {d : Nat} {P : PL} {Q : PO} {mi : MI} {w : WS} {lv : LV} {i : Nat} {x1 : Int32} (h : (∃ c1 : Int32, F_J1_charAt_3b067 mi w i x1 = some c1 ∧ (narrow .char (.int c1) = .int c1) ∧ Q (aI c1) (mi, RS w, lv))) : Wp gl gx (d + 3) P 317 0 [aR 16 i, aI x1] [] (mi, RS w, lv) Q := 
  wpT row_317 mt_317 [.aload_n 0, .invokevirtual 492] (by decide +kernel) [(4, [.ifCond .eq 12]), (7, [.aload_n 0, .getfield 9, .iload_n 1, .invokestatic 495]), (15, [.ireturn])] (by decide +kernel) 36 (And.intro ⟨Nat.le_of_ble_eq_true rfl, rfl, rfl⟩ (s_J0_isLatin1_aae02 (d := d + 2) (And.intro (fun q11 => absurd (show ¬ ((1 : Int32) = (0 : Int32)) ∧ ((0 : Int32) = (0 : Int32)) from by decide) (b2_0 q11)) (fun q12 => Exists.elim h (fun c1 zc1 => And.intro ⟨Nat.le_of_ble_eq_true rfl, rfl, rfl⟩ (s_J1_charAt_3b067 (d := d) zc1.1 (zc1.2)))))))

def F_J0_charAt_5068e (mi : MI) (w : WS) (i : Nat) (x1 : Int32) : Option Int32 := (F_J1_charAt_3b067 mi w i x1).bind fun c1 => ck ((c1.toUInt32 % 65536).toInt32 = c1) (some c1)

theorem s_J0_charAt_5068e {gl : Nat} {gx : Nat → Int32} {d : Nat} {P : PL} {Q : PO} {mi : MI} {w : WS} {lv : LV} {i : Nat} {x1 : Int32} {r : Int32} (hf : F_J0_charAt_5068e mi w i x1 = some r) (h0 : Q (aI r) (mi, RS w, lv)) : Wp gl gx (d + 3) P 317 0 [aR 16 i, aI x1] [] (mi, RS w, lv) Q := r_J0_charAt_5068e_0 (o_bind hf (fun c1 qc1 pc1 => ⟨c1, qc1, k_ck pc1 (fun q14 q13 => ⟨nb_ch q14, o_rP q13 h0⟩)⟩))

