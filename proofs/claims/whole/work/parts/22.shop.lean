/-! SHOPS (the class): rules by program, loops by hand -/
def foldN {α : Type} (f : Nat → α → α) (a : α) : Nat → α
  | 0 => a
  | n + 1 => f n (foldN f a n)
theorem up_loop {α : Type} {n : Nat} {f : Nat → α → α} {a : α} {W : Nat → α → Prop} (hs : ∀ k, k < n → W (k + 1) (f k (foldN f a k)) → W k (foldN f a k)) (he : W n (foldN f a n)) : W 0 a := by
  have h : ∀ k, k ≤ n → W (n - k) (foldN f a (n - k)) := by
    intro k
    induction k with
    | zero => intro _; exact he
    | succ k ih =>
      intro hk
      have h1 := ih (by omega)
      have e : n - k = (n - (k + 1)) + 1 := by omega
      rw [e] at h1
      exact hs _ (by omega) h1
  have := h n (Nat.le_refl n)
  rw [Nat.sub_self] at this
  exact this
/-- a bit of a set -/
abbrev bt (x : Int32) (k : Nat) : Prop := ¬ (x >>> (nI k &&& 31)) &&& 1 = 0
/-- a small number -/
def sm (m : Nat) (x : Int32) : Prop := ∃ n, n ≤ m ∧ x = nI n
theorem sm_cl {m : Nat} {x : Int32} (h : sm m x) (hm : m < 2 ^ 31) : x.toNatClampNeg ≤ m ∧ x = nI x.toNatClampNeg := by
  obtain ⟨n, h1, rfl⟩ := h
  rw [nI_clamp (by omega)]
  exact ⟨h1, rfl⟩
abbrev nt (x : Int32) : Nat := x.toNatClampNeg
/-- a shop's sizes are what they may be -/
def SH (mi : MI) (i : Nat) : Prop := (∃ n, 1 ≤ n ∧ n ≤ 5 ∧ mi 5 i 0 = nI n) ∧ (∃ n, 1 ≤ n ∧ n ≤ 5 ∧ mi 5 i 1 = nI n) ∧ sm 6 (mi 5 i 3)
abbrev row_86 : MT := (⟨"StencilHouse$Shop", "clear", "()V"⟩, prog_8_method_2_code, 2, none, 1, lk_6)
set_option maxRecDepth 20000 in
theorem mt_86 : mt 86 = some row_86 := rfl
abbrev row_87 : MT := (⟨"StencilHouse$Shop", "copyFrom", "(LStencilHouse$Shop;)V"⟩, prog_8_method_3_code, 2, none, 1, lk_6)
set_option maxRecDepth 20000 in
theorem mt_87 : mt 87 = some row_87 := rfl
abbrev row_88 : MT := (⟨"StencilHouse$Shop", "measure", "()V"⟩, prog_8_method_4_code, 2, none, 1, lk_6)
set_option maxRecDepth 20000 in
theorem mt_88 : mt 88 = some row_88 := rfl
abbrev row_89 : MT := (⟨"StencilHouse$Shop", "openSheets", "()V"⟩, prog_8_method_5_code, 2, none, 1, lk_6)
set_option maxRecDepth 20000 in
theorem mt_89 : mt 89 = some row_89 := rfl
abbrev row_90 : MT := (⟨"StencilHouse$Shop", "hasSheet", "(I)Z"⟩, prog_8_method_6_code, 2, some .boolean, 1, lk_6)
set_option maxRecDepth 20000 in
theorem mt_90 : mt 90 = some row_90 := rfl
abbrev row_91 : MT := (⟨"StencilHouse$Shop", "hasCell", "(I)Z"⟩, prog_8_method_7_code, 2, some .boolean, 1, lk_6)
set_option maxRecDepth 20000 in
theorem mt_91 : mt 91 = some row_91 := rfl
abbrev row_92 : MT := (⟨"StencilHouse$Shop", "hasPlace", "(II)Z"⟩, prog_8_method_8_code, 3, some .boolean, 1, lk_6)
set_option maxRecDepth 20000 in
theorem mt_92 : mt 92 = some row_92 := rfl
abbrev row_93 : MT := (⟨"StencilHouse$Shop", "isOpen", "(II)Z"⟩, prog_8_method_9_code, 3, some .boolean, 1, lk_6)
set_option maxRecDepth 20000 in
theorem mt_93 : mt 93 = some row_93 := rfl
abbrev row_94 : MT := (⟨"StencilHouse$Shop", "everySheet", "()I"⟩, prog_8_method_10_code, 1, some .int, 1, lk_6)
set_option maxRecDepth 20000 in
theorem mt_94 : mt 94 = some row_94 := rfl
abbrev row_95 : MT := (⟨"StencilHouse$Shop", "union", "(I)I"⟩, prog_8_method_11_code, 4, some .int, 1, lk_6)
set_option maxRecDepth 20000 in
theorem mt_95 : mt 95 = some row_95 := rfl
abbrev row_96 : MT := (⟨"StencilHouse$Shop", "beside", "(I)I"⟩, prog_8_method_12_code, 3, some .int, 1, lk_6)
set_option maxRecDepth 20000 in
theorem mt_96 : mt 96 = some row_96 := rfl
abbrev row_98 : MT := (⟨"StencilHouse$Shop", "falling", "(I)I"⟩, prog_8_method_13_code, 2, some .int, 1, lk_6)
set_option maxRecDepth 20000 in
theorem mt_98 : mt 98 = some row_98 := rfl
abbrev row_99 : MT := (⟨"StencilHouse$Shop", "grown", "(II)I"⟩, prog_8_method_15_code, 6, some .int, 1, lk_6)
set_option maxRecDepth 20000 in
theorem mt_99 : mt 99 = some row_99 := rfl
abbrev row_100 : MT := (⟨"StencilHouse$Shop", "opened", "(I)I"⟩, prog_8_method_14_code, 3, some .int, 1, lk_6)
set_option maxRecDepth 20000 in
theorem mt_100 : mt 100 = some row_100 := rfl
abbrev row_101 : MT := (⟨"StencilHouse$Shop", "slid", "(III)I"⟩, prog_8_method_16_code, 6, some .int, 1, lk_6)
set_option maxRecDepth 20000 in
theorem mt_101 : mt 101 = some row_101 := rfl
abbrev row_102 : MT := (⟨"StencilHouse$Shop", "flipped", "(I)I"⟩, prog_8_method_17_code, 6, some .int, 1, lk_6)
set_option maxRecDepth 20000 in
theorem mt_102 : mt 102 = some row_102 := rfl
abbrev row_103 : MT := (⟨"StencilHouse$Shop", "turned", "(I)I"⟩, prog_8_method_18_code, 5, some .int, 1, lk_6)
set_option maxRecDepth 20000 in
theorem mt_103 : mt 103 = some row_103 := rfl
abbrev row_104 : MT := (⟨"StencilHouse$Shop", "tellSheet", "(I)I"⟩, prog_8_method_19_code, 3, some .int, 1, lk_6)
set_option maxRecDepth 20000 in
theorem mt_104 : mt 104 = some row_104 := rfl
theorem r_X6_hasSheet_0 {gl : Nat} {gx : Nat → Int32} {d : Nat} {P : PL} {Q : PO} {mi : MI} {w : WS} {lv : LV} {i : Nat} {x1 : Int32} (h : Q (aI (b2 (¬ (x1 < 0) ∧ (¬ ((mi 5 i 3) ≤ x1) ∧ (¬ (6 ≤ x1)))))) (mi, RS w, lv)) : Wp gl gx d P 90 0 [aR 5 i, aI x1] [] (mi, RS w, lv) Q := 
  wpT row_90 mt_90 [.iload_n 1, .ifCond .lt 21] (by decide +kernel) [(22, [.iconst 0, .ireturn]), (4, [.iload_n 1, .aload_n 0, .getfield 21, .if_icmp .ge 13]), (12, [.iload_n 1, .bipush 6, .if_icmp .ge 7]), (18, [.iconst 1, .goto 4]), (23, [.ireturn])] (by decide +kernel) 48 (And.intro (fun q1 => And.intro rfl (mv9 (fun v => Q (aI v) (mi, RS w, lv)) (show (b2 (¬ (x1 < 0) ∧ (¬ ((mi 5 i 3) ≤ x1) ∧ (¬ (6 ≤ x1))))) = 0 from b2na_t (show x1 < 0 from q1)) h)) (fun q2 => And.intro (fun q3 => And.intro rfl (mv9 (fun v => Q (aI v) (mi, RS w, lv)) (show (b2 (¬ ((mi 5 i 3) ≤ x1) ∧ (¬ (6 ≤ x1)))) = 0 from b2na_t (show (mi 5 i 3) ≤ x1 from q3)) (mv9 (fun v => Q (aI v) (mi, RS w, lv)) (show (b2 (¬ (x1 < 0) ∧ (¬ ((mi 5 i 3) ≤ x1) ∧ (¬ (6 ≤ x1))))) = (b2 (¬ ((mi 5 i 3) ≤ x1) ∧ (¬ (6 ≤ x1)))) from b2na_f (show ¬ (x1 < 0) from q2)) h))) (fun q4 => And.intro (fun q5 => And.intro rfl (mv9 (fun v => Q (aI v) (mi, RS w, lv)) (show (b2 (¬ (6 ≤ x1))) = 0 from b2n_t (show 6 ≤ x1 from q5)) (mv9 (fun v => Q (aI v) (mi, RS w, lv)) (show (b2 (¬ ((mi 5 i 3) ≤ x1) ∧ (¬ (6 ≤ x1)))) = (b2 (¬ (6 ≤ x1))) from b2na_f (show ¬ ((mi 5 i 3) ≤ x1) from q4)) (mv9 (fun v => Q (aI v) (mi, RS w, lv)) (show (b2 (¬ (x1 < 0) ∧ (¬ ((mi 5 i 3) ≤ x1) ∧ (¬ (6 ≤ x1))))) = (b2 (¬ ((mi 5 i 3) ≤ x1) ∧ (¬ (6 ≤ x1)))) from b2na_f (show ¬ (x1 < 0) from q2)) h)))) (fun q6 => And.intro rfl (mv9 (fun v => Q (aI v) (mi, RS w, lv)) (show (b2 (¬ (6 ≤ x1))) = 1 from b2n_f (show ¬ (6 ≤ x1) from q6)) (mv9 (fun v => Q (aI v) (mi, RS w, lv)) (show (b2 (¬ ((mi 5 i 3) ≤ x1) ∧ (¬ (6 ≤ x1)))) = (b2 (¬ (6 ≤ x1))) from b2na_f (show ¬ ((mi 5 i 3) ≤ x1) from q4)) (mv9 (fun v => Q (aI v) (mi, RS w, lv)) (show (b2 (¬ (x1 < 0) ∧ (¬ ((mi 5 i 3) ≤ x1) ∧ (¬ (6 ≤ x1))))) = (b2 (¬ ((mi 5 i 3) ≤ x1) ∧ (¬ (6 ≤ x1)))) from b2na_f (show ¬ (x1 < 0) from q2)) h)))))))

abbrev f_X6_hasSheet (mi : MI) (i : Nat) (x1 : Int32) : Int32 := b2 (¬ (x1 < 0) ∧ (¬ ((mi 5 i 3) ≤ x1) ∧ (¬ (6 ≤ x1))))
theorem s_X6_hasSheet {gl : Nat} {gx : Nat → Int32} {d : Nat} {P : PL} {Q : PO} {mi : MI} {w : WS} {lv : LV} {i : Nat} {x1 : Int32} (h : Q (aI (f_X6_hasSheet mi i x1)) (mi, RS w, lv)) : Wp gl gx d P 90 0 [aR 5 i, aI x1] [] (mi, RS w, lv) Q := r_X6_hasSheet_0 h

theorem r_X6_hasCell_0 {gl : Nat} {gx : Nat → Int32} {d : Nat} {P : PL} {Q : PO} {mi : MI} {w : WS} {lv : LV} {i : Nat} {x1 : Int32} (h : Q (aI (b2 (¬ (x1 < 0) ∧ (¬ (((mi 5 i 0) * (mi 5 i 1)) ≤ x1))))) (mi, RS w, lv)) : Wp gl gx d P 91 0 [aR 5 i, aI x1] [] (mi, RS w, lv) Q := 
  wpT row_91 mt_91 [.iload_n 1, .ifCond .lt 20] (by decide +kernel) [(21, [.iconst 0, .ireturn]), (4, [.iload_n 1, .aload_n 0, .getfield 9, .aload_n 0, .getfield 15, .imul, .if_icmp .ge 7]), (17, [.iconst 1, .goto 4]), (22, [.ireturn])] (by decide +kernel) 48 (And.intro (fun q7 => And.intro rfl (mv9 (fun v => Q (aI v) (mi, RS w, lv)) (show (b2 (¬ (x1 < 0) ∧ (¬ (((mi 5 i 0) * (mi 5 i 1)) ≤ x1)))) = 0 from b2na_t (show x1 < 0 from q7)) h)) (fun q8 => And.intro (fun q9 => And.intro rfl (mv9 (fun v => Q (aI v) (mi, RS w, lv)) (show (b2 (¬ (((mi 5 i 0) * (mi 5 i 1)) ≤ x1))) = 0 from b2n_t (show ((mi 5 i 0) * (mi 5 i 1)) ≤ x1 from q9)) (mv9 (fun v => Q (aI v) (mi, RS w, lv)) (show (b2 (¬ (x1 < 0) ∧ (¬ (((mi 5 i 0) * (mi 5 i 1)) ≤ x1)))) = (b2 (¬ (((mi 5 i 0) * (mi 5 i 1)) ≤ x1))) from b2na_f (show ¬ (x1 < 0) from q8)) h))) (fun q10 => And.intro rfl (mv9 (fun v => Q (aI v) (mi, RS w, lv)) (show (b2 (¬ (((mi 5 i 0) * (mi 5 i 1)) ≤ x1))) = 1 from b2n_f (show ¬ (((mi 5 i 0) * (mi 5 i 1)) ≤ x1) from q10)) (mv9 (fun v => Q (aI v) (mi, RS w, lv)) (show (b2 (¬ (x1 < 0) ∧ (¬ (((mi 5 i 0) * (mi 5 i 1)) ≤ x1)))) = (b2 (¬ (((mi 5 i 0) * (mi 5 i 1)) ≤ x1))) from b2na_f (show ¬ (x1 < 0) from q8)) h)))))

abbrev f_X6_hasCell (mi : MI) (i : Nat) (x1 : Int32) : Int32 := b2 (¬ (x1 < 0) ∧ (¬ (((mi 5 i 0) * (mi 5 i 1)) ≤ x1)))
theorem s_X6_hasCell {gl : Nat} {gx : Nat → Int32} {d : Nat} {P : PL} {Q : PO} {mi : MI} {w : WS} {lv : LV} {i : Nat} {x1 : Int32} (h : Q (aI (f_X6_hasCell mi i x1)) (mi, RS w, lv)) : Wp gl gx d P 91 0 [aR 5 i, aI x1] [] (mi, RS w, lv) Q := r_X6_hasCell_0 h

theorem r_X6_hasPlace_0 {gl : Nat} {gx : Nat → Int32} {d : Nat} {P : PL} {Q : PO} {mi : MI} {w : WS} {lv : LV} {i : Nat} {x1 : Int32} {x2 : Int32} (h : Q (aI (b2 (¬ (x1 < 0) ∧ (¬ ((mi 5 i 0) ≤ x1) ∧ (¬ (x2 < 0) ∧ (¬ ((mi 5 i 1) ≤ x2))))))) (mi, RS w, lv)) : Wp gl gx d P 92 0 [aR 5 i, aI x1, aI x2] [] (mi, RS w, lv) Q := 
  wpT row_92 mt_92 [.iload_n 1, .ifCond .lt 27] (by decide +kernel) [(28, [.iconst 0, .ireturn]), (4, [.iload_n 1, .aload_n 0, .getfield 9, .if_icmp .ge 19]), (12, [.iload_n 2, .ifCond .lt 15]), (16, [.iload_n 2, .aload_n 0, .getfield 15, .if_icmp .ge 7]), (24, [.iconst 1, .goto 4]), (29, [.ireturn])] (by decide +kernel) 54 (And.intro (fun q11 => And.intro rfl (mv9 (fun v => Q (aI v) (mi, RS w, lv)) (show (b2 (¬ (x1 < 0) ∧ (¬ ((mi 5 i 0) ≤ x1) ∧ (¬ (x2 < 0) ∧ (¬ ((mi 5 i 1) ≤ x2)))))) = 0 from b2na_t (show x1 < 0 from q11)) h)) (fun q12 => And.intro (fun q13 => And.intro rfl (mv9 (fun v => Q (aI v) (mi, RS w, lv)) (show (b2 (¬ ((mi 5 i 0) ≤ x1) ∧ (¬ (x2 < 0) ∧ (¬ ((mi 5 i 1) ≤ x2))))) = 0 from b2na_t (show (mi 5 i 0) ≤ x1 from q13)) (mv9 (fun v => Q (aI v) (mi, RS w, lv)) (show (b2 (¬ (x1 < 0) ∧ (¬ ((mi 5 i 0) ≤ x1) ∧ (¬ (x2 < 0) ∧ (¬ ((mi 5 i 1) ≤ x2)))))) = (b2 (¬ ((mi 5 i 0) ≤ x1) ∧ (¬ (x2 < 0) ∧ (¬ ((mi 5 i 1) ≤ x2))))) from b2na_f (show ¬ (x1 < 0) from q12)) h))) (fun q14 => And.intro (fun q15 => And.intro rfl (mv9 (fun v => Q (aI v) (mi, RS w, lv)) (show (b2 (¬ (x2 < 0) ∧ (¬ ((mi 5 i 1) ≤ x2)))) = 0 from b2na_t (show x2 < 0 from q15)) (mv9 (fun v => Q (aI v) (mi, RS w, lv)) (show (b2 (¬ ((mi 5 i 0) ≤ x1) ∧ (¬ (x2 < 0) ∧ (¬ ((mi 5 i 1) ≤ x2))))) = (b2 (¬ (x2 < 0) ∧ (¬ ((mi 5 i 1) ≤ x2)))) from b2na_f (show ¬ ((mi 5 i 0) ≤ x1) from q14)) (mv9 (fun v => Q (aI v) (mi, RS w, lv)) (show (b2 (¬ (x1 < 0) ∧ (¬ ((mi 5 i 0) ≤ x1) ∧ (¬ (x2 < 0) ∧ (¬ ((mi 5 i 1) ≤ x2)))))) = (b2 (¬ ((mi 5 i 0) ≤ x1) ∧ (¬ (x2 < 0) ∧ (¬ ((mi 5 i 1) ≤ x2))))) from b2na_f (show ¬ (x1 < 0) from q12)) h)))) (fun q16 => And.intro (fun q17 => And.intro rfl (mv9 (fun v => Q (aI v) (mi, RS w, lv)) (show (b2 (¬ ((mi 5 i 1) ≤ x2))) = 0 from b2n_t (show (mi 5 i 1) ≤ x2 from q17)) (mv9 (fun v => Q (aI v) (mi, RS w, lv)) (show (b2 (¬ (x2 < 0) ∧ (¬ ((mi 5 i 1) ≤ x2)))) = (b2 (¬ ((mi 5 i 1) ≤ x2))) from b2na_f (show ¬ (x2 < 0) from q16)) (mv9 (fun v => Q (aI v) (mi, RS w, lv)) (show (b2 (¬ ((mi 5 i 0) ≤ x1) ∧ (¬ (x2 < 0) ∧ (¬ ((mi 5 i 1) ≤ x2))))) = (b2 (¬ (x2 < 0) ∧ (¬ ((mi 5 i 1) ≤ x2)))) from b2na_f (show ¬ ((mi 5 i 0) ≤ x1) from q14)) (mv9 (fun v => Q (aI v) (mi, RS w, lv)) (show (b2 (¬ (x1 < 0) ∧ (¬ ((mi 5 i 0) ≤ x1) ∧ (¬ (x2 < 0) ∧ (¬ ((mi 5 i 1) ≤ x2)))))) = (b2 (¬ ((mi 5 i 0) ≤ x1) ∧ (¬ (x2 < 0) ∧ (¬ ((mi 5 i 1) ≤ x2))))) from b2na_f (show ¬ (x1 < 0) from q12)) h))))) (fun q18 => And.intro rfl (mv9 (fun v => Q (aI v) (mi, RS w, lv)) (show (b2 (¬ ((mi 5 i 1) ≤ x2))) = 1 from b2n_f (show ¬ ((mi 5 i 1) ≤ x2) from q18)) (mv9 (fun v => Q (aI v) (mi, RS w, lv)) (show (b2 (¬ (x2 < 0) ∧ (¬ ((mi 5 i 1) ≤ x2)))) = (b2 (¬ ((mi 5 i 1) ≤ x2))) from b2na_f (show ¬ (x2 < 0) from q16)) (mv9 (fun v => Q (aI v) (mi, RS w, lv)) (show (b2 (¬ ((mi 5 i 0) ≤ x1) ∧ (¬ (x2 < 0) ∧ (¬ ((mi 5 i 1) ≤ x2))))) = (b2 (¬ (x2 < 0) ∧ (¬ ((mi 5 i 1) ≤ x2)))) from b2na_f (show ¬ ((mi 5 i 0) ≤ x1) from q14)) (mv9 (fun v => Q (aI v) (mi, RS w, lv)) (show (b2 (¬ (x1 < 0) ∧ (¬ ((mi 5 i 0) ≤ x1) ∧ (¬ (x2 < 0) ∧ (¬ ((mi 5 i 1) ≤ x2)))))) = (b2 (¬ ((mi 5 i 0) ≤ x1) ∧ (¬ (x2 < 0) ∧ (¬ ((mi 5 i 1) ≤ x2))))) from b2na_f (show ¬ (x1 < 0) from q12)) h)))))))))

abbrev f_X6_hasPlace (mi : MI) (i : Nat) (x1 : Int32) (x2 : Int32) : Int32 := b2 (¬ (x1 < 0) ∧ (¬ ((mi 5 i 0) ≤ x1) ∧ (¬ (x2 < 0) ∧ (¬ ((mi 5 i 1) ≤ x2)))))
theorem s_X6_hasPlace {gl : Nat} {gx : Nat → Int32} {d : Nat} {P : PL} {Q : PO} {mi : MI} {w : WS} {lv : LV} {i : Nat} {x1 : Int32} {x2 : Int32} (h : Q (aI (f_X6_hasPlace mi i x1 x2)) (mi, RS w, lv)) : Wp gl gx d P 92 0 [aR 5 i, aI x1, aI x2] [] (mi, RS w, lv) Q := r_X6_hasPlace_0 h

theorem r_X6_everySheet_0 {gl : Nat} {gx : Nat → Int32} {d : Nat} {P : PL} {Q : PO} {mi : MI} {w : WS} {lv : LV} {i : Nat} (h : Q (aI (((1 : Int32) <<< ((mi 5 i 3) &&& 31)) - 1)) (mi, RS w, lv)) : Wp gl gx d P 94 0 [aR 5 i] [] (mi, RS w, lv) Q := 
  wpT row_94 mt_94 [.iconst 1, .aload_n 0, .getfield 21, .ishl, .iconst 1, .isub, .ireturn] (by decide +kernel) [] (by decide +kernel) 34 (h)

def f_X6_everySheet (mi : MI) (i : Nat) : Int32 := ((1 : Int32) <<< ((mi 5 i 3) &&& 31)) - 1
theorem s_X6_everySheet {gl : Nat} {gx : Nat → Int32} {d : Nat} {P : PL} {Q : PO} {mi : MI} {w : WS} {lv : LV} {i : Nat} (h : Q (aI (f_X6_everySheet mi i)) (mi, RS w, lv)) : Wp gl gx d P 94 0 [aR 5 i] [] (mi, RS w, lv) Q := r_X6_everySheet_0 h

theorem r_X6_beside_0 {gl : Nat} {gx : Nat → Int32} {d : Nat} {P : PL} {Q : PO} {mi : MI} {w : WS} {lv : LV} {i : Nat} {x1 : Int32} (h : Q (aI ((((((x1 &&& ((mi 5 i 9) ^^^ (-1))) <<< (1 &&& 31)) ||| (ushr (x1 &&& ((mi 5 i 8) ^^^ (-1))) 1)) ||| (x1 <<< ((mi 5 i 0) &&& 31))) ||| (ushr x1 (mi 5 i 0))) &&& (mi 5 i 7))) (mi, RS w, lv)) : Wp gl gx d P 96 0 [aR 5 i, aI x1, aU] [] (mi, RS w, lv) Q := 
  wpT row_96 mt_96 (.iload_n 1 :: .aload_n 0 :: .getfield 40 :: .iconst (.negSucc 0) :: .ixor :: .iand :: .iconst 1 :: .ishl :: .iload_n 1 :: .aload_n 0 :: .getfield 37 :: .iconst (.negSucc 0) :: .ixor :: .iand :: .iconst 1 :: .iushr :: .ior :: .istore_n 2 :: .iload_n 2 :: .iload_n 1 :: .aload_n 0 :: .getfield 9 :: .ishl :: .ior :: .iload_n 1 :: .aload_n 0 :: .getfield 9 :: .iushr :: .ior :: .aload_n 0 :: .getfield 34 :: .iand :: .ireturn :: []) (by decide +kernel) [] (by decide +kernel) 86 (h)

def f_X6_beside (mi : MI) (i : Nat) (x1 : Int32) : Int32 := (((((x1 &&& ((mi 5 i 9) ^^^ (-1))) <<< (1 &&& 31)) ||| (ushr (x1 &&& ((mi 5 i 8) ^^^ (-1))) 1)) ||| (x1 <<< ((mi 5 i 0) &&& 31))) ||| (ushr x1 (mi 5 i 0))) &&& (mi 5 i 7)
theorem s_X6_beside {gl : Nat} {gx : Nat → Int32} {d : Nat} {P : PL} {Q : PO} {mi : MI} {w : WS} {lv : LV} {i : Nat} {x1 : Int32} (h : Q (aI (f_X6_beside mi i x1)) (mi, RS w, lv)) : Wp gl gx d P 96 0 [aR 5 i, aI x1, aU] [] (mi, RS w, lv) Q := r_X6_beside_0 h

theorem r_X6_grown_5 {gl : Nat} {gx : Nat → Int32} {d : Nat} {P : PL} {Q : PO} {mi : MI} {w : WS} {lv : LV} {i : Nat} {x1 : Int32} {x2 : Int32} {x3 : Int32} {x4 : Int32} {v5 : AV} (h : ((25 ≤ x4) → Q (aI x3) (mi, RS w, lv)) ∧ (¬ (25 ≤ x4) → (¬ (((x3 ||| (f_X6_beside mi i x3)) &&& x2) = x3) → Wp gl gx (d + 1) P 99 5 [aR 5 i, aI x1, aI x2, aI ((x3 ||| (f_X6_beside mi i x3)) &&& x2), aI (x4 + 1), aI ((x3 ||| (f_X6_beside mi i x3)) &&& x2)] [] (mi, RS w, lv) Q) ∧ ((((x3 ||| (f_X6_beside mi i x3)) &&& x2) = x3) → Q (aI x3) (mi, RS w, lv)))) : Wp gl gx (d + 1) P 99 5 [aR 5 i, aI x1, aI x2, aI x3, aI x4, v5] [] (mi, RS w, lv) Q := 
  wpT row_99 mt_99 [.iload 4, .bipush 25, .if_icmp .ge 31] (by decide +kernel) [(40, [.iload_n 3, .ireturn]), (12, [.iload_n 3, .aload_n 0, .iload_n 3, .invokevirtual 64]), (18, [.ior, .iload_n 2, .iand, .istore 5, .iload 5, .iload_n 3, .if_icmp .ne 5]), (31, [.iload 5, .istore_n 3, .iinc 4 1, .goto (.negSucc 31)]), (29, [.iload_n 3, .ireturn])] (by decide +kernel) 64 (And.intro (fun q19 => (h.1 q19)) (fun q20 => And.intro ⟨Nat.le_of_ble_eq_true rfl, rfl, rfl⟩ (s_X6_beside (d := d) (And.intro (fun q21 => ((h.2 q20).1 q21)) (fun q22 => ((h.2 q20).2 q22))))))

theorem r_X6_grown_0 {gl : Nat} {gx : Nat → Int32} {d : Nat} {P : PL} {Q : PO} {mi : MI} {w : WS} {lv : LV} {i : Nat} {x1 : Int32} {x2 : Int32} (h : Wp gl gx (d + 1) P 99 5 [aR 5 i, aI x1, aI x2, aI x1, aI 0, aU] [] (mi, RS w, lv) Q) : Wp gl gx (d + 1) P 99 0 [aR 5 i, aI x1, aI x2, aU, aU, aU] [] (mi, RS w, lv) Q := 
  wpT row_99 mt_99 [.iload_n 1, .istore_n 3, .iconst 0, .istore 4] (by decide +kernel) [] (by decide +kernel) 28 (h)

def fGrown (mi : MI) (i : Nat) (among : Int32) : Nat → Int32 → Int32
  | 0, h => h
  | n + 1, h => if (h ||| f_X6_beside mi i h) &&& among = h then h else fGrown mi i among n ((h ||| f_X6_beside mi i h) &&& among)
theorem s_X6_grown {gl : Nat} {gx : Nat → Int32} {d : Nat} {P : PL} {Q : PO} {mi : MI} {w : WS} {lv : LV} {i : Nat} {x1 x2 : Int32} (h : Q (aI (fGrown mi i x2 25 x1)) (mi, RS w, lv)) : Wp gl gx (d + 2) P 99 0 [aR 5 i, aI x1, aI x2, aU, aU, aU] [] (mi, RS w, lv) Q := by
  refine r_X6_grown_0 ?_
  have key : ∀ (r k : Nat) (held : Int32) (v : AV), k + r = 25 → Q (aI (fGrown mi i x2 r held)) (mi, RS w, lv) → Wp gl gx (d + 2) P 99 5 [aR 5 i, aI x1, aI x2, aI held, aI (nI k), v] [] (mi, RS w, lv) Q := by
    intro r
    induction r with
    | zero =>
      intro k held v hk hq
      refine r_X6_grown_5 ⟨fun _ => hq, fun q => absurd (nI_le (a := 25) (b := k) (by omega) (by omega)) q⟩
    | succ r ih =>
      intro k held v hk hq
      unfold fGrown at hq
      refine r_X6_grown_5 ⟨fun q => absurd q (nI_ge (a := k) (b := 25) (by omega) (by omega)), fun _ => ⟨fun q => ?_, fun q => ?_⟩⟩
      · rw [if_neg q] at hq
        rw [nI_1]
        exact ih (k + 1) _ _ (by omega) hq
      · rw [if_pos q] at hq
        exact hq
  exact key 25 0 x1 aU rfl h
theorem r_X6_opened_0 {gl : Nat} {gx : Nat → Int32} {d : Nat} {P : PL} {Q : PO} {mi : MI} {w : WS} {lv : LV} {i : Nat} {x1 : Int32} (h : Q (aI ((mi 5 i 7) &&& ((fGrown mi i ((mi 5 i 7) &&& (x1 ^^^ (-1))) 25 (((mi 5 i 7) &&& (x1 ^^^ (-1))) &&& (mi 5 i 10))) ^^^ (-1)))) (mi, RS w, lv)) : Wp gl gx (d + 3) P 100 0 [aR 5 i, aI x1, aU] [] (mi, RS w, lv) Q := 
  wpT row_100 mt_100 [.aload_n 0, .getfield 34, .iload_n 1, .iconst (.negSucc 0), .ixor, .iand, .istore_n 2, .aload_n 0, .getfield 34, .aload_n 0, .iload_n 2, .aload_n 0, .getfield 43, .iand, .iload_n 2, .invokevirtual 60] (by decide +kernel) [(24, [.iconst (.negSucc 0), .ixor, .iand, .ireturn])] (by decide +kernel) 60 (And.intro ⟨Nat.le_of_ble_eq_true rfl, rfl, rfl⟩ (s_X6_grown (d := d) (h)))

def f_X6_opened (mi : MI) (i : Nat) (x1 : Int32) : Int32 := (mi 5 i 7) &&& ((fGrown mi i ((mi 5 i 7) &&& (x1 ^^^ (-1))) 25 (((mi 5 i 7) &&& (x1 ^^^ (-1))) &&& (mi 5 i 10))) ^^^ (-1))
theorem s_X6_opened {gl : Nat} {gx : Nat → Int32} {d : Nat} {P : PL} {Q : PO} {mi : MI} {w : WS} {lv : LV} {i : Nat} {x1 : Int32} (h : Q (aI (f_X6_opened mi i x1)) (mi, RS w, lv)) : Wp gl gx (d + 3) P 100 0 [aR 5 i, aI x1, aU] [] (mi, RS w, lv) Q := r_X6_opened_0 h

theorem r_X6_falling_0 {gl : Nat} {gx : Nat → Int32} {d : Nat} {P : PL} {Q : PO} {mi : MI} {w : WS} {lv : LV} {i : Nat} {x1 : Int32} (h : Q (aI ((f_X6_opened mi i x1) &&& (x1 ^^^ (-1)))) (mi, RS w, lv)) : Wp gl gx (d + 4) P 98 0 [aR 5 i, aI x1] [] (mi, RS w, lv) Q := 
  wpT row_98 mt_98 [.aload_n 0, .iload_n 1, .invokevirtual 52] (by decide +kernel) [(5, [.iload_n 1, .iconst (.negSucc 0), .ixor, .iand, .ireturn])] (by decide +kernel) 36 (And.intro ⟨Nat.le_of_ble_eq_true rfl, rfl, rfl⟩ (s_X6_opened (d := d) (h)))

def f_X6_falling (mi : MI) (i : Nat) (x1 : Int32) : Int32 := (f_X6_opened mi i x1) &&& (x1 ^^^ (-1))
theorem s_X6_falling {gl : Nat} {gx : Nat → Int32} {d : Nat} {P : PL} {Q : PO} {mi : MI} {w : WS} {lv : LV} {i : Nat} {x1 : Int32} (h : Q (aI (f_X6_falling mi i x1)) (mi, RS w, lv)) : Wp gl gx (d + 4) P 98 0 [aR 5 i, aI x1] [] (mi, RS w, lv) Q := r_X6_falling_0 h

