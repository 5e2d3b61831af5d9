/-! METHODS AS FUNCTIONS (3) -/
abbrev row_110 : MT := (⟨"StencilHouse$Tokens", "isWord", "(Ljava/lang/String;)Z"⟩, prog_9_method_6_code, 3, some .boolean, 1, lk_7)
set_option maxRecDepth 20000 in
theorem mt_110 : mt 110 = some row_110 := rfl
theorem r_X7_isWord_27 {gl : Nat} {gx : Nat → Int32} {d : Nat} {P : PL} {Q : PO} {mi : MI} {w : WS} {lv : LV} {i1 : Nat} {x2 : Int32} (hw : w.2.1 = true) (h : (((f_J0_length_8abf5 mi i1) ≤ x2) → Q (aI 1) (mi, RS w, lv)) ∧ (¬ ((f_J0_length_8abf5 mi i1) ≤ x2) → (vp_in ((mi 6 0 4) + x2) 600) ∧ ((∃ c29 : Int32, F_J0_charAt_5068e mi w i1 x2 = some c29 ∧ (((mi 20 0 (((mi 6 0 4) + x2).toNatClampNeg)) = c29) → Wp gl gx (d + 4) P 110 27 [aR 6 0, aR 16 i1, aI (x2 + 1)] [] (mi, RS w, lv) Q) ∧ (¬ ((mi 20 0 (((mi 6 0 4) + x2).toNatClampNeg)) = c29) → Q (aI 0) (mi, RS w, lv)))))) : Wp gl gx (d + 4) P 110 27 [aR 6 0, aR 16 i1, aI x2] [] (mi, RS w, lv) Q := by
  obtain ⟨w1, w2, w3⟩ := w
  have hw2 : w2 = true := hw
  subst hw2
  let w : WS := (w1, true, w3)
  exact wpT row_110 mt_110 [.iload_n 2, .aload_n 1, .invokevirtual 54] (by decide +kernel) [(32, [.if_icmp .ge 30]), (62, [.iconst 1, .ireturn]), (35, [.aload_n 0, .getfield 7, .aload_n 0, .getfield 23, .iload_n 2, .iadd, .iaload]), (46, [.aload_n 1, .iload_n 2, .invokevirtual 59]), (51, [.if_icmp .eq 5]), (56, [.iinc 2 1, .goto (.negSucc 31)]), (54, [.iconst 0, .ireturn])] (by decide +kernel) 62 (And.intro ⟨Nat.le_of_ble_eq_true rfl, rfl, rfl⟩ (s_J0_length_8abf5 (d := d + 2) (And.intro (fun q261 => And.intro rfl (h.1 q261)) (fun q262 => And.intro (h.2 q262).1 (Exists.elim ((h.2 q262).2) (fun c29 zc29 => And.intro ⟨Nat.le_of_ble_eq_true rfl, rfl, rfl⟩ (s_J0_charAt_5068e (d := d) zc29.1 (And.intro (fun q263 => (zc29.2.1 q263)) (fun q264 => And.intro rfl (zc29.2.2 q264))))))))))

theorem r_X7_isWord_0 {gl : Nat} {gx : Nat → Int32} {d : Nat} {P : PL} {Q : PO} {mi : MI} {w : WS} {lv : LV} {i1 : Nat} (hw : w.2.1 = true) (h : (¬ ((mi 6 0 3) = 0) → Q (aI 0) (mi, RS w, lv)) ∧ (((mi 6 0 3) = 0) → ((((mi 6 0 2) - (mi 6 0 4)) = (f_J0_length_8abf5 mi i1)) → Wp gl gx (d + 4) P 110 27 [aR 6 0, aR 16 i1, aI 0] [] (mi, RS w, lv) Q) ∧ (¬ (((mi 6 0 2) - (mi 6 0 4)) = (f_J0_length_8abf5 mi i1)) → Q (aI 0) (mi, RS w, lv)))) : Wp gl gx (d + 4) P 110 0 [aR 6 0, aR 16 i1, aU] [] (mi, RS w, lv) Q := by
  obtain ⟨w1, w2, w3⟩ := w
  have hw2 : w2 = true := hw
  subst hw2
  let w : WS := (w1, true, w3)
  exact wpT row_110 mt_110 [.aload_n 0, .getfield 20, .ifCond .ne 19] (by decide +kernel) [(23, [.iconst 0, .ireturn]), (7, [.aload_n 0, .getfield 17, .aload_n 0, .getfield 23, .isub, .aload_n 1, .invokevirtual 54]), (20, [.if_icmp .eq 5]), (25, [.iconst 0, .istore_n 2])] (by decide +kernel) 50 (And.intro (fun q265 => And.intro rfl (h.1 q265)) (fun q266 => And.intro ⟨Nat.le_of_ble_eq_true rfl, rfl, rfl⟩ (s_J0_length_8abf5 (d := d + 2) (And.intro (fun q267 => ((h.2 q266).1 q267)) (fun q268 => And.intro rfl ((h.2 q266).2 q268))))))

def L_X7_isWord_27 (mi : MI) (w : WS) : Nat → Nat → Int32 → Option Int32
  | 0, _, _ => none
  | n + 1, i1, x2 => if (f_J0_length_8abf5 mi i1) ≤ x2 then some (1 : Int32) else ck (¬ (((mi 6 0 4) + x2) < 0 ∨ 600 ≤ ((mi 6 0 4) + x2).toNatClampNeg)) ((F_J0_charAt_5068e mi w i1 x2).bind fun c29 => if (mi 20 0 (((mi 6 0 4) + x2).toNatClampNeg)) = c29 then L_X7_isWord_27 mi w n i1 (x2 + 1) else some (0 : Int32))

theorem l_X7_isWord_27 {gl : Nat} {gx : Nat → Int32} {d : Nat} {P : PL} {Q : PO} {lv : LV} {mi : MI} {w : WS} (hw : w.2.1 = true) (n : Nat) : ∀ {i1 : Nat} {x2 : Int32} {r : Int32}, L_X7_isWord_27 mi w n i1 x2 = some r → (Q (aI r) (mi, RS w, lv)) → Wp gl gx (d + 4) P 110 27 [aR 6 0, aR 16 i1, aI x2] [] (mi, RS w, lv) Q := by
  induction n with
  | zero => intro i1 x2 r hf h0; exact o_none hf
  | succ n ih => intro i1 x2 r hf h0; exact r_X7_isWord_27 hw (⟨fun q269 => k_ifp q269 hf (fun q271 => o_rP q271 h0), fun q270 => k_ifn q270 hf (fun q271 => k_ck q271 (fun q273 q272 => ⟨q273, o_bind q272 (fun c29 qc29 pc29 => ⟨c29, qc29, ⟨fun q274 => k_ifp q274 pc29 (fun q276 => ih q276 h0), fun q275 => k_ifn q275 pc29 (fun q276 => o_rP q276 h0)⟩⟩)⟩))⟩)

def F_X7_isWord (mi : MI) (w : WS) (i1 : Nat) : Option Int32 := ck (w.2.1 = true) (if (mi 6 0 3) = 0 then if ((mi 6 0 2) - (mi 6 0 4)) = (f_J0_length_8abf5 mi i1) then L_X7_isWord_27 mi w 1000000 i1 0 else some (0 : Int32) else some (0 : Int32))

theorem s_X7_isWord {gl : Nat} {gx : Nat → Int32} {d : Nat} {P : PL} {Q : PO} {mi : MI} {w : WS} {lv : LV} {i1 : Nat} {r : Int32} (hf : F_X7_isWord mi w i1 = some r) (h0 : Q (aI r) (mi, RS w, lv)) : Wp gl gx (d + 4) P 110 0 [aR 6 0, aR 16 i1, aU] [] (mi, RS w, lv) Q := k_ck hf (fun hw hf => r_X7_isWord_0 hw (⟨fun q283 => k_ifn q283 hf (fun q285 => o_rP q285 h0), fun q284 => k_ifp q284 hf (fun q285 => ⟨fun q286 => k_ifp q286 q285 (fun q288 => l_X7_isWord_27 hw 1000000 q288 h0), fun q287 => k_ifn q287 q285 (fun q288 => o_rP q288 h0)⟩)⟩))

abbrev row_111 : MT := (⟨"StencilHouse$Tokens", "isBlank", "(I)Z"⟩, prog_9_method_7_code, 1, some .boolean, 0, lk_7)
set_option maxRecDepth 20000 in
theorem mt_111 : mt 111 = some row_111 := rfl
theorem r_X7_isBlank_0 {gl : Nat} {gx : Nat → Int32} {d : Nat} {P : PL} {Q : PO} {mi : MI} {w : WS} {lv : LV} {x0 : Int32} (h : Q (aI (b2 ((x0 = 10) ∨ (x0 = 32)))) (mi, RS w, lv)) : Wp gl gx d P 111 0 [aI x0] [] (mi, RS w, lv) Q := 
  wpT row_111 mt_111 [.iload_n 0, .bipush 10, .if_icmp .eq 9] (by decide +kernel) [(12, [.iconst 1, .goto 4]), (17, [.ireturn]), (6, [.iload_n 0, .bipush 32, .if_icmp .ne 7]), (16, [.iconst 0, .ireturn])] (by decide +kernel) 42 (And.intro (fun q289 => And.intro rfl (mv9 (fun v => Q (aI v) (mi, RS w, lv)) (show (b2 ((x0 = 10) ∨ (x0 = 32))) = 1 from b2o_t (show x0 = 10 from q289)) h)) (fun q290 => And.intro (fun q291 => And.intro rfl (mv9 (fun v => Q (aI v) (mi, RS w, lv)) (show (b2 (x0 = 32)) = 0 from b2_f (show ¬ (x0 = 32) from q291)) (mv9 (fun v => Q (aI v) (mi, RS w, lv)) (show (b2 ((x0 = 10) ∨ (x0 = 32))) = (b2 (x0 = 32)) from b2o_f (show ¬ (x0 = 10) from q290)) h))) (fun q292 => And.intro rfl (mv9 (fun v => Q (aI v) (mi, RS w, lv)) (show (b2 (x0 = 32)) = 1 from b2_t (show x0 = 32 from q292)) (mv9 (fun v => Q (aI v) (mi, RS w, lv)) (show (b2 ((x0 = 10) ∨ (x0 = 32))) = (b2 (x0 = 32)) from b2o_f (show ¬ (x0 = 10) from q290)) h)))))

abbrev f_X7_isBlank (mi : MI) (x0 : Int32) : Int32 := b2 ((x0 = 10) ∨ (x0 = 32))
theorem s_X7_isBlank {gl : Nat} {gx : Nat → Int32} {d : Nat} {P : PL} {Q : PO} {mi : MI} {w : WS} {lv : LV} {x0 : Int32} (h : Q (aI (f_X7_isBlank mi x0)) (mi, RS w, lv)) : Wp gl gx d P 111 0 [aI x0] [] (mi, RS w, lv) Q := r_X7_isBlank_0 h

abbrev row_112 : MT := (⟨"StencilHouse$Tokens", "isLetter", "(I)Z"⟩, prog_9_method_8_code, 1, some .boolean, 0, lk_7)
set_option maxRecDepth 20000 in
theorem mt_112 : mt 112 = some row_112 := rfl
theorem r_X7_isLetter_0 {gl : Nat} {gx : Nat → Int32} {d : Nat} {P : PL} {Q : PO} {mi : MI} {w : WS} {lv : LV} {x0 : Int32} (h : Q (aI (b2 (¬ (x0 < 97) ∧ (¬ (122 < x0))))) (mi, RS w, lv)) : Wp gl gx d P 112 0 [aI x0] [] (mi, RS w, lv) Q := 
  wpT row_112 mt_112 [.iload_n 0, .bipush 97, .if_icmp .lt 13] (by decide +kernel) [(16, [.iconst 0, .ireturn]), (6, [.iload_n 0, .bipush 122, .if_icmp .gt 7]), (12, [.iconst 1, .goto 4]), (17, [.ireturn])] (by decide +kernel) 42 (And.intro (fun q293 => And.intro rfl (mv9 (fun v => Q (aI v) (mi, RS w, lv)) (show (b2 (¬ (x0 < 97) ∧ (¬ (122 < x0)))) = 0 from b2na_t (show x0 < 97 from q293)) h)) (fun q294 => And.intro (fun q295 => And.intro rfl (mv9 (fun v => Q (aI v) (mi, RS w, lv)) (show (b2 (¬ (122 < x0))) = 0 from b2n_t (show 122 < x0 from q295)) (mv9 (fun v => Q (aI v) (mi, RS w, lv)) (show (b2 (¬ (x0 < 97) ∧ (¬ (122 < x0)))) = (b2 (¬ (122 < x0))) from b2na_f (show ¬ (x0 < 97) from q294)) h))) (fun q296 => And.intro rfl (mv9 (fun v => Q (aI v) (mi, RS w, lv)) (show (b2 (¬ (122 < x0))) = 1 from b2n_f (show ¬ (122 < x0) from q296)) (mv9 (fun v => Q (aI v) (mi, RS w, lv)) (show (b2 (¬ (x0 < 97) ∧ (¬ (122 < x0)))) = (b2 (¬ (122 < x0))) from b2na_f (show ¬ (x0 < 97) from q294)) h)))))

abbrev f_X7_isLetter (mi : MI) (x0 : Int32) : Int32 := b2 (¬ (x0 < 97) ∧ (¬ (122 < x0)))
theorem s_X7_isLetter {gl : Nat} {gx : Nat → Int32} {d : Nat} {P : PL} {Q : PO} {mi : MI} {w : WS} {lv : LV} {x0 : Int32} (h : Q (aI (f_X7_isLetter mi x0)) (mi, RS w, lv)) : Wp gl gx d P 112 0 [aI x0] [] (mi, RS w, lv) Q := r_X7_isLetter_0 h

abbrev row_113 : MT := (⟨"StencilHouse$Tokens", "isDigit", "(I)Z"⟩, prog_9_method_9_code, 1, some .boolean, 0, lk_7)
set_option maxRecDepth 20000 in
theorem mt_113 : mt 113 = some row_113 := rfl
theorem r_X7_isDigit_0 {gl : Nat} {gx : Nat → Int32} {d : Nat} {P : PL} {Q : PO} {mi : MI} {w : WS} {lv : LV} {x0 : Int32} (h : Q (aI (b2 (¬ (x0 < 48) ∧ (¬ (57 < x0))))) (mi, RS w, lv)) : Wp gl gx d P 113 0 [aI x0] [] (mi, RS w, lv) Q := 
  wpT row_113 mt_113 [.iload_n 0, .bipush 48, .if_icmp .lt 13] (by decide +kernel) [(16, [.iconst 0, .ireturn]), (6, [.iload_n 0, .bipush 57, .if_icmp .gt 7]), (12, [.iconst 1, .goto 4]), (17, [.ireturn])] (by decide +kernel) 42 (And.intro (fun q297 => And.intro rfl (mv9 (fun v => Q (aI v) (mi, RS w, lv)) (show (b2 (¬ (x0 < 48) ∧ (¬ (57 < x0)))) = 0 from b2na_t (show x0 < 48 from q297)) h)) (fun q298 => And.intro (fun q299 => And.intro rfl (mv9 (fun v => Q (aI v) (mi, RS w, lv)) (show (b2 (¬ (57 < x0))) = 0 from b2n_t (show 57 < x0 from q299)) (mv9 (fun v => Q (aI v) (mi, RS w, lv)) (show (b2 (¬ (x0 < 48) ∧ (¬ (57 < x0)))) = (b2 (¬ (57 < x0))) from b2na_f (show ¬ (x0 < 48) from q298)) h))) (fun q300 => And.intro rfl (mv9 (fun v => Q (aI v) (mi, RS w, lv)) (show (b2 (¬ (57 < x0))) = 1 from b2n_f (show ¬ (57 < x0) from q300)) (mv9 (fun v => Q (aI v) (mi, RS w, lv)) (show (b2 (¬ (x0 < 48) ∧ (¬ (57 < x0)))) = (b2 (¬ (57 < x0))) from b2na_f (show ¬ (x0 < 48) from q298)) h)))))

abbrev f_X7_isDigit (mi : MI) (x0 : Int32) : Int32 := b2 (¬ (x0 < 48) ∧ (¬ (57 < x0)))
theorem s_X7_isDigit {gl : Nat} {gx : Nat → Int32} {d : Nat} {P : PL} {Q : PO} {mi : MI} {w : WS} {lv : LV} {x0 : Int32} (h : Q (aI (f_X7_isDigit mi x0)) (mi, RS w, lv)) : Wp gl gx d P 113 0 [aI x0] [] (mi, RS w, lv) Q := r_X7_isDigit_0 h

abbrev row_108 : MT := (⟨"StencilHouse$Tokens", "nextWord", "()V"⟩, prog_9_method_4_code, 1, none, 1, lk_7)
set_option maxRecDepth 20000 in
theorem mt_108 : mt 108 = some row_108 := rfl
theorem r_X7_nextWord_5 {gl : Nat} {gx : Nat → Int32} {d : Nat} {P : PL} {Q : PO} {mi : MI} {w : WS} {lv : LV}  (hw : w.2.1 = true) (h : (((mi 6 0 1) ≤ (mi 6 0 2)) → Q aU (mi, RS w, lv)) ∧ (¬ ((mi 6 0 1) ≤ (mi 6 0 2)) → (vp_in (mi 6 0 2) 600) ∧ ((¬ (¬ ((mi 20 0 ((mi 6 0 2).toNatClampNeg)) < 97) ∧ (¬ (122 < (mi 20 0 ((mi 6 0 2).toNatClampNeg))))) → Q aU (mi, RS w, lv)) ∧ (¬ ((mi 20 0 ((mi 6 0 2).toNatClampNeg)) < 97) ∧ (¬ (122 < (mi 20 0 ((mi 6 0 2).toNatClampNeg)))) → Wp gl gx (d + 1) P 108 5 [aR 6 0] [] (u3 mi 6 0 2 ((mi 6 0 2) + 1), RS w, lv) Q)))) : Wp gl gx (d + 1) P 108 5 [aR 6 0] [] (mi, RS w, lv) Q := by
  obtain ⟨w1, w2, w3⟩ := w
  have hw2 : w2 = true := hw
  subst hw2
  let w : WS := (w1, true, w3)
  exact wpT row_108 mt_108 [.aload_n 0, .getfield 17, .aload_n 0, .getfield 13, .if_icmp .ge 31] (by decide +kernel) [(44, [.return_]), (16, [.aload_n 0, .getfield 7, .aload_n 0, .getfield 17, .iaload]), (25, [.invokestatic 42]), (28, [.ifCond .eq 16]), (31, [.aload_n 0, .dup, .getfield 17, .iconst 1, .iadd, .putfield 17, .goto (.negSucc 35)])] (by decide +kernel) 60 (And.intro (fun q301 => (h.1 q301)) (fun q302 => And.intro (h.2 q302).1 (And.intro ⟨Nat.le_of_ble_eq_true rfl, rfl, rfl⟩ (s_X7_isLetter (d := d) (And.intro (fun q303 => ((h.2 q302).2.1 (b2_0 q303))) (fun q304 => ((h.2 q302).2.2 (b2_n q304))))))))

theorem r_X7_nextWord_0 {gl : Nat} {gx : Nat → Int32} {d : Nat} {P : PL} {Q : PO} {mi : MI} {w : WS} {lv : LV}  (hw : w.2.1 = true) (h : Wp gl gx (d + 1) P 108 5 [aR 6 0] [] (u3 mi 6 0 3 0, RS w, lv) Q) : Wp gl gx (d + 1) P 108 0 [aR 6 0] [] (mi, RS w, lv) Q := by
  obtain ⟨w1, w2, w3⟩ := w
  have hw2 : w2 = true := hw
  subst hw2
  let w : WS := (w1, true, w3)
  exact wpT row_108 mt_108 [.aload_n 0, .iconst 0, .putfield 20] (by decide +kernel) [] (by decide +kernel) 26 (h)

def L_X7_nextWord_5 (w : WS) : Nat → MI → Option MI
  | 0, _ => none
  | n + 1, mi => if (mi 6 0 1) ≤ (mi 6 0 2) then some mi else ck (¬ ((mi 6 0 2) < 0 ∨ 600 ≤ (mi 6 0 2).toNatClampNeg)) (if ¬ ((mi 20 0 ((mi 6 0 2).toNatClampNeg)) < 97) ∧ (¬ (122 < (mi 20 0 ((mi 6 0 2).toNatClampNeg)))) then L_X7_nextWord_5 w n (u3 mi 6 0 2 ((mi 6 0 2) + 1)) else some mi)

theorem l_X7_nextWord_5 {gl : Nat} {gx : Nat → Int32} {d : Nat} {P : PL} {Q : PO} {lv : LV} {w : WS} (hw : w.2.1 = true) (n : Nat) : ∀ {mi : MI} {r : MI}, L_X7_nextWord_5 w n mi = some r → (Q aU (r, RS w, lv)) → Wp gl gx (d + 1) P 108 5 [aR 6 0] [] (mi, RS w, lv) Q := by
  induction n with
  | zero => intro mi r hf h0; exact o_none hf
  | succ n ih => intro mi r hf h0; exact r_X7_nextWord_5 hw (⟨fun q305 => k_ifp q305 hf (fun q307 => o_rMV q307 h0), fun q306 => k_ifn q306 hf (fun q307 => k_ck q307 (fun q309 q308 => ⟨q309, ⟨fun q310 => k_ifn q310 q308 (fun q312 => o_rMV q312 h0), fun q311 => k_ifp q311 q308 (fun q312 => ih q312 h0)⟩⟩))⟩)

def F_X7_nextWord (mi : MI) (w : WS)  : Option MI := ck (w.2.1 = true) (L_X7_nextWord_5 w 1000000 (u3 mi 6 0 3 0))

theorem s_X7_nextWord {gl : Nat} {gx : Nat → Int32} {d : Nat} {P : PL} {Q : PO} {mi : MI} {w : WS} {lv : LV}  {r : MI} (hf : F_X7_nextWord mi w  = some r) (h0 : Q aU (r, RS w, lv)) : Wp gl gx (d + 1) P 108 0 [aR 6 0] [] (mi, RS w, lv) Q := k_ck hf (fun hw hf => r_X7_nextWord_0 hw (l_X7_nextWord_5 hw 1000000 hf h0))

abbrev row_109 : MT := (⟨"StencilHouse$Tokens", "nextNumber", "()V"⟩, prog_9_method_5_code, 1, none, 1, lk_7)
set_option maxRecDepth 20000 in
theorem mt_109 : mt 109 = some row_109 := rfl
theorem r_X7_nextNumber_100 {gl : Nat} {gx : Nat → Int32} {d : Nat} {P : PL} {Q : PO} {mi : MI} {w : WS} {lv : LV} {s0 : Int32} (hw : w.2.1 = true) (h : Q aU (u3 mi 6 0 3 s0, RS w, lv)) : Wp gl gx (d + 1) P 109 100 [aR 6 0] [aI s0, aR 6 0] (mi, RS w, lv) Q := by
  obtain ⟨w1, w2, w3⟩ := w
  have hw2 : w2 = true := hw
  subst hw2
  let w : WS := (w1, true, w3)
  exact wpT row_109 mt_109 [.putfield 20, .return_] (by decide +kernel) [] (by decide +kernel) 24 (h)

theorem r_X7_nextNumber_81 {gl : Nat} {gx : Nat → Int32} {d : Nat} {P : PL} {Q : PO} {mi : MI} {w : WS} {lv : LV}  (hw : w.2.1 = true) (h : Q aU (u3 mi 6 0 3 (if ((mi 6 0 2) - (mi 6 0 4)) ≤ 2 then 1 else 4), RS w, lv)) : Wp gl gx (d + 1) P 109 81 [aR 6 0] [] (mi, RS w, lv) Q := by
  obtain ⟨w1, w2, w3⟩ := w
  have hw2 : w2 = true := hw
  subst hw2
  let w : WS := (w1, true, w3)
  exact wpT row_109 mt_109 [.aload_n 0, .aload_n 0, .getfield 17, .aload_n 0, .getfield 23, .isub, .iconst 2, .if_icmp .le 7] (by decide +kernel) [(99, [.iconst 1]), (95, [.iconst 4, .goto 4])] (by decide +kernel) 42 (And.intro (fun q313 => r_X7_nextNumber_100 (s0 := 1) (mi := mi) (hw := rfl) (mv9 (fun v => Q aU (u3 mi 6 0 3 v, RS w, lv)) (show (if ((mi 6 0 2) - (mi 6 0 4)) ≤ 2 then 1 else 4) = 1 from if_pos (show ((mi 6 0 2) - (mi 6 0 4)) ≤ 2 from q313)) h)) (fun q314 => r_X7_nextNumber_100 (s0 := 4) (mi := mi) (hw := rfl) (mv9 (fun v => Q aU (u3 mi 6 0 3 v, RS w, lv)) (show (if ((mi 6 0 2) - (mi 6 0 4)) ≤ 2 then 1 else 4) = 4 from if_neg (show ¬ (((mi 6 0 2) - (mi 6 0 4)) ≤ 2) from q314)) h)))

theorem r_X7_nextNumber_68 {gl : Nat} {gx : Nat → Int32} {d : Nat} {P : PL} {Q : PO} {mi : MI} {w : WS} {lv : LV}  (hw : w.2.1 = true) (h : Wp gl gx (d + 1) P 109 5 [aR 6 0] [] (u3 mi 6 0 2 ((mi 6 0 2) + 1), RS w, lv) Q) : Wp gl gx (d + 1) P 109 68 [aR 6 0] [] (mi, RS w, lv) Q := by
  obtain ⟨w1, w2, w3⟩ := w
  have hw2 : w2 = true := hw
  subst hw2
  let w : WS := (w1, true, w3)
  exact wpT row_109 mt_109 [.aload_n 0, .dup, .getfield 17, .iconst 1, .iadd, .putfield 17, .goto (.negSucc 72)] (by decide +kernel) [] (by decide +kernel) 34 (h)

theorem r_X7_nextNumber_5 {gl : Nat} {gx : Nat → Int32} {d : Nat} {P : PL} {Q : PO} {mi : MI} {w : WS} {lv : LV}  (hw : w.2.1 = true) (h : (((mi 6 0 1) ≤ (mi 6 0 2)) → Q aU (u3 mi 6 0 3 (if ((mi 6 0 2) - (mi 6 0 4)) ≤ 2 then 1 else 4), RS w, lv)) ∧ (¬ ((mi 6 0 1) ≤ (mi 6 0 2)) → (vp_in (mi 6 0 2) 600) ∧ ((¬ (¬ ((mi 20 0 ((mi 6 0 2).toNatClampNeg)) < 48) ∧ (¬ (57 < (mi 20 0 ((mi 6 0 2).toNatClampNeg))))) → Q aU (u3 mi 6 0 3 (if ((mi 6 0 2) - (mi 6 0 4)) ≤ 2 then 1 else 4), RS w, lv)) ∧ (¬ ((mi 20 0 ((mi 6 0 2).toNatClampNeg)) < 48) ∧ (¬ (57 < (mi 20 0 ((mi 6 0 2).toNatClampNeg)))) → ((2 ≤ ((mi 6 0 2) - (mi 6 0 4))) → Wp gl gx (d + 1) P 109 5 [aR 6 0] [] (u3 mi 6 0 2 ((mi 6 0 2) + 1), RS w, lv) Q) ∧ (¬ (2 ≤ ((mi 6 0 2) - (mi 6 0 4))) → (vp_in (mi 6 0 2) 600) ∧ ((∀ m30 : MI, m30 = u3 mi 6 0 5 ((((mi 6 0 5) * 10) + (mi 20 0 ((mi 6 0 2).toNatClampNeg))) - 48) → Wp gl gx (d + 1) P 109 5 [aR 6 0] [] (u3 m30 6 0 2 ((m30 6 0 2) + 1), RS w, lv) Q))))))) : Wp gl gx (d + 1) P 109 5 [aR 6 0] [] (mi, RS w, lv) Q := by
  obtain ⟨w1, w2, w3⟩ := w
  have hw2 : w2 = true := hw
  subst hw2
  let w : WS := (w1, true, w3)
  exact wpT row_109 mt_109 [.aload_n 0, .getfield 17, .aload_n 0, .getfield 13, .if_icmp .ge 68] (by decide +kernel) [(16, [.aload_n 0, .getfield 7, .aload_n 0, .getfield 17, .iaload]), (25, [.invokestatic 48]), (28, [.ifCond .eq 53]), (31, [.aload_n 0, .getfield 17, .aload_n 0, .getfield 23, .isub, .iconst 2, .if_icmp .ge 27]), (44, [.aload_n 0, .aload_n 0, .getfield 26, .bipush 10, .imul, .aload_n 0, .getfield 7, .aload_n 0, .getfield 17, .iaload]), (61, [.iadd, .bipush 48, .isub, .putfield 26])] (by decide +kernel) 86 (And.intro (fun q315 => r_X7_nextNumber_81 (mi := mi) (hw := rfl) (h.1 q315)) (fun q316 => And.intro (h.2 q316).1 (And.intro ⟨Nat.le_of_ble_eq_true rfl, rfl, rfl⟩ (s_X7_isDigit (d := d) (And.intro (fun q317 => r_X7_nextNumber_81 (mi := mi) (hw := rfl) ((h.2 q316).2.1 (b2_0 q317))) (fun q318 => And.intro (fun q319 => r_X7_nextNumber_68 (mi := mi) (hw := rfl) (((h.2 q316).2.2 (b2_n q318)).1 q319)) (fun q320 => And.intro (((h.2 q316).2.2 (b2_n q318)).2 q320).1 ((let m30 : MI := u3 mi 6 0 5 ((((mi 6 0 5) * 10) + (mi 20 0 ((mi 6 0 2).toNatClampNeg))) - 48); r_X7_nextNumber_68 (mi := m30) (hw := rfl) ((((h.2 q316).2.2 (b2_n q318)).2 q320).2 _ rfl))))))))))

theorem r_X7_nextNumber_0 {gl : Nat} {gx : Nat → Int32} {d : Nat} {P : PL} {Q : PO} {mi : MI} {w : WS} {lv : LV}  (hw : w.2.1 = true) (h : Wp gl gx (d + 1) P 109 5 [aR 6 0] [] (u3 mi 6 0 5 0, RS w, lv) Q) : Wp gl gx (d + 1) P 109 0 [aR 6 0] [] (mi, RS w, lv) Q := by
  obtain ⟨w1, w2, w3⟩ := w
  have hw2 : w2 = true := hw
  subst hw2
  let w : WS := (w1, true, w3)
  exact wpT row_109 mt_109 [.aload_n 0, .iconst 0, .putfield 26] (by decide +kernel) [] (by decide +kernel) 26 (h)

def L_X7_nextNumber_5 (w : WS) : Nat → MI → Option MI
  | 0, _ => none
  | n + 1, mi => if (mi 6 0 1) ≤ (mi 6 0 2) then some (u3 mi 6 0 3 (if ((mi 6 0 2) - (mi 6 0 4)) ≤ 2 then 1 else 4)) else ck (¬ ((mi 6 0 2) < 0 ∨ 600 ≤ (mi 6 0 2).toNatClampNeg)) (if ¬ ((mi 20 0 ((mi 6 0 2).toNatClampNeg)) < 48) ∧ (¬ (57 < (mi 20 0 ((mi 6 0 2).toNatClampNeg)))) then if 2 ≤ ((mi 6 0 2) - (mi 6 0 4)) then L_X7_nextNumber_5 w n (u3 mi 6 0 2 ((mi 6 0 2) + 1)) else ck (¬ ((mi 6 0 2) < 0 ∨ 600 ≤ (mi 6 0 2).toNatClampNeg)) (lt (u3 mi 6 0 5 ((((mi 6 0 5) * 10) + (mi 20 0 ((mi 6 0 2).toNatClampNeg))) - 48)) fun m30 => L_X7_nextNumber_5 w n (u3 m30 6 0 2 ((m30 6 0 2) + 1))) else some (u3 mi 6 0 3 (if ((mi 6 0 2) - (mi 6 0 4)) ≤ 2 then 1 else 4)))

theorem l_X7_nextNumber_5 {gl : Nat} {gx : Nat → Int32} {d : Nat} {P : PL} {Q : PO} {lv : LV} {w : WS} (hw : w.2.1 = true) (n : Nat) : ∀ {mi : MI} {r : MI}, L_X7_nextNumber_5 w n mi = some r → (Q aU (r, RS w, lv)) → Wp gl gx (d + 1) P 109 5 [aR 6 0] [] (mi, RS w, lv) Q := by
  induction n with
  | zero => intro mi r hf h0; exact o_none hf
  | succ n ih => intro mi r hf h0; exact r_X7_nextNumber_5 hw (⟨fun q321 => k_ifp q321 hf (fun q323 => o_rMV q323 h0), fun q322 => k_ifn q322 hf (fun q323 => k_ck q323 (fun q325 q324 => ⟨q325, ⟨fun q326 => k_ifn q326 q324 (fun q328 => o_rMV q328 h0), fun q327 => k_ifp q327 q324 (fun q328 => ⟨fun q329 => k_ifp q329 q328 (fun q331 => ih q331 h0), fun q330 => k_ifn q330 q328 (fun q331 => k_ck q331 (fun q333 q332 => ⟨q333, fun m30 hm30 => k_lt q332 hm30 (fun q334 => ih q334 h0)⟩))⟩)⟩⟩))⟩)

def F_X7_nextNumber (mi : MI) (w : WS)  : Option MI := ck (w.2.1 = true) (L_X7_nextNumber_5 w 1000000 (u3 mi 6 0 5 0))

theorem s_X7_nextNumber {gl : Nat} {gx : Nat → Int32} {d : Nat} {P : PL} {Q : PO} {mi : MI} {w : WS} {lv : LV}  {r : MI} (hf : F_X7_nextNumber mi w  = some r) (h0 : Q aU (r, RS w, lv)) : Wp gl gx (d + 1) P 109 0 [aR 6 0] [] (mi, RS w, lv) Q := k_ck hf (fun hw hf => r_X7_nextNumber_0 hw (l_X7_nextNumber_5 hw 1000000 hf h0))

abbrev row_107 : MT := (⟨"StencilHouse$Tokens", "next", "()V"⟩, prog_9_method_3_code, 1, none, 1, lk_7)
set_option maxRecDepth 20000 in
theorem mt_107 : mt 107 = some row_107 := rfl
theorem r_X7_next_138 {gl : Nat} {gx : Nat → Int32} {d : Nat} {P : PL} {Q : PO} {mi : MI} {w : WS} {lv : LV} {s0 : Int32} (hw : w.2.1 = true) (h : (∀ m34 : MI, m34 = u3 (u3 mi 6 0 3 s0) 6 0 2 (((u3 mi 6 0 3 s0) 6 0 2) + 1) → Q aU (m34, RS w, lv))) : Wp gl gx (d + 2) P 107 138 [aR 6 0] [aI s0, aR 6 0] (mi, RS w, lv) Q := by
  obtain ⟨w1, w2, w3⟩ := w
  have hw2 : w2 = true := hw
  subst hw2
  let w : WS := (w1, true, w3)
  exact wpT row_107 mt_107 [.putfield 20, .aload_n 0, .dup, .getfield 17, .iconst 1, .iadd, .putfield 17] (by decide +kernel) [(151, [.return_])] (by decide +kernel) 36 ((h _ rfl))

theorem r_X7_next_47 {gl : Nat} {gx : Nat → Int32} {d : Nat} {P : PL} {Q : PO} {mi : MI} {w : WS} {lv : LV}  (hw : w.2.1 = true) (h : ((((u3 mi 6 0 2 (mi 6 0 4)) 6 0 4) < ((u3 mi 6 0 2 (mi 6 0 4)) 6 0 1)) → (vp_in ((u3 mi 6 0 2 (mi 6 0 4)) 6 0 4) 600) ∧ ((¬ (¬ (((u3 mi 6 0 2 (mi 6 0 4)) 20 0 (((u3 mi 6 0 2 (mi 6 0 4)) 6 0 4).toNatClampNeg)) < 97) ∧ (¬ (122 < ((u3 mi 6 0 2 (mi 6 0 4)) 20 0 (((u3 mi 6 0 2 (mi 6 0 4)) 6 0 4).toNatClampNeg))))) → (vp_in ((u3 mi 6 0 2 (mi 6 0 4)) 6 0 4) 600) ∧ ((¬ (¬ (((u3 mi 6 0 2 (mi 6 0 4)) 20 0 (((u3 mi 6 0 2 (mi 6 0 4)) 6 0 4).toNatClampNeg)) < 48) ∧ (¬ (57 < ((u3 mi 6 0 2 (mi 6 0 4)) 20 0 (((u3 mi 6 0 2 (mi 6 0 4)) 6 0 4).toNatClampNeg))))) → (vp_in ((u3 mi 6 0 2 (mi 6 0 4)) 6 0 4) 600) ∧ ((∀ m34 : MI, m34 = u3 (u3 (u3 mi 6 0 2 (mi 6 0 4)) 6 0 3 (if ((u3 mi 6 0 2 (mi 6 0 4)) 20 0 (((u3 mi 6 0 2 (mi 6 0 4)) 6 0 4).toNatClampNeg)) = 59 then 2 else 4)) 6 0 2 (((u3 (u3 mi 6 0 2 (mi 6 0 4)) 6 0 3 (if ((u3 mi 6 0 2 (mi 6 0 4)) 20 0 (((u3 mi 6 0 2 (mi 6 0 4)) 6 0 4).toNatClampNeg)) = 59 then 2 else 4)) 6 0 2) + 1) → Q aU (m34, RS w, lv)))) ∧ (¬ (((u3 mi 6 0 2 (mi 6 0 4)) 20 0 (((u3 mi 6 0 2 (mi 6 0 4)) 6 0 4).toNatClampNeg)) < 48) ∧ (¬ (57 < ((u3 mi 6 0 2 (mi 6 0 4)) 20 0 (((u3 mi 6 0 2 (mi 6 0 4)) 6 0 4).toNatClampNeg)))) → (∃ c31 : MI, F_X7_nextNumber (u3 mi 6 0 2 (mi 6 0 4)) w  = some c31 ∧ Q aU (c31, RS w, lv))))) ∧ (¬ (((u3 mi 6 0 2 (mi 6 0 4)) 20 0 (((u3 mi 6 0 2 (mi 6 0 4)) 6 0 4).toNatClampNeg)) < 97) ∧ (¬ (122 < ((u3 mi 6 0 2 (mi 6 0 4)) 20 0 (((u3 mi 6 0 2 (mi 6 0 4)) 6 0 4).toNatClampNeg)))) → (∃ c32 : MI, F_X7_nextWord (u3 mi 6 0 2 (mi 6 0 4)) w  = some c32 ∧ Q aU (c32, RS w, lv))))) ∧ (¬ (((u3 mi 6 0 2 (mi 6 0 4)) 6 0 4) < ((u3 mi 6 0 2 (mi 6 0 4)) 6 0 1)) → (∀ m33 : MI, m33 = u3 (u3 mi 6 0 2 (mi 6 0 4)) 6 0 3 3 → Q aU (m33, RS w, lv)))) : Wp gl gx (d + 2) P 107 47 [aR 6 0] [] (mi, RS w, lv) Q := by
  obtain ⟨w1, w2, w3⟩ := w
  have hw2 : w2 = true := hw
  subst hw2
  let w : WS := (w1, true, w3)
  exact wpT row_107 mt_107 [.aload_n 0, .aload_n 0, .getfield 23, .putfield 17, .aload_n 0, .getfield 23, .aload_n 0, .getfield 13, .if_icmp .lt 11] (by decide +kernel) [(74, [.aload_n 0, .getfield 7, .aload_n 0, .getfield 23, .iaload]), (83, [.invokestatic 42]), (86, [.ifCond .eq 10]), (96, [.aload_n 0, .getfield 7, .aload_n 0, .getfield 23, .iaload]), (105, [.invokestatic 48]), (108, [.ifCond .eq 10]), (118, [.aload_n 0, .aload_n 0, .getfield 7, .aload_n 0, .getfield 23, .iaload]), (128, [.bipush 59, .if_icmp .ne 7]), (137, [.iconst 4]), (133, [.iconst 2, .goto 4]), (111, [.aload_n 0, .invokevirtual 51]), (115, [.goto 36]), (151, [.return_]), (89, [.aload_n 0, .invokevirtual 45]), (93, [.goto 58]), (66, [.aload_n 0, .iconst 3, .putfield 20]), (71, [.goto 80])] (by decide +kernel) 110 (And.intro (fun q335 => And.intro (h.1 q335).1 (And.intro ⟨Nat.le_of_ble_eq_true rfl, rfl, rfl⟩ (s_X7_isLetter (d := d + 1) (And.intro (fun q337 => And.intro ((h.1 q335).2.1 (b2_0 q337)).1 (And.intro ⟨Nat.le_of_ble_eq_true rfl, rfl, rfl⟩ (s_X7_isDigit (d := d + 1) (And.intro (fun q339 => And.intro (((h.1 q335).2.1 (b2_0 q337)).2.1 (b2_0 q339)).1 (And.intro (fun q341 => r_X7_next_138 (s0 := 4) (mi := (u3 mi 6 0 2 (mi 6 0 4))) (hw := rfl) (mv9 (fun v => (∀ m34 : MI, m34 = u3 (u3 (u3 mi 6 0 2 (mi 6 0 4)) 6 0 3 v) 6 0 2 (((u3 (u3 mi 6 0 2 (mi 6 0 4)) 6 0 3 v) 6 0 2) + 1) → Q aU (m34, RS w, lv))) (show (if ((u3 mi 6 0 2 (mi 6 0 4)) 20 0 (((u3 mi 6 0 2 (mi 6 0 4)) 6 0 4).toNatClampNeg)) = 59 then 2 else 4) = 4 from if_neg (show ¬ (((u3 mi 6 0 2 (mi 6 0 4)) 20 0 (((u3 mi 6 0 2 (mi 6 0 4)) 6 0 4).toNatClampNeg)) = 59) from q341)) ((((h.1 q335).2.1 (b2_0 q337)).2.1 (b2_0 q339)).2))) (fun q342 => r_X7_next_138 (s0 := 2) (mi := (u3 mi 6 0 2 (mi 6 0 4))) (hw := rfl) (mv9 (fun v => (∀ m34 : MI, m34 = u3 (u3 (u3 mi 6 0 2 (mi 6 0 4)) 6 0 3 v) 6 0 2 (((u3 (u3 mi 6 0 2 (mi 6 0 4)) 6 0 3 v) 6 0 2) + 1) → Q aU (m34, RS w, lv))) (show (if ((u3 mi 6 0 2 (mi 6 0 4)) 20 0 (((u3 mi 6 0 2 (mi 6 0 4)) 6 0 4).toNatClampNeg)) = 59 then 2 else 4) = 2 from if_pos (show ((u3 mi 6 0 2 (mi 6 0 4)) 20 0 (((u3 mi 6 0 2 (mi 6 0 4)) 6 0 4).toNatClampNeg)) = 59 from q342)) ((((h.1 q335).2.1 (b2_0 q337)).2.1 (b2_0 q339)).2))))) (fun q340 => Exists.elim (((h.1 q335).2.1 (b2_0 q337)).2.2 (b2_n q340)) (fun c31 zc31 => And.intro ⟨Nat.le_of_ble_eq_true rfl, rfl, rfl⟩ (s_X7_nextNumber (d := d) zc31.1 (zc31.2)))))))) (fun q338 => Exists.elim ((h.1 q335).2.2 (b2_n q338)) (fun c32 zc32 => And.intro ⟨Nat.le_of_ble_eq_true rfl, rfl, rfl⟩ (s_X7_nextWord (d := d) zc32.1 (zc32.2)))))))) (fun q336 => ((h.2 q336) _ rfl)))

theorem r_X7_next_8 {gl : Nat} {gx : Nat → Int32} {d : Nat} {P : PL} {Q : PO} {mi : MI} {w : WS} {lv : LV}  (hw : w.2.1 = true) (h : (((mi 6 0 1) ≤ (mi 6 0 4)) → Wp gl gx (d + 2) P 107 47 [aR 6 0] [] (mi, RS w, lv) Q) ∧ (¬ ((mi 6 0 1) ≤ (mi 6 0 4)) → (vp_in (mi 6 0 4) 600) ∧ ((¬ (((mi 20 0 ((mi 6 0 4).toNatClampNeg)) = 10) ∨ ((mi 20 0 ((mi 6 0 4).toNatClampNeg)) = 32)) → Wp gl gx (d + 2) P 107 47 [aR 6 0] [] (mi, RS w, lv) Q) ∧ (((mi 20 0 ((mi 6 0 4).toNatClampNeg)) = 10) ∨ ((mi 20 0 ((mi 6 0 4).toNatClampNeg)) = 32) → Wp gl gx (d + 2) P 107 8 [aR 6 0] [] (u3 mi 6 0 4 ((mi 6 0 4) + 1), RS w, lv) Q)))) : Wp gl gx (d + 2) P 107 8 [aR 6 0] [] (mi, RS w, lv) Q := by
  obtain ⟨w1, w2, w3⟩ := w
  have hw2 : w2 = true := hw
  subst hw2
  let w : WS := (w1, true, w3)
  exact wpT row_107 mt_107 [.aload_n 0, .getfield 23, .aload_n 0, .getfield 13, .if_icmp .ge 31] (by decide +kernel) [(19, [.aload_n 0, .getfield 7, .aload_n 0, .getfield 23, .iaload]), (28, [.invokestatic 38]), (31, [.ifCond .eq 16]), (34, [.aload_n 0, .dup, .getfield 23, .iconst 1, .iadd, .putfield 23, .goto (.negSucc 35)])] (by decide +kernel) 58 (And.intro (fun q343 => (h.1 q343)) (fun q344 => And.intro (h.2 q344).1 (And.intro ⟨Nat.le_of_ble_eq_true rfl, rfl, rfl⟩ (s_X7_isBlank (d := d + 1) (And.intro (fun q345 => ((h.2 q344).2.1 (b2_0 q345))) (fun q346 => ((h.2 q344).2.2 (b2_n q346))))))))

theorem r_X7_next_0 {gl : Nat} {gx : Nat → Int32} {d : Nat} {P : PL} {Q : PO} {mi : MI} {w : WS} {lv : LV}  (hw : w.2.1 = true) (h : Wp gl gx (d + 2) P 107 8 [aR 6 0] [] (u3 mi 6 0 4 (mi 6 0 2), RS w, lv) Q) : Wp gl gx (d + 2) P 107 0 [aR 6 0] [] (mi, RS w, lv) Q := by
  obtain ⟨w1, w2, w3⟩ := w
  have hw2 : w2 = true := hw
  subst hw2
  let w : WS := (w1, true, w3)
  exact wpT row_107 mt_107 [.aload_n 0, .aload_n 0, .getfield 17, .putfield 23] (by decide +kernel) [] (by decide +kernel) 28 (h)

def L_X7_next_8 (w : WS) : Nat → MI → Option MI
  | 0, _ => none
  | n + 1, mi => if (mi 6 0 1) ≤ (mi 6 0 4) then if ((u3 mi 6 0 2 (mi 6 0 4)) 6 0 4) < ((u3 mi 6 0 2 (mi 6 0 4)) 6 0 1) then ck (¬ (((u3 mi 6 0 2 (mi 6 0 4)) 6 0 4) < 0 ∨ 600 ≤ ((u3 mi 6 0 2 (mi 6 0 4)) 6 0 4).toNatClampNeg)) (if ¬ (((u3 mi 6 0 2 (mi 6 0 4)) 20 0 (((u3 mi 6 0 2 (mi 6 0 4)) 6 0 4).toNatClampNeg)) < 97) ∧ (¬ (122 < ((u3 mi 6 0 2 (mi 6 0 4)) 20 0 (((u3 mi 6 0 2 (mi 6 0 4)) 6 0 4).toNatClampNeg)))) then (F_X7_nextWord (u3 mi 6 0 2 (mi 6 0 4)) w ).bind fun c32 => some c32 else ck (¬ (((u3 mi 6 0 2 (mi 6 0 4)) 6 0 4) < 0 ∨ 600 ≤ ((u3 mi 6 0 2 (mi 6 0 4)) 6 0 4).toNatClampNeg)) (if ¬ (((u3 mi 6 0 2 (mi 6 0 4)) 20 0 (((u3 mi 6 0 2 (mi 6 0 4)) 6 0 4).toNatClampNeg)) < 48) ∧ (¬ (57 < ((u3 mi 6 0 2 (mi 6 0 4)) 20 0 (((u3 mi 6 0 2 (mi 6 0 4)) 6 0 4).toNatClampNeg)))) then (F_X7_nextNumber (u3 mi 6 0 2 (mi 6 0 4)) w ).bind fun c31 => some c31 else ck (¬ (((u3 mi 6 0 2 (mi 6 0 4)) 6 0 4) < 0 ∨ 600 ≤ ((u3 mi 6 0 2 (mi 6 0 4)) 6 0 4).toNatClampNeg)) (lt (u3 (u3 (u3 mi 6 0 2 (mi 6 0 4)) 6 0 3 (if ((u3 mi 6 0 2 (mi 6 0 4)) 20 0 (((u3 mi 6 0 2 (mi 6 0 4)) 6 0 4).toNatClampNeg)) = 59 then 2 else 4)) 6 0 2 (((u3 (u3 mi 6 0 2 (mi 6 0 4)) 6 0 3 (if ((u3 mi 6 0 2 (mi 6 0 4)) 20 0 (((u3 mi 6 0 2 (mi 6 0 4)) 6 0 4).toNatClampNeg)) = 59 then 2 else 4)) 6 0 2) + 1)) fun m34 => some m34))) else lt (u3 (u3 mi 6 0 2 (mi 6 0 4)) 6 0 3 3) fun m33 => some m33 else ck (¬ ((mi 6 0 4) < 0 ∨ 600 ≤ (mi 6 0 4).toNatClampNeg)) (if ((mi 20 0 ((mi 6 0 4).toNatClampNeg)) = 10) ∨ ((mi 20 0 ((mi 6 0 4).toNatClampNeg)) = 32) then L_X7_next_8 w n (u3 mi 6 0 4 ((mi 6 0 4) + 1)) else if ((u3 mi 6 0 2 (mi 6 0 4)) 6 0 4) < ((u3 mi 6 0 2 (mi 6 0 4)) 6 0 1) then ck (¬ (((u3 mi 6 0 2 (mi 6 0 4)) 6 0 4) < 0 ∨ 600 ≤ ((u3 mi 6 0 2 (mi 6 0 4)) 6 0 4).toNatClampNeg)) (if ¬ (((u3 mi 6 0 2 (mi 6 0 4)) 20 0 (((u3 mi 6 0 2 (mi 6 0 4)) 6 0 4).toNatClampNeg)) < 97) ∧ (¬ (122 < ((u3 mi 6 0 2 (mi 6 0 4)) 20 0 (((u3 mi 6 0 2 (mi 6 0 4)) 6 0 4).toNatClampNeg)))) then (F_X7_nextWord (u3 mi 6 0 2 (mi 6 0 4)) w ).bind fun c32 => some c32 else ck (¬ (((u3 mi 6 0 2 (mi 6 0 4)) 6 0 4) < 0 ∨ 600 ≤ ((u3 mi 6 0 2 (mi 6 0 4)) 6 0 4).toNatClampNeg)) (if ¬ (((u3 mi 6 0 2 (mi 6 0 4)) 20 0 (((u3 mi 6 0 2 (mi 6 0 4)) 6 0 4).toNatClampNeg)) < 48) ∧ (¬ (57 < ((u3 mi 6 0 2 (mi 6 0 4)) 20 0 (((u3 mi 6 0 2 (mi 6 0 4)) 6 0 4).toNatClampNeg)))) then (F_X7_nextNumber (u3 mi 6 0 2 (mi 6 0 4)) w ).bind fun c31 => some c31 else ck (¬ (((u3 mi 6 0 2 (mi 6 0 4)) 6 0 4) < 0 ∨ 600 ≤ ((u3 mi 6 0 2 (mi 6 0 4)) 6 0 4).toNatClampNeg)) (lt (u3 (u3 (u3 mi 6 0 2 (mi 6 0 4)) 6 0 3 (if ((u3 mi 6 0 2 (mi 6 0 4)) 20 0 (((u3 mi 6 0 2 (mi 6 0 4)) 6 0 4).toNatClampNeg)) = 59 then 2 else 4)) 6 0 2 (((u3 (u3 mi 6 0 2 (mi 6 0 4)) 6 0 3 (if ((u3 mi 6 0 2 (mi 6 0 4)) 20 0 (((u3 mi 6 0 2 (mi 6 0 4)) 6 0 4).toNatClampNeg)) = 59 then 2 else 4)) 6 0 2) + 1)) fun m34 => some m34))) else lt (u3 (u3 mi 6 0 2 (mi 6 0 4)) 6 0 3 3) fun m33 => some m33)

theorem l_X7_next_8 {gl : Nat} {gx : Nat → Int32} {d : Nat} {P : PL} {Q : PO} {lv : LV} {w : WS} (hw : w.2.1 = true) (n : Nat) : ∀ {mi : MI} {r : MI}, L_X7_next_8 w n mi = some r → (Q aU (r, RS w, lv)) → Wp gl gx (d + 2) P 107 8 [aR 6 0] [] (mi, RS w, lv) Q := by
  induction n with
  | zero => intro mi r hf h0; exact o_none hf
  | succ n ih => intro mi r hf h0; exact r_X7_next_8 hw (⟨fun q347 => k_ifp q347 hf (fun q349 => r_X7_next_47 hw (⟨fun q350 => k_ifp q350 q349 (fun q352 => k_ck q352 (fun q354 q353 => ⟨q354, ⟨fun q355 => k_ifn q355 q353 (fun q357 => k_ck q357 (fun q359 q358 => ⟨q359, ⟨fun q360 => k_ifn q360 q358 (fun q362 => k_ck q362 (fun q364 q363 => ⟨q364, fun m34 hm34 => k_lt q363 hm34 (fun q365 => o_rMV q365 h0)⟩)), fun q361 => k_ifp q361 q358 (fun q362 => o_bind q362 (fun c31 qc31 pc31 => ⟨c31, qc31, o_rMV pc31 h0⟩))⟩⟩)), fun q356 => k_ifp q356 q353 (fun q357 => o_bind q357 (fun c32 qc32 pc32 => ⟨c32, qc32, o_rMV pc32 h0⟩))⟩⟩)), fun q351 => k_ifn q351 q349 (fun q352 => fun m33 hm33 => k_lt q352 hm33 (fun q366 => o_rMV q366 h0))⟩)), fun q348 => k_ifn q348 hf (fun q349 => k_ck q349 (fun q368 q367 => ⟨q368, ⟨fun q369 => k_ifn q369 q367 (fun q371 => r_X7_next_47 hw (⟨fun q372 => k_ifp q372 q371 (fun q374 => k_ck q374 (fun q376 q375 => ⟨q376, ⟨fun q377 => k_ifn q377 q375 (fun q379 => k_ck q379 (fun q381 q380 => ⟨q381, ⟨fun q382 => k_ifn q382 q380 (fun q384 => k_ck q384 (fun q386 q385 => ⟨q386, fun m34 hm34 => k_lt q385 hm34 (fun q387 => o_rMV q387 h0)⟩)), fun q383 => k_ifp q383 q380 (fun q384 => o_bind q384 (fun c31 qc31 pc31 => ⟨c31, qc31, o_rMV pc31 h0⟩))⟩⟩)), fun q378 => k_ifp q378 q375 (fun q379 => o_bind q379 (fun c32 qc32 pc32 => ⟨c32, qc32, o_rMV pc32 h0⟩))⟩⟩)), fun q373 => k_ifn q373 q371 (fun q374 => fun m33 hm33 => k_lt q374 hm33 (fun q388 => o_rMV q388 h0))⟩)), fun q370 => k_ifp q370 q367 (fun q371 => ih q371 h0)⟩⟩))⟩)

def F_X7_next (mi : MI) (w : WS)  : Option MI := ck (w.2.1 = true) (L_X7_next_8 w 1000000 (u3 mi 6 0 4 (mi 6 0 2)))

theorem s_X7_next {gl : Nat} {gx : Nat → Int32} {d : Nat} {P : PL} {Q : PO} {mi : MI} {w : WS} {lv : LV}  {r : MI} (hf : F_X7_next mi w  = some r) (h0 : Q aU (r, RS w, lv)) : Wp gl gx (d + 2) P 107 0 [aR 6 0] [] (mi, RS w, lv) Q := k_ck hf (fun hw hf => r_X7_next_0 hw (l_X7_next_8 hw 1000000 hf h0))

abbrev row_106 : MT := (⟨"StencilHouse$Tokens", "begin", "([II)V"⟩, prog_9_method_2_code, 3, none, 1, lk_7)
set_option maxRecDepth 20000 in
theorem mt_106 : mt 106 = some row_106 := rfl
theorem r_X7_begin_5 {gl : Nat} {gx : Nat → Int32} {d : Nat} {P : PL} {Q : PO} {mi : MI} {w : WS} {lv : LV} {x2 : Int32} (h : (∀ m35 : MI, m35 = u3 (u3 mi 6 0 1 (imin x2 600)) 6 0 2 0 → (∃ c36 : MI, F_X7_next m35 w  = some c36 ∧ Q aU (c36, RS w, lv)))) : Wp gl gx (d + 3) P 106 5 [aR 6 0, aR 20 0, aI x2] [] (mi, RS w, lv) Q := 
  wpT row_106 mt_106 [.aload_n 0, .iload_n 2, .aload_n 1, .arraylength, .invokestatic 29] (by decide +kernel) [(12, [.putfield 13, .aload_n 0, .iconst 0, .putfield 17]), (20, [.aload_n 0, .invokevirtual 35]), (24, [.return_])] (by decide +kernel) 44 (And.intro (Nat.le_of_ble_eq_true rfl) (Exists.elim (h _ rfl) (fun c36 zc36 => And.intro ⟨Nat.le_of_ble_eq_true rfl, rfl, rfl⟩ (s_X7_next (d := d) zc36.1 (zc36.2)))))

theorem r_X7_begin_0 {gl : Nat} {gx : Nat → Int32} {d : Nat} {P : PL} {Q : PO} {mi : MI} {w : WS} {lv : LV} {x2 : Int32} (h : Wp gl gx (d + 3) P 106 5 [aR 6 0, aR 20 0, aI x2] [] (mi, RS (w.1, true, w.2.2), lv) Q) : Wp gl gx (d + 3) P 106 0 [aR 6 0, aR 20 0, aI x2] [] (mi, RS w, lv) Q := 
  wpT row_106 mt_106 [.aload_n 0, .aload_n 1, .putfield 7] (by decide +kernel) [] (by decide +kernel) 26 (wp_rs rs_tape h)

def F_X7_begin (mi : MI) (w : WS) (x2 : Int32) : Option (MI × WS) := lt (u3 (u3 mi 6 0 1 (imin x2 600)) 6 0 2 0) fun m35 => (F_X7_next m35 (w.1, true, w.2.2) ).bind fun c36 => some (c36, (w.1, true, w.2.2))

theorem s_X7_begin {gl : Nat} {gx : Nat → Int32} {d : Nat} {P : PL} {Q : PO} {mi : MI} {w : WS} {lv : LV} {x2 : Int32} {r : (MI × WS)} (hf : F_X7_begin mi w x2 = some r) (h0 : Q aU (r.1, RS r.2, lv)) : Wp gl gx (d + 3) P 106 0 [aR 6 0, aR 20 0, aI x2] [] (mi, RS w, lv) Q := r_X7_begin_0 (r_X7_begin_5 (fun m35 hm35 => k_lt hf hm35 (fun q389 => o_bind q389 (fun c36 qc36 pc36 => ⟨c36, qc36, o_rV pc36 h0⟩))))

