/-! APART, WITHIN, ON TOP -/
/-- sheets of a set, from the k-th on, beside what is taken: whether they lie apart -/
def apF (o : Nat → Nat) (set : Nat) : Nat → Nat → Nat → Bool
  | 0, _, _ => true
  | r + 1, k, t => if set.testBit k then (if t &&& o k = 0 then apF o set r (k + 1) (t ||| o k) else false) else apF o set r (k + 1) t
def bI (b : Bool) : Int32 := match b with
  | true => 1
  | false => 0
theorem or_lt25 {a b : Nat} (ha : a < 33554432) (hb : b < 33554432) : a ||| b < 33554432 := Nat.or_lt_two_pow (n := 25) ha hb
theorem and_lt25 {a b : Nat} (ha : a < 33554432) : a &&& b < 33554432 := Nat.lt_of_le_of_lt Nat.and_le_left ha
theorem nne0 {a : Nat} (ha : a < 2147483648) (h : a ≠ 0) : ¬ nI a = 0 := nne (b := 0) ha (by decide) h
theorem c_apart {mi : MI} (w : WS) {i W H sl n set : Nat} {cu we : Nat → Nat} (ok : shOK W H sl n cu we) (hc : ShC mi i W H sl n cu we) (hs : set < 2147483648) : F_X1_liesApart mi w i (nI set) = some (bI (apF (opS W H cu) set n 0 0)) := by
  have hn := ok.cnt
  have key : ∀ r k F t, k + r = n → r < F → t < 33554432 → L_X1_liesApart_4 mi w F i (nI set) (nI t) (nI k) = some (bI (apF (opS W H cu) set r k t)) := by
    intro r
    induction r with
    | zero =>
      intro k F t hk hF ht
      obtain ⟨F, rfl⟩ : ∃ G, F = G + 1 := ⟨F - 1, by omega⟩
      rw [L_X1_liesApart_4, if_pos (by rw [hc.cnt, nle (by omega) (by omega)]; omega)]
      rfl
    | succ r ih =>
      intro k F t hk hF ht
      obtain ⟨F, rfl⟩ : ∃ G, F = G + 1 := ⟨F - 1, by omega⟩
      have ho := ok.op2 (s := k) (by omega)
      rw [L_X1_liesApart_4, if_neg (by rw [hc.cnt, nle (by omega) (by omega)]; omega), n31 (by omega), nshr hs (by omega), i1, nand, ck6 (by omega), ck6 (by omega), ncl (by omega), hc.op (by omega), nand, nor, nadd, apF]
      show _ = some (bI (if set.testBit k then (if t &&& openN W H (cu k) = 0 then apF (opS W H cu) set r (k + 1) (t ||| openN W H (cu k)) else false) else apF (opS W H cu) set r (k + 1) t))
      cases hb : set.testBit k
      · rw [if_pos (by rw [i0, bit0, hb])]
        exact ih (k + 1) F t (by omega) (by omega) ht
      · rw [if_neg (by rw [i0, bit0, hb]; simp), if_pos rfl]
        by_cases e : t &&& openN W H (cu k) = 0
        · rw [if_pos (by rw [e]; rfl), if_pos e]
          exact ih (k + 1) F _ (by omega) (by omega) (or_lt25 ht ho)
        · rw [if_neg (show ¬ nI (t &&& openN W H (cu k)) = 0 from nne0 (by have := and_lt25 (b := openN W H (cu k)) ht; omega) e), if_neg e]
          rfl
  exact key n 0 1000000 0 (by omega) (by omega) (by omega)
theorem m_apart {m : MI} (w : WS) {j W H sl n set : Nat} {cu we : Nat → Nat} (ok : shOK W H sl n cu we) (hd : HD m j W H sl n cu we) (hs : set < 2147483648) : F_X11_areApart m w (nI set) = some (bI (apF (opS W H cu) set n 0 0)) := by
  have hn := ok.cnt
  have key : ∀ r k F t, k + r = n → r < F → t < 33554432 → L_X11_areApart_4 m w F (nI set) (nI t) (nI k) = some (bI (apF (opS W H cu) set r k t)) := by
    intro r
    induction r with
    | zero =>
      intro k F t hk hF ht
      obtain ⟨F, rfl⟩ : ∃ G, F = G + 1 := ⟨F - 1, by omega⟩
      rw [L_X11_areApart_4, if_pos (by rw [hd.cnt, nle (by omega) (by omega)]; omega)]
      rfl
    | succ r ih =>
      intro k F t hk hF ht
      obtain ⟨F, rfl⟩ : ∃ G, F = G + 1 := ⟨F - 1, by omega⟩
      have ho := ok.op2 (s := k) (by omega)
      rw [L_X11_areApart_4, if_neg (by rw [hd.cnt, nle (by omega) (by omega)]; omega), n31 (by omega), nshr hs (by omega), i1, nand, ck6 (by omega), ck6 (by omega), ncl (by omega), hd.op (by omega), nand, nor, nadd, apF, i0, nor, Nat.or_zero]
      show _ = some (bI (if set.testBit k then (if t &&& openN W H (cu k) = 0 then apF (opS W H cu) set r (k + 1) (t ||| openN W H (cu k)) else false) else apF (opS W H cu) set r (k + 1) t))
      cases hb : set.testBit k
      · have nb : ¬ (nI (set >>> k &&& 1) = nI 1) := by rw [bit1, hb]; simp
        rw [if_neg nb, if_neg nb]
        exact ih (k + 1) F t (by omega) (by omega) ht
      · have yb : nI (set >>> k &&& 1) = nI 1 := by rw [bit1, hb]
        rw [if_pos yb, if_pos rfl]
        by_cases e : t &&& openN W H (cu k) = 0
        · rw [if_pos (show nI (t &&& openN W H (cu k)) = nI 0 by rw [e]), if_pos e, if_pos yb]
          exact ih (k + 1) F _ (by omega) (by omega) (or_lt25 ht ho)
        · rw [if_neg (show ¬ nI (t &&& openN W H (cu k)) = nI 0 from nne (by have := and_lt25 (b := openN W H (cu k)) ht; omega) (by omega) e), if_neg e]
          rfl
  exact key n 0 1000000 0 (by omega) (by omega) (by omega)
def moF (o : Nat → Nat) (n k b : Nat) : Nat := if popN k ≤ popN b then b else if apF o k n 0 0 then k else b
theorem bI_if {α : Type} (b : Bool) (x y : α) : (if bI b = 0 then x else y) = if b = true then y else x := by
  cases b
  · exact (if_pos rfl).trans (if_neg Bool.false_ne_true).symm
  · exact (if_neg ne10).trans (if_pos rfl).symm
theorem moF_lt {o : Nat → Nat} {n k b : Nat} (hk : k < 64) (hb : b < 64) : moF o n k b < 64 := by
  unfold moF
  split
  · exact hb
  · split <;> omega
theorem moF_fold {o : Nat → Nat} {n : Nat} : ∀ k, k ≤ 64 → foldN (moF o n) 0 k < 64 := by
  intro k
  induction k with
  | zero => intro _; show 0 < 64; omega
  | succ k ih => intro hk; exact moF_lt (by omega) (ih (by omega))
theorem op_atOnce {mi : MI} {w : WS} (I : Inv mi w) (x1 : Int32) (x2 : Int32) (hb : x2 = 0 ∨ x2 = 1) : ∃ c, F_X10_atOnce mi w x1 x2 = some c ∧ ∃ e, F_X11_atOnce mi w x1 x2 = some e ∧ c = e.1 ∧ Inv e.2 w := by
  have key : ∃ c, F_X10_atOnce mi w x1 x2 = some c ∧ ∃ e, F_X11_atOnce mi w x1 x2 = some e ∧ c = e.1 := by
    unfold F_X10_atOnce F_X11_atOnce
    refine shop_op I x1 (-1) rfl (fun m => ⟨_, if_pos rfl⟩) fun j W H sl n cu we m hj ok hc hd K => ?_
    dsimp only [onO]
    have hn := ok.cnt
    have hpw : 2 ^ n ≤ 64 := Nat.pow_le_pow_right (n := 2) (by omega) hn
    have hpp := Nat.two_pow_pos n
    rw [if_neg ne10]
    have h1 : F_X1_mostApart mi w j = some (nI (foldN (moF (opS W H cu) n) 0 (2 ^ n))) := by
      unfold F_X1_mostApart
      rw [c_every hc.cnt hn]
      refine lp_up (L := fun f s k => L_X1_mostApart_9 mi w f j (nI (2 ^ n - 1)) (nI s) (nI k)) (N := 2 ^ n) (f := moF (opS W H cu) n) (post := fun a => some (nI a)) (fun _ s => s < 64) (fun f s _ => ?_) (fun f k s hk hs => ⟨?_, ?_⟩) (F := 1000000) (by omega) 0 (by omega)
      · show L_X1_mostApart_9 mi w (f + 1) j (nI (2 ^ n - 1)) (nI s) (nI (2 ^ n)) = _
        rw [L_X1_mostApart_9, if_pos (by rw [nlt (by omega) (by omega)]; omega)]
      · have q1 := popN_le k
        have q2 := popN_le s
        show L_X1_mostApart_9 mi w (f + 1) j (nI (2 ^ n - 1)) (nI s) (nI k) = L_X1_mostApart_9 mi w f j (nI (2 ^ n - 1)) (nI (moF (opS W H cu) n k s)) (nI (k + 1))
        unfold moF
        rw [L_X1_mostApart_9, if_neg (by rw [nlt (by omega) (by omega)]; omega), c_pop (by omega), c_pop (by omega), c_apart w ok hc (by omega), Option.bind_some, bI_if, i1, nadd]
        by_cases e1 : popN k ≤ popN s
        · rw [if_pos (show nI (popN k) ≤ nI (popN s) by rw [nle (by omega) (by omega)]; exact e1), if_pos e1]
        · rw [if_neg (show ¬ nI (popN k) ≤ nI (popN s) by rw [nle (by omega) (by omega)]; exact e1), if_neg e1, ite_nI]
      · show moF (opS W H cu) n k s < 64
        unfold moF
        split
        · exact hs
        · split <;> omega
    have h2 : L_X11_atOnce_20 w 1000000 m x1 x2 0 0 = (fun b => if x2 = 0 then (F_X11_ones m w (nI b)).bind fun c219 => some (c219, m) else some (nI b, m)) (foldN (moF (opS W H cu) n) 0 (2 ^ n)) := by
      refine lp_up (L := fun f s k => L_X11_atOnce_20 w f m x1 x2 (nI s) (nI k)) (N := 2 ^ n) (f := moF (opS W H cu) n) (post := fun b => if x2 = 0 then (F_X11_ones m w (nI b)).bind fun c219 => some (c219, m) else some (nI b, m)) (fun _ s => s < 64) (fun f s _ => ?_) (fun f k s hk hs => ⟨?_, ?_⟩) (F := 1000000) (by omega) 0 (by omega)
      · show L_X11_atOnce_20 w (f + 1) m x1 x2 (nI s) (nI (2 ^ n)) = _
        rw [L_X11_atOnce_20, if_pos (by rw [hd.cnt, n31 (by omega), i1, nshl _ (by omega), Nat.one_shiftLeft, nle (by omega) (by omega)]; omega)]
      · have q1 := popN_le k
        have q2 := popN_le s
        show L_X11_atOnce_20 w (f + 1) m x1 x2 (nI s) (nI k) = L_X11_atOnce_20 w f m x1 x2 (nI (moF (opS W H cu) n k s)) (nI (k + 1))
        unfold moF
        rw [L_X11_atOnce_20, if_neg (by rw [hd.cnt, n31 (by omega), i1, nshl _ (by omega), Nat.one_shiftLeft, nle (by omega) (by omega)]; omega), m_ones m w (by omega), Option.bind_some, m_ones m w (by omega), Option.bind_some, m_apart w ok hd (by omega), Option.bind_some, bI_if, i1, nadd]
        by_cases e1 : popN k ≤ popN s
        · rw [if_pos (show nI (popN k) ≤ nI (popN s) by rw [nle (by omega) (by omega)]; exact e1), if_pos e1]
        · rw [if_neg (show ¬ nI (popN k) ≤ nI (popN s) by rw [nle (by omega) (by omega)]; exact e1), if_neg e1]
          split <;> rfl
      · show moF (opS W H cu) n k s < 64
        unfold moF
        split
        · exact hs
        · split <;> omega
    rw [h1, Option.bind_some, h2]
    dsimp only
    have hr : foldN (moF (opS W H cu) n) 0 (2 ^ n) < 64 := moF_fold _ hpw
    generalize foldN (moF (opS W H cu) n) 0 (2 ^ n) = r at *
    rcases hb with rfl | rfl
    · rw [if_pos rfl, if_pos rfl, c_pop (by omega), m_ones m w (by omega)]
      exact ⟨_, _, rfl, rfl⟩
    · rw [if_neg ne10, if_neg ne10]
      exact ⟨_, _, rfl, rfl⟩
  obtain ⟨c, h1, e, h2, h3⟩ := key
  exact ⟨c, h1, e, h2, h3, Inv_m I (kp_X11_atOnce h2)⟩
/-- slides by which all of one is within the other -/
def wiB (W H a b x y : Nat) : Nat := if slN W H a x y = 0 then 0 else if andn (slN W H a x y) b = 0 then 1 else 0
theorem op_within {mi : MI} {w : WS} (I : Inv mi w) (x1 : Int32) (x2 : Int32) (x3 : Int32) : ∃ c, F_X10_within mi w x1 x2 x3 = some c ∧ ∃ e, F_X11_within mi w x1 x2 x3 = some e ∧ c = e.1 ∧ Inv e.2 w := by
  have key : ∃ c, F_X10_within mi w x1 x2 x3 = some c ∧ ∃ e, F_X11_within mi w x1 x2 x3 = some e ∧ c = e.1 := by
    unfold F_X10_within F_X11_within
    refine shop_op I x1 (-1) rfl (fun m => ⟨_, if_pos rfl⟩) fun j W H sl n cu we m hj ok hc hd K => ?_
    dsimp only [onO]
    have hn := ok.cnt
    have hWH := ok.bw
    rw [if_neg ne10]
    by_cases h2 : ∃ s, s < n ∧ x2 = nI s
    · obtain ⟨a, ha, rfl⟩ := h2
      rw [if_pos ((hc.sheet ok _).mpr ⟨a, ha, rfl⟩), if_pos ((hd.sheet ok _).mpr ⟨a, ha, rfl⟩)]
      by_cases h3 : ∃ s, s < n ∧ x3 = nI s
      · obtain ⟨b, hb, rfl⟩ := h3
        rw [if_pos ((hc.sheet ok _).mpr ⟨b, hb, rfl⟩), if_pos ((hd.sheet ok _).mpr ⟨b, hb, rfl⟩)]
        rw [ck6 (by omega), ck6 (by omega), ncl (by omega), ncl (by omega), hc.op (by omega), hc.op (by omega)]
        have oa := ok.op (s := a) (by omega)
        have ob := ok.op2 (s := b) (by omega)
        have hsl : ∀ x y, x < 5 → y < 5 → slN W H (openN W H (cu a)) x y < 33554432 := fun x y hx hy => pw (sl_lt hWH.1.2 hWH.2.2 hx hy oa) ok.cells
        have e5 : (5 : Int32) = nI 5 := rfl
        have q1 : F_X1_slidesWithin mi w j (nI (openN W H (cu a))) (nI (openN W H (cu b))) = some (nI (foldN (fun y s => foldN (fun x s => s + wiB W H (openN W H (cu a)) (openN W H (cu b)) x y) s 5) 0 5)) := by
          unfold F_X1_slidesWithin
          refine lp_up (L := fun f s k => L_X1_slidesWithin_5 mi w f j (nI (openN W H (cu a))) (nI (openN W H (cu b))) (nI s) (nI k)) (N := 5) (f := fun y s => foldN (fun x s => s + wiB W H (openN W H (cu a)) (openN W H (cu b)) x y) s 5) (post := fun a => some (nI a)) (fun _ s => True) (fun f s _ => ?_) (fun f y s hy _ => ⟨?_, trivial⟩) (F := 1000000) (by omega) 0 trivial
          · exact if_pos (by decide)
          · show L_X1_slidesWithin_5 mi w (f + 1) j (nI (openN W H (cu a))) (nI (openN W H (cu b))) (nI s) (nI y) = _
            rw [L_X1_slidesWithin_5, if_neg (by rw [e5, nle (by omega) (by omega)]; omega)]
            refine lp_up (L := fun f' s k => L_X1_slidesWithin_14 mi w (fun i0 x1 x2 x3 x4 => L_X1_slidesWithin_5 mi w f i0 x1 x2 x3 x4) f' j (nI (openN W H (cu a))) (nI (openN W H (cu b))) (nI s) (nI y) (nI k)) (N := 5) (f := fun x s => s + wiB W H (openN W H (cu a)) (openN W H (cu b)) x y) (post := fun s => L_X1_slidesWithin_5 mi w f j (nI (openN W H (cu a))) (nI (openN W H (cu b))) (nI s) (nI (y + 1))) (fun _ s => True) (fun f' s _ => ?_) (fun f' x s hx _ => ⟨?_, trivial⟩) (F := 1000000) (by omega) s trivial
            · show L_X1_slidesWithin_14 mi w _ (f' + 1) j (nI (openN W H (cu a))) (nI (openN W H (cu b))) (nI s) (nI y) (nI 5) = _
              rw [L_X1_slidesWithin_14, if_pos (by decide), i1, nadd]
            · show L_X1_slidesWithin_14 mi w _ (f' + 1) j (nI (openN W H (cu a))) (nI (openN W H (cu b))) (nI s) (nI y) (nI x) = L_X1_slidesWithin_14 mi w _ f' j (nI (openN W H (cu a))) (nI (openN W H (cu b))) (nI (s + wiB W H (openN W H (cu a)) (openN W H (cu b)) x y)) (nI y) (nI (x + 1))
              have h1 := hsl x y hx hy
              have h2 := andn_le (slN W H (openN W H (cu a)) x y) (openN W H (cu b))
              unfold wiB
              rw [L_X1_slidesWithin_14, if_neg (by rw [e5, nle (by omega) (by omega)]; omega), c_slid w hWH hc.cw hx hy, Option.bind_some, nandn, i1, nadd, nadd]
              by_cases z1 : slN W H (openN W H (cu a)) x y = 0
              · rw [if_pos (show nI (slN W H (openN W H (cu a)) x y) = 0 by rw [z1]; rfl), if_pos z1]
                rfl
              · rw [if_neg (show ¬ nI (slN W H (openN W H (cu a)) x y) = 0 from nne0 (by omega) z1), if_neg z1]
                by_cases z2 : andn (slN W H (openN W H (cu a)) x y) (openN W H (cu b)) = 0
                · rw [if_pos (show nI (andn (slN W H (openN W H (cu a)) x y) (openN W H (cu b))) = 0 by rw [z2]; rfl), if_pos z2]
                · rw [if_neg (show ¬ nI (andn (slN W H (openN W H (cu a)) x y) (openN W H (cu b))) = 0 from nne0 (by omega) z2), if_neg z2]
                  rfl
        have q2 : L_X11_within_37 w 1000000 m x1 (nI a) (nI b) 0 0 = some (nI (foldN (fun i s => s + wiB W H (openN W H (cu a)) (openN W H (cu b)) (i % 5) (i / 5)) 0 25), m) := by
          refine lp_up (L := fun f s k => L_X11_within_37 w f m x1 (nI a) (nI b) (nI s) (nI k)) (N := 25) (f := fun i s => s + wiB W H (openN W H (cu a)) (openN W H (cu b)) (i % 5) (i / 5)) (post := fun a => some (nI a, m)) (fun _ s => True) (fun f s _ => ?_) (fun f k s hk _ => ⟨?_, trivial⟩) (F := 1000000) (by omega) 0 trivial
          · exact if_pos (by decide)
          · have e25 : (25 : Int32) = nI 25 := rfl
            show L_X11_within_37 w (f + 1) m x1 (nI a) (nI b) (nI s) (nI k) = L_X11_within_37 w f m x1 (nI a) (nI b) (nI (s + wiB W H (openN W H (cu a)) (openN W H (cu b)) (k % 5) (k / 5))) (nI (k + 1))
            have h1 := hsl (k % 5) (k / 5) (by omega) (by omega)
            have h2 := andn_le (slN W H (openN W H (cu a)) (k % 5) (k / 5)) (openN W H (cu b))
            unfold wiB
            rw [L_X11_within_37, if_neg (by rw [e25, nle (by omega) (by omega)]; omega), ck6 (by omega), ncl (a := a) (by omega), hd.op (s := a) (by omega), e5, nrem (by omega) (by omega) (by omega), ndiv (by omega) (by omega) (by omega), m_slid w hWH hd.mw (by omega) (by omega) oa, Option.bind_some, ck6 (by omega), ncl (by omega), hd.op (by omega), nandn, i1, nadd, nadd]
            by_cases z1 : slN W H (openN W H (cu a)) (k % 5) (k / 5) = 0
            · rw [if_pos (show nI (slN W H (openN W H (cu a)) (k % 5) (k / 5)) = 0 by rw [z1]; rfl), if_pos z1, i0, nadd]
            · rw [if_neg (show ¬ nI (slN W H (openN W H (cu a)) (k % 5) (k / 5)) = 0 from nne0 (by omega) z1), if_neg z1]
              by_cases z2 : andn (slN W H (openN W H (cu a)) (k % 5) (k / 5)) (openN W H (cu b)) = 0
              · rw [if_pos (show nI (andn (slN W H (openN W H (cu a)) (k % 5) (k / 5)) (openN W H (cu b))) = 0 by rw [z2]; rfl), if_pos z2]
              · rw [if_neg (show ¬ nI (andn (slN W H (openN W H (cu a)) (k % 5) (k / 5)) (openN W H (cu b))) = 0 from nne0 (by omega) z2), if_neg z2, i0, nadd]
        rw [q1, Option.bind_some, q2]
        exact ⟨_, _, rfl, rfl⟩
      · rw [if_neg fun q => h3 ((hc.sheet ok _).mp q), if_neg fun q => h3 ((hd.sheet ok _).mp q)]
        exact ⟨_, _, rfl, rfl⟩
    · rw [if_neg fun q => h2 ((hc.sheet ok _).mp q), if_neg fun q => h2 ((hd.sheet ok _).mp q)]
      exact ⟨_, _, rfl, rfl⟩
  obtain ⟨c, h1, e, h2, h3⟩ := key
  exact ⟨c, h1, e, h2, h3, Inv_m I (kp_X11_within h2)⟩
