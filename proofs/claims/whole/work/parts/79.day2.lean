/-! A DAY: a deed in the class -/
theorem ck01 {α : Type} {x : Int32} (h : x = 0 ∨ x = 1) (y : Option α) : ck (x = 0 ∨ x = 1) y = y := if_pos h
def fiN (fi t : Int32) (h : Nat) : Int32 := if fi = -1 ∧ h ≠ 0 then t else fi
theorem fi_0 (fi t : Int32) : fiN fi t 0 = fi := if_neg fun q => q.2 rfl
theorem fi_add {fi t : Int32} (ht : t ≠ -1) (h k : Nat) : (if fiN fi t h = -1 ∧ k ≠ 0 then t else fiN fi t h) = fiN fi t (h + k) := by
  unfold fiN
  by_cases h0 : fi = -1 <;> by_cases h1 : h = 0 <;> by_cases h2 : k = 0 <;> simp [h0, h1, h2, ht]
/-- the colours over which a spray goes -/
theorem c_paint {m0 : MI} {w : WS} {s c C A ov : Nat} {wa : Nat → Nat} {fi : Int32} (hs : s < 6) (h1 : 1 ≤ c) (hc : c < 10) (hC : C ≤ 25) (ht : m0 8 0 6 ≠ -1) (h37 : ∀ c, 1 ≤ c → c < 10 → m0 37 0 c = nI (colN wa C c)) (h10 : m0 8 0 10 = nI ov) (h9 : m0 8 0 9 = fi) :
    ∃ m, (∀ k, 1 ≤ k → k < 10 → m 37 0 k = nI (if k = c then colN wa C c else andn (colN wa C k) A)) ∧ m 8 0 10 = nI (ov + hitN C wa A c 9) ∧ m 8 0 9 = fiN fi (m0 8 0 6) (hitN C wa A c 9) ∧ (∀ c i j, ¬ (c = 37 ∧ i = 0) → ¬ (c = 8 ∧ i = 0 ∧ (j = 9 ∨ j = 10)) → m c i j = m0 c i j) ∧
      L_X9_sprayOn_40 w 1000000 m0 (nI s) (nI c) (nI A) 1 = some ((1 : Int32), u3 (u3 (u3 m 37 0 c (m 37 0 c ||| nI A)) 39 0 s (m 39 0 s + 1)) 8 0 7 (m 8 0 7 + 1)) := by
  have key := lp_inv (L := fun n m k => L_X9_sprayOn_40 w n m (nI s) (nI c) (nI A) (nI (k + 1))) (N := 9) (post := fun m => some ((1 : Int32), u3 (u3 (u3 m 37 0 c (m 37 0 c ||| nI A)) 39 0 s (m 39 0 s + 1)) 8 0 7 (m 8 0 7 + 1)))
    (fun k m => (∀ o, 1 ≤ o → o < 10 → m 37 0 o = nI (if o ≤ k ∧ o ≠ c then andn (colN wa C o) A else colN wa C o)) ∧ m 8 0 10 = nI (ov + hitN C wa A c k) ∧ m 8 0 9 = fiN fi (m0 8 0 6) (hitN C wa A c k) ∧ (∀ c i j, ¬ (c = 37 ∧ i = 0) → ¬ (c = 8 ∧ i = 0 ∧ (j = 9 ∨ j = 10)) → m c i j = m0 c i j)) (fun n m hI => ?_) (fun n k m hk hI => ?_) (F := 1000000) (by omega) m0 ⟨fun o ho1 ho => by rw [if_neg (by omega)]; exact h37 o ho1 ho, by rw [hit_0]; exact h10, by rw [hit_0, fi_0]; exact h9, fun _ _ _ _ _ => rfl⟩
  · obtain ⟨m, ⟨g1, g2, g3, g4⟩, g5⟩ := key
    refine ⟨m, fun k hk1 hk => ?_, g2, g3, g4, g5⟩
    rw [g1 k hk1 hk]
    by_cases e : k = c
    · rw [if_neg (fun q => q.2 e), if_pos e, e]
    · rw [if_pos ⟨by omega, e⟩, if_neg e]
  · rw [L_X9_sprayOn_40, if_pos (show (10 : Int32) ≤ nI (9 + 1) by decide)]
    simp (disch := omega) only [ncl, ckJ, lt_e]
    rw [u3_n (m := m) (c := 37) (c' := 39) (by omega), u3_n (c' := 8) (k' := 7) (by omega), u3_n (c' := 8) (k' := 7) (by omega)]
  · obtain ⟨g1, g2, g3, g4⟩ := hI
    have hX : colN wa C (k + 1) < 33554432 := Nat.lt_of_lt_of_le (col_lt wa C (k + 1)) (Nat.pow_le_pow_right (n := 2) (by omega) hC)
    have ge : ¬ (10 : Int32) ≤ nI (k + 1) := by
      have e10 : (10 : Int32) = nI 10 := rfl
      rw [e10, nle (by omega) (by omega)]; omega
    by_cases e : k + 1 = c
    · refine ⟨m, ?_, ⟨fun o ho1 ho => ?_, ?_, ?_, g4⟩⟩
      · show L_X9_sprayOn_40 w (n + 1) m (nI s) (nI c) (nI A) (nI (k + 1)) = L_X9_sprayOn_40 w n m (nI s) (nI c) (nI A) (nI (k + 1 + 1))
        rw [L_X9_sprayOn_40, if_neg ge, if_pos (by rw [e]), i1, nadd]
      · rw [g1 o ho1 ho]
        by_cases q : o ≤ k ∧ o ≠ c
        · rw [if_pos q, if_pos (by omega)]
        · rw [if_neg q, if_neg (by omega)]
      · rw [g2, hit_succ hC, if_pos e, Nat.add_zero]
      · rw [g3, hit_succ hC, if_pos e, Nat.add_zero]
    · have h0 := g1 (k + 1) (by omega) (by omega)
      rw [if_neg (by omega)] at h0
      obtain ⟨m', e1, e2, e3, e4, e5⟩ := c_overlay (w := w) (A := A) (show k + 1 < 10 by omega) h0 hX
      refine ⟨m', ?_, ⟨fun o ho1 ho => ?_, ?_, ?_, fun c' i j q1 q2 => ?_⟩⟩
      · show L_X9_sprayOn_40 w (n + 1) m (nI s) (nI c) (nI A) (nI (k + 1)) = L_X9_sprayOn_40 w n m' (nI s) (nI c) (nI A) (nI (k + 1 + 1))
        rw [L_X9_sprayOn_40, if_neg ge, if_neg (nne (by omega) (by omega) e), e1, Option.bind_some, i1, nadd]
      · by_cases q : o = k + 1
        · rw [q, e2, if_pos ⟨by omega, e⟩]
        · rw [e5 _ _ _ (by omega) (by omega), g1 o ho1 ho]
          by_cases q : o ≤ k ∧ o ≠ c
          · rw [if_pos q, if_pos (by omega)]
          · rw [if_neg q, if_neg (by omega)]
      · rw [e3, g2, hit_succ hC, if_neg e, nadd, Nat.add_assoc]
      · rw [e4, g3, g4 8 0 6 (by omega) (by omega), hit_succ hC, if_neg e]
        exact fi_add ht _ _
      · rw [e5 _ _ _ (by omega) (by omega)]
        exact g4 c' i j q1 q2
theorem col_spray {wa : Nat → Nat} {C A c k : Nat} (hA : A < 2 ^ C) : colN (fun p => if A.testBit p then c else wa p) C k = if k = c then colN wa C c ||| A else andn (colN wa C k) A := by
  refine eq_tb fun i => ?_
  rw [col_tb]
  have hi : A.testBit i = true → i < C := fun h => lt_tb hA h
  by_cases e : k = c
  · rw [if_pos e, Nat.testBit_or, Bool.or_eq_true, col_tb]
    cases h : A.testBit i
    · simp [e]
    · simp only [if_pos]
      simp [hi h, e]
  · rw [if_neg e, tb_andn, Bool.and_eq_true, col_tb]
    cases h : A.testBit i
    · simp
    · simp only [if_pos]
      simp
      omega
theorem col_wash {wa : Nat → Nat} {C c k : Nat} (hk : 1 ≤ k) : colN (fun p => if wa p = c then 0 else wa p) C k = if k = c then 0 else colN wa C k := by
  refine eq_tb fun i => ?_
  rw [col_tb]
  by_cases e : k = c
  · rw [if_pos e]
    constructor
    · rintro ⟨-, h⟩
      split at h <;> omega
    · intro h; simp at h
  · rw [if_neg e, col_tb]
    constructor
    · rintro ⟨h1, h⟩
      split at h
      · omega
      · exact ⟨h1, h⟩
    · rintro ⟨h1, h⟩
      refine ⟨h1, ?_⟩
      rw [if_neg (by omega)]; exact h
/-- what a deed does in the class -/
def CAct (mi : MI) (w : WS) (W H n : Nat) (we : Nat → Nat) (D : DS) (r : Option (Int32 × MI)) (o : Option DS) : Prop :=
  (o = none ∧ r = some (0, mi)) ∨ ∃ D' mi', o = some D' ∧ r = some (1, mi') ∧ DC mi' W H D' ∧ DOK W H we D' ∧ mi' 8 0 6 = mi 8 0 6 ∧ mi' 8 0 8 = mi 8 0 8
theorem c_spray {mi : MI} {w : WS} {W H sl n s c : Nat} {cu we : Nat → Nat} {D : DS} (ok : shOK W H sl n cu we) (hs : ShC mi w.1 W H sl n cu we) (hd : DC mi W H D) (hD : DOK W H we D) (s6 : s < 6) (c1 : 1 ≤ c) (c9 : c ≤ 9) (ht : mi 8 0 6 ≠ -1) :
    CAct mi w W H n we D (F_X9_sprayOn mi w (nI s) (nI c)) (if we s ≤ D.1.2.1 s then none else some (sprD W H (mi 8 0 6) D s c)) := by
  have hw := (ok.2.2.2.2.2 s s6)
  obtain ⟨d1, d2, d3, d4⟩ := hD.1 s s6
  have e10 : (10 : Int32) = nI 10 := rfl
  unfold F_X9_sprayOn
  rw [if_neg (show ¬ nI c < 1 by rw [i1, nlt (by omega) (by omega)]; omega), if_neg (show ¬ (10 : Int32) ≤ nI c by rw [e10, nle (by omega) (by omega)]; omega), ck6 s6, ck6 s6, ncl (by omega), hs.wear s6, (hd.1 s s6).2.1]
  by_cases e : we s ≤ D.1.2.1 s
  · rw [if_neg (by rw [nlt (by omega) (by omega)]; omega), if_pos e]
    exact Or.inl ⟨rfl, rfl⟩
  · rw [if_pos (by rw [nlt (by omega) (by omega)]; omega), if_neg e, c_now ok.bw hs.cw hD hd s6, Option.bind_some]
    have hA := now_lt ok.bw hD s6
    obtain ⟨h1, h2, h3, h4, h5, h6⟩ := hd
    obtain ⟨m, g1, g2, g3, g4, g5⟩ := c_paint (w := w) (A := nowN W H D s) (c := c) s6 c1 (by omega) ok.cells ht h2 h4 h6
    refine Or.inr ⟨_, _, rfl, g5, ⟨fun k hk => ?_, fun k hk1 hk => ?_, ?_, ?_, ?_, ?_⟩, ⟨fun k hk => ?_, fun p => ?_, ?_⟩, ?_, ?_⟩
    · obtain ⟨a1, a2, a3, a4⟩ := h1 k hk
      refine ⟨by rw [u3_n (by omega), u3_n (by omega), u3_n (by omega), g4 _ _ _ (by omega) (by omega)]; exact a1, ?_, by rw [u3_n (by omega), u3_n (by omega), u3_n (by omega), g4 _ _ _ (by omega) (by omega)]; exact a3, by rw [u3_n (by omega), u3_n (by omega), u3_n (by omega), g4 _ _ _ (by omega) (by omega)]; exact a4⟩
      show _ = nI (updN D.1.2.1 s (D.1.2.1 s + 1) k)
      rw [u3_n (show 39 ≠ 8 ∨ 0 ≠ 0 ∨ k ≠ 7 by omega)]
      by_cases q : k = s
      · rw [q, u3_s, updN_s, g4 _ _ _ (by omega) (by omega), (h1 s s6).2.1, i1, nadd]
      · rw [u3_n (by omega), u3_n (by omega), updN_n q, g4 _ _ _ (by omega) (by omega), a2]
    · rw [u3_n (by omega), u3_n (by omega)]
      show _ = nI (colN (fun p => if (nowN W H D s).testBit p then c else D.2.1 p) (W * H) k)
      rw [col_spray hA]
      by_cases q : k = c
      · rw [q, u3_s, g1 c c1 (by omega), if_pos rfl, if_pos rfl, nor]
      · rw [u3_n (by omega), g1 k hk1 hk, if_neg q, if_neg q]
    · rw [u3_s, g4 8 0 7 (by omega) (by omega), h3, i1, nadd]
      rfl
    · rw [u3_n (by omega), u3_n (by omega), u3_n (by omega)]
      exact g2
    · rw [u3_n (by omega), u3_n (by omega), u3_n (by omega), g4 _ _ _ (by omega) (by omega)]
      exact h5
    · rw [u3_n (by omega), u3_n (by omega), u3_n (by omega)]
      exact g3
    · obtain ⟨b1, b2, b3, b4⟩ := hD.1 k hk
      refine ⟨b1, ?_, b3, b4⟩
      show updN D.1.2.1 s (D.1.2.1 s + 1) k ≤ we k
      by_cases q : k = s
      · rw [q, updN_s]; omega
      · rw [updN_n q]; exact b2
    · show (if (nowN W H D s).testBit p then c else D.2.1 p) ≤ 9
      have := hD.2.1 p
      split <;> omega
    · show (if D.2.2.2.2.2 = -1 ∧ hitN (W * H) D.2.1 (nowN W H D s) c 9 ≠ 0 then mi 8 0 6 else D.2.2.2.2.2) = -1 ↔ D.2.2.2.1 + hitN (W * H) D.2.1 (nowN W H D s) c 9 = 0
      have hf := hD.2.2
      generalize hitN (W * H) D.2.1 (nowN W H D s) c 9 = q at *
      by_cases z : D.2.2.2.2.2 = -1 ∧ q ≠ 0
      · rw [if_pos z]
        exact ⟨fun y => absurd y ht, fun y => absurd (show q = 0 by omega) z.2⟩
      · rw [if_neg z, hf]
        constructor
        · intro y
          have : q = 0 := Decidable.byContradiction fun x => z ⟨hf.mpr y, x⟩
          omega
        · intro y; omega
    · rw [u3_n (by omega), u3_n (by omega), u3_n (by omega), g4 _ _ _ (by omega) (by omega)]
    · rw [u3_n (by omega), u3_n (by omega), u3_n (by omega), g4 _ _ _ (by omega) (by omega)]
theorem c_wash {mi : MI} {w : WS} {W H n c : Nat} {we : Nat → Nat} {D : DS} (b : BW W H) (hd : DC mi W H D) (hD : DOK W H we D) (c1 : 1 ≤ c) (c9 : c ≤ 9) :
    CAct mi w W H n we D (F_X9_washOff mi w (nI c)) (if colN D.2.1 (W * H) c = 0 then none else some (wshD (W * H) D c)) := by
  have e10 : (10 : Int32) = nI 10 := rfl
  have hX := pw (col_lt D.2.1 (W * H) c) (cells_le b.1.2 b.2.2)
  obtain ⟨h1, h2, h3, h4, h5, h6⟩ := hd
  unfold F_X9_washOff
  rw [if_neg (show ¬ nI c < 1 by rw [i1, nlt (by omega) (by omega)]; omega), if_neg (show ¬ (10 : Int32) ≤ nI c by rw [e10, nle (by omega) (by omega)]; omega)]
  simp (disch := omega) only [ncl, ckJ, lt_e]
  rw [h2 c c1 (by omega)]
  by_cases e : colN D.2.1 (W * H) c = 0
  · rw [if_pos (by rw [e]; rfl), if_pos e]
    exact Or.inl ⟨rfl, rfl⟩
  · rw [if_neg (nne0 (by omega) e), if_neg e, c_pop hX, h5, nadd]
    refine Or.inr ⟨_, _, rfl, rfl, ⟨fun k hk => ?_, fun k hk1 hk => ?_, ?_, ?_, ?_, ?_⟩, ⟨hD.1, fun p => ?_, hD.2.2⟩, ?_, ?_⟩
    · rw [u3_n (by omega), u3_n (by omega), u3_n (by omega), u3_n (by omega), u3_n (by omega), u3_n (by omega), u3_n (by omega), u3_n (by omega)]
      exact h1 k hk
    · show _ = nI (colN (fun p => if D.2.1 p = c then 0 else D.2.1 p) (W * H) k)
      rw [col_wash hk1]
      by_cases q : k = c
      · rw [q, u3_s, if_pos rfl]; rfl
      · rw [u3_n (by omega), u3_n (by omega), if_neg q]
        exact h2 k hk1 hk
    · rw [u3_n (by omega), u3_n (by omega)]; exact h3
    · rw [u3_n (by omega), u3_n (by omega)]; exact h4
    · rw [u3_n (by omega), u3_s]
      rfl
    · rw [u3_n (by omega), u3_n (by omega)]; exact h6
    · show (if D.2.1 p = c then 0 else D.2.1 p) ≤ 9
      have := hD.2.1 p
      split <;> omega
    · rw [u3_n (by omega), u3_n (by omega)]
    · rw [u3_n (by omega), u3_n (by omega)]
theorem c_cutD {mi : MI} {w : WS} {W H n s x : Nat} {we : Nat → Nat} {D : DS} (hd : DC mi W H D) (hD : DOK W H we D) (s6 : s < 6) (hx : x < 2 ^ (W * H)) : CAct mi w W H n we D (some ((1 : Int32), u3 mi 38 0 s (nI x))) (some (cutD D s x)) := by
  obtain ⟨h1, h2, h3, h4, h5, h6⟩ := hd
  refine Or.inr ⟨_, _, rfl, rfl, ⟨fun k hk => ?_, fun k hk1 hk => by rw [u3_n (by omega)]; exact h2 k hk1 hk, by rw [u3_n (by omega)]; exact h3, by rw [u3_n (by omega)]; exact h4, by rw [u3_n (by omega)]; exact h5, by rw [u3_n (by omega)]; exact h6⟩, ⟨fun k hk => ?_, hD.2.1, hD.2.2⟩, u3_n (by omega), u3_n (by omega)⟩
  · obtain ⟨a1, a2, a3, a4⟩ := h1 k hk
    refine ⟨?_, by rw [u3_n (by omega)]; exact a2, by rw [u3_n (by omega)]; exact a3, by rw [u3_n (by omega)]; exact a4⟩
    show _ = nI (updN D.1.1 s x k)
    by_cases q : k = s
    · rw [q, u3_s, updN_s]
    · rw [u3_n (by omega), updN_n q]; exact a1
  · obtain ⟨a1, a2⟩ := hD.1 k hk
    refine ⟨?_, a2⟩
    show updN D.1.1 s x k < _
    by_cases q : k = s
    · rw [q, updN_s]; exact hx
    · rw [updN_n q]; exact a1
theorem c_slide {mi : MI} {w : WS} {W H n s x y : Nat} {we : Nat → Nat} {D : DS} (hd : DC mi W H D) (hD : DOK W H we D) (s6 : s < 6) (hx : x < 5) (hy : y < 5) :
    CAct mi w W H n we D (F_X9_slideTo mi w (nI s) (nI x) (nI y)) (if D.1.2.2.1 s = x ∧ D.1.2.2.2 s = y then none else some (sldD D s x y)) := by
  have hd0 := hd
  obtain ⟨h1, h2, h3, h4, h5, h6⟩ := hd
  obtain ⟨-, -, d3, d4⟩ := hD.1 s s6
  have up : CAct mi w W H n we D (some ((1 : Int32), u3 (u3 mi 40 0 s (nI x)) 41 0 s (nI y))) (some (sldD D s x y)) := by
    refine Or.inr ⟨_, _, rfl, rfl, ⟨fun k hk => ?_, fun k hk1 hk => by rw [u3_n (by omega), u3_n (by omega)]; exact h2 k hk1 hk, by rw [u3_n (by omega), u3_n (by omega)]; exact h3, by rw [u3_n (by omega), u3_n (by omega)]; exact h4, by rw [u3_n (by omega), u3_n (by omega)]; exact h5, by rw [u3_n (by omega), u3_n (by omega)]; exact h6⟩, ⟨fun k hk => ?_, hD.2.1, hD.2.2⟩, by rw [u3_n (by omega), u3_n (by omega)], by rw [u3_n (by omega), u3_n (by omega)]⟩
    · obtain ⟨a1, a2, a3, a4⟩ := h1 k hk
      refine ⟨by rw [u3_n (by omega), u3_n (by omega)]; exact a1, by rw [u3_n (by omega), u3_n (by omega)]; exact a2, ?_, ?_⟩
      · show _ = nI (updN D.1.2.2.1 s x k)
        by_cases q : k = s
        · rw [q, u3_n (by omega), u3_s, updN_s]
        · rw [u3_n (by omega), u3_n (by omega), updN_n q]; exact a3
      · show _ = nI (updN D.1.2.2.2 s y k)
        by_cases q : k = s
        · rw [q, u3_s, updN_s]
        · rw [u3_n (by omega), u3_n (by omega), updN_n q]; exact a4
    · obtain ⟨a1, a2, a3, a4⟩ := hD.1 k hk
      refine ⟨a1, a2, ?_, ?_⟩
      · show updN D.1.2.2.1 s x k < 5
        by_cases q : k = s
        · rw [q, updN_s]; exact hx
        · rw [updN_n q]; exact a3
      · show updN D.1.2.2.2 s y k < 5
        by_cases q : k = s
        · rw [q, updN_s]; exact hy
        · rw [updN_n q]; exact a4
  unfold F_X9_slideTo
  simp (disch := omega) only [ncl, ckJ, lt_e]
  rw [(h1 s s6).2.2.1, (h1 s s6).2.2.2]
  by_cases e1 : D.1.2.2.1 s = x
  · by_cases e2 : D.1.2.2.2 s = y
    · rw [if_pos (show nI (D.1.2.2.1 s) = nI x by rw [e1]), if_pos (show nI (D.1.2.2.2 s) = nI y by rw [e2]), if_pos ⟨e1, e2⟩]
      exact Or.inl ⟨rfl, rfl⟩
    · rw [if_pos (show nI (D.1.2.2.1 s) = nI x by rw [e1]), if_neg (nne (by omega) (by omega) e2), if_neg fun q => e2 q.2]
      exact up
  · rw [if_neg (nne (by omega) (by omega) e1), if_neg fun q => e1 q.1]
    exact up
theorem and_bit {X k : Nat} : (X &&& 1 <<< k = 0) ↔ X.testBit k = false := by
  constructor
  · intro h
    have h2 : (X &&& 1 <<< k).testBit k = (X.testBit k && true) := by rw [Nat.testBit_and, one_tb.mpr rfl]
    rw [h, Bool.and_true, Nat.zero_testBit] at h2
    exact h2.symm
  · intro h
    refine eq_tb fun i => ?_
    rw [Nat.testBit_and, Bool.and_eq_true, one_tb, Nat.zero_testBit]
    constructor
    · rintro ⟨h1, rfl⟩
      rw [h] at h1; cases h1
    · intro h; cases h
theorem c_patch {mi : MI} {w : WS} {W H sl n s x y : Nat} {cu we : Nat → Nat} {D : DS} (ok : shOK W H sl n cu we) (hs : ShC mi w.1 W H sl n cu we) (hd : DC mi W H D) (hD : DOK W H we D) (s6 : s < 6) (hx : x < 5) (hy : y < 5) :
    CAct mi w W H n we D (F_X9_patchAt mi w (nI s) (nI x) (nI y)) (if x < W ∧ y < H ∧ (D.1.1 s).testBit (W * y + x) = true then some (cutD D s (andn (D.1.1 s) (1 <<< (W * y + x)))) else none) := by
  obtain ⟨⟨hW, hW5⟩, hH, hH5⟩ := ok.bw
  have hX := (hD.1 s s6).1
  have hX2 := pw hX ok.cells
  unfold F_X9_patchAt
  rw [hs.1.1, hs.1.2.1]
  by_cases e : x < W ∧ y < H
  · obtain ⟨e1, e2⟩ := e
    have hk : W * y + x < W * H := by
      have := Nat.mul_le_mul_left W (show y + 1 ≤ H by omega)
      rw [Nat.mul_succ] at this; omega
    have hk2 := Nat.lt_of_lt_of_le hk ok.cells
    have sh : ((1 : Int32) <<< (((nI y * nI W) + nI x) &&& 31)) = nI (1 <<< (W * y + x)) := by
      rw [nmul, nadd, Nat.mul_comm y W, n31 (by omega), i1, nshl _ (by omega)]
    rw [if_pos ⟨nI_pos (by omega), by rw [nle (by omega) (by omega)]; omega, nI_pos (by omega), by rw [nle (by omega) (by omega)]; omega⟩]
    simp (disch := omega) only [ncl, ckJ, lt_e]
    rw [(hd.1 s s6).1, sh, nandn]
    cases q : (D.1.1 s).testBit (W * y + x)
    · rw [if_pos (by rw [nand0 hX2]; exact and_bit.mpr q), if_neg fun z => by cases z.2.2]
      exact Or.inl ⟨rfl, rfl⟩
    · rw [if_neg (fun z => by rw [nand0 hX2, and_bit, q] at z; cases z), if_pos ⟨e1, e2, rfl⟩]
      exact c_cutD hd hD s6 (andn_lt _ hX)
  · rw [if_neg (by rintro ⟨-, q1, -, q2⟩; rw [nle (by omega) (by omega)] at q1 q2; omega), if_neg (by rintro ⟨q1, q2, -⟩; omega)]
    exact Or.inl ⟨rfl, rfl⟩
theorem cact_ck {mi : MI} {w : WS} {W H n : Nat} {we : Nat → Nat} {D : DS} {r : Option (Int32 × MI)} {o : Option DS} (h : CAct mi w W H n we D r o) : CAct mi w W H n we D (r.bind fun c => ck (c.1 = 0 ∨ c.1 = 1) (some (c.1, c.2))) o := by
  rcases h with ⟨h1, h2⟩ | ⟨D', mi', h1, h2, h3⟩
  · exact Or.inl ⟨h1, by rw [h2]; rfl⟩
  · exact Or.inr ⟨D', mi', h1, by rw [h2]; rfl, h3⟩
theorem c_act {mi : MI} {w : WS} {W H sl n : Nat} {cu we : Nat → Nat} {D : DS} {q0 q1 q2 q3 : Int32} (ok : shOK W H sl n cu we) (hs : ShC mi w.1 W H sl n cu we) (hd : DC mi W H D) (hD : DOK W H we D) (ht : mi 8 0 6 ≠ -1) (hq : deedOK q0 q1 q2 q3) :
    CAct mi w W H n we D (F_X9_act mi w q0 q1 q2 q3) (doD W H n we (mi 8 0 6) D q0 q1 q2 q3) := by
  have hn := ok.cnt
  unfold F_X9_act doD
  have sheet : ∀ s, s < 6 → ((¬ (nI s < 0) ∧ (¬ ((mi 5 w.1 3) ≤ nI s) ∧ (¬ (6 ≤ nI s)))) ↔ s < n) := fun s h6 => by
    rw [hs.sheet ok]
    constructor
    · rintro ⟨k, hk, e⟩
      have := (nI_eq (by omega) (by omega)).mp e
      omega
    · exact fun h => ⟨s, h, rfl⟩
  rcases hq with ⟨rfl, ⟨s, s6, rfl⟩, ⟨c, c1, c9, rfl⟩, rfl⟩ | ⟨h0, ⟨s, s6, rfl⟩, rfl, rfl⟩ | ⟨h0, ⟨s, s6, rfl⟩, ⟨x, hx, rfl⟩, ⟨y, hy, rfl⟩⟩ | ⟨rfl, ⟨c, c1, c9, rfl⟩, rfl, rfl⟩
  · have e05 : ¬ (0 : Int32) = 5 := by decide
    rw [if_neg e05, if_neg e05]
    simp (disch := omega) only [ncl]
    by_cases e : s < n
    · rw [if_pos ((sheet s s6).mpr e), if_neg (show ¬ n ≤ s by omega), if_pos trivial, if_pos trivial]
      exact cact_ck (c_spray ok hs hd hD s6 c1 c9 ht)
    · rw [if_neg fun q => e ((sheet s s6).mp q), if_pos (show n ≤ s by omega)]
      exact Or.inl ⟨rfl, rfl⟩
  · have e5 : ¬ q0 = 5 := by rcases h0 with rfl | rfl <;> decide
    have e0 : ¬ q0 = 0 := by rcases h0 with rfl | rfl <;> decide
    rw [if_neg e5, if_neg e5]
    simp (disch := omega) only [ncl]
    by_cases e : s < n
    · have hX := (hD.1 s s6).1
      rw [if_pos ((sheet s s6).mpr e), if_neg (show ¬ n ≤ s by omega), if_neg e0, if_neg e0]
      rcases h0 with rfl | rfl
      · rw [if_pos (show (1 : Int32) = 1 from rfl), if_pos (show (1 : Int32) = 1 from rfl), ckJ s6 (by omega), (hd.1 s s6).1, c_flip w ok.bw hs.cw hX, Option.bind_some, ckJ s6 (by omega), lt_e]
        exact c_cutD hd hD s6 (fl_lt ok.bw.1.2 ok.bw.2.2 hX)
      · have e21 : ¬ (2 : Int32) = 1 := by decide
        rw [if_neg e21, if_neg e21, if_pos (show (2 : Int32) = 2 from rfl), if_pos (show (2 : Int32) = 2 from rfl), ckJ s6 (by omega), (hd.1 s s6).1, c_turn w ok.bw hs.cw hX, Option.bind_some, ckJ s6 (by omega), lt_e]
        exact c_cutD hd hD s6 (tu_lt ok.bw.1.2 ok.bw.2.2 hX)
    · rw [if_neg fun q => e ((sheet s s6).mp q), if_pos (show n ≤ s by omega)]
      exact Or.inl ⟨rfl, rfl⟩
  · have e5 : ¬ q0 = 5 := by rcases h0 with rfl | rfl <;> decide
    have e0 : ¬ q0 = 0 := by rcases h0 with rfl | rfl <;> decide
    have e1 : ¬ q0 = 1 := by rcases h0 with rfl | rfl <;> decide
    have e2 : ¬ q0 = 2 := by rcases h0 with rfl | rfl <;> decide
    rw [if_neg e5, if_neg e5]
    simp (disch := omega) only [ncl]
    by_cases e : s < n
    · rw [if_pos ((sheet s s6).mpr e), if_neg (show ¬ n ≤ s by omega), if_neg e0, if_neg e0, if_neg e1, if_neg e1, if_neg e2, if_neg e2]
      rcases h0 with rfl | rfl
      · rw [if_pos (show (3 : Int32) = 3 from rfl), if_pos (show (3 : Int32) = 3 from rfl)]
        exact cact_ck (c_slide hd hD s6 hx hy)
      · have e43 : ¬ (4 : Int32) = 3 := by decide
        rw [if_neg e43, if_neg e43, if_pos (show (4 : Int32) = 4 from rfl)]
        exact cact_ck (c_patch ok hs hd hD s6 hx hy)
    · rw [if_neg fun q => e ((sheet s s6).mp q), if_pos (show n ≤ s by omega)]
      exact Or.inl ⟨rfl, rfl⟩
  · rw [if_pos (show (5 : Int32) = 5 from rfl), if_pos (show (5 : Int32) = 5 from rfl)]
    simp (disch := omega) only [ncl]
    exact cact_ck (c_wash ok.bw hd hD c1 c9)
