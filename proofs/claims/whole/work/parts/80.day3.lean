/-! A DAY: a deed in the model -/
def DM (m : MI) (k W H n : Nat) (we : Nat → Nat) (D : DS) : Prop := MW m W H ∧ (m 10 0 23 = nI k ∧ m 10 0 27 = nI n) ∧ (∀ s, s < 6 → m 61 0 s = nI (D.1.1 s) ∧ m 62 0 s = nI (openN W H (D.1.1 s)) ∧ m 63 0 s = nI (D.1.2.2.1 s) ∧ m 64 0 s = nI (D.1.2.2.2 s) ∧ m 65 0 s = nI (D.1.2.1 s)) ∧ (∀ c, c < W * H → m 66 0 c = nI (D.2.1 c)) ∧ (m 10 0 28 = nI D.2.2.1 ∧ m 10 0 36 = nI D.2.2.2.1 ∧ m 10 0 37 = nI D.2.2.2.2.1) ∧ ∀ s, s < 6 → m 55 0 (40 * k + (34 + s)) = nI (we s)
def dOut (c i j : Nat) : Prop := ¬ (61 ≤ c ∧ c ≤ 66 ∧ i = 0) ∧ ¬ (c = 10 ∧ i = 0 ∧ (j = 28 ∨ j = 36 ∨ j = 37))
def MAct (m : MI) (k W H n : Nat) (we : Nat → Nat) (D : DS) (r : Option (Int32 × MI)) (o : Option DS) : Prop :=
  (o = none ∧ ∃ m', r = some (0, m') ∧ DM m' k W H n we D ∧ ∀ c i j, dOut c i j → m' c i j = m c i j) ∨ ∃ D' m', o = some D' ∧ r = some (1, m') ∧ DM m' k W H n we D' ∧ ∀ c i j, dOut c i j → m' c i j = m c i j
theorem MW_of {m m' : MI} {W H : Nat} (h : MW m W H) (e : ∀ j, 24 ≤ j → j ≤ 26 → m' 10 0 j = m 10 0 j) : MW m' W H := ⟨by rw [e 24 (by omega) (by omega)]; exact h.1, by rw [e 25 (by omega) (by omega)]; exact h.2.1, by rw [e 26 (by omega) (by omega)]; exact h.2.2⟩
theorem m_now {m : MI} {w : WS} {k W H n s : Nat} {we : Nat → Nat} {D : DS} (b : BW W H) (hD : DOK W H we D) (hd : DM m k W H n we D) (hs : s < 6) : F_X11_openNow m w (nI s) = some (nI (nowN W H D s)) := by
  obtain ⟨-, h1, h3, h4, -⟩ := hd.2.2.1 s hs
  unfold F_X11_openNow
  rw [ck6 hs, ck6 hs, ck6 hs, ncl (by omega), h1, h3, h4, m_slid w b hd.1 (hD.1 s hs).2.2.1 (hD.1 s hs).2.2.2 (open_lt (hD.1 s hs).1), Option.bind_some]
  rfl
theorem m_paint {m0 : MI} {w : WS} {c C A ov : Nat} {wa : Nat → Nat} (hc : c < 10) (hC : C ≤ 25) (hA : A < 2147483648) (h26 : m0 10 0 26 = nI C) (h66 : ∀ p, p < C → m0 66 0 p = nI (wa p)) (h9 : ∀ p, wa p ≤ 9) (h36 : m0 10 0 36 = nI ov) :
    ∃ m, F_X11_paint m0 w (nI A) (nI c) = some m ∧ (∀ p, p < C → m 66 0 p = nI (if A.testBit p then c else wa p)) ∧ m 10 0 36 = nI (ov + hitN C wa A c 9) ∧ ∀ c i j, ¬ (c = 66 ∧ i = 0) → ¬ (c = 10 ∧ i = 0 ∧ j = 36) → m c i j = m0 c i j := by
  have key := lp_inv (L := fun n m k => L_X11_paint_2 w n m (nI A) (nI c) (nI k)) (N := C) (post := fun m => some m)
    (fun k m => (∀ p, p < C → m 66 0 p = nI (if p < k ∧ A.testBit p = true then c else wa p)) ∧ m 10 0 36 = nI (ov + hitN k wa A c 9) ∧ ∀ c i j, ¬ (c = 66 ∧ i = 0) → ¬ (c = 10 ∧ i = 0 ∧ j = 36) → m c i j = m0 c i j) (fun n m hI => ?_) (fun n k m hk hI => ?_) (F := 1000000) (by omega) m0 ⟨fun p hp => by rw [if_neg (by omega)]; exact h66 p hp, h36, fun _ _ _ _ _ => rfl⟩
  · obtain ⟨m, ⟨g1, g2, g3⟩, g4⟩ := key
    refine ⟨m, g4, fun p hp => ?_, g2, g3⟩
    rw [g1 p hp]
    by_cases q : A.testBit p = true
    · rw [if_pos ⟨hp, q⟩, if_pos q]
    · rw [if_neg fun y => q y.2, if_neg q]
  · rw [L_X11_paint_2, if_pos (by rw [hI.2.2 _ _ _ (by omega) (by omega), h26, nle (by omega) (by omega)]; omega)]
  · obtain ⟨g1, g2, g3⟩ := hI
    have hge : ¬ (m 10 0 26) ≤ nI k := by rw [g3 _ _ _ (by omega) (by omega), h26, nle (by omega) (by omega)]; omega
    have hg := g1 k hk
    rw [if_neg (by omega)] at hg
    have h9k := h9 k
    have tb : (((nI A) >>> (nI k &&& 31)) &&& 1 = 1) = (A.testBit k = true) := by
      rw [n31 (by omega), nshr hA (by omega), i1, nand, bit1]
    show ∃ s', L_X11_paint_2 w (n + 1) m (nI A) (nI c) (nI k) = L_X11_paint_2 w n s' (nI A) (nI c) (nI (k + 1)) ∧ _
    rw [L_X11_paint_2, if_neg hge]
    by_cases q : A.testBit k = true
    · rw [if_pos (tb.mpr q)]
      simp (disch := omega) only [ncl, ckJ, lt_e]
      rw [hg, i1, nadd]
      have step : ∀ d : Nat, d = (if A.testBit k && (decide (wa k ≠ 0) && (decide (wa k ≤ 9) && decide (wa k ≠ c))) then 1 else 0) → ((∀ p, p < C → (u3 (u3 m 10 0 36 ((m 10 0 36) + nI d)) 66 0 k (nI c)) 66 0 p = nI (if p < k + 1 ∧ A.testBit p = true then c else wa p)) ∧ (u3 (u3 m 10 0 36 ((m 10 0 36) + nI d)) 66 0 k (nI c)) 10 0 36 = nI (ov + hitN (k + 1) wa A c 9) ∧ ∀ c' i j, ¬ (c' = 66 ∧ i = 0) → ¬ (c' = 10 ∧ i = 0 ∧ j = 36) → (u3 (u3 m 10 0 36 ((m 10 0 36) + nI d)) 66 0 k (nI c)) c' i j = m0 c' i j) := by
        intro d hd
        refine ⟨fun p hp => ?_, ?_, fun c' i j q1 q2 => ?_⟩
        · by_cases e : p = k
          · rw [e, u3_s, if_pos ⟨by omega, q⟩]
          · rw [u3_n (by omega), u3_n (by omega), g1 p hp]
            by_cases z : p < k ∧ A.testBit p = true
            · rw [if_pos z, if_pos ⟨by omega, z.2⟩]
            · rw [if_neg z, if_neg fun y => z ⟨by omega, y.2⟩]
        · rw [u3_n (by omega), u3_s, g2, nadd, hd, Nat.add_assoc]
          rfl
        · rw [u3_n (by omega), u3_n (by omega)]
          exact g3 c' i j q1 q2
      by_cases z : wa k = 0
      · rw [if_pos (by rw [z]; rfl)]
        exact ⟨_, rfl, step 0 (by rw [z]; simp)⟩
      · rw [if_neg (nne0 (by omega) z)]
        by_cases y : wa k = c
        · rw [if_pos (by rw [y])]
          exact ⟨_, rfl, step 0 (by rw [y]; simp)⟩
        · rw [if_neg (nne (by omega) (by omega) y)]
          exact ⟨_, rfl, step 1 (by rw [q]; simp [z, y, h9k])⟩
    · rw [if_neg fun z => q (tb.mp z), i1, nadd]
      refine ⟨m, rfl, fun p hp => ?_, ?_, g3⟩
      · rw [g1 p hp]
        by_cases z : p < k ∧ A.testBit p = true
        · rw [if_pos z, if_pos ⟨by omega, z.2⟩]
        · rw [if_neg z]
          by_cases e : p = k
          · rw [if_neg (by rw [e]; exact fun y => q y.2)]
          · rw [if_neg fun y => z ⟨by omega, y.2⟩]
      · rw [g2]
        have : hitN (k + 1) wa A c 9 = hitN k wa A c 9 + (if A.testBit k && (decide (wa k ≠ 0) && (decide (wa k ≤ 9) && decide (wa k ≠ c))) then 1 else 0) := rfl
        rw [this, if_neg (by simp [q])]
        rfl
theorem m_spray {m : MI} {w : WS} {j W H sl n s c : Nat} {cu we : Nat → Nat} {D : DS} (ok : shOK W H sl n cu we) (t : Int32) (hj : j < 2) (hd : DM m j W H n we D) (hD : DOK W H we D) (s6 : s < 6) (c1 : 1 ≤ c) (c9 : c ≤ 9) :
    MAct m j W H n we D (F_X11_spray m w (nI s) (nI c)) (if we s ≤ D.1.2.1 s then none else some (sprD W H t D s c)) := by
  have hw := (ok.2.2.2.2.2 s s6)
  obtain ⟨d1, d2, d3, d4⟩ := hD.1 s s6
  have hd0 := hd
  obtain ⟨h1, ⟨h23, h27⟩, h3, h4, ⟨h5, h6, h7⟩, h8⟩ := hd
  unfold F_X11_spray
  have e34 : (34 : Int32) = nI 34 := rfl
  rw [e34, nadd, m_of w h23 hj (by omega), h8 s s6, Option.bind_some]
  simp (disch := omega) only [ncl, ckJ]
  rw [(h3 s s6).2.2.2.2]
  by_cases e : we s ≤ D.1.2.1 s
  · rw [if_pos (show nI (D.1.2.1 s) = nI (we s) by rw [show D.1.2.1 s = we s by omega]), if_pos e]
    exact Or.inl ⟨rfl, m, rfl, hd0, fun _ _ _ _ => rfl⟩
  · rw [if_neg (nne (by omega) (by omega) (show D.1.2.1 s ≠ we s by omega)), if_neg e, lt_e, lt_e, i1, nadd, u3_n (by omega), h5, nadd]
    have f1 : ∀ c i j, ¬ (c = 65 ∧ i = 0 ∧ j = s) → ¬ (c = 10 ∧ i = 0 ∧ j = 28) → (u3 (u3 m 65 0 s (nI (D.1.2.1 s + 1))) 10 0 28 (nI (D.2.2.1 + 1))) c i j = m c i j := fun c i j q1 q2 => by rw [u3_n (by omega), u3_n (by omega)]
    have s28 : (u3 (u3 m 65 0 s (nI (D.1.2.1 s + 1))) 10 0 28 (nI (D.2.2.1 + 1))) 10 0 28 = nI (D.2.2.1 + 1) := u3_s
    have s65 : (u3 (u3 m 65 0 s (nI (D.1.2.1 s + 1))) 10 0 28 (nI (D.2.2.1 + 1))) 65 0 s = nI (D.1.2.1 s + 1) := by rw [u3_n (by omega), u3_s]
    generalize u3 (u3 m 65 0 s (nI (D.1.2.1 s + 1))) 10 0 28 (nI (D.2.2.1 + 1)) = m1 at *
    have mw1 : MW m1 W H := MW_of h1 fun j _ _ => f1 _ _ _ (by omega) (by omega)
    have hnow : F_X11_openNow m1 w (nI s) = some (nI (nowN W H D s)) := by
      unfold F_X11_openNow
      obtain ⟨-, a1, a3, a4, -⟩ := h3 s s6
      rw [ck6 s6, ck6 s6, ck6 s6, ncl (by omega), f1 62 _ _ (by omega) (by omega), f1 63 _ _ (by omega) (by omega), f1 64 _ _ (by omega) (by omega), a1, a3, a4, m_slid w ok.bw mw1 d3 d4 (open_lt d1), Option.bind_some]
      rfl
    have hA := now_lt ok.bw hD s6
    have hA2 := pw hA ok.cells
    obtain ⟨m2, g1, g2, g3, g4⟩ := m_paint (w := w) (A := nowN W H D s) (c := c) (C := W * H) (ov := D.2.2.2.1) (wa := D.2.1) (by omega) ok.cells (by omega) mw1.2.2 (fun p hp => by rw [f1 _ _ _ (by omega) (by omega)]; exact h4 p hp) hD.2.1 (by rw [f1 _ _ _ (by omega) (by omega)]; exact h6)
    rw [hnow, Option.bind_some, g1, Option.bind_some]
    have f2 : ∀ c i j, ¬ (c = 65 ∧ i = 0 ∧ j = s) → ¬ (c = 66 ∧ i = 0) → ¬ (c = 10 ∧ i = 0 ∧ (j = 28 ∨ j = 36)) → m2 c i j = m c i j := fun c i j q1 q2 q3 => by rw [g4 _ _ _ (by omega) (by omega), f1 _ _ _ (by omega) (by omega)]
    refine Or.inr ⟨_, m2, rfl, rfl, ⟨MW_of h1 fun j _ _ => f2 _ _ _ (by omega) (by omega) (by omega), ⟨by rw [f2 _ _ _ (by omega) (by omega) (by omega)]; exact h23, by rw [f2 _ _ _ (by omega) (by omega) (by omega)]; exact h27⟩, fun k hk => ?_, fun p hp => g2 p hp, ⟨?_, g3, ?_⟩, fun k hk => by rw [f2 _ _ _ (by omega) (by omega) (by omega)]; exact h8 k hk⟩, fun c i j q => ?_⟩
    · obtain ⟨a1, a2, a3, a4, a5⟩ := h3 k hk
      refine ⟨by rw [f2 _ _ _ (by omega) (by omega) (by omega)]; exact a1, by rw [f2 _ _ _ (by omega) (by omega) (by omega)]; exact a2, by rw [f2 _ _ _ (by omega) (by omega) (by omega)]; exact a3, by rw [f2 _ _ _ (by omega) (by omega) (by omega)]; exact a4, ?_⟩
      show _ = nI (updN D.1.2.1 s (D.1.2.1 s + 1) k)
      by_cases q : k = s
      · rw [q, updN_s, g4 _ _ _ (by omega) (by omega), s65]
      · rw [updN_n q, f2 _ _ _ (by omega) (by omega) (by omega), a5]
    · rw [g4 _ _ _ (by omega) (by omega), s28]
      rfl
    · rw [f2 _ _ _ (by omega) (by omega) (by omega), h7]
      rfl
    · obtain ⟨q1, q2⟩ := q
      exact f2 c i j (by omega) (by omega) (by omega)
theorem m_wash {m : MI} {w : WS} {k W H n c : Nat} {we : Nat → Nat} {D : DS} (b : BW W H) (hd : DM m k W H n we D) (hD : DOK W H we D) (c1 : 1 ≤ c) (c9 : c ≤ 9) :
    MAct m k W H n we D (F_X11_washes m w (nI c)) (if colN D.2.1 (W * H) c = 0 then none else some (wshD (W * H) D c)) := by
  have hC := cells_le b.1.2 b.2.2
  obtain ⟨h1, h2, h3, h4, ⟨h5, h6, h7⟩, h8⟩ := hd
  have key := lp_inv (L := fun n (s : MI × Nat) k => L_X11_washes_4 w n s.1 (nI c) (nI s.2) (nI k)) (N := W * H) (post := fun s => some (b2 (¬ (nI s.2 ≤ 0)), u3 s.1 10 0 37 ((s.1 10 0 37) + nI s.2)))
    (fun k s => (∀ p, p < W * H → s.1 66 0 p = nI (if p < k ∧ D.2.1 p = c then 0 else D.2.1 p)) ∧ s.2 = sN (fun p => if D.2.1 p = c then 1 else 0) k ∧ ∀ c i j, ¬ (c = 66 ∧ i = 0) → s.1 c i j = m c i j) (fun n s hI => ?_) (fun n k s hk hI => ?_) (F := 1000000) (by omega) (m, 0) ⟨fun p hp => by rw [if_neg (by omega)]; exact h4 p hp, rfl, fun _ _ _ _ => rfl⟩
  · obtain ⟨⟨m1, q⟩, ⟨g1, g2, g3⟩, g4⟩ := key
    dsimp only at g1 g2 g3 g4
    have hq : q = popN (colN D.2.1 (W * H) c) := by
      rw [g2, popC (col_lt _ _ _) hC]
      refine sN_congr fun p hp => ?_
      unfold bN
      rw [col_tb2 hp]
      by_cases z : D.2.1 p = c <;> simp [z]
    have hq25 : q ≤ 25 := by rw [hq]; exact popN_le _
    have h0 : popN (colN D.2.1 (W * H) c) = 0 ↔ colN D.2.1 (W * H) c = 0 := pop_0 (pw (col_lt _ _ _) hC)
    have dm : ∀ D' : DS, D'.1 = D.1 → D'.2.2.1 = D.2.2.1 → D'.2.2.2.1 = D.2.2.2.1 → D'.2.2.2.2.1 = D.2.2.2.2.1 + q → (∀ p, p < W * H → m1 66 0 p = nI (D'.2.1 p)) → DM (u3 m1 10 0 37 (m1 10 0 37 + nI q)) k W H n we D' := by
      intro D' e1 e2 e3 e4 e5
      refine ⟨MW_of h1 fun j _ _ => by rw [u3_n (by omega), g3 _ _ _ (by omega)], ⟨by rw [u3_n (by omega), g3 _ _ _ (by omega)]; exact h2.1, by rw [u3_n (by omega), g3 _ _ _ (by omega)]; exact h2.2⟩, fun k hk => ?_, fun p hp => by rw [u3_n (by omega)]; exact e5 p hp, ⟨by rw [u3_n (by omega), g3 _ _ _ (by omega), e2]; exact h5, by rw [u3_n (by omega), g3 _ _ _ (by omega), e3]; exact h6, by rw [u3_s, g3 _ _ _ (by omega), h7, nadd, e4]⟩, fun s hs => by rw [u3_n (by omega), g3 _ _ _ (by omega)]; exact h8 s hs⟩
      obtain ⟨a1, a2, a3, a4, a5⟩ := h3 k hk
      rw [e1]
      refine ⟨by rw [u3_n (by omega), g3 _ _ _ (by omega)]; exact a1, by rw [u3_n (by omega), g3 _ _ _ (by omega)]; exact a2, by rw [u3_n (by omega), g3 _ _ _ (by omega)]; exact a3, by rw [u3_n (by omega), g3 _ _ _ (by omega)]; exact a4, by rw [u3_n (by omega), g3 _ _ _ (by omega)]; exact a5⟩
    have fr : ∀ c i j, dOut c i j → (u3 m1 10 0 37 (m1 10 0 37 + nI q)) c i j = m c i j := fun c i j ⟨q1, q2⟩ => by rw [u3_n (by omega), g3 _ _ _ (by omega)]
    have e0 : F_X11_washes m w (nI c) = some (b2 (¬ (nI q ≤ 0)), u3 m1 10 0 37 (m1 10 0 37 + nI q)) := g4
    rw [e0]
    by_cases z : colN D.2.1 (W * H) c = 0
    · have q0 : q = 0 := by rw [hq]; exact h0.mpr z
      rw [if_pos z, b2_neg (by rw [q0]; decide)]
      refine Or.inl ⟨rfl, _, rfl, dm D rfl rfl rfl (by omega) fun p hp => ?_, fr⟩
      rw [g1 p hp, if_neg]
      rintro ⟨-, e⟩
      have := col_tb.mpr ⟨hp, e⟩
      rw [z, Nat.zero_testBit] at this
      cases this
    · have q0 : ¬ q = 0 := fun e => z (h0.mp (by omega))
      rw [if_neg z, b2_pos (by rw [i0, nle (by omega) (by omega)]; omega)]
      refine Or.inr ⟨_, _, rfl, rfl, dm _ rfl rfl rfl (by rw [hq]; rfl) fun p hp => ?_, fr⟩
      rw [g1 p hp]
      show _ = nI (if D.2.1 p = c then 0 else D.2.1 p)
      by_cases e : D.2.1 p = c
      · rw [if_pos ⟨hp, e⟩, if_pos e]
      · rw [if_neg fun y => e y.2, if_neg e]
  · show L_X11_washes_4 w (n + 1) s.1 (nI c) (nI s.2) (nI (W * H)) = _
    rw [L_X11_washes_4, if_pos (by rw [hI.2.2 _ _ _ (by omega), h1.2.2, nle (by omega) (by omega)]; omega), lt_e]
  · obtain ⟨g1, g2, g3⟩ := hI
    have hge : ¬ (s.1 10 0 26) ≤ nI k := by rw [g3 _ _ _ (by omega), h1.2.2, nle (by omega) (by omega)]; omega
    have hg := g1 k hk
    rw [if_neg (by omega)] at hg
    have h9k := hD.2.1 k
    show ∃ s' : MI × Nat, L_X11_washes_4 w (n + 1) s.1 (nI c) (nI s.2) (nI k) = L_X11_washes_4 w n s'.1 (nI c) (nI s'.2) (nI (k + 1)) ∧ _
    have eb : b2 (nI (D.2.1 k) = nI c) = nI (if D.2.1 k = c then 1 else 0) := by
      by_cases z : D.2.1 k = c
      · rw [if_pos z]; exact b2_pos (by rw [z])
      · rw [if_neg z]; exact b2_neg (nne (by omega) (by omega) z)
    rw [L_X11_washes_4, if_neg hge]
    simp (disch := omega) only [ncl, ckJ, lt_e]
    rw [hg, eb, nadd, i1, nadd]
    have step : ∀ v : Nat, v = (if D.2.1 k = c then 0 else D.2.1 k) → ((∀ p, p < W * H → (u3 s.1 66 0 k (nI v)) 66 0 p = nI (if p < k + 1 ∧ D.2.1 p = c then 0 else D.2.1 p)) ∧ s.2 + (if D.2.1 k = c then 1 else 0) = sN (fun p => if D.2.1 p = c then 1 else 0) (k + 1) ∧ ∀ c i j, ¬ (c = 66 ∧ i = 0) → (u3 s.1 66 0 k (nI v)) c i j = m c i j) := by
      intro v hv
      refine ⟨fun p hp => ?_, by rw [g2]; rfl, fun c i j q => by rw [u3_n (by omega)]; exact g3 c i j q⟩
      by_cases e : p = k
      · rw [e, u3_s, hv]
        by_cases z : D.2.1 k = c
        · rw [if_pos z, if_pos ⟨by omega, z⟩]
        · rw [if_neg z, if_neg fun y => z y.2]
      · rw [u3_n (by omega), g1 p hp]
        by_cases z : p < k ∧ D.2.1 p = c
        · rw [if_pos z, if_pos ⟨by omega, z.2⟩]
        · rw [if_neg z, if_neg fun y => z ⟨by omega, y.2⟩]
    by_cases z : D.2.1 k = c
    · rw [if_pos (show nI (D.2.1 k) = nI c by rw [z])]
      exact ⟨(u3 s.1 66 0 k (nI 0), s.2 + (if D.2.1 k = c then 1 else 0)), rfl, step 0 (by rw [if_pos z])⟩
    · rw [if_neg (nne (by omega) (by omega) z)]
      exact ⟨(u3 s.1 66 0 k (nI (D.2.1 k)), s.2 + (if D.2.1 k = c then 1 else 0)), rfl, step _ (by rw [if_neg z])⟩
theorem m_cutD {m : MI} {w : WS} {k W H n s x : Nat} {we : Nat → Nat} {D : DS} (b : BW W H) (hd : DM m k W H n we D) (s6 : s < 6) : MAct m k W H n we D (F_X11_cuts m w (nI s) (nI x)) (some (cutD D s x)) := by
  obtain ⟨h1, h2, h3, h4, h5, h8⟩ := hd
  unfold F_X11_cuts
  simp (disch := omega) only [ncl, ckJ, lt_e]
  rw [m_openBy w b (MW_of h1 fun j _ _ => u3_n (by omega)), Option.bind_some]
  have f : ∀ c i j, ¬ (c = 61 ∧ i = 0 ∧ j = s) → ¬ (c = 62 ∧ i = 0 ∧ j = s) → (u3 (u3 m 61 0 s (nI x)) 62 0 s (nI (openN W H x))) c i j = m c i j := fun c i j q1 q2 => by rw [u3_n (by omega), u3_n (by omega)]
  refine Or.inr ⟨_, _, rfl, rfl, ⟨MW_of h1 fun j _ _ => f _ _ _ (by omega) (by omega), ⟨by rw [f _ _ _ (by omega) (by omega)]; exact h2.1, by rw [f _ _ _ (by omega) (by omega)]; exact h2.2⟩, fun k hk => ?_, fun p hp => by rw [f _ _ _ (by omega) (by omega)]; exact h4 p hp, by rw [f _ _ _ (by omega) (by omega), f _ _ _ (by omega) (by omega), f _ _ _ (by omega) (by omega)]; exact h5, fun s hs => by rw [f _ _ _ (by omega) (by omega)]; exact h8 s hs⟩, fun c i j ⟨q1, q2⟩ => f c i j (by omega) (by omega)⟩
  obtain ⟨a1, a2, a3, a4, a5⟩ := h3 k hk
  refine ⟨?_, ?_, by rw [f _ _ _ (by omega) (by omega)]; exact a3, by rw [f _ _ _ (by omega) (by omega)]; exact a4, by rw [f _ _ _ (by omega) (by omega)]; exact a5⟩
  · show _ = nI (updN D.1.1 s x k)
    by_cases q : k = s
    · rw [q, u3_n (by omega), u3_s, updN_s]
    · rw [f _ _ _ (by omega) (by omega), updN_n q]; exact a1
  · show _ = nI (openN W H (updN D.1.1 s x k))
    by_cases q : k = s
    · rw [q, u3_s, updN_s]
    · rw [f _ _ _ (by omega) (by omega), updN_n q]; exact a2
theorem m_slide {m : MI} {w : WS} {k W H n s x y : Nat} {we : Nat → Nat} {D : DS} (hd : DM m k W H n we D) (hD : DOK W H we D) (s6 : s < 6) (hx : x < 5) (hy : y < 5) :
    MAct m k W H n we D (F_X11_slides m w (nI s) (nI x) (nI y)) (if D.1.2.2.1 s = x ∧ D.1.2.2.2 s = y then none else some (sldD D s x y)) := by
  have hd0 := hd
  obtain ⟨h1, h2, h3, h4, h5, h8⟩ := hd
  obtain ⟨-, -, d3, d4⟩ := hD.1 s s6
  have up : MAct m k W H n we D (some ((1 : Int32), u3 (u3 m 63 0 s (nI x)) 64 0 s (nI y))) (some (sldD D s x y)) := by
    have f : ∀ c i j, ¬ (c = 63 ∧ i = 0 ∧ j = s) → ¬ (c = 64 ∧ i = 0 ∧ j = s) → (u3 (u3 m 63 0 s (nI x)) 64 0 s (nI y)) c i j = m c i j := fun c i j q1 q2 => by rw [u3_n (by omega), u3_n (by omega)]
    refine Or.inr ⟨_, _, rfl, rfl, ⟨MW_of h1 fun j _ _ => f _ _ _ (by omega) (by omega), ⟨by rw [f _ _ _ (by omega) (by omega)]; exact h2.1, by rw [f _ _ _ (by omega) (by omega)]; exact h2.2⟩, fun k hk => ?_, fun p hp => by rw [f _ _ _ (by omega) (by omega)]; exact h4 p hp, by rw [f _ _ _ (by omega) (by omega), f _ _ _ (by omega) (by omega), f _ _ _ (by omega) (by omega)]; exact h5, fun s hs => by rw [f _ _ _ (by omega) (by omega)]; exact h8 s hs⟩, fun c i j ⟨q1, q2⟩ => f c i j (by omega) (by omega)⟩
    obtain ⟨a1, a2, a3, a4, a5⟩ := h3 k hk
    refine ⟨by rw [f _ _ _ (by omega) (by omega)]; exact a1, by rw [f _ _ _ (by omega) (by omega)]; exact a2, ?_, ?_, by rw [f _ _ _ (by omega) (by omega)]; exact a5⟩
    · show _ = nI (updN D.1.2.2.1 s x k)
      by_cases q : k = s
      · rw [q, u3_n (by omega), u3_s, updN_s]
      · rw [f _ _ _ (by omega) (by omega), updN_n q]; exact a3
    · show _ = nI (updN D.1.2.2.2 s y k)
      by_cases q : k = s
      · rw [q, u3_s, updN_s]
      · rw [f _ _ _ (by omega) (by omega), updN_n q]; exact a4
  unfold F_X11_slides
  simp (disch := omega) only [ncl, ckJ, lt_e]
  rw [(h3 s s6).2.2.1, (h3 s s6).2.2.2.1]
  by_cases e1 : D.1.2.2.1 s = x
  · by_cases e2 : D.1.2.2.2 s = y
    · rw [if_pos (show nI (D.1.2.2.1 s) = nI x by rw [e1]), if_pos (show nI (D.1.2.2.2 s) = nI y by rw [e2]), if_pos ⟨e1, e2⟩]
      exact Or.inl ⟨rfl, m, rfl, hd0, fun _ _ _ _ => rfl⟩
    · rw [if_pos (show nI (D.1.2.2.1 s) = nI x by rw [e1]), if_neg (nne (by omega) (by omega) e2), if_neg fun q => e2 q.2]
      exact up
  · rw [if_neg (nne (by omega) (by omega) e1), if_neg fun q => e1 q.1]
    exact up
theorem mact_ck {m : MI} {k W H n : Nat} {we : Nat → Nat} {D : DS} {r : Option (Int32 × MI)} {o : Option DS} (h : MAct m k W H n we D r o) : MAct m k W H n we D (r.bind fun c => ck (c.1 = 0 ∨ c.1 = 1) (some (c.1, c.2))) o := by
  rcases h with ⟨h1, m', h2, h3⟩ | ⟨D', mi', h1, h2, h3⟩
  · exact Or.inl ⟨h1, m', by rw [h2]; rfl, h3⟩
  · exact Or.inr ⟨D', mi', h1, by rw [h2]; rfl, h3⟩
theorem m_patch {m : MI} {w : WS} {k W H n s x y : Nat} {we : Nat → Nat} {D : DS} (b : BW W H) (hd : DM m k W H n we D) (hD : DOK W H we D) (s6 : s < 6) (hx : x < 5) (hy : y < 5) :
    MAct m k W H n we D (F_X11_patches m w (nI s) (nI x) (nI y)) (if x < W ∧ y < H ∧ (D.1.1 s).testBit (W * y + x) = true then some (cutD D s (andn (D.1.1 s) (1 <<< (W * y + x)))) else none) := by
  obtain ⟨⟨hW, hW5⟩, hH, hH5⟩ := id b
  have hC := cells_le hW5 hH5
  have hX := (hD.1 s s6).1
  have hX2 := pw hX hC
  have bad : (¬ (x < W ∧ y < H ∧ (D.1.1 s).testBit (W * y + x) = true)) → MAct m k W H n we D (some ((0 : Int32), m)) (if x < W ∧ y < H ∧ (D.1.1 s).testBit (W * y + x) = true then some (cutD D s (andn (D.1.1 s) (1 <<< (W * y + x)))) else none) := fun h => by
    rw [if_neg h]
    exact Or.inl ⟨rfl, m, rfl, hd, fun _ _ _ _ => rfl⟩
  unfold F_X11_patches
  rw [hd.1.1, hd.1.2.1]
  by_cases e1 : x < W
  · rw [if_neg (by rw [nle (by omega) (by omega)]; omega)]
    by_cases e2 : y < H
    · have hk : W * y + x < W * H := by
        have := Nat.mul_le_mul_left W (show y + 1 ≤ H by omega)
        rw [Nat.mul_succ] at this; omega
      rw [if_neg (by rw [nle (by omega) (by omega)]; omega)]
      simp (disch := omega) only [ncl, ckJ]
      rw [(hd.2.2.1 s s6).1, nmul, nadd, n31 (by omega), nshr (by omega) (by omega), i1, nand, nshl _ (by omega), nm1, nandn]
      by_cases q : (D.1.1 s).testBit (W * y + x) = true
      · rw [if_pos (by rw [bit1]; exact q), if_pos ⟨e1, e2, q⟩]
        rcases m_cutD (w := w) b hd s6 (x := andn (D.1.1 s) (1 <<< (W * y + x))) with ⟨g1, g2⟩ | ⟨D', m', g1, g2, g3⟩
        · cases g1
        · refine Or.inr ⟨D', m', g1, ?_, g3⟩
          rw [g2]
          rfl
      · rw [if_neg (by rw [bit1]; exact q)]
        exact bad fun z => q z.2.2
    · rw [if_pos (by rw [nle (by omega) (by omega)]; omega)]
      exact bad fun z => e2 z.2.1
  · rw [if_pos (by rw [nle (by omega) (by omega)]; omega)]
    exact bad fun z => e1 z.1
theorem m_act {m : MI} {w : WS} {j W H sl n : Nat} {cu we : Nat → Nat} {D : DS} {q0 q1 q2 q3 : Int32} (ok : shOK W H sl n cu we) (hj : j < 2) (hd : DM m j W H n we D) (hD : DOK W H we D) (t : Int32) (hq : deedOK q0 q1 q2 q3) :
    MAct m j W H n we D (F_X11_does m w q0 q1 q2 q3) (doD W H n we t D q0 q1 q2 q3) := by
  have hn := ok.cnt
  unfold F_X11_does doD
  have sheet : ∀ s, s < 6 → ((¬ (nI s < 0) ∧ (¬ (((m 10 0 27) - 1) < nI s))) ↔ s < n) := fun s h6 => by
    rw [hd.2.1.2, in_sheet (by omega)]
    constructor
    · rintro ⟨k, hk, e⟩
      have := (nI_eq (by omega) (by omega)).mp e
      omega
    · exact fun h => ⟨s, h, rfl⟩
  have no : MAct m j W H n we D (some ((0 : Int32), m)) none := Or.inl ⟨rfl, m, rfl, hd, fun _ _ _ _ => rfl⟩
  rcases hq with ⟨rfl, ⟨s, s6, rfl⟩, ⟨c, c1, c9, rfl⟩, rfl⟩ | ⟨h0, ⟨s, s6, rfl⟩, rfl, rfl⟩ | ⟨h0, ⟨s, s6, rfl⟩, ⟨x, hx, rfl⟩, ⟨y, hy, rfl⟩⟩ | ⟨rfl, ⟨c, c1, c9, rfl⟩, rfl, rfl⟩
  · have e05 : ¬ (0 : Int32) = 5 := by decide
    rw [if_neg e05, if_neg e05]
    simp (disch := omega) only [ncl]
    by_cases e : s < n
    · rw [if_pos ((sheet s s6).mpr e), if_neg (show ¬ n ≤ s by omega), if_pos trivial, if_pos trivial]
      exact mact_ck (m_spray ok t hj hd hD s6 c1 c9)
    · rw [if_neg fun q => e ((sheet s s6).mp q), if_pos (show n ≤ s by omega)]
      exact no
  · have e5 : ¬ q0 = 5 := by rcases h0 with rfl | rfl <;> decide
    have e0 : ¬ q0 = 0 := by rcases h0 with rfl | rfl <;> decide
    rw [if_neg e5, if_neg e5]
    simp (disch := omega) only [ncl]
    by_cases e : s < n
    · have hX := (hD.1 s s6).1
      rw [if_pos ((sheet s s6).mpr e), if_neg (show ¬ n ≤ s by omega), if_neg e0, if_neg e0]
      rcases h0 with rfl | rfl
      · rw [if_pos (show (1 : Int32) = 1 from rfl), if_pos (show (1 : Int32) = 1 from rfl), ckJ s6 (by omega), (hd.2.2.1 s s6).1, b2_neg (show ¬ (1 : Int32) = 2 by decide), m_flip w ok.bw hd.1 hX, Option.bind_some]
        exact mact_ck (m_cutD ok.bw hd s6)
      · have e21 : ¬ (2 : Int32) = 1 := by decide
        rw [if_neg e21, if_neg e21, if_pos (show (2 : Int32) = 2 from rfl), if_pos (show (2 : Int32) = 2 from rfl), ckJ s6 (by omega), (hd.2.2.1 s s6).1, b2_pos (show (2 : Int32) = 2 from rfl), m_turn w ok.bw hd.1 hX, Option.bind_some]
        exact mact_ck (m_cutD ok.bw hd s6)
    · rw [if_neg fun q => e ((sheet s s6).mp q), if_pos (show n ≤ s by omega)]
      exact no
  · have e5 : ¬ q0 = 5 := by rcases h0 with rfl | rfl <;> decide
    have e0 : ¬ q0 = 0 := by rcases h0 with rfl | rfl <;> decide
    have e1 : ¬ q0 = 1 := by rcases h0 with rfl | rfl <;> decide
    have e2 : ¬ q0 = 2 := by rcases h0 with rfl | rfl <;> decide
    rw [if_neg e5, if_neg e5]
    simp (disch := omega) only [ncl]
    by_cases e : s < n
    · rw [if_pos ((sheet s s6).mpr e), if_neg (show ¬ n ≤ s by omega), if_neg e0, if_neg e0, if_neg e1, if_neg e1, if_neg e2, if_neg e2]
      rcases h0 with rfl | rfl
      · rw [if_pos (show (3 : Int32) = 3 from rfl), if_pos (show (3 : Int32) = 3 from rfl)]
        exact mact_ck (m_slide hd hD s6 hx hy)
      · have e43 : ¬ (4 : Int32) = 3 := by decide
        rw [if_neg e43, if_neg e43]
        exact mact_ck (m_patch ok.bw hd hD s6 hx hy)
    · rw [if_neg fun q => e ((sheet s s6).mp q), if_pos (show n ≤ s by omega)]
      exact no
  · rw [if_pos (show (5 : Int32) = 5 from rfl), if_pos (show (5 : Int32) = 5 from rfl)]
    simp (disch := omega) only [ncl]
    exact mact_ck (m_wash ok.bw hd hD c1 c9)
