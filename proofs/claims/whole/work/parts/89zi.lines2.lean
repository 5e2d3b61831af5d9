/-! TEXT: the model's lines of a day, of marks, of a picture -/
theorem ln_d : liB 4 = false ∧ nuN 4 = 2 ∧ liB 5 = false ∧ nuN 5 = 1 ∧ liB 6 = false ∧ nuN 6 = 1 ∧ liB 7 = false ∧ nuN 7 = 3 ∧ liB 8 = false ∧ nuN 8 = 3 ∧ liB 9 = false ∧ nuN 9 = 1 ∧ liB 11 = false ∧ nuN 11 = 3 ∧ liB 12 = false ∧ nuN 12 = 2 := by decide
def kRow (mo : Nat) (d : Int32) (m : MI) (w : WS) : Option (Int32 × MI × WS) := (F_X11_keepRow (u3 m 60 0 0 d) w (nI mo)).bind fun c => some ((1 : Int32), c, w)
/-- rows of four: how many, and what they hold -/
def sM1 (m : MI) (mo n : Nat) (q : Nat → Int32) : Prop := n ≤ mo ∧ m 59 0 0 = nI n ∧ ∀ k, k < 4 * n → m 59 0 (1 + k) = q k
def qoW (n : Nat) (r q : Nat → Int32) (k : Nat) : Int32 := if 4 * n ≤ k then r (k - 4 * n) else q k
/-- a number of a line as the class holds it -/
def nuI (b : Nat → Nat) (len pos K j : Nat) : Int32 := if j < K then nI (tkV b len (poN b len pos j)) else -1
def rwI (b : Nat → Nat) (len pos K : Nat) (d : Int32) (p : Nat) : Int32 := if p = 0 then d else nuI b len pos K (p - 1)
def E1 (m : MI) (mo nm : Nat) (r : Nat → Int32) (m' : MI) : Prop := (∃ n', n' ≤ mo ∧ m' 59 0 0 = nI n') ∧ (nm < mo → ∀ q, sM1 m mo nm q → sM1 m' mo (nm + 1) (qoW nm r q))
theorem kRow_ok {m : MI} {w : WS} {mo n : Nat} {d : Int32} (hmo : mo ≤ 40) (hn : n ≤ mo) (h0 : m 59 0 0 = nI n) : ∃ m', kRow mo d m w = some (1, m', w) ∧ m' 59 0 0 = nI (min mo (n + 1)) ∧ (n < mo → ∀ p, p < 4 → m' 59 0 (1 + 4 * n + p) = if p = 0 then d else m 60 0 p) ∧ ∀ c i j, ¬ (c = 59 ∧ i = 0 ∧ j = 0) → ¬ (c = 59 ∧ i = 0 ∧ 1 + 4 * n ≤ j ∧ j < 1 + 4 * n + 4) → ¬ (c = 60 ∧ i = 0 ∧ j = 0) → m' c i j = m c i j := by
  unfold kRow
  obtain ⟨m', e1, e2, e3, e4⟩ := k_row (m := u3 m 60 0 0 d) (w := w) (n := n) hmo hn (by rw [u3_n (by omega)]; exact h0)
  rw [e1, Option.bind_some]
  refine ⟨m', rfl, e2, fun z p hp => ?_, fun c i j z1 z2 z3 => ?_⟩
  · rw [e3 z p hp]
    by_cases h : p = 0
    · rw [if_pos h, h, u3_s]
    · rw [if_neg h, u3_n (by omega)]
  · rw [e4 _ _ _ z1 (by omega), u3_n (by omega)]
/-- a line of rows of four: the row is d, the numbers, and -1 behind -/
theorem row_out {b : Nat → Nat} {len pos i K mo nm : Nat} {d : Int32} {f : Nat × Nat} {l : List (Nat × Nat)} {m0 m : MI} {w : WS} (hp : pos ≤ len) (hK : lnK b len pos i K) (hmo : mo ≤ 40) (hnm : nm ≤ mo) (h0 : m0 59 0 0 = nI nm)
    (hl : ∀ q, q < l.length → (l.getD q (0, 0)).1 = loT (coT i (0 + q)) ∧ (l.getD q (0, 0)).2 = hiT (coT i (0 + q)) ∧ (l.getD q (0, 0)).1 < 100 ∧ (l.getD q (0, 0)).2 < 100) (hnl : liB i = false) (hn : nuN i = l.length) (hj : 1 + l.length ≤ 4) (hS : mS b len pos i f 0 m w) (hF : MF m0 m) (h59 : ∀ j, m 59 0 j = m0 59 0 j) (hm1 : ∀ j, 1 + l.length ≤ j → j < 4 → m 60 0 j = -1) :
    mOut b len pos i f K m0 w (chn l 1 (kRow mo d) m w) (E1 m0 mo nm (rwI b len pos K d)) := by
  refine ch_out hp hK hl hnl hn (by omega) hS hF (fun m' wd' eK g1 g2 g3 g4 g5 => ?_)
  obtain ⟨m'', e1, e2, e3, e4⟩ := kRow_ok (m := m') (w := (w.1, w.2.1, w.2.2.1, wd')) (d := d) hmo hnm (by rw [g5 _ _ _ (by omega) (by omega), h59]; exact h0)
  refine ⟨m'', e1, mS_of g1 fun c i j z => e4 _ _ _ (by omega) (by omega) (by omega), ⟨⟨_, by omega, e2⟩, fun z q hM => ⟨by omega, by rw [e2, show min mo (nm + 1) = nm + 1 by omega], fun k hk => ?_⟩⟩, fun c i j z1 z2 z3 => e4 _ _ _ (by omega) (by omega) (by omega)⟩
  unfold qoW
  by_cases c1 : 4 * nm ≤ k
  · rw [if_pos c1, show 1 + k = 1 + 4 * nm + (k - 4 * nm) by omega, e3 z _ (by omega)]
    unfold rwI nuI
    by_cases c2 : k - 4 * nm = 0
    · rw [if_pos c2, if_pos c2]
    · rw [if_neg c2, if_neg c2]
      by_cases c3 : k - 4 * nm - 1 < K
      · rw [if_pos c3, ← g2 _ (by omega), show 1 + (k - 4 * nm - 1) = k - 4 * nm by omega]
      · rw [if_neg c3, g5 _ _ _ (by omega) (by omega)]
        exact hm1 _ (by omega) (by omega)
  · rw [if_neg c1, e4 _ _ _ (by omega) (by omega) (by omega), g5 _ _ _ (by omega) (by omega), h59]
    exact hM.2.2 k (by omega)
/-- the beginning of such a line: room, the word's end -/
theorem m_begin {b : Nat → Nat} {len pos mo nm : Nat} (i : Nat) {f : Nat × Nat} {m : MI} {w : WS} (hp : pos ≤ len) (hL : mL b len pos f m w) (hk : tkK b len pos = 0) (hmo : mo ≤ 40) (hnm : nm ≤ mo) (h0 : m 59 0 0 = nI nm) :
    ∃ f1 m1 m2 wd, ((¬ nm = mo ∧ f1 = f) ∨ (nm = mo ∧ f1 = ntF f 3 (tkP b len pos))) ∧ F_X11_full m w 0 (nI mo) (nI (tkP b len pos)) = some m1 ∧ F_X11_token m1 w = some (m2, (w.1, w.2.1, w.2.2.1, wd)) ∧ mS b len (tkE b len pos) i f1 0 m2 (w.1, w.2.1, w.2.2.1, wd) ∧ ∀ c i j, ¬ (c = 10 ∧ i = 0 ∧ (j = 10 ∨ j = 12 ∨ j = 13 ∨ j = 14 ∨ j = 17 ∨ j = 18)) → m2 c i j = m c i j := by
  have h600 := hL.1.1
  obtain ⟨p1, p2, p3⟩ := tk_le (b := b) hp
  have adv := tk_adv (b := b) (len := len) (pos := pos) (by rw [hk]; omega)
  have key : ∀ f1 m1, ntM m1 f1 → (f1.1 ≠ 0 → f1.2 < tkP b len (tkE b len pos)) → (∀ c i j, ¬ (c = 10 ∧ i = 0 ∧ (j = 17 ∨ j = 18)) → m1 c i j = m c i j) → ∃ m2 wd, F_X11_token m1 w = some (m2, (w.1, w.2.1, w.2.2.1, wd)) ∧ mS b len (tkE b len pos) i f1 0 m2 (w.1, w.2.1, w.2.2.1, wd) ∧ ∀ c i j, ¬ (c = 10 ∧ i = 0 ∧ (j = 10 ∨ j = 12 ∨ j = 13 ∨ j = 14 ∨ j = 17 ∨ j = 18)) → m2 c i j = m c i j := by
    intro f1 m1 a1 a2 a3
    obtain ⟨m2, wd, r1, r2, r3⟩ := m_token (w := w) (tapM_of hL.1 fun c i j q => a3 _ _ _ (by omega)) p3 (by rw [a3 _ _ _ (by omega)]; exact hL.2.1.1)
    exact ⟨m2, wd, r1, ⟨tapM_of hL.1 fun c i j q => by rw [r3 _ _ _ (by omega), a3 _ _ _ (by omega)], r2, ntM_of a1 fun j q => r3 _ _ _ (by omega), a2⟩, fun c i j z => by rw [r3 _ _ _ (by omega), a3 _ _ _ (by omega)]⟩
  have pp := tk_le (b := b) (pos := tkE b len pos) p3
  obtain ⟨m1, s1, s2, s3⟩ := m_full (w := w) (f := f) (x := 0) (n := nm) (p := tkP b len pos) (lim := mo) hL.2.2.1 hL.2.2.2 (by omega) h0 (by omega) (by omega) (by omega)
  rcases s2 with ⟨a1, a2⟩ | ⟨a1, a2⟩
  · obtain ⟨m2, wd, r⟩ := key f m1 a2 (fun q => by have := hL.2.2.2 q; omega) s3
    exact ⟨f, m1, m2, wd, Or.inl ⟨a1, rfl⟩, s1, r⟩
  · have hlt : (ntF f 3 (tkP b len pos)).1 ≠ 0 → (ntF f 3 (tkP b len pos)).2 < tkP b len (tkE b len pos) := by
      unfold ntF
      by_cases q : f.1 = 0
      · rw [if_pos q]; intro _; show tkP b len pos < _; omega
      · rw [if_neg q]; intro _; have := hL.2.2.2 q; omega
    obtain ⟨m2, wd, r⟩ := key _ m1 a2 hlt s3
    exact ⟨_, m1, m2, wd, Or.inr ⟨a1, rfl⟩, s1, r⟩
theorem day_eq {m m1 m2 : MI} {w w2 : WS} {x : Int64} {p d : Int32} {l : List (Nat × Nat)} (hd : f_X11_deedBy m x = d) (h1 : F_X11_full m w 0 40 p = some m1) (h2 : F_X11_token m1 w = some (m2, w2))
    (hc : (d = 0 ∧ l = [(0, 5), (1, 9)]) ∨ ((d = 1 ∨ d = 2) ∧ l = [(0, 5)]) ∨ ((d = 3 ∨ d = 4) ∧ l = [(0, 5), (0, 4), (0, 4)]) ∨ (d = 5 ∧ l = [(1, 9)])) : F_X11_dayLine m w x p = chn l 1 (kRow 40 d) (u3 (u3 m2 60 0 2 (-1)) 60 0 3 (-1)) w2 := by
  unfold F_X11_dayLine
  simp only [hd, h1, Option.bind_some, h2, lt_e]
  rcases hc with ⟨rfl, rfl⟩ | ⟨rfl | rfl, rfl⟩ | ⟨rfl | rfl, rfl⟩ | ⟨rfl, rfl⟩
  · simp only [if_neg (show ¬ (0 : Int32) = -1 by decide), if_neg (show ¬ (0 : Int32) = 3 by decide), if_neg (show ¬ (0 : Int32) = 4 by decide), if_neg (show ¬ (0 : Int32) = 5 by decide), if_pos (show (0 : Int32) = 0 from rfl)]
    rfl
  · simp only [if_neg (show ¬ (1 : Int32) = -1 by decide), if_neg (show ¬ (1 : Int32) = 3 by decide), if_neg (show ¬ (1 : Int32) = 4 by decide), if_neg (show ¬ (1 : Int32) = 5 by decide), if_neg (show ¬ (1 : Int32) = 0 by decide), if_pos (show (0 : Int32) = 0 from rfl)]
    rfl
  · simp only [if_neg (show ¬ (2 : Int32) = -1 by decide), if_neg (show ¬ (2 : Int32) = 3 by decide), if_neg (show ¬ (2 : Int32) = 4 by decide), if_neg (show ¬ (2 : Int32) = 5 by decide), if_neg (show ¬ (2 : Int32) = 0 by decide), if_pos (show (0 : Int32) = 0 from rfl)]
    rfl
  · simp only [if_neg (show ¬ (3 : Int32) = -1 by decide), if_pos (show (3 : Int32) = 3 from rfl), if_neg (show ¬ (3 : Int32) = 5 by decide), if_neg (show ¬ (3 : Int32) = 0 by decide), if_neg (show ¬ (1 : Int32) = 0 by decide)]
    rfl
  · simp only [if_neg (show ¬ (4 : Int32) = -1 by decide), if_neg (show ¬ (4 : Int32) = 3 by decide), if_pos (show (4 : Int32) = 4 from rfl), if_neg (show ¬ (4 : Int32) = 5 by decide), if_neg (show ¬ (4 : Int32) = 0 by decide), if_neg (show ¬ (1 : Int32) = 0 by decide)]
    rfl
  · simp only [if_neg (show ¬ (5 : Int32) = -1 by decide), if_neg (show ¬ (5 : Int32) = 3 by decide), if_neg (show ¬ (5 : Int32) = 4 by decide), if_pos (show (5 : Int32) = 5 from rfl)]
    rfl
theorem m_dayW {b : Nat → Nat} {len pos i K nm : Nat} {f : Nat × Nat} {m : MI} {w : WS} (hp : pos ≤ len) (hL : mL b len pos f m w) (hi4 : 4 ≤ i) (hi9 : i ≤ 9) (hw : wOk b len pos i) (hK : lnK b len (tkE b len pos) i K) (hnm : nm ≤ 40) (h0 : m 59 0 0 = nI nm) :
    ∃ f1, ((¬ nm = 40 ∧ f1 = f) ∨ (nm = 40 ∧ f1 = ntF f 3 (tkP b len pos))) ∧ mOut b len (tkE b len pos) i f1 K m w (F_X11_dayLine m w (wdX m w.2.2.2) (nI (tkP b len pos))) (E1 m 40 nm (rwI b len (tkE b len pos) K (nI (i - 4)))) := by
  obtain ⟨p1, p2, p3⟩ := tk_le (b := b) hp
  have hd : f_X11_deedBy m (wdX m w.2.2.2) = nI (i - 4) := by
    rcases m_deedBy (m0 := m) hp hL.2.1 with ⟨i', a1, a2, a3, a4⟩ | ⟨a1, -⟩
    · rw [a4, wOk_one (by omega) (by omega) hw a3]
    · exact absurd hw (a1 i hi4 (by omega))
  obtain ⟨f1, m1, m2, wd, q1, q2, q3, q4, q5⟩ := m_begin i (w := w) hp hL hw.1 (by omega) hnm h0
  refine ⟨f1, q1, ?_⟩
  have hS : mS b len (tkE b len pos) i f1 0 (u3 (u3 m2 60 0 2 (-1)) 60 0 3 (-1)) (w.1, w.2.1, w.2.2.1, wd) := mS_of q4 fun c i j z => by rw [u3_n (by omega), u3_n (by omega)]
  have hF : MF m (u3 (u3 m2 60 0 2 (-1)) 60 0 3 (-1)) := fun c i j z1 z2 z3 => by rw [u3_n (by omega), u3_n (by omega), q5 _ _ _ (by omega)]
  have h59 : ∀ j, (u3 (u3 m2 60 0 2 (-1)) 60 0 3 (-1)) 59 0 j = m 59 0 j := fun j => by rw [u3_n (by omega), u3_n (by omega), q5 _ _ _ (by omega)]
  have hm1 : ∀ j, 2 ≤ j → j < 4 → (u3 (u3 m2 60 0 2 (-1)) 60 0 3 (-1)) 60 0 j = -1 := fun j h1 h2 => by
    by_cases e : j = 3
    · rw [e, u3_s]
    · rw [u3_n (by omega), show j = 2 by omega, u3_s]
  obtain ⟨d1, d2, d3, d4, d5, d6, d7, d8, d9, d10, d11, d12, -⟩ := ln_d
  have h : i = 4 ∨ i = 5 ∨ i = 6 ∨ i = 7 ∨ i = 8 ∨ i = 9 := by omega
  rcases h with h | h | h | h | h | h <;> subst h
  · rw [day_eq hd q2 q3 (l := [(0, 5), (1, 9)]) (Or.inl ⟨rfl, rfl⟩)]
    exact row_out (w := (w.1, w.2.1, w.2.2.1, wd)) p3 hK (by omega) hnm h0 (by decide) d1 d2 (by decide) hS hF h59 fun j h1 h2 => hm1 j (by have : 1 + 2 ≤ j := h1; omega) h2
  · rw [day_eq hd q2 q3 (l := [(0, 5)]) (Or.inr (Or.inl ⟨Or.inl rfl, rfl⟩))]
    exact row_out (w := (w.1, w.2.1, w.2.2.1, wd)) p3 hK (by omega) hnm h0 (by decide) d3 d4 (by decide) hS hF h59 fun j h1 h2 => hm1 j (by have : 1 + 1 ≤ j := h1; omega) h2
  · rw [day_eq hd q2 q3 (l := [(0, 5)]) (Or.inr (Or.inl ⟨Or.inr rfl, rfl⟩))]
    exact row_out (w := (w.1, w.2.1, w.2.2.1, wd)) p3 hK (by omega) hnm h0 (by decide) d5 d6 (by decide) hS hF h59 fun j h1 h2 => hm1 j (by have : 1 + 1 ≤ j := h1; omega) h2
  · rw [day_eq hd q2 q3 (l := [(0, 5), (0, 4), (0, 4)]) (Or.inr (Or.inr (Or.inl ⟨Or.inl rfl, rfl⟩)))]
    exact row_out (w := (w.1, w.2.1, w.2.2.1, wd)) p3 hK (by omega) hnm h0 (by decide) d7 d8 (by decide) hS hF h59 fun j h1 h2 => hm1 j (by have : 1 + 3 ≤ j := h1; omega) h2
  · rw [day_eq hd q2 q3 (l := [(0, 5), (0, 4), (0, 4)]) (Or.inr (Or.inr (Or.inl ⟨Or.inr rfl, rfl⟩)))]
    exact row_out (w := (w.1, w.2.1, w.2.2.1, wd)) p3 hK (by omega) hnm h0 (by decide) d9 d10 (by decide) hS hF h59 fun j h1 h2 => hm1 j (by have : 1 + 3 ≤ j := h1; omega) h2
  · rw [day_eq hd q2 q3 (l := [(1, 9)]) (Or.inr (Or.inr (Or.inr ⟨rfl, rfl⟩)))]
    exact row_out (w := (w.1, w.2.1, w.2.2.1, wd)) p3 hK (by omega) hnm h0 (by decide) d11 d12 (by decide) hS hF h59 fun j h1 h2 => hm1 j (by have : 1 + 1 ≤ j := h1; omega) h2
theorem mark_eq {m m1 m2 : MI} {w w2 : WS} {x : Int64} {p : Int32} {l : List (Nat × Nat)} {d : Int32} (h1 : F_X11_full m w 0 8 p = some m1) (h2 : F_X11_token m1 w = some (m2, w2)) (hc : (lg_cmp x 7630704 = 0 ∧ l = [(0, 4), (0, 4), (0, 5)] ∧ d = 0) ∨ (¬ lg_cmp x 7630704 = 0 ∧ lg_cmp x 1650553445 = 0 ∧ l = [(0, 4), (0, 4)] ∧ d = 1)) :
    F_X11_markLine m w x p = chn l 1 (kRow 8 d) (u3 m2 60 0 3 (-1)) w2 := by
  unfold F_X11_markLine
  simp only [h1, Option.bind_some, h2, lt_e, ck0_5]
  rcases hc with ⟨c1, rfl, rfl⟩ | ⟨c1, c2, rfl, rfl⟩
  · have e : b2 (¬ (lg_cmp x 7630704 = 0)) = 0 := b2_neg fun z => z c1
    simp only [e, if_pos c1]
    rfl
  · have e : b2 (¬ (lg_cmp x 7630704 = 0)) = 1 := b2_pos c1
    simp only [e, if_neg c1, if_pos c2]
    rfl
theorem m_markW {b : Nat → Nat} {len pos i K nm : Nat} {f : Nat × Nat} {m : MI} {w : WS} (hp : pos ≤ len) (hL : mL b len pos f m w) (hi : i = 11 ∨ i = 12) (hw : wOk b len pos i) (hK : lnK b len (tkE b len pos) i K) (hnm : nm ≤ 8) (h0 : m 59 0 0 = nI nm) :
    ∃ f1, ((¬ nm = 8 ∧ f1 = f) ∨ (nm = 8 ∧ f1 = ntF f 3 (tkP b len pos))) ∧ mOut b len (tkE b len pos) i f1 K m w (F_X11_markLine m w (wdX m w.2.2.2) (nI (tkP b len pos))) (E1 m 8 nm (rwI b len (tkE b len pos) K (nI (i - 11)))) := by
  obtain ⟨p1, p2, p3⟩ := tk_le (b := b) hp
  obtain ⟨f1, m1, m2, wd, q1, q2, q3, q4, q5⟩ := m_begin i (w := w) hp hL hw.1 (by omega) hnm h0
  refine ⟨f1, q1, ?_⟩
  have hS : mS b len (tkE b len pos) i f1 0 (u3 m2 60 0 3 (-1)) (w.1, w.2.1, w.2.2.1, wd) := mS_of q4 fun c i j z => u3_n (by omega)
  have hF : MF m (u3 m2 60 0 3 (-1)) := fun c i j z1 z2 z3 => by rw [u3_n (by omega), q5 _ _ _ (by omega)]
  have h59 : ∀ j, (u3 m2 60 0 3 (-1)) 59 0 j = m 59 0 j := fun j => by rw [u3_n (by omega), q5 _ _ _ (by omega)]
  have hm1 : ∀ j, 3 ≤ j → j < 4 → (u3 m2 60 0 3 (-1)) 60 0 j = -1 := fun j h1 h2 => by
    rw [show j = 3 by omega, u3_s]
  obtain ⟨-, -, -, -, -, -, -, -, -, -, -, -, d1, d2, d3, d4⟩ := ln_d
  rcases hi with h | h <;> subst h
  · have y := lg_yes hp hL.2.1 (by omega) hw
    rw [kl_11] at y
    rw [mark_eq q2 q3 (l := [(0, 4), (0, 4), (0, 5)]) (d := nI 0) (Or.inl ⟨y, rfl, rfl⟩)]
    exact row_out (w := (w.1, w.2.1, w.2.2.1, wd)) p3 hK (by omega) hnm h0 (by decide) d1 d2 (by decide) hS hF h59 fun j h1 h2 => hm1 j (by have : 1 + 3 ≤ j := h1; omega) h2
  · have y := lg_yes hp hL.2.1 (by omega) hw
    have n := lg_no (j := 11) hp hL.2.1 (by omega) (by omega) hw (by omega)
    rw [kl_12] at y
    rw [kl_11] at n
    rw [mark_eq q2 q3 (l := [(0, 4), (0, 4)]) (d := nI 1) (Or.inr ⟨n, y, rfl, rfl⟩)]
    exact row_out (w := (w.1, w.2.1, w.2.2.1, wd)) p3 hK (by omega) hnm h0 (by decide) d3 d4 (by decide) hS hF h59 fun j h1 h2 => hm1 j (by have : 1 + 2 ≤ j := h1; omega) h2
/-- a picture's rows so far, in the model -/
def sM2 (m : MI) (n : Nat) (co : Nat → Nat) : Prop := n ≤ 5 ∧ m 59 0 0 = nI n ∧ ∀ k, k < 25 → m 59 0 (1 + k) = nI (co k)
def E2 (m : MI) (nm K : Nat) (v : Nat → Nat) (m' : MI) : Prop := (∃ n', n' ≤ 5 ∧ m' 59 0 0 = nI n') ∧ (nm < 5 → ∀ co, sM2 m nm co → sM2 m' (nm + 1) (roW nm K v co))
theorem m_picW {b : Nat → Nat} {len pos K nm : Nat} {f : Nat × Nat} {m : MI} {w : WS} (hp : pos ≤ len) (hL : mL b len pos f m w) (hw : wOk b len pos 10) (hK : lnK b len (tkE b len pos) 10 K) (hnm : nm ≤ 5) (h0 : m 59 0 0 = nI nm) :
    ∃ f1, ((¬ nm = 5 ∧ f1 = f) ∨ (nm = 5 ∧ f1 = ntF f 3 (tkP b len pos))) ∧ mOut b len (tkE b len pos) 10 f1 K m w (F_X11_pictureLine m w (wdX m w.2.2.2) (nI (tkP b len pos))) (E2 m nm K fun q => tkV b len (poN b len (tkE b len pos) q)) := by
  have eq : F_X11_pictureLine m w (wdX m w.2.2.2) (nI (tkP b len pos)) = lisL m w 0 5 1 9 (nI (tkP b len pos)) := by
    rcases m_picLine (p := nI (tkP b len pos)) hp hL.2.1 with ⟨-, h⟩ | ⟨h, -⟩
    · exact h
    · exact absurd hw h
  obtain ⟨f1, K', m', wd, q1, q2, q3, q4, q5, q6, q7, q8, q9, q10⟩ := m_lisL (i := 10) (x := 0) (lim := 5) (base := 1) (hi := 9) hp hw.1 li_10.1 li_10.2.1 li_10.2.2 (by omega) (by omega) (by omega) (by omega) hL.1 hL.2.1 hL.2.2.1 hL.2.2.2 h0 hnm
  have eK := lnK_one hK q2
  subst eK
  rw [eq]
  refine ⟨f1, q1, Or.inl ⟨Or.inl li_10.1, m', wd, q3, ⟨q4, q5, q6, q7⟩, ⟨⟨_, by omega, q8⟩, fun hr co hM => ⟨by omega, by rw [q8, show min 5 (nm + 1) = nm + 1 by omega], fun k hk => ?_⟩⟩, fun c i j z1 z2 z3 => q10 _ _ _ (by omega) (by omega) (by omega)⟩⟩
  unfold roW
  by_cases z : 5 * nm ≤ k ∧ k < 5 * nm + 5
  · rw [if_pos z, ← q9 hr (k - 5 * nm) (by omega), show 1 + k = 1 + 5 * nm + (k - 5 * nm) by omega]
  · rw [if_neg z, q10 _ _ _ (by omega) (by omega) (by omega)]; exact hM.2.2 k hk
/-! no word of the sort -/
theorem fl_ck {m : MI} {w : WS} {b : Nat → Nat} {len pos : Nat} (htk : tokM m w.2.2.2 b len pos) : ((F_X11_fails m w).bind fun c => ck (c.1 = 0 ∨ c.1 = 1) (some (c.1, c.2, w))) = some ((0 : Int32), u3 m 10 0 16 (nI (tkP b len pos)), w) := by
  unfold F_X11_fails
  rw [Option.bind_some]
  dsimp only
  rw [ckT (Or.inl rfl), htk.2.1]
theorem lg_none {m : MI} {wd : Int64} {b : Nat → Nat} {len pos j : Nat} (hp : pos ≤ len) (htk : tokM m wd b len pos) (hj : j < 13) (hw : ¬ wOk b len pos j) : ¬ lg_cmp (wdX m wd) (lN (pkP (kwN j) (kwN j).length)) = 0 := by
  rw [m_sel hp htk hj]
  exact hw
theorem srL_is : srL 0 = 0 ∧ srL 1 = 4 ∧ srL 2 = 10 ∧ srL 3 = 11 ∧ srL 4 = 13 := by decide
theorem m_noLine {b : Nat → Nat} {len pos s : Nat} {m : MI} {w : WS} {p : Int32} (hp : pos ≤ len) (htk : tokM m w.2.2.2 b len pos) (hs : s < 4) (hw : ∀ i, srL s ≤ i → i < srL (s + 1) → ¬ wOk b len pos i) : F_X11_lineOf m w (nI s) (wdX m w.2.2.2) p = some (0, u3 m 10 0 16 (nI (tkP b len pos)), w) := by
  obtain ⟨e0, e1, e2, e3, e4⟩ := srL_is
  have ck2 : ∀ r : Option (Int32 × MI × WS), r = some (0, u3 m 10 0 16 (nI (tkP b len pos)), w) → (r.bind fun c => ck (c.1 = 0 ∨ c.1 = 1) (some (c.1, c.2.1, c.2.2))) = some (0, u3 m 10 0 16 (nI (tkP b len pos)), w) := fun r h => by
    rw [h, Option.bind_some]; exact if_pos (Or.inl rfl)
  unfold F_X11_lineOf
  have h : s = 0 ∨ s = 1 ∨ s = 2 ∨ s = 3 := by omega
  rcases h with h | h | h | h <;> subst h
  · rw [e0, e1] at hw
    have n0 := lg_none (j := 0) hp htk (by omega) (hw 0 (by omega) (by omega))
    have n1 := lg_none (j := 1) hp htk (by omega) (hw 1 (by omega) (by omega))
    have n2 := lg_none (j := 2) hp htk (by omega) (hw 2 (by omega) (by omega))
    have n3 := lg_none (j := 3) hp htk (by omega) (hw 3 (by omega) (by omega))
    rw [kl_0] at n0
    rw [kl_1] at n1
    rw [kl_2] at n2
    rw [kl_3] at n3
    rw [if_pos (show nI 0 = 0 from rfl)]
    refine ck2 _ ?_
    unfold F_X11_shopLine
    rw [if_neg n2, if_neg n0, if_neg n1, if_neg n3]
    exact fl_ck htk
  · rw [e1, e2] at hw
    rw [if_neg (show ¬ nI 1 = 0 by decide), if_pos (show nI 1 = 1 from rfl)]
    refine ck2 _ ?_
    have hd : f_X11_deedBy m (wdX m w.2.2.2) = -1 := by
      rcases m_deedBy (m0 := m) hp htk with ⟨i', a1, a2, a3, -⟩ | ⟨-, h⟩
      · exact absurd a3 (hw i' a1 a2)
      · exact h
    unfold F_X11_dayLine
    rw [if_pos hd]
    exact fl_ck htk
  · rw [e2, e3] at hw
    rw [if_neg (show ¬ nI 2 = 0 by decide), if_neg (show ¬ nI 2 = 1 by decide), if_pos (show nI 2 = 2 from rfl)]
    refine ck2 _ ?_
    rcases m_picLine (p := p) hp htk with ⟨h, -⟩ | ⟨-, h⟩
    · exact absurd h (hw 10 (by omega) (by omega))
    · exact h
  · rw [e3, e4] at hw
    have n1 := lg_none (j := 11) hp htk (by omega) (hw 11 (by omega) (by omega))
    have n2 := lg_none (j := 12) hp htk (by omega) (hw 12 (by omega) (by omega))
    rw [kl_11] at n1
    rw [kl_12] at n2
    rw [if_neg (show ¬ nI 3 = 0 by decide), if_neg (show ¬ nI 3 = 1 by decide), if_neg (show ¬ nI 3 = 2 by decide)]
    refine ck2 _ ?_
    unfold F_X11_markLine
    rw [if_neg n1, if_neg n2]
    exact fl_ck htk
