/-! TEXT: a line, as the class reads it -/
def rmP (m : MI) (i : Nat) : Prop := (i = 2 → ¬ 6 ≤ m 5 8 3) ∧ (4 ≤ i → i ≤ 9 → ¬ 40 ≤ m 0 8 0) ∧ (i = 10 → ¬ 5 ≤ m 4 0 10) ∧ (11 ≤ i → ¬ 8 ≤ m 1 8 0)
theorem c_room {m : MI} {w : WS} {i : Nat} (hi : i < 13) : (rmP m i ∧ F_X5_hasRoomFor m w (nI i) = some 1) ∨ (¬ rmP m i ∧ F_X5_hasRoomFor m w (nI i) = some 0) := by
  have two : ∀ {p q : Prop} [Decidable p], (p ↔ q) → (q ∧ some (b2 p) = some (1 : Int32)) ∨ (¬ q ∧ some (b2 p) = some (0 : Int32)) := by
    intro p q _ h
    by_cases e : p
    · exact Or.inl ⟨h.mp e, by rw [b2_pos e]⟩
    · exact Or.inr ⟨fun z => e (h.mpr z), by rw [b2_neg e]⟩
  have h : i = 0 ∨ i = 1 ∨ i = 2 ∨ i = 3 ∨ i = 4 ∨ i = 5 ∨ i = 6 ∨ i = 7 ∨ i = 8 ∨ i = 9 ∨ i = 10 ∨ i = 11 ∨ i = 12 := by omega
  rcases h with h | h | h | h | h | h | h | h | h | h | h | h | h <;> subst h
  · exact Or.inl ⟨⟨fun _ => by omega, fun _ _ => by omega, fun _ => by omega, fun _ => by omega⟩, rfl⟩
  · exact Or.inl ⟨⟨fun _ => by omega, fun _ _ => by omega, fun _ => by omega, fun _ => by omega⟩, rfl⟩
  · exact two (p := ¬ 6 ≤ m 5 8 3) ⟨fun q => ⟨fun _ => q, fun _ _ => by omega, fun _ => by omega, fun _ => by omega⟩, fun q => q.1 rfl⟩
  · exact Or.inl ⟨⟨fun _ => by omega, fun _ _ => by omega, fun _ => by omega, fun _ => by omega⟩, rfl⟩
  · exact two (p := ¬ 40 ≤ m 0 8 0) ⟨fun q => ⟨fun _ => by omega, fun _ _ => q, fun _ => by omega, fun _ => by omega⟩, fun q => q.2.1 (by omega) (by omega)⟩
  · exact two (p := ¬ 40 ≤ m 0 8 0) ⟨fun q => ⟨fun _ => by omega, fun _ _ => q, fun _ => by omega, fun _ => by omega⟩, fun q => q.2.1 (by omega) (by omega)⟩
  · exact two (p := ¬ 40 ≤ m 0 8 0) ⟨fun q => ⟨fun _ => by omega, fun _ _ => q, fun _ => by omega, fun _ => by omega⟩, fun q => q.2.1 (by omega) (by omega)⟩
  · exact two (p := ¬ 40 ≤ m 0 8 0) ⟨fun q => ⟨fun _ => by omega, fun _ _ => q, fun _ => by omega, fun _ => by omega⟩, fun q => q.2.1 (by omega) (by omega)⟩
  · exact two (p := ¬ 40 ≤ m 0 8 0) ⟨fun q => ⟨fun _ => by omega, fun _ _ => q, fun _ => by omega, fun _ => by omega⟩, fun q => q.2.1 (by omega) (by omega)⟩
  · exact two (p := ¬ 40 ≤ m 0 8 0) ⟨fun q => ⟨fun _ => by omega, fun _ _ => q, fun _ => by omega, fun _ => by omega⟩, fun q => q.2.1 (by omega) (by omega)⟩
  · exact two (p := ¬ 5 ≤ m 4 0 10) ⟨fun q => ⟨fun _ => by omega, fun _ _ => by omega, fun _ => q, fun _ => by omega⟩, fun q => q.2.2.1 rfl⟩
  · exact two (p := ¬ 8 ≤ m 1 8 0) ⟨fun q => ⟨fun _ => by omega, fun _ _ => by omega, fun _ => by omega, fun _ => q⟩, fun q => q.2.2.2 (by omega)⟩
  · exact two (p := ¬ 8 ≤ m 1 8 0) ⟨fun q => ⟨fun _ => by omega, fun _ _ => by omega, fun _ => by omega, fun _ => q⟩, fun q => q.2.2.2 (by omega)⟩
theorem bu_x4 {i : Nat} (hi : i < 13) : (if STA13.getD i 0 = -1 then 600 else STA13.getD i 0) = nI (buN i) := by
  obtain ⟨n1, n2⟩ := nu_of hi
  unfold buN
  by_cases q : liB i = true
  · rw [if_pos (n1 q), if_pos q]; rfl
  · have e : ¬ nI (nuN i) = (-1 : Int32) := by
      have := (n2 q).2
      have h : nuN i = 1 ∨ nuN i = 2 ∨ nuN i = 3 := by omega
      rcases h with h | h | h <;> (rw [h]; decide)
    rw [(n2 q).1, if_neg e, if_neg q]
theorem c_clr {w : WS} {s i : Nat} (hi : i < 13) : ∀ g F k m, k ≤ 5 → 5 ≤ k + g → g < F → (∀ j, j < k → m 35 0 j = -1) → ∃ m', L_X5_readLine_35 w F m (nI s) (nI i) (nI k) = ((F_X7_next m' w).bind fun c123 => L_X5_readLine_87 w 1000000 c123 (nI s) (nI i) (STA13.getD i 0) (nI (buN i)) (nI 0)) ∧ (∀ j, j < 5 → m' 35 0 j = -1) ∧ ∀ c i j, ¬ (c = 35 ∧ i = 0) → m' c i j = m c i j := by
  have l13 : i < STA13.length := hi
  intro g
  induction g with
  | zero =>
    intro F k m h1 h2 h3 h4
    obtain ⟨F, rfl⟩ : ∃ G, F = G + 1 := ⟨F - 1, by omega⟩
    rw [L_X5_readLine_35, if_pos (show (5 : Int32) ≤ nI k by rw [show (5 : Int32) = nI 5 from rfl, nle (by omega) (by omega)]; omega), ncl (by omega)]
    simp only [ckJ l13 (show i < 2147483648 by omega), bu_x4 hi]
    exact ⟨m, rfl, fun j hj => h4 j (by omega), fun _ _ _ _ => rfl⟩
  | succ g ih =>
    intro F k m h1 h2 h3 h4
    obtain ⟨F, rfl⟩ : ∃ G, F = G + 1 := ⟨F - 1, by omega⟩
    by_cases e : 5 ≤ k
    · rw [L_X5_readLine_35, if_pos (show (5 : Int32) ≤ nI k by rw [show (5 : Int32) = nI 5 from rfl, nle (by omega) (by omega)]; omega), ncl (by omega)]
      simp only [ckJ l13 (show i < 2147483648 by omega), bu_x4 hi]
      exact ⟨m, rfl, fun j hj => h4 j (by omega), fun _ _ _ _ => rfl⟩
    · rw [L_X5_readLine_35, if_neg (show ¬ (5 : Int32) ≤ nI k by rw [show (5 : Int32) = nI 5 from rfl, nle (by omega) (by omega)]; omega), ck_in (by omega) (by omega), ncl (by omega)]
      simp only [lt_e]
      rw [show nI k + 1 = nI (k + 1) from nadd k 1]
      have hh : ∀ j, j < k + 1 → u3 m 35 0 k (-1) 35 0 j = -1 := by
        intro j hj
        by_cases q : j = k
        · rw [q, u3_s]
        · rw [u3_n (by omega)]; exact h4 j (by omega)
      obtain ⟨m', q1, q2, q3⟩ := ih F (k + 1) (u3 m 35 0 k (-1)) (by omega) (by omega) (by omega) hh
      exact ⟨m', q1, q2, fun c i j z => by rw [q3 _ _ _ z, u3_n (by omega)]⟩
theorem c_line {m : MI} {w : WS} {b : Nat → Nat} {len pos s : Nat} {f : Nat × Nat} (hw : w.2.1 = true) (ht : tapC m b len) (hp : pos ≤ len) (htk : tokC m b len pos) (hs : s < 4) (hf : ntC m f) :
    (∃ i f1 K m', srL s ≤ i ∧ i < srL (s + 1) ∧ i < 13 ∧ wOk b len pos i ∧ ((rmP m i ∧ f1 = f) ∨ (¬ rmP m i ∧ f1 = ntF f 3 (tkP b len pos))) ∧ lnK b len (tkE b len pos) i K ∧ F_X5_readLine m w (nI s) = tailC w m' (nI i) (STA13.getD i 0) (nI K) ∧ tapC m' b len ∧ tokC m' b len (poN b len (tkE b len pos) K) ∧ ntC m' (faF b len (tkE b len pos) i f1 K) ∧ nmC b len (tkE b len pos) m' K ∧ ∀ c i j, ¬ (c = 6 ∧ i = 0 ∧ 2 ≤ j ∧ j ≤ 5) → ¬ (c = 4 ∧ i = 0 ∧ (j = 4 ∨ j = 5)) → ¬ (c = 35 ∧ i = 0) → m' c i j = m c i j) ∨
    ((∀ i, srL s ≤ i → i < srL (s + 1) → ¬ wOk b len pos i) ∧ F_X5_readLine m w (nI s) = some (0, m)) := by
  obtain ⟨t1, t2, t3, t4⟩ := id htk
  obtain ⟨p1, p2, p3⟩ := tk_le (b := b) hp
  have h600 := ht.1
  unfold F_X5_readLine
  rcases c_sort (s := s) hw ht hp htk hs with ⟨i, i1', i2', i3', i4'⟩ | ⟨n1, n2⟩
  · have hi : i < 13 := by have := (srL_tab (s := s + 1) (by omega)).2; omega
    refine Or.inl ?_
    have ne : ¬ nI i = (-1 : Int32) := by
      intro z
      have e : (nI i).toNatClampNeg = (-1 : Int32).toNatClampNeg := by rw [z]
      have hz : nI i < nI 0 := by rw [z]; decide
      rw [nlt (by omega) (by omega)] at hz
      omega
    rw [i4', Option.bind_some, if_neg ne]
    have go : ∀ m1 f1, ((rmP m i ∧ f1 = f) ∨ (¬ rmP m i ∧ f1 = ntF f 3 (tkP b len pos))) → ntC m1 f1 → (∀ c i j, ¬ (c = 4 ∧ i = 0 ∧ (j = 4 ∨ j = 5)) → m1 c i j = m c i j) → ∃ f1 K m', srL s ≤ i ∧ i < srL (s + 1) ∧ i < 13 ∧ wOk b len pos i ∧ ((rmP m i ∧ f1 = f) ∨ (¬ rmP m i ∧ f1 = ntF f 3 (tkP b len pos))) ∧ lnK b len (tkE b len pos) i K ∧ L_X5_readLine_35 w 1000000 m1 (nI s) (nI i) 0 = tailC w m' (nI i) (STA13.getD i 0) (nI K) ∧ tapC m' b len ∧ tokC m' b len (poN b len (tkE b len pos) K) ∧ ntC m' (faF b len (tkE b len pos) i f1 K) ∧ nmC b len (tkE b len pos) m' K ∧ ∀ c i j, ¬ (c = 6 ∧ i = 0 ∧ 2 ≤ j ∧ j ≤ 5) → ¬ (c = 4 ∧ i = 0 ∧ (j = 4 ∨ j = 5)) → ¬ (c = 35 ∧ i = 0) → m' c i j = m c i j := by
      intro m1 f1 hf1 hn1 hfr
      obtain ⟨m2, a1, a2, a3⟩ := c_clr (w := w) (s := s) hi 5 1000000 0 m1 (by omega) (by omega) (by omega) (fun j hj => by omega)
      have ht2 : tapC m2 b len := tapC_by ht (by rw [a3 _ _ _ (by omega), hfr _ _ _ (by omega)]) fun j => by rw [a3 _ _ _ (by omega), hfr _ _ _ (by omega)]
      obtain ⟨m3, r1, r2, r3⟩ := c_next (w := w) hw ht2 p3 (by rw [a3 _ _ _ (by omega), hfr _ _ _ (by omega)]; exact t1)
      have ht3 : tapC m3 b len := tapC_of ht2 r3
      have hn3 : ntC m3 f1 := ⟨hn1.1, hn1.2.1, by rw [r3 _ _ _ (by omega), a3 _ _ _ (by omega)]; exact hn1.2.2.1, fun q => by rw [r3 _ _ _ (by omega), a3 _ _ _ (by omega)]; exact hn1.2.2.2 q⟩
      have hnm : nmC b len (tkE b len pos) m3 0 := ⟨fun j hj => by omega, fun j _ h5 => by rw [r3 _ _ _ (by omega)]; exact a2 j h5⟩
      have hbu : buN i ≤ 600 := by
        unfold buN
        by_cases q : liB i = true
        · rw [if_pos q]; omega
        · rw [if_neg q]; have := ((nu_of hi).2 q).2; omega
      obtain ⟨K, m', q1, -, q3, q4, q5, q6, q7, q8⟩ := c_nums (w := w) (s := s) (f := f1) hw p3 hi 601 1000000 0 m3 ht3 r2 hn3 hnm (by omega) (fun j hj => by omega) (by omega) (by omega)
      refine ⟨f1, K, m', i1', i2', hi, i3', hf1, q1, ?_, q4, q5, q6, q7, fun c i j z1 z2 z3 => ?_⟩
      · refine a1.trans ?_
        rw [r1, Option.bind_some]
        exact q3
      · rw [q8 _ _ _ z1 z2 z3, r3 _ _ _ z1, a3 _ _ _ z3, hfr _ _ _ z2]
    rcases c_room (m := m) (w := w) hi with ⟨o1, o2⟩ | ⟨o1, o2⟩
    · rw [o2, Option.bind_some, if_neg (show ¬ (1 : Int32) = 0 by decide)]
      exact ⟨i, go m f (Or.inl ⟨o1, rfl⟩) hf fun _ _ _ _ => rfl⟩
    · rw [o2, Option.bind_some, if_pos rfl, t3]
      obtain ⟨m1, s1, s2, s3⟩ := c_note (m := m) (w := w) (c := 3) (p := tkP b len pos) hf (by omega) (by omega)
      rw [show (3 : Int32) = nI 3 from rfl, s1, Option.bind_some]
      exact ⟨i, go m1 _ (Or.inr ⟨o1, rfl⟩) s2 s3⟩
  · refine Or.inr ⟨n1, ?_⟩
    rw [n2, Option.bind_some, if_pos rfl]
