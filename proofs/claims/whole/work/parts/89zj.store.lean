/-! TEXT: what the class stores of a line -/
def sfF (m m' : MI) : Prop := ∀ c i j, ¬ (c = 4 ∧ i = 0 ∧ (j = 9 ∨ j = 10)) → ¬ (c = 34 ∧ i = 0) → ¬ (i = 8 ∧ (c = 0 ∨ c = 1 ∨ c = 5 ∨ (26 ≤ c ∧ c ≤ 33))) → m' c i j = m c i j
def sC0 (m : MI) (W H sl n wb : Nat) (ro we : Nat → Nat) : Prop := m 5 8 0 = nI W ∧ m 5 8 1 = nI H ∧ m 5 8 2 = nI sl ∧ m 5 8 3 = nI n ∧ (∀ k, k < 30 → m 34 0 k = nI (ro k)) ∧ (∀ s, s < 6 → m 27 8 s = nI (we s)) ∧ m 4 0 9 = nI wb ∧ ∀ s, s < 6 → m 26 8 s = 0 ∧ m 28 8 s = 0
def sC1 (m : MI) (n : Nat) (q : Nat → Int32) : Prop := n ≤ 40 ∧ m 0 8 0 = nI n ∧ ∀ k, k < 4 * n → m 29 8 k = q k
def sC2 (m : MI) (n : Nat) (co : Nat → Nat) : Prop := n ≤ 5 ∧ m 4 0 10 = nI n ∧ ∀ k, k < 25 → m 30 8 k = nI (co k)
def sC3 (m : MI) (n : Nat) (q : Nat → Int32) : Prop := n ≤ 8 ∧ m 1 8 0 = nI n ∧ ∀ k, k < n → m 31 8 k = q (4 * k + 1) ∧ m 32 8 k = q (4 * k + 2) ∧ m 33 8 k = q (4 * k + 3)
theorem nm_nu {b : Nat → Nat} {len pos K j : Nat} {m : MI} (h : nmC b len pos m K) (hj : j < 5) : m 35 0 j = nuI b len pos K j := by
  unfold nuI
  by_cases e : j < K
  · rw [if_pos e]; exact h.1 j e hj
  · rw [if_neg e]; exact h.2 j (by omega) hj
theorem st_size {b : Nat → Nat} {len pos W H sl n wb : Nat} {ro we : Nat → Nat} {m : MI} {w : WS} {x : Int32} (hn : nmC b len pos m 2) (h : sC0 m W H sl n wb ro we) : ∃ m', F_X5_store m w (nI 0) x = some m' ∧ sfF m m' ∧ sC0 m' (tkV b len (poN b len pos 0)) (tkV b len (poN b len pos 1)) sl n wb ro we := by
  obtain ⟨a0, a1, a2, a3, a4, a5, a6⟩ := h
  unfold F_X5_store
  rw [if_pos (show nI 0 = 0 from rfl), lt_e]
  refine ⟨_, rfl, fun c i j z1 z2 z3 => by rw [u3_n (by omega), u3_n (by omega)], ?_, ?_, ?_, ?_, fun k hk => ?_, fun s hs => ?_, ?_⟩
  · rw [u3_n (by omega), u3_s]; exact hn.1 0 (by omega) (by omega)
  · rw [u3_s, u3_n (by omega)]; exact hn.1 1 (by omega) (by omega)
  · rw [u3_n (by omega), u3_n (by omega)]; exact a2
  · rw [u3_n (by omega), u3_n (by omega)]; exact a3
  · rw [u3_n (by omega), u3_n (by omega)]; exact a4 k hk
  · rw [u3_n (by omega), u3_n (by omega)]; exact a5 s hs
  · exact ⟨by rw [u3_n (by omega), u3_n (by omega)]; exact a6.1, fun s hs => ⟨by rw [u3_n (by omega), u3_n (by omega)]; exact (a6.2 s hs).1, by rw [u3_n (by omega), u3_n (by omega)]; exact (a6.2 s hs).2⟩⟩
theorem st_slip {b : Nat → Nat} {len pos W H sl n wb : Nat} {ro we : Nat → Nat} {m : MI} {w : WS} {x : Int32} (hn : nmC b len pos m 1) (h : sC0 m W H sl n wb ro we) : ∃ m', F_X5_store m w (nI 1) x = some m' ∧ sfF m m' ∧ sC0 m' W H (tkV b len (poN b len pos 0)) n wb ro we := by
  obtain ⟨a0, a1, a2, a3, a4, a5, a6⟩ := h
  unfold F_X5_store
  rw [if_neg (show ¬ nI 1 = 0 by decide), if_pos (show nI 1 = 1 from rfl)]
  refine ⟨_, rfl, fun c i j z1 z2 z3 => by rw [u3_n (by omega)], ?_, ?_, ?_, ?_, fun k hk => ?_, fun s hs => ?_, ?_⟩
  · rw [u3_n (by omega)]; exact a0
  · rw [u3_n (by omega)]; exact a1
  · rw [u3_s]; exact hn.1 0 (by omega) (by omega)
  · rw [u3_n (by omega)]; exact a3
  · rw [u3_n (by omega)]; exact a4 k hk
  · rw [u3_n (by omega)]; exact a5 s hs
  · exact ⟨by rw [u3_n (by omega)]; exact a6.1, fun s hs => ⟨by rw [u3_n (by omega)]; exact (a6.2 s hs).1, by rw [u3_n (by omega)]; exact (a6.2 s hs).2⟩⟩
theorem st_wear {b : Nat → Nat} {len pos W H sl n wb : Nat} {ro we : Nat → Nat} {m : MI} {w : WS} {x : Int32} (hn : nmC b len pos m 2) (hv : tkV b len (poN b len pos 0) ≤ 5) (h : sC0 m W H sl n wb ro we) : ∃ m', F_X5_store m w (nI 3) x = some m' ∧ sfF m m' ∧ sC0 m' W H sl n (wb ||| 1 <<< tkV b len (poN b len pos 0)) ro (fun s => if s = tkV b len (poN b len pos 0) then tkV b len (poN b len pos 1) else we s) := by
  obtain ⟨a0, a1, a2, a3, a4, a5, a6⟩ := h
  unfold F_X5_store
  rw [if_neg (show ¬ nI 3 = 0 by decide), if_neg (show ¬ nI 3 = 1 by decide), if_neg (show ¬ nI 3 = 2 by decide), if_pos (show nI 3 = 3 from rfl), hn.1 0 (by omega) (by omega), hn.1 1 (by omega) (by omega)]
  unfold F_X5_storeWear
  rw [if_neg (show ¬ nI (tkV b len (poN b len pos 0)) < 0 by rw [show (0 : Int32) = nI 0 from rfl, nlt (by omega) (by omega)]; omega), if_neg (show ¬ (6 : Int32) ≤ nI (tkV b len (poN b len pos 0)) by rw [show (6 : Int32) = nI 6 from rfl, nle (by omega) (by omega)]; omega), ck_in (by omega) (by omega), ncl (by omega), lt_e, lt_e, Option.bind_some, u3_n (by omega), a6.1, n31 (by omega), i1, nshl _ (by omega), nor]
  refine ⟨_, rfl, fun c i j z1 z2 z3 => by rw [u3_n (by omega), u3_n (by omega)], ?_, ?_, ?_, ?_, fun k hk => ?_, fun s hs => ?_, ?_⟩
  · rw [u3_n (by omega), u3_n (by omega)]; exact a0
  · rw [u3_n (by omega), u3_n (by omega)]; exact a1
  · rw [u3_n (by omega), u3_n (by omega)]; exact a2
  · rw [u3_n (by omega), u3_n (by omega)]; exact a3
  · rw [u3_n (by omega), u3_n (by omega)]; exact a4 k hk
  · dsimp only
    by_cases es : s = tkV b len (poN b len pos 0)
    · rw [if_pos es, es, u3_n (by omega), u3_s]
    · rw [if_neg es, u3_n (by omega), u3_n (by omega)]; exact a5 s hs
  · exact ⟨u3_s, fun s hs => ⟨by rw [u3_n (by omega), u3_n (by omega)]; exact (a6.2 s hs).1, by rw [u3_n (by omega), u3_n (by omega)]; exact (a6.2 s hs).2⟩⟩
theorem st_sheet {b : Nat → Nat} {len pos K W H sl n wb : Nat} {ro we : Nat → Nat} {m : MI} {w : WS} (hK : K ≤ 5) (hn : nmC b len pos m K) (h6 : n < 6) (hz : ∀ k, 5 * n ≤ k → k < 30 → ro k = 0) (h : sC0 m W H sl n wb ro we) : ∃ m', F_X5_store m w (nI 2) (nI K) = some m' ∧ sfF m m' ∧ sC0 m' W H sl (n + 1) wb (roW n K (fun q => tkV b len (poN b len pos q)) ro) we := by
  obtain ⟨a0, a1, a2, a3, a4, a5, a6⟩ := h
  have key : ∀ g F k m1, k + g = K → g < F → (∀ j, j < k → m1 34 0 (5 * n + j) = nI (tkV b len (poN b len pos j))) → (∀ c i j, ¬ (c = 34 ∧ i = 0 ∧ 5 * n ≤ j ∧ j < 5 * n + k) → m1 c i j = m c i j) → ∃ m', L_X5_storeSheet_15 w F m1 (nI K) (nI k) = some m' ∧ (∀ j, j < K → m' 34 0 (5 * n + j) = nI (tkV b len (poN b len pos j))) ∧ m' 5 8 3 = nI (n + 1) ∧ ∀ c i j, ¬ (c = 34 ∧ i = 0 ∧ 5 * n ≤ j ∧ j < 5 * n + K) → ¬ (c = 5 ∧ i = 8 ∧ j = 3) → m' c i j = m c i j := by
    intro g
    induction g with
    | zero =>
      intro F k m1 hk hF b1 b2
      obtain ⟨F, rfl⟩ : ∃ G, F = G + 1 := ⟨F - 1, by omega⟩
      have e3 : m1 5 8 3 = nI n := by rw [b2 _ _ _ (by omega)]; exact a3
      rw [L_X5_storeSheet_15, if_pos (show nI K ≤ nI k by rw [nle (by omega) (by omega)]; omega), e3, i1, nadd]
      exact ⟨_, rfl, fun j hj => by rw [u3_n (by omega)]; exact b1 j (by omega), u3_s, fun c i j z1 z2 => by rw [u3_n (by omega)]; exact b2 _ _ _ (by omega)⟩
    | succ g ih =>
      intro F k m1 hk hF b1 b2
      obtain ⟨F, rfl⟩ : ∃ G, F = G + 1 := ⟨F - 1, by omega⟩
      have e3 : m1 5 8 3 = nI n := by rw [b2 _ _ _ (by omega)]; exact a3
      have ei : (nI n * 5) + nI k = nI (5 * n + k) := by
        rw [show (5 : Int32) = nI 5 from rfl, nmul, nadd, Nat.mul_comm]
      rw [L_X5_storeSheet_15, if_neg (show ¬ nI K ≤ nI k by rw [nle (by omega) (by omega)]; omega), if_neg (show ¬ (5 : Int32) ≤ nI k by rw [show (5 : Int32) = nI 5 from rfl, nle (by omega) (by omega)]; omega), ck_in (by omega) (by omega), e3, ei, ck_in (by omega) (by omega), ncl (by omega), ncl (by omega), lt_e, show nI k + 1 = nI (k + 1) from nadd k 1]
      refine ih F (k + 1) _ (by omega) (by omega) (fun j hj => ?_) (fun c i j z => ?_)
      · by_cases e : j = k
        · rw [e, u3_s, b2 _ _ _ (by omega)]; exact hn.1 k (by omega) (by omega)
        · rw [u3_n (by omega)]; exact b1 j (by omega)
      · rw [u3_n (by omega)]; exact b2 c i j (by omega)
  obtain ⟨m', e1, e2, e3, e4⟩ := key K 1000000 0 m (by omega) (by omega) (fun j hj => by omega) (fun _ _ _ _ => rfl)
  have e1' : L_X5_storeSheet_15 w 1000000 m (nI K) 0 = some m' := e1
  unfold F_X5_store F_X5_storeSheet
  rw [if_neg (show ¬ nI 2 = 0 by decide), if_neg (show ¬ nI 2 = 1 by decide), if_pos (show nI 2 = 2 from rfl), if_pos (show m 5 8 3 < 6 by rw [a3, show (6 : Int32) = nI 6 from rfl, nlt (by omega) (by omega)]; exact h6), e1', Option.bind_some]
  refine ⟨m', rfl, fun c i j z1 z2 z3 => e4 _ _ _ (by omega) (by omega), ?_, ?_, ?_, e3, fun k hk => ?_, fun s hs => ?_, ?_⟩
  · rw [e4 _ _ _ (by omega) (by omega)]; exact a0
  · rw [e4 _ _ _ (by omega) (by omega)]; exact a1
  · rw [e4 _ _ _ (by omega) (by omega)]; exact a2
  · unfold roW
    by_cases z : 5 * n ≤ k ∧ k < 5 * n + 5
    · rw [if_pos z]
      by_cases z2 : k - 5 * n < K
      · rw [if_pos z2, ← e2 _ z2, show 5 * n + (k - 5 * n) = k by omega]
      · rw [if_neg z2, e4 _ _ _ (by omega) (by omega), a4 k hk, hz k z.1 hk]
    · rw [if_neg z, e4 _ _ _ (by omega) (by omega)]; exact a4 k hk
  · rw [e4 _ _ _ (by omega) (by omega)]; exact a5 s hs
  · exact ⟨by rw [e4 _ _ _ (by omega) (by omega)]; exact a6.1, fun s hs => ⟨by rw [e4 _ _ _ (by omega) (by omega)]; exact (a6.2 s hs).1, by rw [e4 _ _ _ (by omega) (by omega)]; exact (a6.2 s hs).2⟩⟩
theorem st_row {b : Nat → Nat} {len pos K n : Nat} {co : Nat → Nat} {m : MI} {w : WS} (hK : K ≤ 5) (hn : nmC b len pos m K) (h6 : n < 5) (hz : ∀ k, 5 * n ≤ k → k < 25 → co k = 0) (h : sC2 m n co) : ∃ m', F_X5_store m w (nI 10) (nI K) = some m' ∧ sfF m m' ∧ sC2 m' (n + 1) (roW n K (fun q => tkV b len (poN b len pos q)) co) := by
  obtain ⟨a0, a3, a4⟩ := h
  have key : ∀ g F k m1, k + g = K → g < F → (∀ j, j < k → m1 30 8 (5 * n + j) = nI (tkV b len (poN b len pos j))) → (∀ c i j, ¬ (c = 30 ∧ i = 8 ∧ 5 * n ≤ j ∧ j < 5 * n + k) → m1 c i j = m c i j) → ∃ m', L_X5_storeRow_11 w F m1 (nI K) (nI k) = some m' ∧ (∀ j, j < K → m' 30 8 (5 * n + j) = nI (tkV b len (poN b len pos j))) ∧ m' 4 0 10 = nI (n + 1) ∧ ∀ c i j, ¬ (c = 30 ∧ i = 8 ∧ 5 * n ≤ j ∧ j < 5 * n + K) → ¬ (c = 4 ∧ i = 0 ∧ j = 10) → m' c i j = m c i j := by
    intro g
    induction g with
    | zero =>
      intro F k m1 hk hF b1 b2
      obtain ⟨F, rfl⟩ : ∃ G, F = G + 1 := ⟨F - 1, by omega⟩
      have e3 : m1 4 0 10 = nI n := by rw [b2 _ _ _ (by omega)]; exact a3
      rw [L_X5_storeRow_11, if_pos (show nI K ≤ nI k by rw [nle (by omega) (by omega)]; omega), e3, i1, nadd]
      exact ⟨_, rfl, fun j hj => by rw [u3_n (by omega)]; exact b1 j (by omega), u3_s, fun c i j z1 z2 => by rw [u3_n (by omega)]; exact b2 _ _ _ (by omega)⟩
    | succ g ih =>
      intro F k m1 hk hF b1 b2
      obtain ⟨F, rfl⟩ : ∃ G, F = G + 1 := ⟨F - 1, by omega⟩
      have e3 : m1 4 0 10 = nI n := by rw [b2 _ _ _ (by omega)]; exact a3
      have ei : (nI n * 5) + nI k = nI (5 * n + k) := by
        rw [show (5 : Int32) = nI 5 from rfl, nmul, nadd, Nat.mul_comm]
      rw [L_X5_storeRow_11, if_neg (show ¬ nI K ≤ nI k by rw [nle (by omega) (by omega)]; omega), if_neg (show ¬ (5 : Int32) ≤ nI k by rw [show (5 : Int32) = nI 5 from rfl, nle (by omega) (by omega)]; omega), ck_in (by omega) (by omega), e3, ei, ck_in (by omega) (by omega), ncl (by omega), ncl (by omega), lt_e, show nI k + 1 = nI (k + 1) from nadd k 1]
      refine ih F (k + 1) _ (by omega) (by omega) (fun j hj => ?_) (fun c i j z => ?_)
      · by_cases e : j = k
        · rw [e, u3_s, b2 _ _ _ (by omega)]; exact hn.1 k (by omega) (by omega)
        · rw [u3_n (by omega)]; exact b1 j (by omega)
      · rw [u3_n (by omega)]; exact b2 c i j (by omega)
  obtain ⟨m', e1, e2, e3, e4⟩ := key K 1000000 0 m (by omega) (by omega) (fun j hj => by omega) (fun _ _ _ _ => rfl)
  have e1' : L_X5_storeRow_11 w 1000000 m (nI K) 0 = some m' := e1
  unfold F_X5_store F_X5_storeRow
  rw [if_neg (show ¬ nI 10 = 0 by decide), if_neg (show ¬ nI 10 = 1 by decide), if_neg (show ¬ nI 10 = 2 by decide), if_neg (show ¬ nI 10 = 3 by decide), if_neg (show ¬ nI 10 = 4 by decide), if_neg (show ¬ nI 10 = 5 by decide), if_neg (show ¬ nI 10 = 6 by decide), if_neg (show ¬ nI 10 = 7 by decide), if_neg (show ¬ nI 10 = 8 by decide), if_neg (show ¬ nI 10 = 9 by decide), if_pos (show nI 10 = 10 from rfl), if_pos (show m 4 0 10 < 5 by rw [a3, show (5 : Int32) = nI 5 from rfl, nlt (by omega) (by omega)]; exact h6), e1', Option.bind_some]
  refine ⟨m', rfl, fun c i j z1 z2 z3 => e4 _ _ _ (by omega) (by omega), by omega, e3, fun k hk => ?_⟩
  unfold roW
  by_cases z : 5 * n ≤ k ∧ k < 5 * n + 5
  · rw [if_pos z]
    by_cases z2 : k - 5 * n < K
    · rw [if_pos z2, ← e2 _ z2, show 5 * n + (k - 5 * n) = k by omega]
    · rw [if_neg z2, e4 _ _ _ (by omega) (by omega), a4 k hk, hz k z.1 hk]
  · rw [if_neg z, e4 _ _ _ (by omega) (by omega)]; exact a4 k hk
theorem add_day {b : Nat → Nat} {len pos K n : Nat} {q : Nat → Int32} {d : Int32} {m : MI} {w : WS} (hn : nmC b len pos m K) (h40 : n < 40) (h : sC1 m n q) : ∃ m', F_X0_add m w 8 d (m 35 0 0) (m 35 0 1) (m 35 0 2) = some m' ∧ sfF m m' ∧ sC1 m' (n + 1) (qoW n (rwI b len pos K d) q) := by
  obtain ⟨a0, a1, a2⟩ := h
  have e0 : nI n * 4 = nI (n * 4) := by rw [show (4 : Int32) = nI 4 from rfl, nmul]
  have e1 : nI (n * 4) + 1 = nI (n * 4 + 1) := nadd _ 1
  have e2 : nI (n * 4) + 2 = nI (n * 4 + 2) := nadd _ 2
  have e3 : nI (n * 4) + 3 = nI (n * 4 + 3) := nadd _ 3
  unfold F_X0_add
  rw [if_pos (show m 0 8 0 < 40 by rw [a1, show (40 : Int32) = nI 40 from rfl, nlt (by omega) (by omega)]; exact h40), a1, e0, ck_in (by omega) (by omega), lt_e, e1, ck_in (by omega) (by omega), lt_e, e2, ck_in (by omega) (by omega), lt_e, e3, ck_in (by omega) (by omega), lt_e, ncl (by omega), ncl (by omega), ncl (by omega), ncl (by omega)]
  refine ⟨_, rfl, fun c i j z1 z2 z3 => by rw [u3_n (by omega), u3_n (by omega), u3_n (by omega), u3_n (by omega), u3_n (by omega)], by omega, ?_, fun k hk => ?_⟩
  · rw [u3_s, u3_n (by omega), u3_n (by omega), u3_n (by omega), u3_n (by omega), a1]
    exact nadd n 1
  · unfold qoW
    by_cases c1 : 4 * n ≤ k
    · rw [if_pos c1]
      unfold rwI
      have hh : k = 4 * n ∨ k = 4 * n + 1 ∨ k = 4 * n + 2 ∨ k = 4 * n + 3 := by omega
      rcases hh with hh | hh | hh | hh
      · rw [if_pos (by omega), u3_n (by omega), u3_n (by omega), u3_n (by omega), u3_n (by omega), show k = n * 4 by omega, u3_s]
      · rw [if_neg (by omega), u3_n (by omega), u3_n (by omega), u3_n (by omega), show k = n * 4 + 1 by omega, u3_s, show n * 4 + 1 - 4 * n - 1 = 0 by omega]
        exact nm_nu hn (by omega)
      · rw [if_neg (by omega), u3_n (by omega), u3_n (by omega), show k = n * 4 + 2 by omega, u3_s, show n * 4 + 2 - 4 * n - 1 = 1 by omega]
        exact nm_nu hn (by omega)
      · rw [if_neg (by omega), u3_n (by omega), show k = n * 4 + 3 by omega, u3_s, show n * 4 + 3 - 4 * n - 1 = 2 by omega]
        exact nm_nu hn (by omega)
    · rw [if_neg c1, u3_n (by omega), u3_n (by omega), u3_n (by omega), u3_n (by omega), u3_n (by omega)]
      exact a2 k (by omega)
theorem st_day {b : Nat → Nat} {len pos K n i : Nat} {q : Nat → Int32} {m : MI} {w : WS} {x : Int32} (hi4 : 4 ≤ i) (hi9 : i ≤ 9) (hn : nmC b len pos m K) (h40 : n < 40) (h : sC1 m n q) : ∃ m', F_X5_store m w (nI i) x = some m' ∧ sfF m m' ∧ sC1 m' (n + 1) (qoW n (rwI b len pos K (nI (i - 4))) q) := by
  obtain ⟨m', e1, e2, e3⟩ := add_day (w := w) (d := nI (i - 4)) hn h40 h
  refine ⟨m', ?_, e2, e3⟩
  have ed : nI i - 4 = nI (i - 4) := by rw [show (4 : Int32) = nI 4 from rfl, nsub hi4]
  have en : ∀ j, i ≠ j → j < 100 → ¬ nI i = nI j := fun j h h2 => nne (by omega) (by omega) h
  unfold F_X5_store
  rw [if_neg (show ¬ nI i = 0 from en 0 (by omega) (by omega)), if_neg (show ¬ nI i = 1 from en 1 (by omega) (by omega)), if_neg (show ¬ nI i = 2 from en 2 (by omega) (by omega)), if_neg (show ¬ nI i = 3 from en 3 (by omega) (by omega)), ed, e1]
  rw [Option.bind_some]
  have ie : ∀ (p : Prop) [Decidable p] (r : Option MI), (if p then some m' else r) = some m' ↔ (¬ p → r = some m') := fun p _ r => by
    by_cases h : p
    · rw [if_pos h]; exact ⟨fun _ z => absurd h z, fun _ => rfl⟩
    · rw [if_neg h]; exact ⟨fun z _ => z, fun z => z h⟩
  rw [ie, ie, ie, ie, ie, ie]
  intro h4 h5 h6 h7 h8 h9
  exfalso
  have hh : i = 4 ∨ i = 5 ∨ i = 6 ∨ i = 7 ∨ i = 8 ∨ i = 9 := by omega
  rcases hh with hh | hh | hh | hh | hh | hh <;> subst hh
  · exact h4 rfl
  · exact h5 rfl
  · exact h6 rfl
  · exact h7 rfl
  · exact h8 rfl
  · exact h9 rfl
theorem add_mark {b : Nat → Nat} {len pos K n : Nat} {q : Nat → Int32} {d : Int32} {m : MI} {w : WS} (hn : nmC b len pos m K) (h8 : n < 8) (h : sC3 m n q) : ∃ m', F_X2_add m w 8 (m 35 0 0) (m 35 0 1) (m 35 0 2) = some m' ∧ sfF m m' ∧ sC3 m' (n + 1) (qoW n (rwI b len pos K d) q) := by
  obtain ⟨a0, a1, a2⟩ := h
  unfold F_X2_add
  rw [if_pos (show m 1 8 0 < 8 by rw [a1, show (8 : Int32) = nI 8 from rfl, nlt (by omega) (by omega)]; exact h8), a1, ck_in (by omega) (by omega), lt_e, ncl (by omega), u3_n (by omega), a1, ck_in (by omega) (by omega), lt_e, ncl (by omega), u3_n (by omega), u3_n (by omega), a1, ck_in (by omega) (by omega), lt_e, ncl (by omega)]
  refine ⟨_, rfl, fun c i j z1 z2 z3 => by rw [u3_n (by omega), u3_n (by omega), u3_n (by omega), u3_n (by omega)], by omega, ?_, fun k hk => ?_⟩
  · rw [u3_s, u3_n (by omega), u3_n (by omega), u3_n (by omega), a1]
    exact nadd n 1
  · by_cases e : k = n
    · subst e
      have r1 : qoW k (rwI b len pos K d) q (4 * k + 1) = nuI b len pos K 0 := by
        unfold qoW rwI
        rw [if_pos (by omega), if_neg (by omega), show 4 * k + 1 - 4 * k - 1 = 0 by omega]
      have r2 : qoW k (rwI b len pos K d) q (4 * k + 2) = nuI b len pos K 1 := by
        unfold qoW rwI
        rw [if_pos (by omega), if_neg (by omega), show 4 * k + 2 - 4 * k - 1 = 1 by omega]
      have r3 : qoW k (rwI b len pos K d) q (4 * k + 3) = nuI b len pos K 2 := by
        unfold qoW rwI
        rw [if_pos (by omega), if_neg (by omega), show 4 * k + 3 - 4 * k - 1 = 2 by omega]
      rw [r1, r2, r3]
      refine ⟨?_, ?_, ?_⟩
      · rw [u3_n (by omega), u3_n (by omega), u3_n (by omega), u3_s]; exact nm_nu hn (by omega)
      · rw [u3_n (by omega), u3_n (by omega), u3_s]; exact nm_nu hn (by omega)
      · rw [u3_n (by omega), u3_s]; exact nm_nu hn (by omega)
    · have r : ∀ p, p < 4 → qoW n (rwI b len pos K d) q (4 * k + p) = q (4 * k + p) := fun p hp => by
        unfold qoW
        rw [if_neg (by omega)]
      obtain ⟨g1, g2, g3⟩ := a2 k (by omega)
      rw [r 1 (by omega), r 2 (by omega), r 3 (by omega)]
      refine ⟨?_, ?_, ?_⟩
      · rw [u3_n (by omega), u3_n (by omega), u3_n (by omega), u3_n (by omega)]; exact g1
      · rw [u3_n (by omega), u3_n (by omega), u3_n (by omega), u3_n (by omega)]; exact g2
      · rw [u3_n (by omega), u3_n (by omega), u3_n (by omega), u3_n (by omega)]; exact g3
theorem st_mark {b : Nat → Nat} {len pos K n i : Nat} {q : Nat → Int32} {d : Int32} {m : MI} {w : WS} {x : Int32} (hi : i = 11 ∨ i = 12) (hn : nmC b len pos m K) (h8 : n < 8) (h : sC3 m n q) : ∃ m', F_X5_store m w (nI i) x = some m' ∧ sfF m m' ∧ sC3 m' (n + 1) (qoW n (rwI b len pos K d) q) := by
  obtain ⟨m', e1, e2, e3⟩ := add_mark (w := w) (d := d) hn h8 h
  refine ⟨m', ?_, e2, e3⟩
  have en : ∀ j, i ≠ j → j < 100 → ¬ nI i = nI j := fun j h h2 => nne (by omega) (by omega) h
  unfold F_X5_store
  rw [if_neg (show ¬ nI i = 0 from en 0 (by omega) (by omega)), if_neg (show ¬ nI i = 1 from en 1 (by omega) (by omega)), if_neg (show ¬ nI i = 2 from en 2 (by omega) (by omega)), if_neg (show ¬ nI i = 3 from en 3 (by omega) (by omega)), if_neg (show ¬ nI i = 4 from en 4 (by omega) (by omega)), if_neg (show ¬ nI i = 5 from en 5 (by omega) (by omega)), if_neg (show ¬ nI i = 6 from en 6 (by omega) (by omega)), if_neg (show ¬ nI i = 7 from en 7 (by omega) (by omega)), if_neg (show ¬ nI i = 8 from en 8 (by omega) (by omega)), if_neg (show ¬ nI i = 9 from en 9 (by omega) (by omega)), if_neg (show ¬ nI i = 10 from en 10 (by omega) (by omega)), e1, Option.bind_some]
  rcases hi with hi | hi <;> subst hi
  · exact if_pos rfl
  · rw [if_neg (show ¬ nI 12 = 11 by decide)]
    exact if_pos rfl
