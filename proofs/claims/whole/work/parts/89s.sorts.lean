/-! TEXT: which word of its sort a token is -/
def srL (s : Nat) : Nat := (STA12.getD s 0).toNatClampNeg
def wOk (b : Nat → Nat) (len pos i : Nat) : Prop := tkK b len pos = 0 ∧ wdIs b (tkP b len pos) (tkE b len pos) i
theorem kw_dif : ((List.range 13).all fun i => (List.range 13).all fun j => Nat.beq i j || !(decide (kwN i = kwN j))) = true := by decide +kernel
theorem wOk_one {b : Nat → Nat} {len pos i j : Nat} (hi : i < 13) (hj : j < 13) (h1 : wOk b len pos i) (h2 : wOk b len pos j) : i = j := by
  obtain ⟨-, l1, v1⟩ := h1
  obtain ⟨-, l2, v2⟩ := h2
  have e : kwN i = kwN j := by
    apply List.ext_getElem (by omega)
    intro k a1 a2
    have e1 := v1 k (by omega)
    have e2 := v2 k (by omega)
    rw [List.getD_eq_getElem?_getD, List.getElem?_eq_getElem a1, Option.getD_some] at e1
    rw [List.getD_eq_getElem?_getD, List.getElem?_eq_getElem a2, Option.getD_some] at e2
    rw [← e1, ← e2]
  have h := List.all_eq_true.mp (List.all_eq_true.mp kw_dif i (List.mem_range.mpr hi)) j (List.mem_range.mpr hj)
  rw [Bool.or_eq_true] at h
  rcases h with h | h
  · exact Nat.eq_of_beq_eq_true h
  · rw [decide_eq_true e] at h
    exact absurd h (by decide)
theorem spl {m : MI} {w : WS} {i : Nat} (hi : i < 13) : F_X5_spelling m w (nI i) = some (some i) := by
  have h : i = 0 ∨ i = 1 ∨ i = 2 ∨ i = 3 ∨ i = 4 ∨ i = 5 ∨ i = 6 ∨ i = 7 ∨ i = 8 ∨ i = 9 ∨ i = 10 ∨ i = 11 ∨ i = 12 := by omega
  rcases h with h | h | h | h | h | h | h | h | h | h | h | h | h <;> (subst h; rfl)
theorem srL_tab {s : Nat} (hs : s < 5) : STA12.getD s 0 = nI (srL s) ∧ srL s ≤ 13 := by
  have h : s = 0 ∨ s = 1 ∨ s = 2 ∨ s = 3 ∨ s = 4 := by omega
  rcases h with h | h | h | h | h <;> (subst h; exact ⟨by decide, by decide⟩)
theorem c_sortL {m : MI} {w : WS} {b : Nat → Nat} {len pos s : Nat} (hw : w.2.1 = true) (ht : tapC m b len) (hp : pos ≤ len) (htk : tokC m b len pos) (hs : s < 4) : ∀ f F i, i ≤ srL (s + 1) → srL (s + 1) ≤ i + f → f < F →
    (∃ j, i ≤ j ∧ j < srL (s + 1) ∧ wOk b len pos j ∧ L_X5_wordOfSort_17 m w F (nI s) (nI i) = some (nI j)) ∨ ((∀ j, i ≤ j → j < srL (s + 1) → ¬ wOk b len pos j) ∧ L_X5_wordOfSort_17 m w F (nI s) (nI i) = some (-1)) := by
  obtain ⟨e1, e2⟩ := srL_tab (s := s + 1) (by omega)
  have hl : s + 1 < STA12.length := by show s + 1 < 5; omega
  intro f
  induction f with
  | zero =>
    intro F i h0 h1 h2
    obtain ⟨F, rfl⟩ : ∃ G, F = G + 1 := ⟨F - 1, by omega⟩
    refine Or.inr ⟨fun j a c => by omega, ?_⟩
    rw [L_X5_wordOfSort_17, show nI s + 1 = nI (s + 1) from nadd s 1, ncl (by omega), ckJ hl (by omega), e1, if_pos (show nI (srL (s + 1)) ≤ nI i by rw [nle (by omega) (by omega)]; omega)]
  | succ f ih =>
    intro F i h0 h1 h2
    obtain ⟨F, rfl⟩ : ∃ G, F = G + 1 := ⟨F - 1, by omega⟩
    rw [L_X5_wordOfSort_17, show nI s + 1 = nI (s + 1) from nadd s 1, ncl (by omega), ckJ hl (by omega), e1]
    by_cases hi : srL (s + 1) ≤ i
    · exact Or.inr ⟨fun j a c => by omega, by rw [if_pos (show nI (srL (s + 1)) ≤ nI i by rw [nle (by omega) (by omega)]; omega)]⟩
    · rw [if_neg (show ¬ nI (srL (s + 1)) ≤ nI i by rw [nle (by omega) (by omega)]; omega), spl (by omega), Option.bind_some]
      show (∃ j, i ≤ j ∧ j < srL (s + 1) ∧ wOk b len pos j ∧ ((F_X7_isWord m w i).bind fun c101 => if c101 = 0 then L_X5_wordOfSort_17 m w F (nI s) (nI i + 1) else some (nI i)) = some (nI j)) ∨ ((∀ j, i ≤ j → j < srL (s + 1) → ¬ wOk b len pos j) ∧ ((F_X7_isWord m w i).bind fun c101 => if c101 = 0 then L_X5_wordOfSort_17 m w F (nI s) (nI i + 1) else some (nI i)) = some (-1))
      rcases c_isWord (i := i) hw ht hp htk (by omega) with ⟨q1, q2, q3⟩ | ⟨q1, q3⟩
      · rw [q3, Option.bind_some, if_neg (by decide)]
        exact Or.inl ⟨i, Nat.le_refl i, by omega, ⟨q1, q2⟩, rfl⟩
      · rw [q3, Option.bind_some, if_pos rfl, show nI i + 1 = nI (i + 1) from nadd i 1]
        rcases ih F (i + 1) (by omega) (by omega) (by omega) with ⟨j, j1, j2, j3, j4⟩ | ⟨j1, j2⟩
        · exact Or.inl ⟨j, by omega, j2, j3, j4⟩
        · refine Or.inr ⟨fun j a c hj => ?_, j2⟩
          by_cases ej : j = i
          · rw [ej] at hj; exact q1 hj
          · exact j1 j (by omega) c hj
theorem c_sort {m : MI} {w : WS} {b : Nat → Nat} {len pos s : Nat} (hw : w.2.1 = true) (ht : tapC m b len) (hp : pos ≤ len) (htk : tokC m b len pos) (hs : s < 4) :
    (∃ j, srL s ≤ j ∧ j < srL (s + 1) ∧ wOk b len pos j ∧ F_X5_wordOfSort m w (nI s) = some (nI j)) ∨ ((∀ j, srL s ≤ j → j < srL (s + 1) → ¬ wOk b len pos j) ∧ F_X5_wordOfSort m w (nI s) = some (-1)) := by
  obtain ⟨e1, e2⟩ := srL_tab (s := s) (by omega)
  obtain ⟨-, e3⟩ := srL_tab (s := s + 1) (by omega)
  have hl : s < STA12.length := by show s < 5; omega
  have hm : srL s ≤ srL (s + 1) := by
    have h : s = 0 ∨ s = 1 ∨ s = 2 ∨ s = 3 := by omega
    rcases h with h | h | h | h <;> (subst h; decide)
  unfold F_X5_wordOfSort
  rw [if_neg (show ¬ nI s < 0 by rw [show (0 : Int32) = nI 0 from rfl, nlt (by omega) (by omega)]; omega), if_pos (show nI s < 4 by rw [show (4 : Int32) = nI 4 from rfl, nlt (by omega) (by omega)]; omega), ncl (by omega), ckJ hl (by omega), e1]
  exact c_sortL hw ht hp htk hs 13 1000000 (srL s) hm (by omega) (by omega)
/-! the model's questions -/
def wdX (m : MI) (wd : Int64) : Int64 := if m 10 0 13 = 2 then wd else 0
theorem m_sel {m : MI} {wd : Int64} {b : Nat → Nat} {len pos i : Nat} (hp : pos ≤ len) (htk : tokM m wd b len pos) (hi : i < 13) : (lg_cmp (wdX m wd) (lN (pkP (kwN i) (kwN i).length)) = 0) = wOk b len pos i := by
  obtain ⟨t1, t2, t3, t4, t5⟩ := htk
  obtain ⟨p1, p2, p3⟩ := tk_le (b := b) hp
  refine propext ((lg_cmp_eq _ _).trans ?_)
  unfold wdX wOk
  by_cases hk : tkK b len pos = 0
  · rw [t3, hk, if_pos (show nI (srtN 0) = 2 by decide)]
    rw [m_isWord hi p2 (tk_letters hk) (t5 hk).1 (t5 hk).2]
    exact ⟨fun h => ⟨rfl, h⟩, fun h => h.2⟩
  · have h2 : nI (srtN (tkK b len pos)) ≠ 2 := by
      have : srtN (tkK b len pos) ≠ 2 ∧ srtN (tkK b len pos) ≤ 4 := by
        unfold srtN; repeat' split
        all_goals omega
      rw [show (2 : Int32) = nI 2 from rfl, Ne, neq (by omega) (by omega)]
      exact this.1
    rw [t3, if_neg h2]
    exact ⟨fun h => absurd h (m_noWord hi), fun h => absurd h.1 hk⟩
theorem kwl : ((List.range 13).map fun i => lN (pkP (kwN i) (kwN i).length)) = ([1936292453, 1936484720, 495672714612, 2003132786, 495807783289, 1718380912, 1953854062, 495740085349, 482671354728, 2002875240, 7499639, 7630704, 1650553445] : List Int64) := by decide +kernel
