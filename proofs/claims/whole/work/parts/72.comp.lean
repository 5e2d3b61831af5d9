/-! HOLES: components -/
theorem m_join {mi : MI} (w : WS) {W H : Nat} (b : BW W H) (m : MW mi W H) (l : Nat) (z : Int32) (hl : l < 2 ^ (W * H)) : ∀ (n h F : Nat), 25 ≤ popN h + n → h &&& l = h → ∀ more, more ≠ 0 → more < 2 ^ (W * H) → n + 2 ≤ F → L_X11_joined_7 mi w F z (nI l) (nI h) (nI more) = some (nI (grN W H l n h)) := by
  obtain ⟨⟨hW, hW5⟩, hH, hH5⟩ := b
  obtain ⟨h24, -, h26⟩ := m
  have hC := cells_le hW5 hH5
  have hl2 := pw hl hC
  intro n
  induction n with
  | zero =>
    intro h F hp hs more hm hmlt hF
    obtain ⟨F, rfl⟩ : ∃ G, F = G + 2 := ⟨F - 2, by omega⟩
    have hh : h < 2 ^ (W * H) := by rw [← hs]; exact and_lt_r hl
    have hm2 := pw hmlt hC
    have hst : (h ||| besN W H h) &&& l = h := by
      refine Decidable.byContradiction fun hne => ?_
      have := popN_lt (gup (b := besN W H h) hs) (fun e => hne e.symm) (Nat.lt_of_lt_of_le (and_lt_r hl) (Nat.pow_le_pow_right (by omega) hC))
      have := popN_le ((h ||| besN W H h) &&& l)
      omega
    have e := (gm (b := besN W H h) hs).mpr hst
    rw [L_X11_joined_7, i0, if_neg (nne (by omega) (by omega) hm), m_besides w hW hW5 hH hH5 h24 h26 hh, Option.bind_some, nand, nandn, nor, e, L_X11_joined_7, i0, if_pos rfl, Nat.or_zero]
    rfl
  | succ n ih =>
    intro h F hp hs more hm hmlt hF
    obtain ⟨F, rfl⟩ : ∃ G, F = G + 2 := ⟨F - 2, by omega⟩
    have hh : h < 2 ^ (W * H) := by rw [← hs]; exact and_lt_r hl
    have hm2 := pw hmlt hC
    rw [L_X11_joined_7, i0, if_neg (nne (by omega) (by omega) hm), m_besides w hW hW5 hH hH5 h24 h26 hh, Option.bind_some, nand, nandn, nor, gs hs, grN]
    by_cases hst : (h ||| besN W H h) &&& l = h
    · have e := (gm (b := besN W H h) hs).mpr hst
      rw [if_pos hst, hst, e, L_X11_joined_7, i0, if_pos rfl]
    · rw [if_neg hst]
      have hne : andn (besN W H h &&& l) h ≠ 0 := fun e => hst ((gm hs).mp e)
      have hp2 := popN_lt (gup (b := besN W H h) hs) (fun e => hst e.symm) (Nat.lt_of_lt_of_le (and_lt_r hl) (Nat.pow_le_pow_right (by omega) hC))
      exact ih _ (F + 1) (by omega) (gsub _ _ _) _ hne (andn_lt _ (and_lt_r hl)) (by omega)
/-- the component of a cell -/
def cpN (W H X c : Nat) : Nat := grN W H X 25 (1 <<< c)
theorem one_in {c X : Nat} (h : X.testBit c = true) : 1 <<< c &&& X = 1 <<< c := sub_of fun i hi => by
  rw [one_tb2, decide_eq_true_eq] at hi
  rw [← hi]; exact h
theorem m_joined {mi : MI} (w : WS) {W H X c : Nat} (b : BW W H) (m : MW mi W H) (hX : X < 2 ^ (W * H)) (hc : c < W * H) (h : X.testBit c = true) : F_X11_joined mi w (nI c) (nI X) = some (nI (cpN W H X c)) := by
  have hC := cells_le b.1.2 b.2.2
  rw [F_X11_joined, shc (by omega)]
  exact m_join w b m X (nI c) hX 25 (1 <<< c) 1000000 (by omega) (one_in h) _ (fun e => by
    have := congrArg (fun z => Nat.testBit z c) e
    simp only [one_tb2, Nat.zero_testBit, decide_eq_true rfl] at this
    cases this) (bit_lt hc) (by omega)
/-- where cells grow to, nothing is left beside -/
theorem gr_fix {W H l : Nat} (hl : l < 2 ^ 25) : ∀ n h, 25 ≤ popN h + n → h &&& l = h → (grN W H l n h ||| besN W H (grN W H l n h)) &&& l = grN W H l n h ∧ h &&& grN W H l n h = h ∧ grN W H l n h &&& l = grN W H l n h := by
  intro n
  induction n with
  | zero =>
    intro h hp hs
    refine ⟨?_, Nat.and_self h, hs⟩
    show (h ||| besN W H h) &&& l = h
    refine Decidable.byContradiction fun hne => ?_
    have := popN_lt (gup (b := besN W H h) hs) (fun e => hne e.symm) (and_lt_r hl)
    have := popN_le ((h ||| besN W H h) &&& l)
    omega
  | succ n ih =>
    intro h hp hs
    rw [grN]
    by_cases hst : (h ||| besN W H h) &&& l = h
    · rw [if_pos hst]
      exact ⟨hst, Nat.and_self h, hs⟩
    · rw [if_neg hst]
      have hp2 := popN_lt (gup (b := besN W H h) hs) (fun e => hst e.symm) (and_lt_r hl)
      obtain ⟨q1, q2, q3⟩ := ih ((h ||| besN W H h) &&& l) (by omega) (gsub _ _ _)
      refine ⟨q1, sub_of fun i hi => ?_, q3⟩
      exact sub_tb q2 i (sub_tb (gup (b := besN W H h) hs) i hi)
