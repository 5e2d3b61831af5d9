def bgN (W X i : Nat) : Nat := if rnN W X (i + 1) = 1 then 1 else 0
theorem sN_s (f : Nat → Nat) (n : Nat) : sN f (n + 1) = sN f n + f n := rfl
theorem m1z (z : Nat) : nI (z + 1) - 1 = nI z := by rw [show (1 : Int32) = nI 1 from rfl, nsub (by omega), Nat.add_sub_cancel]
theorem c_strokeCount {mi : MI} (w : WS) {i W H X : Nat} (b : BW W H) (c : CW mi i W H) (hX : X < 33554432) : F_X1_strokeCount mi w i (nI X) = some (nI (sN (bgN W X) (W * H))) := by
  have hC := cells_le b.1.2 b.2.2
  have hW5 := b.1.2
  have hH5 := b.2.2
  have inner : ∀ (k4 : Nat → Int32 → Int32 → Int32 → Option Int32) y, y < H → ∀ r f x, x + r = W → r < f → L_X1_strokeCount_15 mi w k4 f i (nI X) (nI (sN (bgN W X) (y * W + x))) (nI y) (nI x) = k4 i (nI X) (nI (sN (bgN W X) ((y + 1) * W))) (nI (y + 1)) := by
    intro k4 y hy r
    induction r with
    | zero =>
      intro f x hx hf
      obtain ⟨f, rfl⟩ : ∃ m, f = m + 1 := ⟨f - 1, by omega⟩
      have : x = W := by omega
      subst this
      rw [L_X1_strokeCount_15, if_pos (show mi 5 i 0 ≤ nI x by rw [c.1.1, nle (by omega) (by omega)]; omega), show nI y + 1 = nI (y + 1) from nI_add y 1, Nat.add_mul, Nat.one_mul]
    | succ r ih =>
      intro f x hx hf
      obtain ⟨f, rfl⟩ : ∃ m, f = m + 1 := ⟨f - 1, by omega⟩
      have hin := at_in b c hX (show x < W by omega) hy
      have hrn := rn_1 (X := X) (y := y) (show x < W by omega)
      have nx := ih f (x + 1) (by omega) (by omega)
      rw [show y * W + (x + 1) = y * W + x + 1 from rfl, sN_s] at nx
      rw [L_X1_strokeCount_15, if_neg (show ¬ mi 5 i 0 ≤ nI x by rw [c.1.1, nle (by omega) (by omega)]; omega), show nI x + 1 = nI (x + 1) from nI_add x 1]
      by_cases hb : X.testBit (y * W + x) = true
      · rw [if_pos (show aT mi i X (nI x) (nI y) from hin.mpr hb)]
        have hleft : aT mi i X (nI x - 1) (nI y) ↔ ¬ (x = 0 ∨ X.testBit (y * W + (x - 1)) = false) := by
          rcases x with _ | z
          · exact ⟨fun q => absurd q at_lo, fun q => absurd (Or.inl rfl) q⟩
          · rw [m1z, at_in b c hX (show z < W by omega) hy]
            show _ ↔ ¬ (z + 1 = 0 ∨ X.testBit (y * W + z) = false)
            cases X.testBit (y * W + z)
            · simp
            · simp
        by_cases h2 : x = 0 ∨ X.testBit (y * W + (x - 1)) = false
        · rw [if_neg (show ¬ aT mi i X (nI x - 1) (nI y) from fun q => hleft.mp q h2), show nI (sN (bgN W X) (y * W + x)) + 1 = nI (sN (bgN W X) (y * W + x) + bgN W X (y * W + x)) by rw [show bgN W X (y * W + x) = 1 from if_pos (hrn.mpr ⟨hb, h2⟩)]; exact nI_add _ 1]
          exact nx
        · rw [if_pos (show aT mi i X (nI x - 1) (nI y) from hleft.mpr h2)]
          rw [show bgN W X (y * W + x) = 0 from if_neg (fun q => h2 (hrn.mp q).2)] at nx
          exact nx
      · rw [if_neg (show ¬ aT mi i X (nI x) (nI y) from fun q => hb (hin.mp q))]
        rw [show bgN W X (y * W + x) = 0 from if_neg (fun q => hb (hrn.mp q).1)] at nx
        exact nx
  have outer : ∀ r f y, y + r = H → r < f → L_X1_strokeCount_4 mi w f i (nI X) (nI (sN (bgN W X) (y * W))) (nI y) = some (nI (sN (bgN W X) (W * H))) := by
    intro r
    induction r with
    | zero =>
      intro f y hy hf
      obtain ⟨f, rfl⟩ : ∃ m, f = m + 1 := ⟨f - 1, by omega⟩
      have : y = H := by omega
      subst this
      rw [L_X1_strokeCount_4, if_pos (show mi 5 i 1 ≤ nI y by rw [c.1.2, nle (by omega) (by omega)]; omega), Nat.mul_comm]
    | succ r ih =>
      intro f y hy hf
      obtain ⟨f, rfl⟩ : ∃ m, f = m + 1 := ⟨f - 1, by omega⟩
      rw [L_X1_strokeCount_4, if_neg (show ¬ mi 5 i 1 ≤ nI y by rw [c.1.2, nle (by omega) (by omega)]; omega)]
      exact (inner (fun i0 x1 x2 x3 => L_X1_strokeCount_4 mi w f i0 x1 x2 x3) y (by omega) W 1000000 0 (by omega) (by omega)).trans (ih f (y + 1) (by omega) (by omega))
  rw [F_X1_strokeCount]
  have := outer H 1000000 0 (by omega) (by omega)
  rw [Nat.zero_mul] at this
  exact this
theorem c_longestStroke {mi : MI} (w : WS) {i W H X : Nat} (b : BW W H) (c : CW mi i W H) (hX : X < 33554432) : F_X1_longestStroke mi w i (nI X) = some (nI (foldN (mxN W X) 0 (W * H))) := by
  have hC := cells_le b.1.2 b.2.2
  have hW5 := b.1.2
  have hH5 := b.2.2
  have inner : ∀ (k4 : Nat → Int32 → Int32 → Int32 → Option Int32) y, y < H → ∀ r f x, x + r = W → r < f → L_X1_longestStroke_18 mi w k4 f i (nI X) (nI (foldN (mxN W X) 0 (y * W + x))) (nI y) (nI (if x = 0 then 0 else rnN W X (y * W + x))) (nI x) = k4 i (nI X) (nI (foldN (mxN W X) 0 ((y + 1) * W))) (nI (y + 1)) := by
    intro k4 y hy r
    induction r with
    | zero =>
      intro f x hx hf
      obtain ⟨f, rfl⟩ : ∃ m, f = m + 1 := ⟨f - 1, by omega⟩
      have : x = W := by omega
      subst this
      rw [L_X1_longestStroke_18, if_pos (show mi 5 i 0 ≤ nI x by rw [c.1.1, nle (by omega) (by omega)]; omega), show nI y + 1 = nI (y + 1) from nI_add y 1, Nat.add_mul, Nat.one_mul]
    | succ r ih =>
      intro f x hx hf
      obtain ⟨f, rfl⟩ : ∃ m, f = m + 1 := ⟨f - 1, by omega⟩
      have hin := at_in b c hX (show x < W by omega) hy
      have hl := cell_lt (show x < W by omega) hy
      have nx := ih f (x + 1) (by omega) (by omega)
      have hm : (y * W + x) % W = x := by rw [Nat.mul_comm, Nat.mul_add_mod]; exact Nat.mod_eq_of_lt (by omega)
      have h1 := rn_le W X (y * W + x)
      have h2 := rn_le W X (y * W + x + 1)
      have h3 := mx_le W X (y * W + x)
      rw [show y * W + (x + 1) = y * W + x + 1 from rfl, if_neg (show ¬ x + 1 = 0 by omega)] at nx
      have hrun : (if aT mi i X (nI x) (nI y) then nI (if x = 0 then 0 else rnN W X (y * W + x)) + 1 else 0) = nI (rnN W X (y * W + x + 1)) := by
        rw [rn_e, hm]
        by_cases hb : X.testBit (y * W + x) = true
        · rw [if_pos (hin.mpr hb), if_pos hb]
          exact nI_add _ 1
        · rw [if_neg (fun q => hb (hin.mp q)), if_neg hb]
          rfl
      have hmx : imax (nI (foldN (mxN W X) 0 (y * W + x))) (nI (rnN W X (y * W + x + 1))) = nI (foldN (mxN W X) 0 (y * W + x + 1)) := by
        show (if nI (foldN (mxN W X) 0 (y * W + x)) < nI (rnN W X (y * W + x + 1)) then nI (rnN W X (y * W + x + 1)) else nI (foldN (mxN W X) 0 (y * W + x))) = nI (mxN W X (y * W + x) (foldN (mxN W X) 0 (y * W + x)))
        rw [mx_e]
        by_cases q : foldN (mxN W X) 0 (y * W + x) < rnN W X (y * W + x + 1)
        · rw [if_pos (show nI _ < nI _ by rw [nlt (by omega) (by omega)]; exact q), if_pos (by omega)]
        · rw [if_neg (show ¬ nI _ < nI _ by rw [nlt (by omega) (by omega)]; exact q)]
          by_cases q2 : foldN (mxN W X) 0 (y * W + x) ≤ rnN W X (y * W + x + 1)
          · rw [if_pos q2, show foldN (mxN W X) 0 (y * W + x) = rnN W X (y * W + x + 1) by omega]
          · rw [if_neg q2]
      have hrun' : (if (¬ (nI x < 0) ∧ (¬ ((mi 5 i 0) ≤ nI x) ∧ (¬ (nI y < 0) ∧ (¬ ((mi 5 i 1) ≤ nI y))))) ∧ (¬ (((nI X >>> (((nI y * (mi 5 i 0)) + nI x) &&& 31)) &&& 1) = 0)) then nI (if x = 0 then 0 else rnN W X (y * W + x)) + 1 else 0) = nI (rnN W X (y * W + x + 1)) := hrun
      rw [L_X1_longestStroke_18, if_neg (show ¬ mi 5 i 0 ≤ nI x by rw [c.1.1, nle (by omega) (by omega)]; omega), hrun', hmx, show nI x + 1 = nI (x + 1) from nI_add x 1]
      exact nx
  have outer : ∀ r f y, y + r = H → r < f → L_X1_longestStroke_4 mi w f i (nI X) (nI (foldN (mxN W X) 0 (y * W))) (nI y) = some (nI (foldN (mxN W X) 0 (W * H))) := by
    intro r
    induction r with
    | zero =>
      intro f y hy hf
      obtain ⟨f, rfl⟩ : ∃ m, f = m + 1 := ⟨f - 1, by omega⟩
      have : y = H := by omega
      subst this
      rw [L_X1_longestStroke_4, if_pos (show mi 5 i 1 ≤ nI y by rw [c.1.2, nle (by omega) (by omega)]; omega), Nat.mul_comm]
    | succ r ih =>
      intro f y hy hf
      obtain ⟨f, rfl⟩ : ∃ m, f = m + 1 := ⟨f - 1, by omega⟩
      rw [L_X1_longestStroke_4, if_neg (show ¬ mi 5 i 1 ≤ nI y by rw [c.1.2, nle (by omega) (by omega)]; omega)]
      exact (inner (fun i0 x1 x2 x3 => L_X1_longestStroke_4 mi w f i0 x1 x2 x3) y (by omega) W 1000000 0 (by omega) (by omega)).trans (ih f (y + 1) (by omega) (by omega))
  rw [F_X1_longestStroke]
  have := outer H 1000000 0 (by omega) (by omega)
  rw [Nat.zero_mul] at this
  exact this
