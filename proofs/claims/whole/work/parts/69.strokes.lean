/-! STROKES: runs of open cells in rows -/
def rnN (W X : Nat) : Nat → Nat
  | 0 => 0
  | i + 1 => if X.testBit i then (if i % W = 0 then 0 else rnN W X i) + 1 else 0
theorem rn_e (W X i : Nat) : rnN W X (i + 1) = if X.testBit i then (if i % W = 0 then 0 else rnN W X i) + 1 else 0 := rfl
theorem rn_le (W X : Nat) : ∀ i, rnN W X i ≤ i := by
  intro i
  induction i with
  | zero => exact Nat.le_refl _
  | succ i ih => unfold rnN; split <;> (try split) <;> omega
def mxN (W X : Nat) (i a : Nat) : Nat := if a ≤ rnN W X (i + 1) then rnN W X (i + 1) else a
theorem mx_e (W X i a : Nat) : mxN W X i a = if a ≤ rnN W X (i + 1) then rnN W X (i + 1) else a := rfl
theorem mx_le (W X : Nat) : ∀ n, foldN (mxN W X) 0 n ≤ n := by
  intro n
  induction n with
  | zero => exact Nat.le_refl _
  | succ n ih =>
    show mxN W X n (foldN (mxN W X) 0 n) ≤ _
    have := rn_le W X (n + 1)
    rw [mx_e]
    split <;> omega
theorem m_strokes {m : MI} (w : WS) {W H X : Nat} (b : BW W H) (mw : MW m W H) (hX : X < 33554432) (x2 : Int32) : F_X11_strokes m w (nI X) x2 = some (if x2 = 0 then nI (sN (fun i => if rnN W X (i + 1) = 1 then 1 else 0) (W * H)) else nI (foldN (mxN W X) 0 (W * H))) := by
  have hC := cells_le b.1.2 b.2.2
  have hW := b.1.1
  have loop : ∀ r f i, i + r = W * H → r < f → L_X11_strokes_11 m w f (nI X) x2 (nI (sN (fun i => if rnN W X (i + 1) = 1 then 1 else 0) i)) (nI (foldN (mxN W X) 0 i)) (nI (rnN W X i)) (nI i) = some (if x2 = 0 then nI (sN (fun i => if rnN W X (i + 1) = 1 then 1 else 0) (W * H)) else nI (foldN (mxN W X) 0 (W * H))) := by
    intro r
    induction r with
    | zero =>
      intro f i hi hf
      obtain ⟨f, rfl⟩ : ∃ m, f = m + 1 := ⟨f - 1, by omega⟩
      have : i = W * H := by omega
      subst this
      rw [L_X11_strokes_11, mw.2.2, if_pos (show nI (W * H) ≤ nI (W * H) by rw [nle (by omega) (by omega)]; omega)]
    | succ r ih =>
      intro f i hi hf
      obtain ⟨f, rfl⟩ : ∃ m, f = m + 1 := ⟨f - 1, by omega⟩
      have h1 := rn_le W X i
      have h2 := rn_le W X (i + 1)
      have h3 := mx_le W X i
      have hrun : (if ((nI X >>> (nI i &&& 31)) &&& 1) = 1 then (if (irem (nI i) (m 10 0 24)) = 0 then 0 else nI (rnN W X i)) + 1 else 0) = nI (rnN W X (i + 1)) := by
        have e1 : (((nI X >>> (nI i &&& 31)) &&& 1) = 1) = (X.testBit i = true) := by
          rw [n31 (by omega), nshr (by omega) (by omega), show (1 : Int32) = nI 1 from rfl, nand, bit1]
        have e2 : ((irem (nI i) (m 10 0 24)) = 0) = (i % W = 0) := by
          have := Nat.mod_lt i hW
          rw [mw.1, nrem (by omega) (by omega) (by have := b.1.2; omega), show (0 : Int32) = nI 0 from rfl, neq (by have := b.1.2; omega) (by omega)]
        rw [rn_e]
        by_cases c1 : X.testBit i = true
        · rw [if_pos (by rw [e1]; exact c1), if_pos c1]
          by_cases c2 : i % W = 0
          · rw [if_pos (by rw [e2]; exact c2), if_pos c2]; rfl
          · rw [if_neg (by rw [e2]; exact c2), if_neg c2]; exact nI_add (rnN W X i) 1
        · rw [if_neg (by rw [e1]; exact c1), if_neg c1]; rfl
      have hb : b2 (nI (rnN W X (i + 1)) = 1) = nI (if rnN W X (i + 1) = 1 then 1 else 0) := by
        by_cases c : rnN W X (i + 1) = 1
        · rw [b2_pos (show nI (rnN W X (i + 1)) = 1 by rw [c]; rfl), if_pos c]; rfl
        · rw [b2_neg (show ¬ nI (rnN W X (i + 1)) = 1 from nne (b := 1) (by omega) (by omega) c), if_neg c]; rfl
      have hg : f_X11_greater m (nI (foldN (mxN W X) 0 i)) (nI (rnN W X (i + 1))) = nI (foldN (mxN W X) 0 (i + 1)) := by
        show (if nI (foldN (mxN W X) 0 i) ≤ nI (rnN W X (i + 1)) then nI (rnN W X (i + 1)) else nI (foldN (mxN W X) 0 i)) = nI (mxN W X i (foldN (mxN W X) 0 i))
        rw [mx_e]
        by_cases c : foldN (mxN W X) 0 i ≤ rnN W X (i + 1)
        · rw [if_pos c, if_pos (show nI _ ≤ nI _ by rw [nle (by omega) (by omega)]; exact c)]
        · rw [if_neg c, if_neg (show ¬ nI _ ≤ nI _ by rw [nle (by omega) (by omega)]; exact c)]
      have hw0 : ¬ m 10 0 24 = 0 := by rw [mw.1]; exact nne0 (by have := b.1.2; omega) (by omega)
      rw [L_X11_strokes_11, if_neg (by rw [mw.2.2, nle (by omega) (by omega)]; omega), ckT hw0, hrun, hb, hg, nadd, show nI i + 1 = nI (i + 1) from nI_add i 1]
      exact ih f (i + 1) (by omega) (by omega)
  rw [F_X11_strokes]
  exact loop (W * H) 1000000 0 (by omega) (by omega)
/-- the class's question whether a cell is open -/
abbrev aT (mi : MI) (i X : Nat) (p q : Int32) : Prop := (¬ (p < 0) ∧ (¬ ((mi 5 i 0) ≤ p) ∧ (¬ (q < 0) ∧ (¬ ((mi 5 i 1) ≤ q))))) ∧ (¬ (((nI X >>> (((q * (mi 5 i 0)) + p) &&& 31)) &&& 1) = 0))
theorem cell_lt {W H x y : Nat} (hx : x < W) (hy : y < H) : y * W + x < W * H := by
  have h1 : (y + 1) * W ≤ H * W := Nat.mul_le_mul_right W (by omega)
  rw [Nat.add_mul, Nat.one_mul, Nat.mul_comm H W] at h1
  omega
theorem at_in {mi : MI} {i W H X x y : Nat} (b : BW W H) (c : CW mi i W H) (hX : X < 33554432) (hx : x < W) (hy : y < H) : aT mi i X (nI x) (nI y) ↔ X.testBit (y * W + x) = true := by
  have hC := cells_le b.1.2 b.2.2
  have hl := cell_lt hx hy
  have h5 := b.1.2
  have h6 := b.2.2
  unfold aT
  rw [c.1.1, c.1.2, nmul, nadd, n31 (by omega), nshr (by omega) (by omega), show (1 : Int32) = nI 1 from rfl, nand, show (0 : Int32) = nI 0 from rfl, bit0, nle (by omega) (by omega), nle (by omega) (by omega)]
  constructor
  · rintro ⟨-, q⟩
    cases h : X.testBit (y * W + x)
    · exact absurd h q
    · rfl
  · intro q
    exact ⟨⟨nI_pos (by omega), by omega, nI_pos (by omega), by omega⟩, by rw [q]; decide⟩
theorem at_lo {mi : MI} {i X : Nat} {q : Int32} : ¬ aT mi i X (nI 0 - 1) q := fun h => h.1.1 (by decide)
theorem at_lo2 {mi : MI} {i X : Nat} {p : Int32} : ¬ aT mi i X p (nI 0 - 1) := fun h => h.1.2.2.1 (by decide)
theorem at_hi {mi : MI} {i W H X : Nat} {q : Int32} (b : BW W H) (c : CW mi i W H) : ¬ aT mi i X (nI W) q := fun h => h.1.2.1 (by rw [c.1.1, nle (by have := b.1.2; omega) (by have := b.1.2; omega)]; omega)
theorem at_hi2 {mi : MI} {i W H X : Nat} {p : Int32} (b : BW W H) (c : CW mi i W H) : ¬ aT mi i X p (nI H) := fun h => h.1.2.2.2 (by rw [c.1.2, nle (by have := b.2.2; omega) (by have := b.2.2; omega)]; omega)
/-- whether a stroke begins at a cell -/
theorem rn_1 {W X x y : Nat} (hx : x < W) : rnN W X (y * W + x + 1) = 1 ↔ X.testBit (y * W + x) = true ∧ (x = 0 ∨ X.testBit (y * W + (x - 1)) = false) := by
  have hm : (y * W + x) % W = x := by rw [Nat.mul_comm, Nat.mul_add_mod]; exact Nat.mod_eq_of_lt hx
  show (if X.testBit (y * W + x) then (if (y * W + x) % W = 0 then 0 else rnN W X (y * W + x)) + 1 else 0) = 1 ↔ _
  rw [hm]
  cases h : X.testBit (y * W + x)
  · simp
  · rw [if_pos rfl]
    by_cases h0 : x = 0
    · simp [h0]
    · rw [if_neg h0]
      obtain ⟨z, rfl⟩ : ∃ z, x = z + 1 := ⟨x - 1, by omega⟩
      rw [show y * W + (z + 1) = y * W + z + 1 from rfl, show z + 1 - 1 = z from rfl]
      unfold rnN
      cases X.testBit (y * W + z)
      · simp
      · simp
