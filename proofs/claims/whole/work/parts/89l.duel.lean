/-! DUEL: the class -/
def imx (a b : Int) : Int := if a < b then b else a
theorem imx_l (a b : Int) : a ≤ imx a b := by unfold imx; split <;> omega
theorem imx_r (a b : Int) : b ≤ imx a b := by unfold imx; split <;> omega
theorem imx_or (a b : Int) : imx a b = a ∨ imx a b = b := by unfold imx; split <;> omega
theorem t_imax (a b : Int32) : (imax a b).toInt = imx a.toInt b.toInt := by
  unfold imax imx
  by_cases h : a < b
  · rw [if_pos h, if_pos (Int32.lt_iff_toInt_lt.mp h)]
  · rw [if_neg h, if_neg fun q => h (Int32.lt_iff_toInt_lt.mpr q)]
def ABw (g b lo hi : Int) : Prop := (b < hi → g ≤ b) ∧ (lo < b → b ≤ g)
theorem t_neg {a : Int32} (h1 : -1000000 ≤ a.toInt) (h2 : a.toInt ≤ 1000000) : (-a).toInt = -a.toInt := by
  rw [Int32.toInt_neg, Int.bmod_def]
  have e : ((2 ^ 32 : Nat) : Int) = 4294967296 := by decide
  rw [e]
  split <;> omega
