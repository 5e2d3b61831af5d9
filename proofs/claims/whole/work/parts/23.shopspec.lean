/-! loops -/
def foldN {α : Type} (f : Nat → α → α) (a : α) : Nat → α
  | 0 => a
  | n + 1 => f n (foldN f a n)
theorem up_loop {α : Type} {n : Nat} {f : Nat → α → α} {a : α} {W : Nat → α → Prop} (hs : ∀ k, k < n → W (k + 1) (f k (foldN f a k)) → W k (foldN f a k)) (he : W n (foldN f a n)) : W 0 a := by
  have h : ∀ k, k ≤ n → W (n - k) (foldN f a (n - k)) := by
    intro k
    induction k with
    | zero => intro _; exact he
    | succ k ih =>
      intro hk
      have h1 := ih (by omega)
      have e : n - k = (n - (k + 1)) + 1 := by omega
      rw [e] at h1
      exact hs _ (by omega) h1
  have := h n (Nat.le_refl n)
  rw [Nat.sub_self] at this
  exact this
/-- a bit of a set -/
abbrev bt (x : Int32) (k : Nat) : Prop := ¬ (x >>> (nI k &&& 31)) &&& 1 = 0
def fUnion (mi : MI) (i : Nat) (n : Nat) (set : Int32) : Int32 := foldN (fun k a => if bt set k then a ||| mi 28 i k else a) 0 n
theorem s_X6_union {gl : Nat} {gx : Nat → Int32} {d : Nat} {P : PL} {Q : PO} {mi : MI} {w : WS} {lv : LV} {i n : Nat} {x1 : Int32} (hn : mi 5 i 3 = nI n) (h6 : n ≤ 6) (h : Q (aI (fUnion mi i n x1)) (mi, RS w, lv)) : Wp gl gx d P 95 0 [aR 5 i, aI x1, aU, aU] [] (mi, RS w, lv) Q := by
  refine r_X6_union_0 ?_
  refine up_loop (n := n) (f := fun k a => if bt x1 k then a ||| mi 28 i k else a) (a := 0) (W := fun k a => Wp gl gx d P 95 4 [aR 5 i, aI x1, aI a, aI (nI k)] [] (mi, RS w, lv) Q) (fun k hk ih => ?_) ?_
  · refine r_X6_union_4 ?_
    rw [hn, nI_leI (by omega) (by omega), nI_clamp (by omega), nI_1]
    refine ⟨fun q => absurd q (by omega), fun _ => ⟨fun q => ?_, fun q => ⟨vp_in_nI (by omega) (by omega), ?_⟩⟩⟩
    · rw [if_neg (fun z => z q)] at ih
      exact ih
    · rw [if_pos q] at ih
      exact ih
  · refine r_X6_union_4 ?_
    rw [hn]
    exact ⟨fun _ => h, fun q => absurd (Int32.le_refl _) q⟩
