/-! THE REFERENCES COME BACK WHOLE after a constructor: equal off a list of places, place by place -/
def EqOff (l : List (Nat × Nat × Nat)) (f g : Nat → Nat → Nat → AV) : Prop := ∀ c i k, ¬ (c, i, k) ∈ l → f c i k = g c i k
theorem eo_3 {l : List (Nat × Nat × Nat)} {M : MM} {g : MR} {c i k : Nat} {v : AV} (hv : v = g c i k) (h : EqOff ((c, i, k) :: l) M.2.1 g) : EqOff l (mR M c i k v).2.1 g := by
  intro c' i' k' hn
  show u3 M.2.1 c i k v c' i' k' = _
  unfold u3
  by_cases e : c' = c ∧ i' = i ∧ k' = k
  · obtain ⟨rfl, rfl, rfl⟩ := e
    rw [if_pos ⟨rfl, rfl, rfl⟩]
    exact hv
  · rw [if_neg e]
    refine h c' i' k' fun z => ?_
    rcases List.mem_cons.mp z with q | q
    · simp only [Prod.mk.injEq] at q
      exact e q
    · exact hn q
theorem eo_I {l : List (Nat × Nat × Nat)} {M : MM} {g : MR} {c i k : Nat} {v : Int32} (h : EqOff l M.2.1 g) : EqOff l (mI M c i k v).2.1 g := h
theorem eo_mk {l : List (Nat × Nat × Nat)} {M : MM} {g : MR} {c i : Nat} (hv : ∀ k, k < sz1 c → ¬ (c, i, k) ∈ l → dv (ftk c k) = g c i k) (h : EqOff l M.2.1 g) : EqOff l (mk M c i).2.1 g := by
  intro c' i' k' hn
  show u2 M.2.1 c i (fun k => if k < sz1 c then dv (ftk c k) else M.2.1 c i k) c' i' k' = _
  unfold u2
  by_cases e : c' = c ∧ i' = i
  · obtain ⟨rfl, rfl⟩ := e
    rw [if_pos ⟨rfl, rfl⟩]
    show (if k' < sz1 c' then dv (ftk c' k') else M.2.1 c' i' k') = _
    by_cases hk : k' < sz1 c'
    · rw [if_pos hk]
      exact hv k' hk hn
    · rw [if_neg hk]
      exact h c' i' k' hn
  · rw [if_neg e]
    exact h c' i' k' hn
theorem eo_end {f g : MR} (h : EqOff [] f g) : f = g := by
  funext c i k
  exact h c i k (by simp)
theorem eo_all {l : List (Nat × Nat × Nat)} {f : MR} : EqOff l f f := fun _ _ _ _ => rfl
