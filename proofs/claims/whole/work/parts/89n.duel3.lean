/-! DUEL, the call -/
theorem fm_all {p : Nat → Bool} {c : Nat → Int} {a0 : Int} : ∀ N, a0 ≤ foldN (fun j a => if p j = true then a else imx a (c j)) a0 N ∧ (∀ j, j < N → p j ≠ true → c j ≤ foldN (fun j a => if p j = true then a else imx a (c j)) a0 N) ∧ (foldN (fun j a => if p j = true then a else imx a (c j)) a0 N = a0 ∨ ∃ j, j < N ∧ p j ≠ true ∧ foldN (fun j a => if p j = true then a else imx a (c j)) a0 N = c j) := by
  intro N
  induction N with
  | zero => exact ⟨Int.le_refl _, fun j hj => absurd hj (Nat.not_lt_zero j), Or.inl rfl⟩
  | succ N ih =>
    obtain ⟨h1, h2, h3⟩ := ih
    have e : foldN (fun j a => if p j = true then a else imx a (c j)) a0 (N + 1) = if p N = true then foldN (fun j a => if p j = true then a else imx a (c j)) a0 N else imx (foldN (fun j a => if p j = true then a else imx a (c j)) a0 N) (c N) := rfl
    rw [e]
    generalize foldN (fun j a => if p j = true then a else imx a (c j)) a0 N = A at *
    by_cases hp : p N = true
    · rw [if_pos hp]
      refine ⟨h1, fun j hj hpj => ?_, ?_⟩
      · by_cases ej : j = N
        · rw [ej] at hpj; exact absurd hp hpj
        · exact h2 j (by omega) hpj
      · rcases h3 with h3 | ⟨j, a, b⟩
        · exact Or.inl h3
        · exact Or.inr ⟨j, by omega, b⟩
    · rw [if_neg hp]
      refine ⟨Int.le_trans h1 (imx_l _ _), fun j hj hpj => ?_, ?_⟩
      · by_cases ej : j = N
        · rw [ej]; exact imx_r _ _
        · exact Int.le_trans (h2 j (by omega) hpj) (imx_l _ _)
      · rcases imx_or A (c N) with q | q
        · rw [q]
          rcases h3 with h3 | ⟨j, a, b⟩
          · exact Or.inl h3
          · exact Or.inr ⟨j, by omega, b⟩
        · exact Or.inr ⟨N, by omega, hp, q⟩
theorem gv_ub {o : Nat → Nat} {n r used me th : Nat} : -(gv o n r used th me) ≤ gv o n (r + 1) used me th ∧ (∀ j, j < n → used.testBit j ≠ true → -(gv o n r (used ||| 1 <<< j) (andn th (o j)) (me ||| o j)) ≤ gv o n (r + 1) used me th) ∧ (gv o n (r + 1) used me th = -(gv o n r used th me) ∨ ∃ j, j < n ∧ used.testBit j ≠ true ∧ gv o n (r + 1) used me th = -(gv o n r (used ||| 1 <<< j) (andn th (o j)) (me ||| o j))) := by
  have h := fm_all (p := fun j => used.testBit j) (c := fun j => -(gv o n r (used ||| 1 <<< j) (andn th (o j)) (me ||| o j))) (a0 := -(gv o n r used th me)) n
  rw [gv]
  exact h
theorem n99 {x : Int32} (h : -25 ≤ x.toInt) : x ≠ -99 := fun q => by
  rw [q] at h
  exact absurd h (by decide)
theorem fold_step {o : Nat → Nat} {n T t k : Nat} {v : Nat → Int32} {e wh : Int32} (hn : n ≤ 6) (ht : t + 1 ≤ T) (hv : ∀ j, j < 7 → enP o n T (t + 1) (7 * k + j) (v j)) (hf : foP (decide (t % 2 = 0)) v 7 e wh) : enP o n T t k e := by
  have est : ∀ j, j < 7 → sttF o n (t + 1) (7 * k + j) = (sttF o n t k).bind fun s => if 6 ≤ j then some s else if n ≤ j then none else if s.1.testBit j = true then none else some (s.1 ||| 1 <<< j, if t % 2 = 0 then (s.2.1 ||| o j, andn s.2.2 (o j)) else (andn s.2.1 (o j), s.2.2 ||| o j)) := fun j hj => by
    have e1 : (7 * k + j) / 7 = k := by omega
    have e2 : (7 * k + j) % 7 = j := by omega
    rw [sttF, e1, e2]
  cases h : sttF o n t k with
  | none =>
    refine (enP_n h).mpr ?_
    have all : ∀ j, j < 7 → v j = -99 := fun j hj => (enP_n (by rw [est j hj, h]; rfl)).mp (hv j hj)
    rcases hf with ⟨_, q, _⟩ | ⟨j0, q1, q2, _⟩
    · exact q
    · exact absurd (all j0 q1) q2
  | some s =>
    refine (enP_s h).mpr ?_
    obtain ⟨u, p1, p2⟩ := s
    have er : T - t = (T - (t + 1)) + 1 := by omega
    obtain ⟨r, hr⟩ : ∃ r, T - (t + 1) = r := ⟨_, rfl⟩
    rw [er, hr]
    have s6 : sttF o n (t + 1) (7 * k + 6) = some (u, p1, p2) := by rw [est 6 (by omega), h]; rfl
    have sj : ∀ j, j < n → u.testBit j ≠ true → sttF o n (t + 1) (7 * k + j) = some (u ||| 1 <<< j, if t % 2 = 0 then (p1 ||| o j, andn p2 (o j)) else (andn p1 (o j), p2 ||| o j)) := fun j hj hb => by
      rw [est j (by omega), h, Option.bind_some, if_neg (by omega), if_neg (by omega), if_neg hb]
    have sx : ∀ j, j < 6 → (n ≤ j ∨ u.testBit j = true) → v j = -99 := fun j hj hb => by
      refine (enP_n ?_).mp (hv j (by omega))
      rw [est j (by omega), h, Option.bind_some, if_neg (by omega)]
      by_cases hnj : n ≤ j
      · rw [if_pos hnj]
      · rw [if_neg hnj, if_pos (hb.resolve_left hnj)]
    by_cases z : t % 2 = 0
    · have z1 : ¬ (t + 1) % 2 = 0 := by omega
      rw [if_pos z]
      rw [decide_eq_true z] at hf
      have v6 := (enP_s s6).mp (hv 6 (by omega))
      rw [if_neg z1] at v6
      dsimp only at v6
      have vj : ∀ j, j < n → u.testBit j ≠ true → (v j).toInt = -(gv o n (T - (t + 1)) (u ||| 1 <<< j) (andn p2 (o j)) (p1 ||| o j)) := fun j hj hb => by
        have := (enP_s (sj j hj hb)).mp (hv j (by omega))
        rw [if_neg z1, if_pos z] at this
        exact this
      obtain ⟨r', hr'⟩ : ∃ r', T - (t + 1) = r' := ⟨_, rfl⟩
      rw [hr'] at v6 vj
      have er2 : T - t = r' + 1 := by omega
      have b6 := gv_le (o := o) (n := n) r' u p2 p1
      rcases hf with ⟨q, _, _⟩ | ⟨j0, q1, q2, q3, q4, q5⟩
      · exact absurd (q 6 (by omega)) (n99 (by omega))
      · obtain ⟨g1, g2, g3⟩ := gv_ub (o := o) (n := n) (r := r') (used := u) (me := p1) (th := p2)
        have hr2 : r = r' := by omega
        rw [hr2]
        dsimp only
        have up : gv o n (r' + 1) u p1 p2 ≤ e.toInt := by
          rcases g3 with g3 | ⟨j, a, b, c⟩
          · have := (q5 6 (by omega) (n99 (by omega))).1
            rw [if_pos rfl] at this
            omega
          · have bj := gv_le (o := o) (n := n) r' (u ||| 1 <<< j) (andn p2 (o j)) (p1 ||| o j)
            have vv := vj j a b
            have := (q5 j (by omega) (n99 (by omega))).1
            rw [if_pos rfl] at this
            omega
        have dn : e.toInt ≤ gv o n (r' + 1) u p1 p2 := by
          rw [q3]
          by_cases e6 : j0 = 6
          · rw [e6]; omega
          · by_cases hb : n ≤ j0 ∨ u.testBit j0 = true
            · exact absurd (sx j0 (by omega) hb) q2
            · have hb1 : j0 < n := by
                have := fun y => hb (Or.inl y)
                omega
              have hb2 : u.testBit j0 ≠ true := fun y => hb (Or.inr y)
              have := g2 j0 hb1 hb2
              have := vj j0 hb1 hb2
              omega
        omega
    · have z1 : (t + 1) % 2 = 0 := by omega
      rw [if_neg z]
      rw [decide_eq_false z] at hf
      have v6 := (enP_s s6).mp (hv 6 (by omega))
      rw [if_pos z1] at v6
      dsimp only at v6
      have vj : ∀ j, j < n → u.testBit j ≠ true → (v j).toInt = gv o n (T - (t + 1)) (u ||| 1 <<< j) (andn p1 (o j)) (p2 ||| o j) := fun j hj hb => by
        have := (enP_s (sj j hj hb)).mp (hv j (by omega))
        rw [if_pos z1, if_neg z] at this
        exact this
      obtain ⟨r', hr'⟩ : ∃ r', T - (t + 1) = r' := ⟨_, rfl⟩
      rw [hr'] at v6 vj
      have b6 := gv_le (o := o) (n := n) r' u p1 p2
      rcases hf with ⟨q, _, _⟩ | ⟨j0, q1, q2, q3, q4, q5⟩
      · exact absurd (q 6 (by omega)) (n99 (by omega))
      · obtain ⟨g1, g2, g3⟩ := gv_ub (o := o) (n := n) (r := r') (used := u) (me := p2) (th := p1)
        have hr2 : r = r' := by omega
        rw [hr2]
        dsimp only
        have up : e.toInt ≤ -(gv o n (r' + 1) u p2 p1) := by
          rcases g3 with g3 | ⟨j, a, b, c⟩
          · have := (q5 6 (by omega) (n99 (by omega))).1
            rw [if_neg Bool.false_ne_true] at this
            omega
          · have bj := gv_le (o := o) (n := n) r' (u ||| 1 <<< j) (andn p1 (o j)) (p2 ||| o j)
            have vv := vj j a b
            have := (q5 j (by omega) (n99 (by omega))).1
            rw [if_neg Bool.false_ne_true] at this
            omega
        have dn : -(gv o n (r' + 1) u p2 p1) ≤ e.toInt := by
          rw [q3]
          by_cases e6 : j0 = 6
          · rw [e6]; omega
          · by_cases hb : n ≤ j0 ∨ u.testBit j0 = true
            · exact absurd (sx j0 (by omega) hb) q2
            · have hb1 : j0 < n := by
                have := fun y => hb (Or.inl y)
                omega
              have hb2 : u.testBit j0 ≠ true := fun y => hb (Or.inr y)
              have := g2 j0 hb1 hb2
              have := vj j0 hb1 hb2
              omega
        omega
