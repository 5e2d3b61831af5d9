/-! COPIES of all that is told: IMAGE, AGAIN, FEED -/
theorem c_X0 {mi : MI} {w : WS} {i j : Nat} (h : i ≠ j) : F_X0_copyFrom mi w i j = some (fun c i' k => if i' = i ∧ ((c = 0 ∧ k = 0) ∨ (c = 29 ∧ k < 160)) then mi c j k else mi c i' k) := by
  have h' := Ne.symm h
  unfold F_X0_copyFrom lt
  apply congrArg some
  funext c i' k
  simp only [u3, u2, va_cpy]
  by_cases hi : i' = i
  · subst hi
    by_cases h0 : c = 0
    · subst h0; by_cases hk : k = 0 <;> simp [hk]
    · by_cases h1 : c = 29
      · subst h1; by_cases hk : k < 160 <;> simp [hk]
      · simp [h0, h1]
  · simp [hi]
theorem c_X4 {mi : MI} {w : WS} {i j : Nat} (h : i ≠ j) : F_X4_copyFrom mi w i j = some (fun c i' k => if i' = i ∧ (c = 30 ∧ k < 25) then mi c j k else mi c i' k) := by
  have h' := Ne.symm h
  unfold F_X4_copyFrom lt
  apply congrArg some
  funext c i' k
  simp only [u3, u2, va_cpy]
  by_cases hi : i' = i
  · subst hi
    by_cases h1 : c = 30
    · subst h1; by_cases hk : k < 25 <;> simp [hk]
    · simp [h1]
  · simp [hi]
theorem c_X2 {mi : MI} {w : WS} {i j : Nat} (h : i ≠ j) : F_X2_copyFrom mi w i j = some (fun c i' k => if i' = i ∧ ((c = 1 ∧ k = 0) ∨ (c = 31 ∧ k < 8) ∨ (c = 32 ∧ k < 8) ∨ (c = 33 ∧ k < 8)) then mi c j k else mi c i' k) := by
  have h' := Ne.symm h
  unfold F_X2_copyFrom lt
  apply congrArg some
  funext c i' k
  simp only [u3, u2, va_cpy]
  by_cases hi : i' = i
  · subst hi
    by_cases h0 : c = 1
    · subst h0; by_cases hk : k = 0 <;> simp [hk]
    by_cases h1 : c = 31
    · subst h1; by_cases hk : k < 8 <;> simp [hk]
    by_cases h2 : c = 32
    · subst h2; by_cases hk : k < 8 <;> simp [hk]
    by_cases h3 : c = 33
    · subst h3; by_cases hk : k < 8 <;> simp [hk]
    simp [h0, h1, h2, h3]
  · simp [hi]
theorem c_X6 {mi : MI} {w : WS} {i j : Nat} (h : i ≠ j) : F_X6_copyFrom mi w i j = some (fun c i' k => if i' = i ∧ ((c = 5 ∧ (k < 4 ∨ 7 ≤ k ∧ k < 11)) ∨ (c = 26 ∧ k < 6) ∨ (c = 27 ∧ k < 6) ∨ (c = 28 ∧ k < 6)) then mi c j k else mi c i' k) := by
  have h' := Ne.symm h
  unfold F_X6_copyFrom lt
  apply congrArg some
  funext c i' k
  simp only [u3, u2, va_cpy]
  by_cases hi : i' = i
  · subst hi
    by_cases h0 : c = 5
    · subst h0
      rcases k with _ | _ | _ | _ | _ | _ | _ | _ | _ | _ | _ | k <;> simp [h']
      intro q; omega
    by_cases h1 : c = 26
    · subst h1; by_cases hk : k < 6 <;> simp [hk]
    by_cases h2 : c = 27
    · subst h2; by_cases hk : k < 6 <;> simp [hk]
    by_cases h3 : c = 28
    · subst h3; by_cases hk : k < 6 <;> simp [hk]
    simp [h0, h1, h2, h3]
  · simp [hi]
/-- object i as object j, of the four kinds -/
def okc (c k : Nat) : Prop := ((c = 5 ∧ (k < 4 ∨ 7 ≤ k ∧ k < 11)) ∨ (c = 26 ∧ k < 6) ∨ (c = 27 ∧ k < 6) ∨ (c = 28 ∧ k < 6)) ∨ ((c = 0 ∧ k = 0) ∨ (c = 29 ∧ k < 160)) ∨ (c = 30 ∧ k < 25) ∨ ((c = 1 ∧ k = 0) ∨ (c = 31 ∧ k < 8) ∨ (c = 32 ∧ k < 8) ∨ (c = 33 ∧ k < 8))
theorem c_obj {mi : MI} {w : WS} {i j : Nat} {ρ : Type} {f : MI → Option ρ} (h : i ≠ j) : ∃ m : MI, (∀ c k, okc c k → m c i k = mi c j k) ∧ (∀ c i' k, ¬ (i' = i ∧ okc c k) → m c i' k = mi c i' k) ∧
    ((F_X6_copyFrom mi w i j).bind fun a => (F_X0_copyFrom a w i j).bind fun b => (F_X4_copyFrom b w i j).bind fun d => (F_X2_copyFrom d w i j).bind f) = f m := by
  have h' := Ne.symm h
  refine ⟨?_, ?_, ?_, ?_⟩
  rotate_left 3
  · rw [c_X6 h, Option.bind_some, c_X0 h, Option.bind_some, c_X4 h, Option.bind_some, c_X2 h, Option.bind_some]
  · intro c k ho
    unfold okc at ho
    simp only [h', false_and, if_false, true_and]
    rcases ho with ho | ho | ho | ho
    · rw [if_neg (by omega), if_neg (by omega), if_neg (by omega), if_pos ho]
    · rw [if_neg (by omega), if_neg (by omega), if_pos ho]
    · rw [if_neg (by omega), if_pos ho]
    · rw [if_pos ho]
  · intro c i' k ho
    unfold okc at ho
    have a1 : ¬ (i' = i ∧ ((c = 1 ∧ k = 0) ∨ (c = 31 ∧ k < 8) ∨ (c = 32 ∧ k < 8) ∨ (c = 33 ∧ k < 8))) := fun q => ho ⟨q.1, Or.inr (Or.inr (Or.inr q.2))⟩
    have a2 : ¬ (i' = i ∧ (c = 30 ∧ k < 25)) := fun q => ho ⟨q.1, Or.inr (Or.inr (Or.inl q.2))⟩
    have a3 : ¬ (i' = i ∧ ((c = 0 ∧ k = 0) ∨ (c = 29 ∧ k < 160))) := fun q => ho ⟨q.1, Or.inr (Or.inl q.2)⟩
    have a4 : ¬ (i' = i ∧ ((c = 5 ∧ (k < 4 ∨ 7 ≤ k ∧ k < 11)) ∨ (c = 26 ∧ k < 6) ∨ (c = 27 ∧ k < 6) ∨ (c = 28 ∧ k < 6))) := fun q => ho ⟨q.1, Or.inl q.2⟩
    rw [if_neg a1, if_neg a2, if_neg a3, if_neg a4]
theorem ver_ok {c k i : Nat} (h : okc c k) : ver c i k = i / 2 ∧ (c = 0 ∨ c = 1 ∨ c = 3 ∨ c = 5 ∨ (26 ≤ c ∧ c ≤ 33)) := by
  have : c = 0 ∨ c = 1 ∨ c = 3 ∨ c = 5 ∨ (26 ≤ c ∧ c ≤ 33) := by unfold okc at h; omega
  exact ⟨ver_o this, this⟩
/-- the class's copy of a version -/
abbrev okt (c k : Nat) : Prop := (c = 20 ∧ k < 600) ∨ (c = 21 ∧ k < 4) ∨ (c = 7 ∧ 1 ≤ k ∧ k < 4)
theorem c_told {mi : MI} {w : WS} {a b : Nat} (h : a ≠ b) : F_X8_copyFrom mi w a b = L_X8_copyFrom_56 w 1000000 (fun c i k => if i = a ∧ okt c k then mi c b k else mi c i k) a b 0 := by
  have h' := Ne.symm h
  unfold F_X8_copyFrom lt
  apply congrArg (fun m => L_X8_copyFrom_56 w 1000000 m a b 0)
  funext c i k
  simp only [u3, u2, va_cpy, okt]
  by_cases hi : i = a
  · subst hi
    by_cases h0 : c = 20
    · subst h0; by_cases hk : k < 600 <;> simp [hk]
    by_cases h1 : c = 21
    · subst h1; by_cases hk : k < 4 <;> simp [hk]
    by_cases h2 : c = 7
    · subst h2
      rcases k with _ | _ | _ | _ | k <;> simp [h']
      intro q; omega
    simp [h0, h1, h2]
  · simp [hi]
theorem c_ver {mi : MI} {w : WS} {a b : Nat} (h : a ≠ b) : ∃ m : MI, F_X8_copyFrom mi w a b = some m ∧ (∀ j, j < 2 → ∀ c k, okc c k → m c (2 * a + j) k = mi c (2 * b + j) k) ∧
    (∀ c k, okt c k → m c a k = mi c b k) ∧ (∀ c i k, ver c i k ≠ a ∨ 50 ≤ c → m c i k = mi c i k) := by
  have h' := Ne.symm h
  obtain ⟨m0, e0⟩ : ∃ m0 : MI, m0 = (fun c i k => if i = a ∧ okt c k then mi c b k else mi c i k) := ⟨_, rfl⟩
  have key : ∀ n, ∃ m : MI, L_X8_copyFrom_56 w (n + 3) m0 a b 0 = some m ∧ (∀ j, j < 2 → ∀ c k, okc c k → m c (2 * a + j) k = m0 c (2 * b + j) k) ∧ (∀ c i k, ¬ (i / 2 = a ∧ okc c k) → m c i k = m0 c i k) := by
    intro n
    obtain ⟨m1, p1, q1, r1⟩ := c_obj (mi := m0) (w := w) (i := 2 * a + (0 : Int32).toNatClampNeg) (j := 2 * b + (0 : Int32).toNatClampNeg) (f := fun m => L_X8_copyFrom_56 w (n + 2) m a b (0 + 1)) (by show 2 * a + 0 ≠ 2 * b + 0; omega)
    obtain ⟨m2, p2, q2, r2⟩ := c_obj (mi := m1) (w := w) (i := 2 * a + (0 + 1 : Int32).toNatClampNeg) (j := 2 * b + (0 + 1 : Int32).toNatClampNeg) (f := fun m => L_X8_copyFrom_56 w (n + 1) m a b (0 + 1 + 1)) (by show 2 * a + 1 ≠ 2 * b + 1; omega)
    refine ⟨m2, ?_, ?_, ?_⟩
    · rw [L_X8_copyFrom_56, if_neg (by decide)]
      simp only [ck, if_pos (show ¬ ((0 : Int32) < 0 ∨ 2 ≤ (0 : Int32).toNatClampNeg) by decide)]
      rw [r1, L_X8_copyFrom_56, if_neg (by decide)]
      simp only [ck, if_pos (show ¬ ((0 + 1 : Int32) < 0 ∨ 2 ≤ (0 + 1 : Int32).toNatClampNeg) by decide)]
      rw [r2, L_X8_copyFrom_56, if_pos (by decide)]
    · intro j hj c k ho
      have p1' : m1 c (2 * a + 0) k = m0 c (2 * b + 0) k := p1 c k ho
      have p2' : m2 c (2 * a + 1) k = m1 c (2 * b + 1) k := p2 c k ho
      have q1' : ∀ i', i' ≠ 2 * a → m1 c i' k = m0 c i' k := fun i' hi => q1 c i' k (fun q => hi q.1)
      have q2' : ∀ i', i' ≠ 2 * a + 1 → m2 c i' k = m1 c i' k := fun i' hi => q2 c i' k (fun q => hi q.1)
      rcases (by omega : j = 0 ∨ j = 1) with rfl | rfl
      · rw [q2' _ (by omega), p1']
      · rw [p2', q1' _ (by omega)]
    · intro c i k ho
      rw [q2 c i k (fun q => ho ⟨by have : i = 2 * a + 1 := q.1; omega, q.2⟩), q1 c i k (fun q => ho ⟨by have : i = 2 * a + 0 := q.1; omega, q.2⟩)]
  obtain ⟨m, k1, k2, k3⟩ := key 999997
  refine ⟨m, by rw [c_told h, ← e0]; exact k1, ?_, ?_, ?_⟩
  · intro j hj c k ho
    have := (ver_ok (i := 0) ho).2
    rw [k2 j hj c k ho, e0]
    exact if_neg (fun q => by have := q.2; unfold okt at this; omega)
  · intro c k ho
    rw [k3 c a k (fun q => by have := (ver_ok (i := 0) q.2).2; unfold okt at ho; omega), e0]
    exact if_pos ⟨rfl, ho⟩
  · intro c i k hv
    rw [k3 c i k (fun q => by have := (ver_ok (i := i) q.2); rcases hv with hv | hv <;> omega), e0]
    refine if_neg (fun q => ?_)
    have h2 := q.2
    unfold okt at h2
    rcases hv with hv | hv
    · exact hv ((ver_t (by omega)).trans q.1)
    · omega
