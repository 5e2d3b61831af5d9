/-! VERSIONS: all that is told (0), images (1 .. 3): which of them a place belongs to -/
def ver (c i k : Nat) : Nat := if c = 7 ∨ c = 20 ∨ c = 21 then i else if c = 0 ∨ c = 1 ∨ c = 3 ∨ c = 5 ∨ (26 ≤ c ∧ c ≤ 33) then i / 2 else if c = 50 then k / 600 else if c = 51 ∨ c = 52 ∨ c = 53 then k else if c = 54 then k / 4 else if c = 55 then k / 80 else if c = 56 then k / 322 else if c = 57 then k / 52 else if c = 58 then k / 66 else 99
theorem ver_t {c i k : Nat} (h : c = 7 ∨ c = 20 ∨ c = 21) : ver c i k = i := if_pos h
theorem ver_o {c i k : Nat} (h : c = 0 ∨ c = 1 ∨ c = 3 ∨ c = 5 ∨ (26 ≤ c ∧ c ≤ 33)) : ver c i k = i / 2 := by
  unfold ver
  rw [if_neg (by omega), if_pos h]
theorem ver_50 {i k : Nat} : ver 50 i k = k / 600 := by simp [ver]
theorem ver_51 {c i k : Nat} (h : c = 51 ∨ c = 52 ∨ c = 53) : ver c i k = k := by
  unfold ver
  rw [if_neg (by omega), if_neg (by omega), if_neg (by omega), if_pos h]
theorem ver_54 {i k : Nat} : ver 54 i k = k / 4 := by simp [ver]
theorem ver_55 {i k : Nat} : ver 55 i k = k / 80 := by simp [ver]
theorem ver_56 {i k : Nat} : ver 56 i k = k / 322 := by simp [ver]
theorem ver_57 {i k : Nat} : ver 57 i k = k / 52 := by simp [ver]
theorem ver_58 {i k : Nat} : ver 58 i k = k / 66 := by simp [ver]
theorem ShR_of {mi mi' : MI} {i b i' b' : Nat} (e5 : ∀ k, mi' 5 i' k = mi 5 i k) (e26 : ∀ k, k < 6 → mi' 26 i' k = mi 26 i k) (e27 : ∀ k, k < 6 → mi' 27 i' k = mi 27 i k) (e28 : ∀ k, k < 6 → mi' 28 i' k = mi 28 i k) (e55 : ∀ k, k < 40 → mi' 55 0 (b' + k) = mi 55 0 (b + k)) (h : ShR mi i b) : ShR mi' i' b' := by
  obtain ⟨W, H, sl, n, cu, we, ro, h1, ⟨c1, c2, c3⟩, ⟨⟨d0, d1, d2, d3⟩, d4, d5⟩, h4⟩ := h
  refine ⟨W, H, sl, n, cu, we, ro, h1, ⟨by simpa only [e5] using c1, fun s hs => by rw [e26 s hs, e27 s hs, e28 s hs]; exact c2 s hs, by simpa only [e5] using c3⟩, ⟨⟨?_, ?_, ?_, ?_⟩, fun k hk => ?_, fun s hs => ?_⟩, h4⟩
  · have := e55 0 (by omega); rw [Nat.add_zero, Nat.add_zero] at this; rw [this]; exact d0
  · rw [e55 1 (by omega)]; exact d1
  · rw [e55 2 (by omega)]; exact d2
  · rw [e55 3 (by omega)]; exact d3
  · rw [e55 (4 + k) (by omega)]; exact d4 k hk
  · rw [e55 (34 + s) (by omega)]; exact d5 s hs
theorem DayR_of {mi mi' : MI} {i b i' b' : Nat} (e0 : mi' 0 i' 0 = mi 0 i 0) (e29 : ∀ k, k < 160 → mi' 29 i' k = mi 29 i k) (e56 : ∀ k, k < 161 → mi' 56 0 (b' + k) = mi 56 0 (b + k)) (h : DayR mi i b) : DayR mi' i' b' := by
  obtain ⟨n, h0, h1, h2, h3⟩ := h
  refine ⟨n, h0, by rw [e0]; exact h1, ?_, fun k hk => ⟨fun p hp => ?_, ?_⟩⟩
  · have := e56 0 (by omega); rw [Nat.add_zero, Nat.add_zero] at this; rw [this]; exact h2
  · rw [e29 _ (by omega), e56 _ (by omega)]; exact (h3 k hk).1 p hp
  · rw [e29 _ (by omega), e29 _ (by omega), e29 _ (by omega), e29 _ (by omega)]; exact (h3 k hk).2
theorem PicR_of {mi mi' : MI} {i b i' b' : Nat} (e30 : ∀ k, k < 25 → mi' 30 i' k = mi 30 i k) (e57 : ∀ k, k < 26 → mi' 57 0 (b' + k) = mi 57 0 (b + k)) (h : PicR mi i b) : PicR mi' i' b' := by
  obtain ⟨co, h3⟩ := h
  exact ⟨co, fun k hk => by rw [e30 k hk, e57 (1 + k) (by omega)]; exact h3 k hk⟩
theorem MarkR_of {mi mi' : MI} {i b i' b' : Nat} (e1 : mi' 1 i' 0 = mi 1 i 0) (e31 : ∀ k, k < 8 → mi' 31 i' k = mi 31 i k) (e32 : ∀ k, k < 8 → mi' 32 i' k = mi 32 i k) (e33 : ∀ k, k < 8 → mi' 33 i' k = mi 33 i k) (e58 : ∀ k, k < 33 → mi' 58 0 (b' + k) = mi 58 0 (b + k)) (h : MarkR mi i b) : MarkR mi' i' b' := by
  obtain ⟨n, h0, h1, h2, h3⟩ := h
  refine ⟨n, h0, by rw [e1]; exact h1, ?_, fun k hk => ?_⟩
  · have := e58 0 (by omega); rw [Nat.add_zero, Nat.add_zero] at this; rw [this]; exact h2
  · rw [e31 k (by omega), e32 k (by omega), e33 k (by omega), e58 _ (by omega), e58 _ (by omega), e58 _ (by omega), e58 _ (by omega)]
    exact h3 k hk
/-- a version that is somewhere else, place by place -/
theorem VRel_to {mi mi' : MI} {t t' : Nat} (e7 : ∀ k, mi' 7 t' k = mi 7 t k) (e20 : ∀ k, k < 600 → mi' 20 t' k = mi 20 t k) (e21 : ∀ k, k < 4 → mi' 21 t' k = mi 21 t k)
    (e50 : ∀ k, k < 600 → mi' 50 0 (600 * t' + k) = mi 50 0 (600 * t + k)) (e51 : mi' 51 0 t' = mi 51 0 t) (e52 : mi' 52 0 t' = mi 52 0 t) (e53 : mi' 53 0 t' = mi 53 0 t) (e54 : ∀ k, k < 4 → mi' 54 0 (4 * t' + k) = mi 54 0 (4 * t + k))
    (e5 : ∀ j, j < 2 → ∀ k, mi' 5 (2 * t' + j) k = mi 5 (2 * t + j) k) (e26 : ∀ j, j < 2 → ∀ k, k < 6 → mi' 26 (2 * t' + j) k = mi 26 (2 * t + j) k) (e27 : ∀ j, j < 2 → ∀ k, k < 6 → mi' 27 (2 * t' + j) k = mi 27 (2 * t + j) k) (e28 : ∀ j, j < 2 → ∀ k, k < 6 → mi' 28 (2 * t' + j) k = mi 28 (2 * t + j) k) (e55 : ∀ k, k < 80 → mi' 55 0 (80 * t' + k) = mi 55 0 (80 * t + k))
    (e0 : ∀ j, j < 2 → mi' 0 (2 * t' + j) 0 = mi 0 (2 * t + j) 0) (e29 : ∀ j, j < 2 → ∀ k, k < 160 → mi' 29 (2 * t' + j) k = mi 29 (2 * t + j) k) (e56 : ∀ k, k < 322 → mi' 56 0 (322 * t' + k) = mi 56 0 (322 * t + k))
    (e30 : ∀ j, j < 2 → ∀ k, k < 25 → mi' 30 (2 * t' + j) k = mi 30 (2 * t + j) k) (e57 : ∀ k, k < 52 → mi' 57 0 (52 * t' + k) = mi 57 0 (52 * t + k))
    (e1 : ∀ j, j < 2 → mi' 1 (2 * t' + j) 0 = mi 1 (2 * t + j) 0) (e31 : ∀ j, j < 2 → ∀ k, k < 8 → mi' 31 (2 * t' + j) k = mi 31 (2 * t + j) k) (e32 : ∀ j, j < 2 → ∀ k, k < 8 → mi' 32 (2 * t' + j) k = mi 32 (2 * t + j) k) (e33 : ∀ j, j < 2 → ∀ k, k < 8 → mi' 33 (2 * t' + j) k = mi 33 (2 * t + j) k) (e58 : ∀ k, k < 66 → mi' 58 0 (66 * t' + k) = mi 58 0 (66 * t + k))
    (h : VRel mi t) : VRel mi' t' := by
  obtain ⟨⟨n, h1, h2, h3, h4⟩, ⟨h5, h6⟩, cn, h7, h8, h9, h10, h11⟩ := h
  have c2 : ∀ s, s < 4 → ∀ j, j < cn s → j < 2 := fun s hs j hj => by have := (h7 s hs).1; omega
  refine ⟨⟨n, h1, by rw [e7]; exact h2, by rw [e51]; exact h3, fun k hk => by rw [e20 k (by omega), e50 k (by omega)]; exact h4 k hk⟩, ⟨by rw [e52, e7]; exact h5, by rw [e53, e7]; exact h6⟩, cn, fun s hs => by rw [e21 s hs, e54 s hs]; exact h7 s hs, fun j hj => ?_, fun j hj => ?_, fun j hj => ?_, fun j hj => ?_⟩
  · have := c2 0 (by omega) j hj
    exact ShR_of (e5 j this) (e26 j this) (e27 j this) (e28 j this) (fun k hk => by rw [Nat.add_assoc, Nat.add_assoc]; exact e55 _ (by omega)) (h8 j hj)
  · have := c2 1 (by omega) j hj
    exact DayR_of (e0 j this) (e29 j this) (fun k hk => by rw [Nat.add_assoc, Nat.add_assoc]; exact e56 _ (by omega)) (h9 j hj)
  · have := c2 2 (by omega) j hj
    exact PicR_of (e30 j this) (fun k hk => by rw [Nat.add_assoc, Nat.add_assoc]; exact e57 _ (by omega)) (h10 j hj)
  · have := c2 3 (by omega) j hj
    exact MarkR_of (e1 j this) (e31 j this) (e32 j this) (e33 j this) (fun k hk => by rw [Nat.add_assoc, Nat.add_assoc]; exact e58 _ (by omega)) (h11 j hj)
theorem VRel_ver {mi mi' : MI} {t : Nat} (e : ∀ c i k, ver c i k = t → mi' c i k = mi c i k) (h : VRel mi t) : VRel mi' t :=
  VRel_to (fun k => e 7 t k (ver_t (by omega))) (fun k _ => e 20 t k (ver_t (by omega))) (fun k _ => e 21 t k (ver_t (by omega)))
    (fun k hk => e 50 0 _ (by rw [ver_50]; omega)) (e 51 0 t (ver_51 (by omega))) (e 52 0 t (ver_51 (by omega))) (e 53 0 t (ver_51 (by omega))) (fun k hk => e 54 0 _ (by rw [ver_54]; omega))
    (fun j hj k => e 5 _ k (by rw [ver_o (by omega)]; omega)) (fun j hj k _ => e 26 _ k (by rw [ver_o (by omega)]; omega)) (fun j hj k _ => e 27 _ k (by rw [ver_o (by omega)]; omega)) (fun j hj k _ => e 28 _ k (by rw [ver_o (by omega)]; omega)) (fun k hk => e 55 0 _ (by rw [ver_55]; omega))
    (fun j hj => e 0 _ 0 (by rw [ver_o (by omega)]; omega)) (fun j hj k _ => e 29 _ k (by rw [ver_o (by omega)]; omega)) (fun k hk => e 56 0 _ (by rw [ver_56]; omega))
    (fun j hj k _ => e 30 _ k (by rw [ver_o (by omega)]; omega)) (fun k hk => e 57 0 _ (by rw [ver_57]; omega))
    (fun j hj => e 1 _ 0 (by rw [ver_o (by omega)]; omega)) (fun j hj k _ => e 31 _ k (by rw [ver_o (by omega)]; omega)) (fun j hj k _ => e 32 _ k (by rw [ver_o (by omega)]; omega)) (fun j hj k _ => e 33 _ k (by rw [ver_o (by omega)]; omega)) (fun k hk => e 58 0 _ (by rw [ver_58]; omega)) h
/-- what changes all that is told alone, and what is no version's -/
theorem Inv_0 {mi mi' : MI} {w w' : WS} (e : ∀ c i k, 1 ≤ ver c i k → ver c i k ≤ 3 → mi' c i k = mi c i k) (e72 : ∀ k, k < 3 → mi' 72 0 k = mi 72 0 k) (hw : w'.2.2.1 = w.2.2.1) (I : Inv mi w) (h : VRel mi' 0) : Inv mi' w' := by
  refine ⟨h, fun k hk => ?_⟩
  rw [hw, e72 k hk]
  exact ⟨fun q => ⟨((I.2 k hk).1 q).1, VRel_ver (fun c i k' hv => e c i k' (by omega) (by omega)) ((I.2 k hk).1 q).2⟩, (I.2 k hk).2⟩
