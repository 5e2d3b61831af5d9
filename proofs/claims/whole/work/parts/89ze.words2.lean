/-! TEXT: the model's deed by its word -/
theorem kl_4 : lN (pkP (kwN 4) (kwN 4).length) = (495807783289 : Int64) := by decide +kernel
theorem kl_5 : lN (pkP (kwN 5) (kwN 5).length) = (1718380912 : Int64) := by decide +kernel
theorem kl_6 : lN (pkP (kwN 6) (kwN 6).length) = (1953854062 : Int64) := by decide +kernel
theorem kl_7 : lN (pkP (kwN 7) (kwN 7).length) = (495740085349 : Int64) := by decide +kernel
theorem kl_8 : lN (pkP (kwN 8) (kwN 8).length) = (482671354728 : Int64) := by decide +kernel
theorem kl_9 : lN (pkP (kwN 9) (kwN 9).length) = (2002875240 : Int64) := by decide +kernel
theorem m_deedBy {m m0 : MI} {wd : Int64} {b : Nat → Nat} {len pos : Nat} (hp : pos ≤ len) (htk : tokM m wd b len pos) : (∃ i, 4 ≤ i ∧ i < 10 ∧ wOk b len pos i ∧ f_X11_deedBy m0 (wdX m wd) = nI (i - 4)) ∨ ((∀ i, 4 ≤ i → i < 10 → ¬ wOk b len pos i) ∧ f_X11_deedBy m0 (wdX m wd) = -1) := by
  have s4 := m_sel (i := 4) hp htk (by omega)
  have s5 := m_sel (i := 5) hp htk (by omega)
  have s6 := m_sel (i := 6) hp htk (by omega)
  have s7 := m_sel (i := 7) hp htk (by omega)
  have s8 := m_sel (i := 8) hp htk (by omega)
  have s9 := m_sel (i := 9) hp htk (by omega)
  rw [kl_4] at s4
  rw [kl_5] at s5
  rw [kl_6] at s6
  rw [kl_7] at s7
  rw [kl_8] at s8
  rw [kl_9] at s9
  unfold f_X11_deedBy
  by_cases c4 : wOk b len pos 4
  · exact Or.inl ⟨4, by omega, by omega, c4, if_pos (s4 ▸ c4)⟩
  · rw [if_neg (fun z => c4 (s4 ▸ z))]
    by_cases c5 : wOk b len pos 5
    · exact Or.inl ⟨5, by omega, by omega, c5, if_pos (s5 ▸ c5)⟩
    · rw [if_neg (fun z => c5 (s5 ▸ z))]
      by_cases c6 : wOk b len pos 6
      · exact Or.inl ⟨6, by omega, by omega, c6, if_pos (s6 ▸ c6)⟩
      · rw [if_neg (fun z => c6 (s6 ▸ z))]
        by_cases c7 : wOk b len pos 7
        · exact Or.inl ⟨7, by omega, by omega, c7, if_pos (s7 ▸ c7)⟩
        · rw [if_neg (fun z => c7 (s7 ▸ z))]
          by_cases c8 : wOk b len pos 8
          · exact Or.inl ⟨8, by omega, by omega, c8, if_pos (s8 ▸ c8)⟩
          · rw [if_neg (fun z => c8 (s8 ▸ z))]
            by_cases c9 : wOk b len pos 9
            · exact Or.inl ⟨9, by omega, by omega, c9, if_pos (s9 ▸ c9)⟩
            · rw [if_neg (fun z => c9 (s9 ▸ z))]
              refine Or.inr ⟨fun i h1 h2 h => ?_, rfl⟩
              have e : i = 4 ∨ i = 5 ∨ i = 6 ∨ i = 7 ∨ i = 8 ∨ i = 9 := by omega
              rcases e with e | e | e | e | e | e <;> rw [e] at h
              · exact c4 h
              · exact c5 h
              · exact c6 h
              · exact c7 h
              · exact c8 h
              · exact c9 h
