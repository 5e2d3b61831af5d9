/-! TEXT: how a line ends in the class -/
def okL (i K kd : Nat) : Prop := kd = 2 ∧ (liB i = true ∨ nuN i ≤ K)
theorem kd_2 {k : Nat} (h : k ≤ 4) : (nI k = 2) = (k = 2) := by rw [show (2 : Int32) = nI 2 from rfl, neq (by omega) (by omega)]
theorem c_tail {m : MI} {w : WS} {b : Nat → Nat} {len pos i K : Nat} (htk : tokC m b len pos) (hi : i < 13) (hK : K ≤ 600) : (okL i K (tkK b len pos) ∧ tailC w m (nI i) (STA13.getD i 0) (nI K) = ((if m 4 0 4 = 0 then F_X5_store m w (nI i) (nI K) else some m).bind fun m1 => (F_X7_next m1 w).bind fun m2 => some ((1 : Int32), m2))) ∨ (¬ okL i K (tkK b len pos) ∧ tailC w m (nI i) (STA13.getD i 0) (nI K) = some (0, m)) := by
  obtain ⟨n1, n2⟩ := nu_of hi
  obtain ⟨t1, t2, t3, t4⟩ := htk
  have push : (if m 4 0 4 = 0 then (F_X5_store m w (nI i) (nI K)).bind fun c127 => (F_X7_next c127 w).bind fun c128 => some ((1 : Int32), c128) else (F_X7_next m w).bind fun c128 => some ((1 : Int32), c128)) = ((if m 4 0 4 = 0 then F_X5_store m w (nI i) (nI K) else some m).bind fun m1 => (F_X7_next m1 w).bind fun m2 => some ((1 : Int32), m2)) := by
    by_cases e : m 4 0 4 = 0
    · rw [if_pos e, if_pos e]
    · rw [if_neg e, if_neg e, Option.bind_some]
  unfold tailC
  rw [push]
  by_cases kd : tkK b len pos = 2
  · rw [if_pos (show m 6 0 3 = 2 by rw [t2, kd]; rfl)]
    by_cases q : liB i = true
    · rw [if_pos (n1 q)]
      exact Or.inl ⟨⟨kd, Or.inl q⟩, rfl⟩
    · have e : ¬ nI (nuN i) = (-1 : Int32) := by
        have := (n2 q).2
        have h : nuN i = 1 ∨ nuN i = 2 ∨ nuN i = 3 := by omega
        rcases h with h | h | h <;> (rw [h]; decide)
      have hn := (n2 q).2
      rw [(n2 q).1, if_neg e]
      by_cases z : nuN i ≤ K
      · rw [if_pos (show nI (nuN i) ≤ nI K by rw [nle (by omega) (by omega)]; exact z)]
        exact Or.inl ⟨⟨kd, Or.inr z⟩, rfl⟩
      · rw [if_neg (show ¬ nI (nuN i) ≤ nI K by rw [nle (by omega) (by omega)]; exact z)]
        exact Or.inr ⟨fun y => y.2.elim q z, rfl⟩
  · rw [if_neg (show ¬ m 6 0 3 = 2 by rw [t2, kd_2 tkK_le]; exact kd)]
    exact Or.inr ⟨fun y => kd y.1, rfl⟩
/-! the model's picture row and sheet: what they answer -/
theorem li_2 : liB 2 = true ∧ loT (coT 2 0) = 0 ∧ hiT (coT 2 0) = 31 := by decide
theorem li_10 : liB 10 = true ∧ loT (coT 10 0) = 0 ∧ hiT (coT 10 0) = 9 := by decide
theorem m_les {m : MI} {a c : Nat} (ha : a < 1000) (hc : c < 1000) : f_X11_lesser m (nI a) (nI c) = nI (min a c) := by
  unfold f_X11_lesser
  by_cases e : c ≤ a
  · rw [if_pos (show nI c ≤ nI a by rw [nle (by omega) (by omega)]; exact e), show min a c = c by omega]
  · rw [if_neg (show ¬ nI c ≤ nI a by rw [nle (by omega) (by omega)]; exact e), show min a c = a by omega]
