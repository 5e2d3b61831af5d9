/-! TEXT: one number of a line of fixed length, in the model -/
def mS (b : Nat → Nat) (len pos i : Nat) (f : Nat × Nat) (K : Nat) (m : MI) (w : WS) : Prop := tapM m b len ∧ tokM m w.2.2.2 b len (poN b len pos K) ∧ ntM m (faF b len pos i f K) ∧ ((faF b len pos i f K).1 ≠ 0 → (faF b len pos i f K).2 < tkP b len (poN b len pos K))
theorem m_num1 {b : Nat → Nat} {len pos i K j lo hi : Nat} {f : Nat × Nat} {m : MI} {w : WS} (hp : pos ≤ len) (hS : mS b len pos i f K m w) (hK : K < 5) (hj : j < 5) (hlo : loT (coT i K) = lo) (hhi : hiT (coT i K) = hi) (h1 : lo < 100) (h2 : hi < 100) :
    (tkK b len (poN b len pos K) = 1 ∧ ∃ m' wd, F_X11_take m w (nI j) (nI lo) (nI hi) = some (1, m', (w.1, w.2.1, w.2.2.1, wd)) ∧ mS b len pos i f (K + 1) m' (w.1, w.2.1, w.2.2.1, wd) ∧ m' 60 0 j = nI (tkV b len (poN b len pos K)) ∧ m' 10 0 22 = (if lo ≤ tkV b len (poN b len pos K) ∧ tkV b len (poN b len pos K) ≤ hi then m 10 0 22 else 0) ∧
      ∀ c i k, ¬ (c = 10 ∧ i = 0 ∧ (k = 10 ∨ k = 12 ∨ k = 13 ∨ k = 14 ∨ k = 17 ∨ k = 18 ∨ k = 22)) → ¬ (c = 60 ∧ i = 0 ∧ k = j) → m' c i k = m c i k) ∨
    (tkK b len (poN b len pos K) ≠ 1 ∧ F_X11_take m w (nI j) (nI lo) (nI hi) = some (0, u3 m 10 0 16 (nI (tkP b len (poN b len pos K))), w)) := by
  obtain ⟨a1, a2, a3, a4⟩ := hS
  have hpk := po_le (b := b) hp K
  rcases m_take (w := w) a1 hpk.2 a2 a3 a4 hj h1 h2 with ⟨k1, m', wd, r1, r2, r3, r4, r5, r6, r7⟩ | ⟨k1, r1⟩
  · refine Or.inl ⟨k1, m', wd, r1, ⟨r2, r3, ?_, ?_⟩, r5, r6, r7⟩
    · have e : faF b len pos i f (K + 1) = nbF (faF b len pos i f K) lo hi (tkV b len (poN b len pos K)) (tkP b len (poN b len pos K)) := by
        show ctF (faF b len pos i f K) i K _ _ = _
        unfold ctF nbF
        rw [hlo, hhi]
        by_cases c1 : lo ≤ tkV b len (poN b len pos K) ∧ tkV b len (poN b len pos K) ≤ hi
        · rw [if_pos c1, if_pos c1, if_pos hK]
        · rw [if_neg c1, if_neg c1]
      rw [e]; exact r4
    · refine ctF_lt a4 ?_
      have adv := tk_adv (b := b) (len := len) (pos := poN b len pos K) (by rw [k1]; omega)
      have q := (tk_le (b := b) (po_le (b := b) hp (K + 1)).2).1
      have e : poN b len pos (K + 1) = tkE b len (poN b len pos K) := rfl
      rw [e] at q ⊢
      omega
  · exact Or.inr ⟨k1, r1⟩
