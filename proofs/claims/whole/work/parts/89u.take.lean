/-! TEXT: one number taken by the model -/
theorem srt_num {k : Nat} : (nI (srtN k) = 3) = (k = 1) := by
  have h : srtN k ≤ 4 ∧ (srtN k = 3 ↔ k = 1) := by
    unfold srtN
    by_cases h3 : k = 3
    · rw [if_pos h3]; omega
    · rw [if_neg h3]
      by_cases h0 : k = 0
      · rw [if_pos h0]; omega
      · rw [if_neg h0]
        by_cases h1 : k = 1
        · rw [if_pos h1]; omega
        · rw [if_neg h1]
          by_cases h2 : k = 2
          · rw [if_pos h2]; omega
          · rw [if_neg h2]; omega
  rw [show (3 : Int32) = nI 3 from rfl, neq (by omega) (by omega)]
  exact propext h.2
/-- what a taken number leaves of the notes -/
def nbF (f : Nat × Nat) (lo hi v p : Nat) : Nat × Nat := if lo ≤ v ∧ v ≤ hi then f else ntF f 2 p
theorem m_take {m : MI} {w : WS} {b : Nat → Nat} {len pos j lo hi : Nat} {f : Nat × Nat} (ht : tapM m b len) (hp : pos ≤ len) (htk : tokM m w.2.2.2 b len pos) (hf : ntM m f) (hfp : f.1 ≠ 0 → f.2 < tkP b len pos) (hj : j < 5) (hlo : lo < 100) (hhi : hi < 100) :
    (tkK b len pos = 1 ∧ ∃ m' wd, F_X11_take m w (nI j) (nI lo) (nI hi) = some (1, m', (w.1, w.2.1, w.2.2.1, wd)) ∧ tapM m' b len ∧ tokM m' wd b len (tkE b len pos) ∧ ntM m' (nbF f lo hi (tkV b len pos) (tkP b len pos)) ∧ m' 60 0 j = nI (tkV b len pos) ∧ m' 10 0 22 = (if lo ≤ tkV b len pos ∧ tkV b len pos ≤ hi then m 10 0 22 else 0) ∧
      ∀ c i k, ¬ (c = 10 ∧ i = 0 ∧ (k = 10 ∨ k = 12 ∨ k = 13 ∨ k = 14 ∨ k = 17 ∨ k = 18 ∨ k = 22)) → ¬ (c = 60 ∧ i = 0 ∧ k = j) → m' c i k = m c i k) ∨
    (tkK b len pos ≠ 1 ∧ F_X11_take m w (nI j) (nI lo) (nI hi) = some (0, u3 m 10 0 16 (nI (tkP b len pos)), w)) := by
  obtain ⟨t1, t2, t3, t4, t5⟩ := id htk
  obtain ⟨p1, p2, p3⟩ := tk_le (b := b) hp
  have h600 := ht.1
  unfold F_X11_take
  by_cases hk : tkK b len pos = 1
  · refine Or.inl ⟨hk, ?_⟩
    have hv := tk_num hk
    rw [if_pos (show m 10 0 13 = 3 by rw [t3]; exact srt_num.mpr hk), ck_in hj (by omega)]
    simp (disch := omega) only [ncl, lt_e]
    have q14 : u3 m 60 0 j (m 10 0 14) 10 0 14 = nI (tkV b len pos) := by rw [u3_n (by omega), t4 hk]
    have q12 : u3 m 60 0 j (m 10 0 14) 10 0 12 = nI (tkP b len pos) := by rw [u3_n (by omega), t2]
    have q10 : u3 m 60 0 j (m 10 0 14) 10 0 10 = nI (tkE b len pos) := by rw [u3_n (by omega), t1]
    have hf0 : ntM (u3 m 60 0 j (m 10 0 14)) f := ⟨hf.1, hf.2.1, by rw [u3_n (by omega)]; exact hf.2.2.1, fun q => by rw [u3_n (by omega)]; exact hf.2.2.2 q⟩
    have ht0 : tapM (u3 m 60 0 j (m 10 0 14)) b len := tapM_of ht fun c i k q => by rw [u3_n (by omega)]
    by_cases ok : lo ≤ tkV b len pos ∧ tkV b len pos ≤ hi
    · rw [if_pos (show ¬ (u3 m 60 0 j (m 10 0 14) 10 0 14 < nI lo) ∧ ¬ (nI hi < u3 m 60 0 j (m 10 0 14) 10 0 14) by
        rw [q14, nlt (by omega) (by omega), nlt (by omega) (by omega)]; omega)]
      obtain ⟨m', wd, r1, r2, r3⟩ := m_token (w := w) ht0 p3 q10
      rw [r1, Option.bind_some]
      refine ⟨m', wd, rfl, tapM_of ht0 fun c i k q => r3 _ _ _ (by omega), r2, ?_, ?_, ?_, fun c i k z1 z2 => ?_⟩
      · unfold nbF
        rw [if_pos ok]
        exact ⟨hf.1, hf.2.1, by rw [r3 _ _ _ (by omega)]; exact hf0.2.2.1, fun q => by rw [r3 _ _ _ (by omega)]; exact hf0.2.2.2 q⟩
      · rw [r3 _ _ _ (by omega), u3_s, t4 hk]
      · rw [if_pos ok, r3 _ _ _ (by omega), u3_n (by omega)]
      · rw [r3 _ _ _ (by omega), u3_n (by omega)]
    · rw [if_neg (show ¬ (¬ (u3 m 60 0 j (m 10 0 14) 10 0 14 < nI lo) ∧ ¬ (nI hi < u3 m 60 0 j (m 10 0 14) 10 0 14)) by
        rw [q14, nlt (by omega) (by omega), nlt (by omega) (by omega)]; omega), q12]
      obtain ⟨m1, s1, s2, s3⟩ := m_adds (w := w) (c := 2) (p := tkP b len pos) hf0 (by omega) (by omega)
      rw [show (2 : Int32) = nI 2 from rfl, s1, Option.bind_some]
      have ht1 : tapM (u3 m1 10 0 22 0) b len := tapM_of ht0 fun c i k q => by rw [u3_n (by omega), s3 _ _ _ (by omega)]
      obtain ⟨m', wd, r1, r2, r3⟩ := m_token (w := w) ht1 p3 (by rw [u3_n (by omega), s3 _ _ _ (by omega)]; exact q10)
      rw [r1, Option.bind_some]
      refine ⟨m', wd, rfl, tapM_of ht1 fun c i k q => r3 _ _ _ (by omega), r2, ?_, ?_, ?_, fun c i k z1 z2 => ?_⟩
      · unfold nbF
        rw [if_neg ok, ← adF_nt hfp]
        refine ⟨s2.1, s2.2.1, ?_, fun q => ?_⟩
        · rw [r3 _ _ _ (by omega), u3_n (by omega)]; exact s2.2.2.1
        · rw [r3 _ _ _ (by omega), u3_n (by omega)]; exact s2.2.2.2 q
      · rw [r3 _ _ _ (by omega), u3_n (by omega), s3 _ _ _ (by omega), u3_s, t4 hk]
      · rw [if_neg ok, r3 _ _ _ (by omega), u3_s]
      · rw [r3 _ _ _ (by omega), u3_n (by omega), s3 _ _ _ (by omega), u3_n (by omega)]
  · refine Or.inr ⟨hk, ?_⟩
    rw [if_neg (show ¬ m 10 0 13 = 3 by rw [t3, srt_num]; exact hk)]
    unfold F_X11_fails
    rw [Option.bind_some]
    dsimp only
    rw [ckT (Or.inl rfl), t2]
