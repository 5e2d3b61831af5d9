/-! TEXT: what a number token tells, notes of faults, one number taken by the model -/
theorem ru_adv {q : Nat → Bool} {b : Nat → Nat} {len p : Nat} (h : p < len) (hq : q (b p) = true) : p < ruF q b len 601 p := by
  show p < (if len ≤ p then p else if q (b p) = true then ruF q b len 600 (p + 1) else p)
  rw [if_neg (by omega), if_pos hq]
  have := ru_le (q := q) (b := b) (len := len) 600 (p + 1) (by omega)
  omega
theorem tk_adv {b : Nat → Nat} {len pos : Nat} (h : tkK b len pos ≠ 3) : tkP b len pos < len ∧ tkP b len pos < tkE b len pos := by
  have h1 : ¬ len ≤ tkP b len pos := fun z => by unfold tkK at h; rw [if_pos z] at h; omega
  refine ⟨by omega, ?_⟩
  unfold tkE
  rw [if_neg h1]
  by_cases e2 : isL (b (tkP b len pos)) = true
  · rw [if_pos e2]; exact ru_adv (by omega) e2
  · rw [if_neg e2]
    by_cases e3 : isD (b (tkP b len pos)) = true
    · rw [if_pos e3]; exact ru_adv (by omega) e3
    · rw [if_neg e3]; omega
theorem tk_num {b : Nat → Nat} {len pos : Nat} (h : tkK b len pos = 1) : tkV b len pos ≤ 99 := by
  have h1 : ¬ len ≤ tkP b len pos := fun z => by unfold tkK at h; rw [if_pos z] at h; omega
  have h2 : isL (b (tkP b len pos)) ≠ true := fun z => by unfold tkK at h; rw [if_neg h1, if_pos z] at h; omega
  have h3 : isD (b (tkP b len pos)) = true := by
    refine Classical.byContradiction fun z => ?_
    unfold tkK at h
    rw [if_neg h1, if_neg h2, if_neg z] at h
    split at h <;> omega
  have h4 : tkE b len pos - tkP b len pos ≤ 2 := by
    refine Classical.byContradiction fun z => ?_
    unfold tkK at h
    rw [if_neg h1, if_neg h2, if_pos h3, if_neg z] at h
    omega
  have e : tkE b len pos = ruF isD b len 601 (tkP b len pos) := by unfold tkE; rw [if_neg h1, if_neg h2, if_pos h3]
  have dig : ∀ k, tkP b len pos ≤ k → k < tkE b len pos → 48 ≤ b k ∧ b k ≤ 57 := by
    intro k hk hk2
    rw [e] at hk2
    have := ru_all 601 _ k hk hk2
    unfold isD at this
    rw [Bool.and_eq_true, decide_eq_true_eq, decide_eq_true_eq] at this
    exact this
  unfold tkV vaN
  by_cases c1 : tkE b len pos ≤ tkP b len pos
  · rw [if_pos c1]; omega
  · rw [if_neg c1]
    have d1 := dig (tkP b len pos) (by omega) (by omega)
    by_cases c2 : tkE b len pos ≤ tkP b len pos + 1
    · rw [if_pos c2]; omega
    · rw [if_neg c2]
      have d2 := dig (tkP b len pos + 1) (by omega) (by omega)
      omega
/-- a note: its number (0 none) and its place -/
def ntF (f : Nat × Nat) (c p : Nat) : Nat × Nat := if f.1 = 0 then (c, p) else f
def ntC (m : MI) (f : Nat × Nat) : Prop := f.1 < 8 ∧ f.2 < 1000 ∧ m 4 0 4 = nI f.1 ∧ (f.1 ≠ 0 → m 4 0 5 = nI f.2)
def ntM (m : MI) (f : Nat × Nat) : Prop := f.1 < 8 ∧ f.2 < 1000 ∧ m 10 0 17 = nI f.1 ∧ (f.1 ≠ 0 → m 10 0 18 = nI f.2)
theorem c_note {m : MI} {w : WS} {f : Nat × Nat} {c p : Nat} (h : ntC m f) (hc : c < 8) (hp : p < 1000) : ∃ m', F_X5_note m w (nI c) (nI p) = some m' ∧ ntC m' (ntF f c p) ∧ ∀ c i j, ¬ (c = 4 ∧ i = 0 ∧ (j = 4 ∨ j = 5)) → m' c i j = m c i j := by
  obtain ⟨h1, h2, h3, h4⟩ := h
  unfold F_X5_note ntF
  by_cases e : f.1 = 0
  · rw [if_pos (show m 4 0 4 = 0 by rw [h3, e]; rfl), if_pos e]
    refine ⟨_, rfl, ⟨hc, hp, ?_, fun _ => u3_s⟩, fun c i j q => ?_⟩
    · rw [u3_n (by omega), u3_s]
    · rw [u3_n (by omega), u3_n (by omega)]
  · rw [if_neg (show ¬ m 4 0 4 = 0 by rw [h3, show (0 : Int32) = nI 0 from rfl, neq (by omega) (by omega)]; exact e), if_neg e]
    exact ⟨m, rfl, ⟨h1, h2, h3, h4⟩, fun _ _ _ _ => rfl⟩
/-- the model keeps the note of the least place, and of the least number there -/
def adF (f : Nat × Nat) (c p : Nat) : Nat × Nat := if f.1 = 0 then (c, p) else if p < f.2 then (c, p) else if p = f.2 then (if f.1 ≤ c then f else (c, p)) else f
theorem m_adds {m : MI} {w : WS} {f : Nat × Nat} {c p : Nat} (h : ntM m f) (hc : c < 8) (hp : p < 1000) : ∃ m', F_X11_addsFault m w (nI c) (nI p) = some m' ∧ ntM m' (adF f c p) ∧ ∀ c i j, ¬ (c = 10 ∧ i = 0 ∧ (j = 17 ∨ j = 18)) → m' c i j = m c i j := by
  obtain ⟨h1, h2, h3, h4⟩ := h
  have new : ntM (u3 (u3 m 10 0 17 (nI c)) 10 0 18 (nI p)) (c, p) ∧ ∀ c' i j, ¬ (c' = 10 ∧ i = 0 ∧ (j = 17 ∨ j = 18)) → (u3 (u3 m 10 0 17 (nI c)) 10 0 18 (nI p)) c' i j = m c' i j := by
    refine ⟨⟨hc, hp, ?_, fun _ => u3_s⟩, fun c i j q => ?_⟩
    · rw [u3_n (by omega), u3_s]
    · rw [u3_n (by omega), u3_n (by omega)]
  unfold F_X11_addsFault adF
  by_cases e : f.1 = 0
  · rw [if_pos (show m 10 0 17 = 0 by rw [h3, e]; rfl), if_pos e]
    exact ⟨_, rfl, new.1, new.2⟩
  · have h4' := h4 e
    rw [if_neg (show ¬ m 10 0 17 = 0 by rw [h3, show (0 : Int32) = nI 0 from rfl, neq (by omega) (by omega)]; exact e), if_neg e]
    by_cases e2 : p < f.2
    · rw [if_pos (show nI p < m 10 0 18 by rw [h4', nlt (by omega) (by omega)]; exact e2), if_pos e2]
      exact ⟨_, rfl, new.1, new.2⟩
    · rw [if_neg (show ¬ nI p < m 10 0 18 by rw [h4', nlt (by omega) (by omega)]; exact e2), if_neg e2]
      by_cases e3 : p = f.2
      · rw [if_pos (show nI p = m 10 0 18 by rw [h4', e3]), if_pos e3]
        by_cases e4 : f.1 ≤ c
        · rw [if_pos (show m 10 0 17 ≤ nI c by rw [h3, nle (by omega) (by omega)]; exact e4), if_pos e4]
          exact ⟨m, rfl, ⟨h1, h2, h3, h4⟩, fun _ _ _ _ => rfl⟩
        · rw [if_neg (show ¬ m 10 0 17 ≤ nI c by rw [h3, nle (by omega) (by omega)]; exact e4), if_neg e4]
          exact ⟨_, rfl, new.1, new.2⟩
      · rw [if_neg (show ¬ nI p = m 10 0 18 by rw [h4', neq (by omega) (by omega)]; exact e3), if_neg e3]
        exact ⟨m, rfl, ⟨h1, h2, h3, h4⟩, fun _ _ _ _ => rfl⟩
theorem adF_nt {f : Nat × Nat} {c p : Nat} (h : f.1 ≠ 0 → f.2 < p) : adF f c p = ntF f c p := by
  unfold adF ntF
  by_cases e : f.1 = 0
  · rw [if_pos e, if_pos e]
  · have := h e
    rw [if_neg e, if_neg e, if_neg (by omega), if_neg (by omega)]
/-- the fourth and the sixth number in a list: both notes at one place leave the lesser -/
theorem adF_two {f : Nat × Nat} {p : Nat} (h : f.1 ≠ 0 → f.2 < p) : adF (adF f 3 p) 2 p = ntF f 2 p := by
  rw [adF_nt h]
  unfold ntF
  by_cases e : f.1 = 0
  · rw [if_pos e, if_pos e]
    unfold adF
    rw [if_neg (show ¬ (3 : Nat) = 0 by decide), if_neg (Nat.lt_irrefl _), if_pos rfl, if_neg (show ¬ 3 ≤ 2 by omega)]
  · have := h e
    rw [if_neg e, if_neg e]
    unfold adF
    rw [if_neg e, if_neg (by omega), if_neg (by omega)]
