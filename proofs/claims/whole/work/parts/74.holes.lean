theorem cp_left {W H X L k : Nat} (hX : X < 2 ^ 25) (hL : ∀ i, L.testBit i = true → X.testBit i = true) (hL2 : L < 2 ^ 25) (hc : clo W H X L) (hk : L.testBit k = true) : cpN W H L k = cpN W H X k := by
  have k25 := lt_tb hL2 hk
  have kX := hL k hk
  have c1 : clo W H L (cpN W H X k) := fun s hs t ht hn => cp_clo hX kX s hs t (hL t ht) hn
  have c2 : clo W H X (cpN W H L k) := fun s hs t ht hn => cp_clo hL2 hk s hs t (hc s (cp_sub hL2 hk s hs) t ht hn) hn
  exact eq_tb fun i => ⟨cp_min hL2 k25 c1 (cp_self hX kX) i, cp_min hX k25 c2 (cp_self hL2 hk) i⟩
/-- what the class has left at a cell -/
def LI (W H X k L : Nat) : Prop := (∀ i, L.testBit i = true → X.testBit i = true) ∧ clo W H X L ∧ ∀ d, X.testBit d = true → (L.testBit d = true ↔ ∀ e, e < k → (cpN W H X d).testBit e = false)
theorem LI_0 {W H X : Nat} : LI W H X 0 X := ⟨fun _ h => h, fun _ _ _ h _ => h, fun d h => ⟨fun _ e he => absurd he (by omega), fun _ => h⟩⟩
theorem LI_no {W H X k L : Nat} (hW : W < 6) (hH : H < 6) (hX : X < 2 ^ (W * H)) (hC : W * H ≤ 25) (h : LI W H X k L) (hk : L.testBit k = false) : LI W H X (k + 1) L := by
  have hX2 : X < 2 ^ 25 := Nat.lt_of_lt_of_le hX (Nat.pow_le_pow_right (by omega) hC)
  refine ⟨h.1, h.2.1, fun d hd => ?_⟩
  rw [h.2.2 d hd]
  constructor
  · intro q e he
    by_cases ek : e = k
    · subst ek
      cases r : (cpN W H X d).testBit e
      · rfl
      · have hkX := cp_sub hX2 hd e r
        have := cp_eq hW hH hX hC hd r
        have h2 := (h.2.2 e hkX).mpr (fun e' he' => by rw [this]; exact q e' he')
        rw [hk] at h2
        cases h2
    · exact q e (by omega)
  · intro q e he
    exact q e (by omega)
theorem LI_yes {W H X k L : Nat} (hW : W < 6) (hH : H < 6) (hX : X < 2 ^ (W * H)) (hC : W * H ≤ 25) (h : LI W H X k L) (hk : L.testBit k = true) : LI W H X (k + 1) (andn L (cpN W H X k)) := by
  have hX2 : X < 2 ^ 25 := Nat.lt_of_lt_of_le hX (Nat.pow_le_pow_right (by omega) hC)
  have hkX := h.1 k hk
  refine ⟨fun i hi => ?_, fun s hs t ht hn => ?_, fun d hd => ?_⟩
  · rw [tb_andn, Bool.and_eq_true] at hi
    exact h.1 i hi.1
  · rw [tb_andn, Bool.and_eq_true, Bool.not_eq_true'] at hs ⊢
    refine ⟨h.2.1 s hs.1 t ht hn, ?_⟩
    cases r : (cpN W H X k).testBit t
    · rfl
    · have hsX := h.1 s hs.1
      have := cp_clo hX2 hkX t r s hsX (nb_sym hW hH (lt_tb hX hsX) (lt_tb hX ht) hn)
      rw [this] at hs
      exact absurd hs.2 (by decide)
  · rw [tb_andn, Bool.and_eq_true, Bool.not_eq_true', h.2.2 d hd]
    constructor
    · rintro ⟨q1, q2⟩ e he
      by_cases ek : e = k
      · subst ek
        cases r : (cpN W H X d).testBit e
        · rfl
        · have := cp_eq hW hH hX hC hd r
          rw [this, cp_self hX2 hd] at q2
          cases q2
      · exact q1 e (by omega)
    · intro q
      refine ⟨fun e he => q e (by omega), ?_⟩
      cases r : (cpN W H X k).testBit d
      · rfl
      · have := cp_eq hW hH hX hC hkX r
        have h2 := q k (by omega)
        rw [this, cp_self hX2 hkX] at h2
        cases h2
/-- a component's least cell -/
def fsN (W H X k : Nat) : Prop := X.testBit k = true ∧ cpN W H X k &&& (2 ^ k - 1) = 0
theorem fs_tb {W H X k : Nat} : cpN W H X k &&& (2 ^ k - 1) = 0 ↔ ∀ e, e < k → (cpN W H X k).testBit e = false := by
  constructor
  · intro h e he
    have := congrArg (fun z => Nat.testBit z e) h
    simp only [Nat.testBit_and, Nat.testBit_two_pow_sub_one, he, decide_true, Bool.and_true, Nat.zero_testBit] at this
    exact this
  · intro h
    refine eq_tb fun i => ?_
    rw [Nat.testBit_and, Nat.testBit_two_pow_sub_one, Nat.zero_testBit, Bool.and_eq_true, decide_eq_true_eq]
    exact ⟨fun q => by rw [h i q.2] at q; exact q.1, fun q => by cases q⟩
theorem LI_fs {W H X k L : Nat} (h : LI W H X k L) : L.testBit k = true ↔ X.testBit k = true ∧ cpN W H X k &&& (2 ^ k - 1) = 0 := by
  constructor
  · intro q
    exact ⟨h.1 k q, fs_tb.mpr ((h.2.2 k (h.1 k q)).mp q)⟩
  · rintro ⟨q1, q2⟩
    exact (h.2.2 k q1).mpr (fs_tb.mp q2)
def hcF (W H X k : Nat) : Nat := if X.testBit k = true ∧ cpN W H X k &&& (2 ^ k - 1) = 0 then 1 else 0
def lgF (W H X k a : Nat) : Nat := if X.testBit k = true ∧ cpN W H X k &&& (2 ^ k - 1) = 0 then (if a < popN (cpN W H X k) then popN (cpN W H X k) else a) else a
def moL (W H X k a : Nat) : Nat := if X.testBit k = true then (if a ≤ popN (cpN W H X k) then popN (cpN W H X k) else a) else a
theorem lg_e (W H X k a : Nat) : lgF W H X k a = if X.testBit k = true ∧ cpN W H X k &&& (2 ^ k - 1) = 0 then (if a < popN (cpN W H X k) then popN (cpN W H X k) else a) else a := rfl
theorem mo_e (W H X k a : Nat) : moL W H X k a = if X.testBit k = true then (if a ≤ popN (cpN W H X k) then popN (cpN W H X k) else a) else a := rfl
theorem lg_mo {W H X : Nat} (hW : W < 6) (hH : H < 6) (hX : X < 2 ^ (W * H)) (hC : W * H ≤ 25) : ∀ k, foldN (lgF W H X) 0 k = foldN (moL W H X) 0 k ∧ ∀ e, e < k → X.testBit e = true → popN (cpN W H X e) ≤ foldN (moL W H X) 0 k := by
  have hX2 : X < 2 ^ 25 := Nat.lt_of_lt_of_le hX (Nat.pow_le_pow_right (by omega) hC)
  intro k
  induction k with
  | zero => exact ⟨rfl, fun e he => absurd he (by omega)⟩
  | succ k ih =>
    obtain ⟨a, ea⟩ : ∃ a, a = foldN (moL W H X) 0 k := ⟨_, rfl⟩
    have e1 : foldN (lgF W H X) 0 (k + 1) = lgF W H X k a := by rw [ea, ← ih.1]; rfl
    have e2 : foldN (moL W H X) 0 (k + 1) = moL W H X k a := by rw [ea]; rfl
    rw [e1, e2]
    rw [← ea] at ih
    have hle : a ≤ moL W H X k a := by rw [mo_e]; split <;> (try split) <;> omega
    constructor
    · rw [lg_e, mo_e]
      by_cases h1 : X.testBit k = true
      · rw [if_pos h1]
        by_cases h2 : cpN W H X k &&& (2 ^ k - 1) = 0
        · rw [if_pos ⟨h1, h2⟩]
          by_cases q : a < popN (cpN W H X k)
          · rw [if_pos q, if_pos (by omega)]
          · rw [if_neg q]
            by_cases q2 : a ≤ popN (cpN W H X k)
            · rw [if_pos q2]; omega
            · rw [if_neg q2]
        · rw [if_neg (fun q => h2 q.2)]
          obtain ⟨e, he, hb⟩ : ∃ e, e < k ∧ (cpN W H X k).testBit e = true := by
            refine Decidable.byContradiction fun hno => h2 (fs_tb.mpr fun e he => ?_)
            cases r : (cpN W H X k).testBit e
            · rfl
            · exact absurd ⟨e, he, r⟩ hno
          have hp := ih.2 e he (cp_sub hX2 h1 e hb)
          rw [cp_eq hW hH hX hC h1 hb] at hp
          by_cases q2 : a ≤ popN (cpN W H X k)
          · rw [if_pos q2]; omega
          · rw [if_neg q2]
      · rw [if_neg (fun q => h1 q.1), if_neg h1]
    · intro e he hb
      by_cases ek : e = k
      · subst ek
        rw [mo_e, if_pos hb]
        split <;> omega
      · have := ih.2 e (by omega) hb
        omega
