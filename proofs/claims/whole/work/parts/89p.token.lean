/-! TEXT: tokens, the class -/
def isL (c : Nat) : Bool := decide (97 ≤ c) && decide (c ≤ 122)
def isD (c : Nat) : Bool := decide (48 ≤ c) && decide (c ≤ 57)
def isB (c : Nat) : Bool := decide (c = 10) || decide (c = 32)
/-- the first place from one on where a test fails, or the end -/
def ruF (q : Nat → Bool) (b : Nat → Nat) (len : Nat) : Nat → Nat → Nat
  | 0, p => p
  | f + 1, p => if len ≤ p then p else if q (b p) = true then ruF q b len f (p + 1) else p
theorem ru_le {q : Nat → Bool} {b : Nat → Nat} {len : Nat} : ∀ f p, p ≤ len → p ≤ ruF q b len f p ∧ ruF q b len f p ≤ len := by
  intro f
  induction f with
  | zero => intro p hp; exact ⟨Nat.le_refl _, hp⟩
  | succ f ih =>
    intro p hp
    rw [ruF]
    by_cases h : len ≤ p
    · rw [if_pos h]; exact ⟨Nat.le_refl _, hp⟩
    · rw [if_neg h]
      by_cases h2 : q (b p) = true
      · rw [if_pos h2]
        have := ih (p + 1) (by omega)
        omega
      · rw [if_neg h2]; exact ⟨Nat.le_refl _, hp⟩
def tkP (b : Nat → Nat) (len pos : Nat) : Nat := ruF isB b len 601 pos
def tkE (b : Nat → Nat) (len pos : Nat) : Nat := if len ≤ tkP b len pos then tkP b len pos else if isL (b (tkP b len pos)) = true then ruF isL b len 601 (tkP b len pos) else if isD (b (tkP b len pos)) = true then ruF isD b len 601 (tkP b len pos) else tkP b len pos + 1
/-- 0 word, 1 number, 2 sign, 3 end, 4 none -/
def tkK (b : Nat → Nat) (len pos : Nat) : Nat := if len ≤ tkP b len pos then 3 else if isL (b (tkP b len pos)) = true then 0 else if isD (b (tkP b len pos)) = true then (if tkE b len pos - tkP b len pos ≤ 2 then 1 else 4) else if b (tkP b len pos) = 59 then 2 else 4
/-- what the first digits from a place to an end tell, two at most -/
def vaN (b : Nat → Nat) (p e : Nat) : Nat := if e ≤ p then 0 else if e ≤ p + 1 then b p - 48 else 10 * (b p - 48) + (b (p + 1) - 48)
def tkV (b : Nat → Nat) (len pos : Nat) : Nat := vaN b (tkP b len pos) (tkE b len pos)
theorem tk_le {b : Nat → Nat} {len pos : Nat} (h : pos ≤ len) : pos ≤ tkP b len pos ∧ tkP b len pos ≤ tkE b len pos ∧ tkE b len pos ≤ len := by
  have h1 := ru_le (q := isB) (b := b) (len := len) 601 pos h
  have h1' : pos ≤ tkP b len pos ∧ tkP b len pos ≤ len := h1
  refine ⟨h1'.1, ?_⟩
  unfold tkE
  by_cases e : len ≤ tkP b len pos
  · rw [if_pos e]; omega
  · rw [if_neg e]
    by_cases e2 : isL (b (tkP b len pos)) = true
    · rw [if_pos e2]; exact ru_le (q := isL) (b := b) 601 (tkP b len pos) h1'.2
    · rw [if_neg e2]
      by_cases e3 : isD (b (tkP b len pos)) = true
      · rw [if_pos e3]; exact ru_le (q := isD) (b := b) 601 (tkP b len pos) h1'.2
      · rw [if_neg e3]; omega
theorem ru_stop {q : Nat → Bool} {b : Nat → Nat} {len : Nat} : ∀ f p, p ≤ len → len < p + f → ruF q b len f p = len ∨ q (b (ruF q b len f p)) ≠ true := by
  intro f
  induction f with
  | zero => intro p h1 h2; omega
  | succ f ih =>
    intro p h1 h2
    rw [ruF]
    by_cases h : len ≤ p
    · rw [if_pos h]; exact Or.inl (by omega)
    · rw [if_neg h]
      by_cases h3 : q (b p) = true
      · rw [if_pos h3]; exact ih (p + 1) (by omega) (by omega)
      · rw [if_neg h3]; exact Or.inr h3
theorem isL_iff {c : Nat} (hc : c < 256) : (¬ (nI c < 97) ∧ (¬ (122 < nI c))) ↔ isL c = true := by
  have e1 : (97 : Int32) = nI 97 := rfl
  have e2 : (122 : Int32) = nI 122 := rfl
  rw [e1, e2, nlt (by omega) (by omega), nlt (by omega) (by omega)]
  unfold isL
  rw [Bool.and_eq_true, decide_eq_true_eq, decide_eq_true_eq]
  omega
theorem isD_iff {c : Nat} (hc : c < 256) : (¬ (nI c < 48) ∧ (¬ (57 < nI c))) ↔ isD c = true := by
  have e1 : (48 : Int32) = nI 48 := rfl
  have e2 : (57 : Int32) = nI 57 := rfl
  rw [e1, e2, nlt (by omega) (by omega), nlt (by omega) (by omega)]
  unfold isD
  rw [Bool.and_eq_true, decide_eq_true_eq, decide_eq_true_eq]
  omega
theorem isB_iff {c : Nat} (hc : c < 256) : (nI c = 10 ∨ nI c = 32) ↔ isB c = true := by
  have e1 : (10 : Int32) = nI 10 := rfl
  have e2 : (32 : Int32) = nI 32 := rfl
  rw [e1, e2, neq (by omega) (by omega), neq (by omega) (by omega)]
  unfold isB
  rw [Bool.or_eq_true, decide_eq_true_eq, decide_eq_true_eq]
/-- the tape of the class, as bytes -/
def tapC (m : MI) (b : Nat → Nat) (len : Nat) : Prop := len ≤ 600 ∧ m 6 0 1 = nI len ∧ ∀ k, k < len → m 20 0 k = nI (b k) ∧ b k < 256
theorem tapC_of {m m' : MI} {b : Nat → Nat} {len : Nat} (h : tapC m b len) (e : ∀ c i j, ¬ (c = 6 ∧ i = 0 ∧ 2 ≤ j ∧ j ≤ 5) → m' c i j = m c i j) : tapC m' b len :=
  ⟨h.1, by rw [e _ _ _ (by omega)]; exact h.2.1, fun k hk => by rw [e _ _ _ (by omega)]; exact h.2.2 k hk⟩
theorem c_word {w : WS} {b : Nat → Nat} {len : Nat} : ∀ f F p m, tapC m b len → p ≤ len → len < p + f → f < F → m 6 0 2 = nI p → ∃ m', L_X7_nextWord_5 w F m = some m' ∧ m' 6 0 2 = nI (ruF isL b len f p) ∧ ∀ c i j, ¬ (c = 6 ∧ i = 0 ∧ j = 2) → m' c i j = m c i j := by
  intro f
  induction f with
  | zero => intro F p m _ h1 h2; omega
  | succ f ih =>
    intro F p m ht hp hlen hF h2
    obtain ⟨F, rfl⟩ : ∃ G, F = G + 1 := ⟨F - 1, by omega⟩
    obtain ⟨t1, t2, t3⟩ := id ht
    rw [L_X7_nextWord_5, t2, h2, ruF]
    by_cases h : len ≤ p
    · rw [if_pos (show nI len ≤ nI p by rw [nle (by omega) (by omega)]; exact h), if_pos h]
      exact ⟨m, rfl, h2, fun _ _ _ _ => rfl⟩
    · obtain ⟨q1, q2⟩ := t3 p (by omega)
      rw [if_neg (show ¬ nI len ≤ nI p by rw [nle (by omega) (by omega)]; exact h), if_neg h]
      simp (disch := omega) only [ncl, ckJ]
      rw [q1]
      by_cases hb : isL (b p) = true
      · rw [if_pos ((isL_iff q2).mpr hb), if_pos hb, i1, nadd]
        obtain ⟨m', a1, a2, a3⟩ := ih F (p + 1) (u3 m 6 0 2 (nI (p + 1))) (tapC_of ht fun c i j h => u3_n (by omega)) (by omega) (by omega) (by omega) u3_s
        exact ⟨m', a1, a2, fun c i j h => by rw [a3 c i j h, u3_n (by omega)]⟩
      · rw [if_neg (fun q => hb ((isL_iff q2).mp q)), if_neg hb]
        exact ⟨m, rfl, h2, fun _ _ _ _ => rfl⟩
theorem c_number {w : WS} {b : Nat → Nat} {len p0 : Nat} : ∀ f F p m, tapC m b len → p ≤ len → p0 ≤ p → (∀ k, p0 ≤ k → k < p → isD (b k) = true) → len < p + f → f < F → m 6 0 2 = nI p → m 6 0 4 = nI p0 → m 6 0 5 = nI (vaN b p0 p) →
    ∃ m', L_X7_nextNumber_5 w F m = some m' ∧ m' 6 0 2 = nI (ruF isD b len f p) ∧ m' 6 0 3 = nI (if ruF isD b len f p - p0 ≤ 2 then 1 else 4) ∧ m' 6 0 5 = nI (vaN b p0 (ruF isD b len f p)) ∧ ∀ c i j, ¬ (c = 6 ∧ i = 0 ∧ (j = 2 ∨ j = 3 ∨ j = 5)) → m' c i j = m c i j := by
  intro f
  induction f with
  | zero => intro F p m _ h1 _ _ h2; omega
  | succ f ih =>
    intro F p m ht hp hp0 hd hlen hF h2 h4 h5
    obtain ⟨F, rfl⟩ : ∃ G, F = G + 1 := ⟨F - 1, by omega⟩
    obtain ⟨t1, t2, t3⟩ := id ht
    have kind : (if (nI p - nI p0) ≤ (2 : Int32) then (1 : Int32) else 4) = nI (if p - p0 ≤ 2 then 1 else 4) := by
      rw [nsub hp0, i2]
      by_cases z : p - p0 ≤ 2
      · rw [if_pos (by rw [nle (by omega) (by omega)]; exact z), if_pos z]; rfl
      · rw [if_neg (by rw [nle (by omega) (by omega)]; exact z), if_neg z]; rfl
    have stop : ∃ m', some (u3 m 6 0 3 (if (nI p - nI p0) ≤ (2 : Int32) then (1 : Int32) else 4)) = some m' ∧ m' 6 0 2 = nI p ∧ m' 6 0 3 = nI (if p - p0 ≤ 2 then 1 else 4) ∧ m' 6 0 5 = nI (vaN b p0 p) ∧ ∀ c i j, ¬ (c = 6 ∧ i = 0 ∧ (j = 2 ∨ j = 3 ∨ j = 5)) → m' c i j = m c i j :=
      ⟨_, rfl, by rw [u3_n (by omega)]; exact h2, by rw [u3_s]; exact kind, by rw [u3_n (by omega)]; exact h5, fun c i j h => u3_n (by omega)⟩
    rw [L_X7_nextNumber_5, t2, h2, h4, ruF]
    by_cases h : len ≤ p
    · rw [if_pos (show nI len ≤ nI p by rw [nle (by omega) (by omega)]; exact h), if_pos h]
      exact stop
    · obtain ⟨q1, q2⟩ := t3 p (by omega)
      rw [if_neg (show ¬ nI len ≤ nI p by rw [nle (by omega) (by omega)]; exact h), if_neg h]
      simp (disch := omega) only [ncl, ckJ, lt_e]
      rw [q1]
      by_cases hb : isD (b p) = true
      · have hd' : ∀ k, p0 ≤ k → k < p + 1 → isD (b k) = true := fun k a c => by
          by_cases e : k = p
          · rw [e]; exact hb
          · exact hd k a (by omega)
        have d48 : ∀ k, isD (b k) = true → 48 ≤ b k ∧ b k ≤ 57 := fun k z => by
          unfold isD at z
          rw [Bool.and_eq_true, decide_eq_true_eq, decide_eq_true_eq] at z
          exact z
        have hbp := d48 p hb
        rw [if_pos ((isD_iff q2).mpr hb), if_pos hb, nsub hp0]
        by_cases z : 2 ≤ p - p0
        · rw [if_pos (show (2 : Int32) ≤ nI (p - p0) by rw [i2, nle (by omega) (by omega)]; exact z), i1, nadd]
          have ev : vaN b p0 (p + 1) = vaN b p0 p := by
            unfold vaN
            rw [if_neg (by omega), if_neg (by omega), if_neg (by omega), if_neg (by omega)]
          obtain ⟨m', a1, a2, a3, a4, a5⟩ := ih F (p + 1) (u3 m 6 0 2 (nI (p + 1))) (tapC_of ht fun c i j h => u3_n (by omega)) (by omega) (by omega) hd' (by omega) (by omega) u3_s (by rw [u3_n (by omega)]; exact h4) (by rw [u3_n (by omega), ev]; exact h5)
          exact ⟨m', a1, a2, a3, a4, fun c i j h => by rw [a5 c i j h, u3_n (by omega)]⟩
        · have e10 : (10 : Int32) = nI 10 := rfl
          have e48 : (48 : Int32) = nI 48 := rfl
          have ev : vaN b p0 p * 10 + b p - 48 = vaN b p0 (p + 1) := by
            unfold vaN
            by_cases y : p = p0
            · subst y
              rw [if_pos (by omega), if_neg (by omega), if_pos (by omega)]
              omega
            · have : p = p0 + 1 := by omega
              subst this
              have := d48 p0 (hd p0 (by omega) (by omega))
              rw [if_neg (by omega), if_pos (by omega), if_neg (by omega), if_neg (by omega)]
              omega
          rw [if_neg (show ¬ (2 : Int32) ≤ nI (p - p0) by rw [i2, nle (by omega) (by omega)]; exact z), h5, e10, nmul, nadd, e48, nsub (by omega), ev, u3_n (by omega), h2, i1, nadd]
          obtain ⟨m', a1, a2, a3, a4, a5⟩ := ih F (p + 1) (u3 (u3 m 6 0 5 (nI (vaN b p0 (p + 1)))) 6 0 2 (nI (p + 1))) (tapC_of ht fun c i j h => by rw [u3_n (by omega), u3_n (by omega)]) (by omega) (by omega) hd' (by omega) (by omega) u3_s (by rw [u3_n (by omega), u3_n (by omega)]; exact h4) (by rw [u3_n (by omega), u3_s])
          exact ⟨m', a1, a2, a3, a4, fun c i j h => by rw [a5 c i j h, u3_n (by omega), u3_n (by omega)]⟩
      · rw [if_neg (fun q => hb ((isD_iff q2).mp q)), if_neg hb]
        exact stop
/-- a token as the class holds it -/
def tokC (m : MI) (b : Nat → Nat) (len pos : Nat) : Prop := m 6 0 2 = nI (tkE b len pos) ∧ m 6 0 3 = nI (tkK b len pos) ∧ m 6 0 4 = nI (tkP b len pos) ∧ (tkK b len pos = 1 → m 6 0 5 = nI (tkV b len pos))
theorem c_next {m0 : MI} {w : WS} {b : Nat → Nat} {len pos : Nat} (hw : w.2.1 = true) (ht0 : tapC m0 b len) (hp : pos ≤ len) (h2 : m0 6 0 2 = nI pos) : ∃ m', F_X7_next m0 w = some m' ∧ tokC m' b len pos ∧ ∀ c i j, ¬ (c = 6 ∧ i = 0 ∧ 2 ≤ j ∧ j ≤ 5) → m' c i j = m0 c i j := by
  obtain ⟨t1, t2, t3⟩ := id ht0
  -- behind the blanks
  have fin : ∀ m, tapC m b len → m 6 0 4 = nI (tkP b len pos) → ∃ m', (if ((u3 m 6 0 2 (m 6 0 4)) 6 0 4) < ((u3 m 6 0 2 (m 6 0 4)) 6 0 1) then ck (¬ (((u3 m 6 0 2 (m 6 0 4)) 6 0 4) < 0 ∨ 600 ≤ ((u3 m 6 0 2 (m 6 0 4)) 6 0 4).toNatClampNeg)) (if ¬ (((u3 m 6 0 2 (m 6 0 4)) 20 0 (((u3 m 6 0 2 (m 6 0 4)) 6 0 4).toNatClampNeg)) < 97) ∧ (¬ (122 < ((u3 m 6 0 2 (m 6 0 4)) 20 0 (((u3 m 6 0 2 (m 6 0 4)) 6 0 4).toNatClampNeg)))) then (F_X7_nextWord (u3 m 6 0 2 (m 6 0 4)) w ).bind fun c32 => some c32 else ck (¬ (((u3 m 6 0 2 (m 6 0 4)) 6 0 4) < 0 ∨ 600 ≤ ((u3 m 6 0 2 (m 6 0 4)) 6 0 4).toNatClampNeg)) (if ¬ (((u3 m 6 0 2 (m 6 0 4)) 20 0 (((u3 m 6 0 2 (m 6 0 4)) 6 0 4).toNatClampNeg)) < 48) ∧ (¬ (57 < ((u3 m 6 0 2 (m 6 0 4)) 20 0 (((u3 m 6 0 2 (m 6 0 4)) 6 0 4).toNatClampNeg)))) then (F_X7_nextNumber (u3 m 6 0 2 (m 6 0 4)) w ).bind fun c31 => some c31 else ck (¬ (((u3 m 6 0 2 (m 6 0 4)) 6 0 4) < 0 ∨ 600 ≤ ((u3 m 6 0 2 (m 6 0 4)) 6 0 4).toNatClampNeg)) (lt (u3 (u3 (u3 m 6 0 2 (m 6 0 4)) 6 0 3 (if ((u3 m 6 0 2 (m 6 0 4)) 20 0 (((u3 m 6 0 2 (m 6 0 4)) 6 0 4).toNatClampNeg)) = 59 then 2 else 4)) 6 0 2 (((u3 (u3 m 6 0 2 (m 6 0 4)) 6 0 3 (if ((u3 m 6 0 2 (m 6 0 4)) 20 0 (((u3 m 6 0 2 (m 6 0 4)) 6 0 4).toNatClampNeg)) = 59 then 2 else 4)) 6 0 2) + 1)) fun m34 => some m34))) else lt (u3 (u3 m 6 0 2 (m 6 0 4)) 6 0 3 3) fun m33 => some m33) = some m' ∧ tokC m' b len pos ∧ ∀ c i j, ¬ (c = 6 ∧ i = 0 ∧ 2 ≤ j ∧ j ≤ 5) → m' c i j = m c i j := by
    intro m ht h4
    obtain ⟨-, t2, t3⟩ := id ht
    have hle := (tk_le (b := b) hp)
    have g4 : (u3 m 6 0 2 (m 6 0 4)) 6 0 4 = nI (tkP b len pos) := by rw [u3_n (by omega)]; exact h4
    have g1 : (u3 m 6 0 2 (m 6 0 4)) 6 0 1 = nI len := by rw [u3_n (by omega)]; exact t2
    have g2 : (u3 m 6 0 2 (m 6 0 4)) 6 0 2 = nI (tkP b len pos) := by rw [u3_s]; exact h4
    have gf : ∀ c i j, ¬ (c = 6 ∧ i = 0 ∧ j = 2) → (u3 m 6 0 2 (m 6 0 4)) c i j = m c i j := fun c i j h => u3_n (by omega)
    have gt : tapC (u3 m 6 0 2 (m 6 0 4)) b len := tapC_of ht fun c i j h => gf c i j (by omega)
    generalize u3 m 6 0 2 (m 6 0 4) = m1 at *
    rw [g4, g1]
    by_cases e : len ≤ tkP b len pos
    · rw [if_neg (by rw [nlt (by omega) (by omega)]; omega), lt_e]
      have ek : tkK b len pos = 3 := if_pos e
      have ee : tkE b len pos = tkP b len pos := if_pos e
      exact ⟨_, rfl, ⟨by rw [u3_n (by omega), g2, ee], by rw [u3_s, ek]; rfl, by rw [u3_n (by omega), g4], fun q => by rw [ek] at q; omega⟩, fun c i j h => by rw [u3_n (by omega), gf _ _ _ (by omega)]⟩
    · obtain ⟨q1, q2⟩ := gt.2.2 (tkP b len pos) (by omega)
      have hp6 := gt.1
      rw [if_pos (by rw [nlt (by omega) (by omega)]; omega)]
      simp (disch := omega) only [ncl, ckJ, lt_e]
      rw [q1]
      by_cases hl : isL (b (tkP b len pos)) = true
      · have ek : tkK b len pos = 0 := by unfold tkK; rw [if_neg e, if_pos hl]
        have ee : tkE b len pos = ruF isL b len 601 (tkP b len pos) := by unfold tkE; rw [if_neg e, if_pos hl]
        rw [if_pos ((isL_iff q2).mpr hl)]
        unfold F_X7_nextWord
        rw [ckT hw]
        obtain ⟨m', a1, a2, a3⟩ := c_word (w := w) (b := b) (len := len) 601 1000000 (tkP b len pos) (u3 m1 6 0 3 0) (tapC_of gt fun c i j h => u3_n (by omega)) (by omega) (by omega) (by omega) (by rw [u3_n (by omega)]; exact g2)
        rw [a1]
        exact ⟨m', rfl, ⟨by rw [a2, ee], by rw [a3 _ _ _ (by omega), u3_s, ek]; rfl, by rw [a3 _ _ _ (by omega), u3_n (by omega)]; exact g4, fun q => by rw [ek] at q; omega⟩, fun c i j h => by rw [a3 _ _ _ (by omega), u3_n (by omega), gf _ _ _ (by omega)]⟩
      · rw [if_neg (fun q => hl ((isL_iff q2).mp q))]
        by_cases hd : isD (b (tkP b len pos)) = true
        · have ee : tkE b len pos = ruF isD b len 601 (tkP b len pos) := by unfold tkE; rw [if_neg e, if_neg hl, if_pos hd]
          have ek : tkK b len pos = if ruF isD b len 601 (tkP b len pos) - tkP b len pos ≤ 2 then 1 else 4 := by unfold tkK; rw [if_neg e, if_neg hl, if_pos hd, ee]
          rw [if_pos ((isD_iff q2).mpr hd)]
          unfold F_X7_nextNumber
          rw [ckT hw]
          obtain ⟨m', a1, a2, a3, a4, a5⟩ := c_number (w := w) (b := b) (len := len) (p0 := tkP b len pos) 601 1000000 (tkP b len pos) (u3 m1 6 0 5 0) (tapC_of gt fun c i j h => u3_n (by omega)) (by omega) (Nat.le_refl _) (fun k a c => by omega) (by omega) (by omega) (by rw [u3_n (by omega)]; exact g2) (by rw [u3_n (by omega)]; exact g4) (by rw [u3_s]; unfold vaN; rw [if_pos (Nat.le_refl _)]; rfl)
          rw [a1]
          exact ⟨m', rfl, ⟨by rw [a2, ee], by rw [a3, ek], by rw [a5 _ _ _ (by omega), u3_n (by omega)]; exact g4, fun _ => by rw [a4]; unfold tkV; rw [ee]⟩, fun c i j h => by rw [a5 _ _ _ (by omega), u3_n (by omega), gf _ _ _ (by omega)]⟩
        · have ee : tkE b len pos = tkP b len pos + 1 := by unfold tkE; rw [if_neg e, if_neg hl, if_neg hd]
          have ek : tkK b len pos = if b (tkP b len pos) = 59 then 2 else 4 := by unfold tkK; rw [if_neg e, if_neg hl, if_neg hd]
          rw [if_neg (fun q => hd ((isD_iff q2).mp q))]
          have e59 : (59 : Int32) = nI 59 := rfl
          have kk : (if nI (b (tkP b len pos)) = 59 then (2 : Int32) else 4) = nI (if b (tkP b len pos) = 59 then 2 else 4) := by
            by_cases z : b (tkP b len pos) = 59
            · rw [if_pos (by rw [z]; rfl), if_pos z]; rfl
            · rw [if_neg (show ¬ nI (b (tkP b len pos)) = 59 from nne (b := 59) (by omega) (by omega) z), if_neg z]; rfl
          refine ⟨_, rfl, ⟨?_, ?_, ?_, fun q => ?_⟩, fun c i j h => ?_⟩
          · rw [u3_s, u3_n (by omega), g2, ee, i1, nadd]
          · rw [u3_n (by omega), u3_s, ek]; exact kk
          · rw [u3_n (by omega), u3_n (by omega)]; exact g4
          · rw [ek] at q; split at q <;> omega
          · rw [u3_n (by omega), u3_n (by omega), gf _ _ _ (by omega)]
  have loop : ∀ f F p m, tapC m b len → p ≤ len → len < p + f → f < F → m 6 0 4 = nI p → ruF isB b len f p = tkP b len pos → (∀ c i j, ¬ (c = 6 ∧ i = 0 ∧ 2 ≤ j ∧ j ≤ 5) → m c i j = m0 c i j) → ∃ m', L_X7_next_8 w F m = some m' ∧ tokC m' b len pos ∧ ∀ c i j, ¬ (c = 6 ∧ i = 0 ∧ 2 ≤ j ∧ j ≤ 5) → m' c i j = m0 c i j := by
    intro f
    induction f with
    | zero => intro F p m _ h1 h2; omega
    | succ f ih =>
      intro F p m ht hp hlen hF h4 hru hfr
      obtain ⟨F, rfl⟩ : ∃ G, F = G + 1 := ⟨F - 1, by omega⟩
      obtain ⟨-, t2, t3⟩ := id ht
      rw [ruF] at hru
      by_cases h : len ≤ p
      · rw [if_pos h] at hru
        rw [L_X7_next_8, if_pos (show m 6 0 1 ≤ m 6 0 4 by rw [t2, h4, nle (by omega) (by omega)]; exact h)]
        obtain ⟨m', a1, a2, a3⟩ := fin m ht (by rw [h4, hru])
        exact ⟨m', a1, a2, fun c i j h => by rw [a3 c i j h]; exact hfr c i j h⟩
      · obtain ⟨q1, q2⟩ := t3 p (by omega)
        rw [if_neg h] at hru
        have hcond : ((m 20 0 ((m 6 0 4).toNatClampNeg)) = 10 ∨ (m 20 0 ((m 6 0 4).toNatClampNeg)) = 32) ↔ isB (b p) = true := by
          rw [h4, ncl (by omega), q1]
          exact isB_iff q2
        have hck : ∀ y : Option MI, ck (¬ ((m 6 0 4) < 0 ∨ 600 ≤ (m 6 0 4).toNatClampNeg)) y = y := fun y => by rw [h4, ck_in (by omega) (by omega)]
        rw [L_X7_next_8, if_neg (show ¬ m 6 0 1 ≤ m 6 0 4 by rw [t2, h4, nle (by omega) (by omega)]; exact h), hck]
        by_cases hb : isB (b p) = true
        · rw [if_pos hb] at hru
          rw [if_pos (hcond.mpr hb)]
          exact ih F (p + 1) _ (tapC_of ht fun c i j h => u3_n (by omega)) (by omega) (by omega) (by omega) (by rw [u3_s, h4, i1, nadd]) hru (fun c i j h => by rw [u3_n (by omega)]; exact hfr c i j h)
        · rw [if_neg hb] at hru
          rw [if_neg (fun q => hb (hcond.mp q))]
          obtain ⟨m', a1, a2, a3⟩ := fin m ht (by rw [h4, hru])
          exact ⟨m', a1, a2, fun c i j h => by rw [a3 c i j h]; exact hfr c i j h⟩
  unfold F_X7_next
  rw [ckT hw]
  exact loop 601 1000000 pos (u3 m0 6 0 4 (m0 6 0 2)) (tapC_of ht0 fun c i j h => u3_n (by omega)) hp (by omega) (by omega) (by rw [u3_s]; exact h2) rfl (fun c i j h => u3_n (by omega))
