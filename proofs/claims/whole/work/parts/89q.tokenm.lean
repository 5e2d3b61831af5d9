/-! TEXT: tokens, the model -/
def tapM (m : MI) (b : Nat → Nat) (len : Nat) : Prop := len ≤ 600 ∧ m 10 0 11 = nI len ∧ ∀ k, k < len → m 50 0 k &&& 255 = nI (b k) ∧ b k < 256
theorem tapM_of {m m' : MI} {b : Nat → Nat} {len : Nat} (h : tapM m b len) (e : ∀ c i j, (c = 50 ∨ (c = 10 ∧ j = 11)) → m' c i j = m c i j) : tapM m' b len :=
  ⟨h.1, by rw [e _ _ _ (by omega)]; exact h.2.1, fun k hk => by rw [e _ _ _ (by omega)]; exact h.2.2 k hk⟩
theorem m_see {m : MI} {w : WS} {b : Nat → Nat} {len p : Nat} (h : tapM m b len) (hp : p ≤ len) (h10 : m 10 0 10 = nI p) : F_X11_see m w = some (if len ≤ p then -1 else nI (b p)) := by
  obtain ⟨h1, h2, h3⟩ := h
  unfold F_X11_see
  rw [h2, h10]
  by_cases e : len ≤ p
  · rw [if_pos (show nI len ≤ nI p by rw [nle (by omega) (by omega)]; exact e), if_pos e]
  · rw [if_neg (show ¬ nI len ≤ nI p by rw [nle (by omega) (by omega)]; exact e), if_neg e, ck_in (by omega) (by omega), ncl (by omega), (h3 p (by omega)).1]
/-- letters in one long -/
def pkN (b : Nat → Nat) (p : Nat) : Nat → Nat
  | 0 => 0
  | n + 1 => pkN b p n * 256 + b (p + n)
theorem pk_step {x c : Nat} (hc : c < 256) : (lN x <<< ((8 : Int32).toInt64 &&& 63)) ||| (nI c).toInt64 = lN (x * 256 + c) := by
  rw [nI_l (by omega)]
  have e8 : ((8 : Int32).toInt64 &&& 63) = 8 := by decide
  rw [e8]
  apply Int64.toBitVec_inj.mp
  show (lN x).toBitVec <<< ((8 : Int64).toBitVec.smod 64) ||| (lN c).toBitVec = (lN (x * 256 + c)).toBitVec
  have e9 : ((8 : Int64).toBitVec.smod 64) = 8#64 := by decide
  rw [e9]
  show BitVec.ofNat 64 x <<< 8#64 ||| BitVec.ofNat 64 c = BitVec.ofNat 64 (x * 256 + c)
  apply BitVec.eq_of_toNat_eq
  simp only [BitVec.toNat_or, BitVec.shiftLeft_eq', BitVec.toNat_shiftLeft, BitVec.toNat_ofNat]
  have e10 : 8 % 2 ^ 64 = 8 := by decide
  rw [e10, Nat.shiftLeft_eq]
  refine Nat.eq_of_testBit_eq fun i => ?_
  rw [Nat.testBit_or]
  have h1 : (x % 2 ^ 64 * 2 ^ 8) % 2 ^ 64 = (x * 2 ^ 8) % 2 ^ 64 := Nat.mod_mul_mod ..
  have h2 : c % 2 ^ 64 = c := Nat.mod_eq_of_lt (by omega)
  have h3 : x * 256 + c = x * 2 ^ 8 ||| c := by
    have := Nat.two_pow_add_eq_or_of_lt (i := 8) (b := c) (by omega) x
    rw [Nat.mul_comm] at this
    exact this
  rw [h1, h2, Nat.testBit_mod_two_pow, h3, Nat.testBit_mod_two_pow, Nat.testBit_or]
  by_cases hi : i < 64
  · rw [decide_eq_true hi]; simp
  · have : c.testBit i = false := Nat.testBit_lt_two_pow (Nat.lt_of_lt_of_le (show c < 2 ^ 8 by omega) (Nat.pow_le_pow_right (by omega) (by omega)))
    rw [decide_eq_false hi, this]; rfl
theorem m_word {b : Nat → Nat} {len p0 : Nat} {x1 : Int32} {w1 : Nat} {w2 : Bool} {w3 : Nat → Bool} : ∀ f F p m (wd : Int64), tapM m b len → p ≤ len → p0 ≤ p → len < p + f → f < F → m 10 0 10 = nI p → (p - p0 ≤ 8 → wd = lN (pkN b p0 (p - p0))) →
    ∃ m' wd', L_X11_token_74 F m (w1, w2, w3, wd) x1 (nI (p - p0)) = some (m', (w1, w2, w3, wd')) ∧ m' 10 0 10 = nI (ruF isL b len f p) ∧ m' 10 0 13 = nI 2 ∧ (ruF isL b len f p - p0 ≤ 8 → wd' = lN (pkN b p0 (ruF isL b len f p - p0))) ∧ (8 < ruF isL b len f p - p0 → wd' = 0) ∧ ∀ c i j, ¬ (c = 10 ∧ i = 0 ∧ (j = 10 ∨ j = 13)) → m' c i j = m c i j := by
  intro f
  induction f with
  | zero => intro F p m wd _ h1 _ h2; omega
  | succ f ih =>
    intro F p m wd ht hp hp0 hlen hF h10 hwd
    obtain ⟨F, rfl⟩ : ∃ G, F = G + 1 := ⟨F - 1, by omega⟩
    have h600 := ht.1
    rw [L_X11_token_74, m_see ht hp h10, Option.bind_some, ruF]
    have stop : ∃ m' wd', (if nI (p - p0) ≤ (8 : Int32) then some (u3 m 10 0 13 2, ((w1, w2, w3, wd) : WS)) else some (u3 m 10 0 13 2, ((w1, w2, w3, 0) : WS))) = some (m', (w1, w2, w3, wd')) ∧ m' 10 0 10 = nI p ∧ m' 10 0 13 = nI 2 ∧ (p - p0 ≤ 8 → wd' = lN (pkN b p0 (p - p0))) ∧ (8 < p - p0 → wd' = 0) ∧ ∀ c i j, ¬ (c = 10 ∧ i = 0 ∧ (j = 10 ∨ j = 13)) → m' c i j = m c i j := by
      have e8 : (8 : Int32) = nI 8 := rfl
      by_cases z : p - p0 ≤ 8
      · rw [if_pos (by rw [e8, nle (by omega) (by omega)]; exact z)]
        exact ⟨_, _, rfl, by rw [u3_n (by omega)]; exact h10, u3_s, fun _ => hwd z, fun q => by omega, fun c i j h => u3_n (by omega)⟩
      · rw [if_neg (by rw [e8, nle (by omega) (by omega)]; exact z)]
        exact ⟨_, _, rfl, by rw [u3_n (by omega)]; exact h10, u3_s, fun q => absurd q z, fun _ => rfl, fun c i j h => u3_n (by omega)⟩
    by_cases h : len ≤ p
    · rw [if_pos h, if_pos h, if_neg (by decide)]
      exact stop
    · obtain ⟨q1, q2⟩ := ht.2.2 p (by omega)
      rw [if_neg h, if_neg h]
      by_cases hb : isL (b p) = true
      · rw [if_pos ((isL_iff q2).mpr hb), if_pos hb, Option.bind_some, lt_e, h10, i1, nadd, nadd]
        dsimp only
        have e1 : p - p0 + 1 = p + 1 - p0 := by omega
        rw [e1]
        obtain ⟨m', wd', a1, a2, a3, a4, a5, a6⟩ := ih F (p + 1) (u3 m 10 0 10 (nI (p + 1))) ((wd <<< ((8 : Int32).toInt64 &&& 63)) ||| (nI (b p)).toInt64) (tapM_of ht fun c i j h => u3_n (by omega)) (by omega) (by omega) (by omega) (by omega) u3_s (fun z => by
          rw [hwd (by omega), pk_step q2]
          have e2 : p + 1 - p0 = (p - p0) + 1 := by omega
          rw [e2, pkN, show p0 + (p - p0) = p by omega])
        exact ⟨m', wd', a1, a2, a3, a4, a5, fun c i j h => by rw [a6 c i j h, u3_n (by omega)]⟩
      · rw [if_neg (fun q => hb ((isL_iff q2).mp q)), if_neg hb]
        exact stop
theorem m_number {w : WS} {b : Nat → Nat} {len p0 : Nat} {x1 : Int32} : ∀ f F p m, tapM m b len → p ≤ len → p0 ≤ p → (∀ k, p0 ≤ k → k < p → isD (b k) = true) → len < p + f → f < F → m 10 0 10 = nI p → m 10 0 14 = nI (vaN b p0 p) →
    ∃ m', L_X11_token_163 F m w x1 (nI (p - p0)) = some (m', w) ∧ m' 10 0 10 = nI (ruF isD b len f p) ∧ m' 10 0 13 = nI (if ruF isD b len f p - p0 ≤ 2 then 3 else 1) ∧ m' 10 0 14 = nI (vaN b p0 (ruF isD b len f p)) ∧ ∀ c i j, ¬ (c = 10 ∧ i = 0 ∧ (j = 10 ∨ j = 13 ∨ j = 14)) → m' c i j = m c i j := by
  intro f
  induction f with
  | zero => intro F p m _ h1 _ _ h2; omega
  | succ f ih =>
    intro F p m ht hp hp0 hd hlen hF h10 h14
    obtain ⟨F, rfl⟩ : ∃ G, F = G + 1 := ⟨F - 1, by omega⟩
    have h600 := ht.1
    rw [L_X11_token_163, m_see ht hp h10, Option.bind_some, ruF]
    have stop : ∃ m', some (u3 m 10 0 13 (if nI (p - p0) ≤ (2 : Int32) then (3 : Int32) else 1), w) = some (m', w) ∧ m' 10 0 10 = nI p ∧ m' 10 0 13 = nI (if p - p0 ≤ 2 then 3 else 1) ∧ m' 10 0 14 = nI (vaN b p0 p) ∧ ∀ c i j, ¬ (c = 10 ∧ i = 0 ∧ (j = 10 ∨ j = 13 ∨ j = 14)) → m' c i j = m c i j := by
      refine ⟨_, rfl, by rw [u3_n (by omega)]; exact h10, ?_, by rw [u3_n (by omega)]; exact h14, fun c i j h => u3_n (by omega)⟩
      rw [u3_s, i2]
      by_cases z : p - p0 ≤ 2
      · rw [if_pos (by rw [nle (by omega) (by omega)]; exact z), if_pos z]; rfl
      · rw [if_neg (by rw [nle (by omega) (by omega)]; exact z), if_neg z]; rfl
    by_cases h : len ≤ p
    · rw [if_pos h, if_pos h, if_neg (by decide)]
      exact stop
    · obtain ⟨q1, q2⟩ := ht.2.2 p (by omega)
      rw [if_neg h, if_neg h]
      by_cases hb : isD (b p) = true
      · have hd' : ∀ k, p0 ≤ k → k < p + 1 → isD (b k) = true := fun k a c => by
          by_cases e : k = p
          · rw [e]; exact hb
          · exact hd k a (by omega)
        have d48 : ∀ k, isD (b k) = true → 48 ≤ b k ∧ b k ≤ 57 := fun k z => by
          unfold isD at z
          rw [Bool.and_eq_true, decide_eq_true_eq, decide_eq_true_eq] at z
          exact z
        have hbp := d48 p hb
        have e1 : p - p0 + 1 = p + 1 - p0 := by omega
        rw [if_pos ((isD_iff q2).mpr hb), if_pos hb]
        by_cases z : 2 ≤ p - p0
        · rw [if_pos (show (2 : Int32) ≤ nI (p - p0) by rw [i2, nle (by omega) (by omega)]; exact z), lt_e, u3_n (by omega), h10, i1, nadd, nadd, e1]
          have ev : vaN b p0 (p + 1) = vaN b p0 p := by
            unfold vaN
            rw [if_neg (by omega), if_neg (by omega), if_neg (by omega), if_neg (by omega)]
          obtain ⟨m', a1, a2, a3, a4, a5⟩ := ih F (p + 1) (u3 (u3 m 10 0 14 (m 10 0 14)) 10 0 10 (nI (p + 1))) (tapM_of ht fun c i j h => by rw [u3_n (by omega), u3_n (by omega)]) (by omega) (by omega) hd' (by omega) (by omega) u3_s (by rw [u3_n (by omega), u3_s, ev]; exact h14)
          exact ⟨m', a1, a2, a3, a4, fun c i j h => by rw [a5 c i j h, u3_n (by omega), u3_n (by omega)]⟩
        · have e10 : (10 : Int32) = nI 10 := rfl
          have e48 : (48 : Int32) = nI 48 := rfl
          have ev : 10 * vaN b p0 p + b p - 48 = vaN b p0 (p + 1) := by
            unfold vaN
            by_cases y : p = p0
            · subst y
              rw [if_pos (by omega), if_neg (by omega), if_pos (by omega)]
              omega
            · have : p = p0 + 1 := by omega
              subst this
              have := d48 p0 (hd p0 (by omega) (by omega))
              rw [if_neg (by omega), if_pos (by omega), if_neg (by omega), if_neg (by omega)]
              omega
          rw [if_neg (show ¬ (2 : Int32) ≤ nI (p - p0) by rw [i2, nle (by omega) (by omega)]; exact z), Option.bind_some, lt_e, h14, e10, nmul, nadd, e48, nsub (by omega), ev, u3_n (by omega), h10, i1, nadd, nadd, e1]
          obtain ⟨m', a1, a2, a3, a4, a5⟩ := ih F (p + 1) (u3 (u3 m 10 0 14 (nI (vaN b p0 (p + 1)))) 10 0 10 (nI (p + 1))) (tapM_of ht fun c i j h => by rw [u3_n (by omega), u3_n (by omega)]) (by omega) (by omega) hd' (by omega) (by omega) u3_s (by rw [u3_n (by omega), u3_s])
          exact ⟨m', a1, a2, a3, a4, fun c i j h => by rw [a5 c i j h, u3_n (by omega), u3_n (by omega)]⟩
      · rw [if_neg (fun q => hb ((isD_iff q2).mp q)), if_neg hb]
        exact stop
/-- the model's sort of a kind -/
def srtN (k : Nat) : Nat := if k = 3 then 0 else if k = 0 then 2 else if k = 1 then 3 else if k = 2 then 4 else 1
def tokM (m : MI) (wd : Int64) (b : Nat → Nat) (len pos : Nat) : Prop := m 10 0 10 = nI (tkE b len pos) ∧ m 10 0 12 = nI (tkP b len pos) ∧ m 10 0 13 = nI (srtN (tkK b len pos)) ∧ (tkK b len pos = 1 → m 10 0 14 = nI (tkV b len pos)) ∧ (tkK b len pos = 0 → (tkE b len pos - tkP b len pos ≤ 8 → wd = lN (pkN b (tkP b len pos) (tkE b len pos - tkP b len pos))) ∧ (8 < tkE b len pos - tkP b len pos → wd = 0))
theorem m_token {m0 : MI} {w : WS} {b : Nat → Nat} {len pos : Nat} (ht0 : tapM m0 b len) (hp : pos ≤ len) (h10 : m0 10 0 10 = nI pos) : ∃ m' wd, F_X11_token m0 w = some (m', (w.1, w.2.1, w.2.2.1, wd)) ∧ tokM m' wd b len pos ∧ ∀ c i j, ¬ (c = 10 ∧ i = 0 ∧ (j = 10 ∨ j = 12 ∨ j = 13 ∨ j = 14)) → m' c i j = m0 c i j := by
  have loop : ∀ f F p m, tapM m b len → p ≤ len → len < p + f → f < F → m 10 0 10 = nI p → ruF isB b len f p = tkP b len pos → (∀ c i j, ¬ (c = 10 ∧ i = 0 ∧ (j = 10 ∨ j = 12 ∨ j = 13 ∨ j = 14)) → m c i j = m0 c i j) → ∃ m' wd, L_X11_token_0 F m w = some (m', (w.1, w.2.1, w.2.2.1, wd)) ∧ tokM m' wd b len pos ∧ ∀ c i j, ¬ (c = 10 ∧ i = 0 ∧ (j = 10 ∨ j = 12 ∨ j = 13 ∨ j = 14)) → m' c i j = m0 c i j := by
    intro f
    induction f with
    | zero => intro F p m _ h1 h2; omega
    | succ f ih =>
      intro F p m ht hp' hlen hF h10 hru hfr
      obtain ⟨F, rfl⟩ : ∃ G, F = G + 1 := ⟨F - 1, by omega⟩
      have h600 := ht.1
      have e10 : (10 : Int32) = nI 10 := rfl
      have e32 : (32 : Int32) = nI 32 := rfl
      rw [ruF] at hru
      have g10 : (u3 m 10 0 12 (m 10 0 10)) 10 0 10 = nI p := by rw [u3_n (by omega)]; exact h10
      have g12 : (u3 m 10 0 12 (m 10 0 10)) 10 0 12 = nI p := by rw [u3_s]; exact h10
      have gt : tapM (u3 m 10 0 12 (m 10 0 10)) b len := tapM_of ht fun c i j h => u3_n (by omega)
      have gf : ∀ c i j, ¬ (c = 10 ∧ i = 0 ∧ j = 12) → (u3 m 10 0 12 (m 10 0 10)) c i j = m c i j := fun c i j h => u3_n (by omega)
      rw [L_X11_token_0, m_see ht hp' h10, Option.bind_some, Option.bind_some, m_see gt hp' g10, Option.bind_some]
      generalize u3 m 10 0 12 (m 10 0 10) = m1 at *
      by_cases h : len ≤ p
      · rw [if_pos h] at hru
        have hP : tkP b len pos = p := hru.symm
        have ek : tkK b len pos = 3 := if_pos (by rw [hP]; exact h)
        have ee : tkE b len pos = p := by unfold tkE; rw [hP, if_pos h]
        rw [if_pos h, if_neg (by decide), if_neg (by decide), if_neg (by decide)]
        refine ⟨_, 0, rfl, ⟨by rw [u3_n (by omega), ee]; exact g10, by rw [u3_n (by omega), hP]; exact g12, by rw [u3_s, ek]; rfl, fun q => by rw [ek] at q; omega, fun q => by rw [ek] at q; omega⟩, fun c i j z => by rw [u3_n (by omega), gf _ _ _ (by omega)]; exact hfr c i j z⟩
      · obtain ⟨q1, q2⟩ := ht.2.2 p (by omega)
        rw [if_neg h] at hru
        rw [if_neg h]
        by_cases hb : isB (b p) = true
        · rw [if_pos hb] at hru
          have nxt := ih F (p + 1) (u3 m 10 0 10 ((m 10 0 10) + 1)) (tapM_of ht fun c i j h => u3_n (by omega)) (by omega) (by omega) (by omega) (by rw [u3_s, h10, i1, nadd]) hru (fun c i j z => by rw [u3_n (by omega)]; exact hfr c i j z)
          rcases (isB_iff q2).mpr hb with z | z
          · rw [if_pos z, lt_e]
            exact nxt
          · have nz : ¬ nI (b p) = 10 := fun y => by rw [z] at y; exact absurd y (by decide)
            rw [if_neg nz, if_pos z, lt_e]
            exact nxt
        · rw [if_neg hb] at hru
          have hP : tkP b len pos = p := hru.symm
          have hP' : ¬ len ≤ tkP b len pos := by rw [hP]; exact h
          have nb := fun z => hb ((isB_iff q2).mp z)
          rw [if_neg (fun z => nb (Or.inl z)), if_neg (fun z => nb (Or.inr z)), if_pos (show (0 : Int32) ≤ nI (b p) by rw [i0, nle (by omega) (by omega)]; omega)]
          have fin : ∀ (m' : MI) (c i j : Nat), (∀ c i j, ¬ (c = 10 ∧ i = 0 ∧ (j = 10 ∨ j = 12 ∨ j = 13 ∨ j = 14)) → m' c i j = m1 c i j) → ¬ (c = 10 ∧ i = 0 ∧ (j = 10 ∨ j = 12 ∨ j = 13 ∨ j = 14)) → m' c i j = m0 c i j := fun m' c i j y z => by rw [y c i j z, gf _ _ _ (by omega)]; exact hfr c i j z
          by_cases hl : isL (b p) = true
          · have ek : tkK b len pos = 0 := by unfold tkK; rw [if_neg hP', hP, if_pos hl]
            have ee : tkE b len pos = ruF isL b len 601 p := by unfold tkE; rw [if_neg hP', hP, if_pos hl]
            rw [if_pos ((isL_iff q2).mpr hl)]
            obtain ⟨m', wd', a1, a2, a3, a4, a5, a6⟩ := m_word (b := b) (len := len) (p0 := p) (x1 := nI (b p)) (w1 := w.1) (w2 := w.2.1) (w3 := w.2.2.1) 601 1000000 p m1 0 gt hp' (Nat.le_refl _) (by omega) (by omega) g10 (fun _ => by rw [Nat.sub_self]; rfl)
            rw [Nat.sub_self] at a1
            refine ⟨m', wd', a1, ⟨by rw [a2, ee], by rw [a6 _ _ _ (by omega), hP]; exact g12, by rw [a3, ek]; rfl, fun q => by rw [ek] at q; omega, fun _ => by rw [ee, hP]; exact ⟨a4, a5⟩⟩, fun c i j z => fin m' c i j (fun c i j y => a6 c i j (by omega)) z⟩
          · rw [if_neg (fun q => hl ((isL_iff q2).mp q))]
            by_cases hd : isD (b p) = true
            · have ee : tkE b len pos = ruF isD b len 601 p := by unfold tkE; rw [if_neg hP', hP, if_neg hl, if_pos hd]
              have ek : tkK b len pos = if ruF isD b len 601 p - p ≤ 2 then 1 else 4 := by unfold tkK; rw [ee, if_neg hP', hP, if_neg hl, if_pos hd]
              rw [if_pos ((isD_iff q2).mpr hd)]
              obtain ⟨m', a1, a2, a3, a4, a5⟩ := m_number (w := (w.1, w.2.1, w.2.2.1, 0)) (b := b) (len := len) (p0 := p) (x1 := nI (b p)) 601 1000000 p (u3 m1 10 0 14 0) (tapM_of gt fun c i j h => u3_n (by omega)) hp' (Nat.le_refl _) (fun k a c => by omega) (by omega) (by omega) (by rw [u3_n (by omega)]; exact g10) (by rw [u3_s]; unfold vaN; rw [if_pos (Nat.le_refl _)]; rfl)
              rw [Nat.sub_self] at a1
              refine ⟨m', 0, a1, ⟨by rw [a2, ee], by rw [a5 _ _ _ (by omega), u3_n (by omega), hP]; exact g12, ?_, fun _ => by rw [a4]; unfold tkV; rw [ee, hP], fun q => by rw [ek] at q; split at q <;> omega⟩, fun c i j z => fin m' c i j (fun c i j y => by rw [a5 c i j (by omega), u3_n (by omega)]) z⟩
              rw [a3, ek]
              by_cases y : ruF isD b len 601 p - p ≤ 2
              · rw [if_pos y, if_pos y]; rfl
              · rw [if_neg y, if_neg y]; rfl
            · have ee : tkE b len pos = p + 1 := by unfold tkE; rw [if_neg hP', hP, if_neg hl, if_neg hd]
              have ek : tkK b len pos = if b p = 59 then 2 else 4 := by unfold tkK; rw [if_neg hP', hP, if_neg hl, if_neg hd]
              rw [if_neg (fun q => hd ((isD_iff q2).mp q)), lt_e]
              refine ⟨_, 0, rfl, ⟨?_, ?_, ?_, fun q => by rw [ek] at q; split at q <;> omega, fun q => by rw [ek] at q; split at q <;> omega⟩, fun c i j z => fin _ c i j (fun c i j y => by rw [u3_n (by omega), u3_n (by omega)]) z⟩
              · rw [u3_n (by omega), u3_s, g10, ee, i1, nadd]
              · rw [u3_n (by omega), u3_n (by omega), hP]; exact g12
              · rw [u3_s, ek]
                by_cases y : b p = 59
                · rw [if_pos (show nI (b p) = 59 by rw [y]; rfl), if_pos y]; rfl
                · rw [if_neg (show ¬ nI (b p) = 59 from nne (b := 59) (by omega) (by omega) y), if_neg y]; rfl
  have e : F_X11_token m0 w = L_X11_token_0 (1000000 + 1) m0 w := by
    unfold F_X11_token
    exact (L_X11_token_0.eq_2 m0 w 1000000).symm
  rw [e]
  exact loop 601 (1000000 + 1) pos m0 ht0 hp (by have := ht0.1; omega) (by omega) h10 rfl (fun _ _ _ _ => rfl)
