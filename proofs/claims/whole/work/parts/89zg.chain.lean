/-! TEXT: a line of fixed length in the model, as a chain of numbers -/
def tk1 (j lo hi : Int32) (k : MI → WS → Option (Int32 × MI × WS)) (m : MI) (w : WS) : Option (Int32 × MI × WS) := (F_X11_take m w j lo hi).bind fun c => if c.1 = 0 then some ((0 : Int32), c.2.1, c.2.2) else k c.2.1 c.2.2
def chn : List (Nat × Nat) → Nat → (MI → WS → Option (Int32 × MI × WS)) → MI → WS → Option (Int32 × MI × WS)
  | [], _, k => k
  | e :: l, j, k => tk1 (nI j) (nI e.1) (nI e.2) (chn l (j + 1) k)
def rgN (b : Nat → Nat) (len pos i q : Nat) : Prop := loT (coT i q) ≤ tkV b len (poN b len pos q) ∧ tkV b len (poN b len pos q) ≤ hiT (coT i q)
theorem chn_ok {b : Nat → Nat} {len pos i K : Nat} {f : Nat × Nat} {k : MI → WS → Option (Int32 × MI × WS)} (hp : pos ≤ len) (hall : ∀ j, j < K → tkK b len (poN b len pos j) = 1) : ∀ (l : List (Nat × Nat)) (k0 j : Nat) (m : MI) (w : WS), (∀ q, q < l.length → (l.getD q (0, 0)).1 = loT (coT i (k0 + q)) ∧ (l.getD q (0, 0)).2 = hiT (coT i (k0 + q)) ∧ (l.getD q (0, 0)).1 < 100 ∧ (l.getD q (0, 0)).2 < 100) → k0 + l.length ≤ 5 → j + l.length ≤ 5 → k0 ≤ K → K ≤ k0 + l.length → (K < k0 + l.length → tkK b len (poN b len pos K) ≠ 1) → mS b len pos i f k0 m w →
    (K = k0 + l.length ∧ ∃ m' wd, chn l j k m w = k m' (w.1, w.2.1, w.2.2.1, wd) ∧ mS b len pos i f K m' (w.1, w.2.1, w.2.2.1, wd) ∧ (∀ q, q < l.length → m' 60 0 (j + q) = nI (tkV b len (poN b len pos (k0 + q)))) ∧ ((∀ q, q < l.length → rgN b len pos i (k0 + q)) → m' 10 0 22 = m 10 0 22) ∧ (m' 10 0 22 = 0 ∨ ∀ q, q < l.length → rgN b len pos i (k0 + q)) ∧ ∀ c i' k', ¬ (c = 10 ∧ i' = 0 ∧ (k' = 10 ∨ k' = 12 ∨ k' = 13 ∨ k' = 14 ∨ k' = 17 ∨ k' = 18 ∨ k' = 22)) → ¬ (c = 60 ∧ i' = 0 ∧ j ≤ k' ∧ k' < j + l.length) → m' c i' k' = m c i' k') ∨
    (K < k0 + l.length ∧ ∃ m' wd, chn l j k m w = some (0, m', (w.1, w.2.1, w.2.2.1, wd)) ∧ m' 10 0 16 = nI (tkP b len (poN b len pos K)) ∧ ∀ c i' k', ¬ (c = 10 ∧ i' = 0) → ¬ (c = 60 ∧ i' = 0) → m' c i' k' = m c i' k') := by
  intro l
  induction l with
  | nil =>
    intro k0 j m w hl h1 h2 h3 h4 h5 hS
    have e0 : ([] : List (Nat × Nat)).length = 0 := rfl
    rw [e0] at h4
    have e : K = k0 := by omega
    subst e
    exact Or.inl ⟨rfl, m, w.2.2.2, rfl, hS, fun q h => absurd h (Nat.not_lt_zero q), fun _ => rfl, Or.inr fun q h => absurd h (Nat.not_lt_zero q), fun _ _ _ _ _ => rfl⟩
  | cons e l ih =>
    intro k0 j m w hl h1 h2 h3 h4 h5 hS
    have el : (e :: l).length = l.length + 1 := rfl
    rw [el] at h1 h2 h4 h5
    have l0 := hl 0 (by rw [el]; omega)
    have g0 : (e :: l).getD 0 (0, 0) = e := rfl
    rw [g0, Nat.add_zero] at l0
    rcases m_num1 (K := k0) (j := j) (lo := e.1) (hi := e.2) (w := w) hp hS (by omega) (by omega) l0.1.symm l0.2.1.symm l0.2.2.1 l0.2.2.2 with ⟨kd, m1, wd, r1, r2, r3, r4, r5⟩ | ⟨kd, r1⟩
    · have hK : k0 < K := by
        refine Classical.byContradiction fun z => ?_
        have ez : K = k0 := by omega
        exact h5 (by omega) (ez ▸ kd)
      have eq : chn (e :: l) j k m w = chn l (j + 1) k m1 (w.1, w.2.1, w.2.2.1, wd) := by
        show (F_X11_take m w (nI j) (nI e.1) (nI e.2)).bind _ = _
        rw [r1, Option.bind_some]
        exact if_neg (show ¬ (1 : Int32) = 0 by decide)
      have hl' : ∀ q, q < l.length → (l.getD q (0, 0)).1 = loT (coT i (k0 + 1 + q)) ∧ (l.getD q (0, 0)).2 = hiT (coT i (k0 + 1 + q)) ∧ (l.getD q (0, 0)).1 < 100 ∧ (l.getD q (0, 0)).2 < 100 := by
        intro q hq
        have := hl (q + 1) (by rw [el]; omega)
        have g1 : (e :: l).getD (q + 1) (0, 0) = l.getD q (0, 0) := rfl
        rw [g1, show k0 + (q + 1) = k0 + 1 + q by omega] at this
        exact this
      rw [eq]
      rcases ih (k0 + 1) (j + 1) m1 (w.1, w.2.1, w.2.2.1, wd) hl' (by omega) (by omega) (by omega) (by omega) (fun z => h5 (by omega)) r2 with ⟨q1, m', wd', q2, q3, q4, q5, q6, q7⟩ | ⟨q1, m', wd', q2, q3, q4⟩
      · refine Or.inl ⟨by rw [el]; omega, m', wd', q2, q3, fun q hq => ?_, fun hr => ?_, ?_, fun c i' k' z1 z2 => ?_⟩
        · rw [el] at hq
          by_cases hq0 : q = 0
          · rw [hq0, Nat.add_zero, Nat.add_zero, q7 _ _ _ (by omega) (by omega)]; exact r3
          · have := q4 (q - 1) (by omega)
            rw [show j + 1 + (q - 1) = j + q by omega, show k0 + 1 + (q - 1) = k0 + q by omega] at this
            exact this
        · have h0 := hr 0 (by rw [el]; omega)
          rw [Nat.add_zero] at h0
          rw [q5 fun q hq => by have := hr (q + 1) (by rw [el]; omega); rw [show k0 + (q + 1) = k0 + 1 + q by omega] at this; exact this, r4, l0.1, l0.2.1]
          exact if_pos h0
        · by_cases h0 : rgN b len pos i k0
          · rcases q6 with q6 | q6
            · exact Or.inl q6
            · refine Or.inr fun q hq => ?_
              rw [el] at hq
              by_cases hq0 : q = 0
              · rw [hq0, Nat.add_zero]; exact h0
              · have := q6 (q - 1) (by omega)
                rw [show k0 + 1 + (q - 1) = k0 + q by omega] at this
                exact this
          · refine Or.inl ?_
            rcases q6 with q6 | q6
            · exact q6
            · rw [q5 q6, r4, l0.1, l0.2.1]
              exact if_neg h0
        · rw [el] at z2
          rw [q7 _ _ _ z1 (by omega), r5 _ _ _ z1 (by omega)]
      · refine Or.inr ⟨by rw [el]; omega, m', wd', q2, q3, fun c i' k' z1 z2 => ?_⟩
        rw [q4 _ _ _ z1 z2, r5 _ _ _ (by omega) (by omega)]
    · have hK : K = k0 := by
        refine Classical.byContradiction fun z => ?_
        exact kd (hall k0 (by omega))
      subst hK
      refine Or.inr ⟨by rw [el]; omega, u3 m 10 0 16 (nI (tkP b len (poN b len pos K))), w.2.2.2, ?_, u3_s, fun c i' k' z1 z2 => u3_n (by omega)⟩
      show (F_X11_take m w (nI j) (nI e.1) (nI e.2)).bind _ = _
      rw [r1, Option.bind_some]
      exact if_pos rfl
theorem nt_ne {f : Nat × Nat} {c p : Nat} (hc : c ≠ 0) : (ntF f c p).1 ≠ 0 := by
  unfold ntF
  by_cases e : f.1 = 0
  · rw [if_pos e]; exact hc
  · rw [if_neg e]; exact e
theorem nt_on {f : Nat × Nat} {c p : Nat} (h : f.1 ≠ 0) : ntF f c p = f := if_neg h
theorem fa_ok {b : Nat → Nat} {len pos i : Nat} {f : Nat × Nat} : ∀ K, (faF b len pos i f K).1 = 0 → f.1 = 0 ∧ ∀ q, q < K → q < 5 ∧ rgN b len pos i q := by
  intro K
  induction K with
  | zero => intro h; exact ⟨h, fun q hq => absurd hq (Nat.not_lt_zero q)⟩
  | succ K ih =>
    intro h
    have e : faF b len pos i f (K + 1) = ctF (faF b len pos i f K) i K (tkV b len (poN b len pos K)) (tkP b len (poN b len pos K)) := rfl
    rw [e] at h
    unfold ctF at h
    by_cases c1 : loT (coT i K) ≤ tkV b len (poN b len pos K) ∧ tkV b len (poN b len pos K) ≤ hiT (coT i K)
    · rw [if_pos c1] at h
      by_cases c2 : K < 5
      · rw [if_pos c2] at h
        obtain ⟨a1, a2⟩ := ih h
        refine ⟨a1, fun q hq => ?_⟩
        by_cases eq : q = K
        · rw [eq]; exact ⟨c2, c1⟩
        · exact a2 q (by omega)
      · rw [if_neg c2] at h
        exact absurd h (nt_ne (by decide))
    · rw [if_neg c1] at h
      exact absurd h (nt_ne (by decide))
theorem fa_on {b : Nat → Nat} {len pos i : Nat} {f : Nat × Nat} (h : f.1 ≠ 0) : ∀ K, (faF b len pos i f K).1 ≠ 0 := fun K z => h (fa_ok K z).1
theorem mS_of {b : Nat → Nat} {len pos i K : Nat} {f : Nat × Nat} {m m' : MI} {w : WS} (h : mS b len pos i f K m w) (e : ∀ c i j, c = 50 ∨ (c = 10 ∧ j < 19 ∧ j ≠ 16) → m' c i j = m c i j) : mS b len pos i f K m' w :=
  ⟨tapM_of h.1 fun c i j q => e c i j (by omega), tokM_of h.2.1 fun j q => e _ _ _ (by omega), ntM_of h.2.2.1 fun j q => e _ _ _ (by omega), h.2.2.2⟩
/-- a row of four kept -/
theorem k_row {m : MI} {w : WS} {n mo : Nat} (hmo : mo ≤ 40) (hn : n ≤ mo) (h0 : m 59 0 0 = nI n) : ∃ m', F_X11_keepRow m w (nI mo) = some m' ∧ m' 59 0 0 = nI (min mo (n + 1)) ∧ (n < mo → ∀ p, p < 4 → m' 59 0 (1 + 4 * n + p) = m 60 0 p) ∧ ∀ c i j, ¬ (c = 59 ∧ i = 0 ∧ j = 0) → ¬ (c = 59 ∧ i = 0 ∧ n < mo ∧ 1 + 4 * n ≤ j ∧ j < 1 + 4 * n + 4) → m' c i j = m c i j := by
  unfold F_X11_keepRow
  rw [h0]
  have fin : ∀ m1 : MI, lt (u3 m1 59 0 0 (f_X11_lesser m1 (nI mo) (nI n + 1))) (fun m65 => some m65) = some (u3 m1 59 0 0 (nI (min mo (n + 1)))) := fun m1 => by
    rw [lt_e, show nI n + 1 = nI (n + 1) from nadd n 1, m_les (by omega) (by omega)]
  by_cases hf : n < mo
  · have key : ∀ g F k m1, k + g = 4 → g < F → (∀ p, p < k → m1 59 0 (1 + 4 * n + p) = m 60 0 p) → (∀ c i j, ¬ (c = 59 ∧ i = 0 ∧ 1 + 4 * n ≤ j ∧ j < 1 + 4 * n + 4) → m1 c i j = m c i j) → ∃ m', L_X11_keepRow_9 w F m1 (nI mo) (nI n) (nI k) = some m' ∧ m' 59 0 0 = nI (min mo (n + 1)) ∧ (n < mo → ∀ p, p < 4 → m' 59 0 (1 + 4 * n + p) = m 60 0 p) ∧ ∀ c i j, ¬ (c = 59 ∧ i = 0 ∧ j = 0) → ¬ (c = 59 ∧ i = 0 ∧ n < mo ∧ 1 + 4 * n ≤ j ∧ j < 1 + 4 * n + 4) → m' c i j = m c i j := by
      intro g
      induction g with
      | zero =>
        intro F k m1 hk hF a1 a2
        obtain ⟨F, rfl⟩ : ∃ G, F = G + 1 := ⟨F - 1, by omega⟩
        rw [L_X11_keepRow_9, if_pos (show (4 : Int32) ≤ nI k by rw [show (4 : Int32) = nI 4 from rfl, nle (by omega) (by omega)]; omega), fin]
        refine ⟨_, rfl, u3_s, fun _ p hp => ?_, fun c i j z1 z2 => ?_⟩
        · rw [u3_n (by omega)]; exact a1 p (by omega)
        · rw [u3_n (by omega)]; exact a2 c i j (by omega)
      | succ g ih =>
        intro F k m1 hk hF a1 a2
        obtain ⟨F, rfl⟩ : ∃ G, F = G + 1 := ⟨F - 1, by omega⟩
        have ei : ((1 : Int32) + (4 : Int32) * nI n) + nI k = nI (1 + 4 * n + k) := by
          rw [show (4 : Int32) = nI 4 from rfl, nmul, show (1 : Int32) = nI 1 from rfl, nadd, nadd]
        rw [L_X11_keepRow_9, if_neg (show ¬ (4 : Int32) ≤ nI k by rw [show (4 : Int32) = nI 4 from rfl, nle (by omega) (by omega)]; omega), if_neg (show ¬ nI mo ≤ nI n by rw [nle (by omega) (by omega)]; omega), ck_in (by omega) (by omega), ei, ck_in (by omega) (by omega), ncl (by omega), ncl (by omega), lt_e, show nI k + 1 = nI (k + 1) from nadd k 1]
        refine ih F (k + 1) _ (by omega) (by omega) (fun p hp => ?_) (fun c i j z => ?_)
        · by_cases e : p = k
          · rw [e, u3_s]; exact a2 _ _ _ (by omega)
          · rw [u3_n (by omega)]; exact a1 p (by omega)
        · rw [u3_n (by omega)]; exact a2 c i j z
    exact key 4 1000000 0 m (by omega) (by omega) (fun p hp => by omega) (fun _ _ _ _ => rfl)
  · rw [show (1000000 : Nat) = 999999 + 1 from rfl, L_X11_keepRow_9, if_neg (show ¬ (4 : Int32) ≤ 0 by decide), if_pos (show nI mo ≤ nI n by rw [nle (by omega) (by omega)]; omega), fin]
    exact ⟨_, rfl, u3_s, fun z => absurd z hf, fun c i j z1 _ => u3_n (by omega)⟩
