/-! TEXT: what was read is taken, on both sides -/
theorem m_st55 {m : MI} {w : WS} {k : Nat} (hk : k < 2) : ∃ m', F_X11_store_a55 m w 40 (nI k) = some m' ∧ (∀ p, p < 40 → m' 55 0 (40 * k + p) = m 59 0 p) ∧ ∀ c i j, ¬ (c = 55 ∧ i = 0 ∧ 40 * k ≤ j ∧ j < 40 * k + 40) → m' c i j = m c i j := by
  have key : ∀ g F p m1, p + g = 40 → g < F → (∀ q, q < p → m1 55 0 (40 * k + q) = m 59 0 q) → (∀ c i j, ¬ (c = 55 ∧ i = 0 ∧ 40 * k ≤ j ∧ j < 40 * k + 40) → m1 c i j = m c i j) → ∃ m', L_X11_store_a55_3 w F m1 40 (nI k) (nI p) = some m' ∧ (∀ p, p < 40 → m' 55 0 (40 * k + p) = m 59 0 p) ∧ ∀ c i j, ¬ (c = 55 ∧ i = 0 ∧ 40 * k ≤ j ∧ j < 40 * k + 40) → m' c i j = m c i j := by
    intro g
    induction g with
    | zero =>
      intro F p m1 hp hF h1 h2
      obtain ⟨F, rfl⟩ : ∃ G, F = G + 1 := ⟨F - 1, by omega⟩
      rw [L_X11_store_a55_3, if_pos (show (40 : Int32) ≤ nI p by rw [show (40 : Int32) = nI 40 from rfl, nle (by omega) (by omega)]; omega)]
      exact ⟨m1, rfl, fun q hq => h1 q (by omega), h2⟩
    | succ g ih =>
      intro F p m1 hp hF h1 h2
      obtain ⟨F, rfl⟩ : ∃ G, F = G + 1 := ⟨F - 1, by omega⟩
      have ei : (40 : Int32) * nI k + nI p = nI (40 * k + p) := by rw [show (40 : Int32) = nI 40 from rfl, nmul, nadd]
      rw [L_X11_store_a55_3, if_neg (show ¬ (40 : Int32) ≤ nI p by rw [show (40 : Int32) = nI 40 from rfl, nle (by omega) (by omega)]; omega), ck_in (by omega) (by omega), ei, ck_in (by omega) (by omega), ncl (by omega), ncl (by omega), lt_e, show nI p + 1 = nI (p + 1) from nadd p 1]
      refine ih F (p + 1) _ (by omega) (by omega) (fun q hq => ?_) (fun c i j z => ?_)
      · by_cases e : q = p
        · rw [e, u3_s]; exact h2 _ _ _ (by omega)
        · rw [u3_n (by omega)]; exact h1 q (by omega)
      · rw [u3_n (by omega)]; exact h2 c i j z
  unfold F_X11_store_a55
  exact key 40 1000000 0 m (by omega) (by omega) (fun q hq => by omega) (fun _ _ _ _ => rfl)
theorem m_st56 {m : MI} {w : WS} {k : Nat} (hk : k < 2) : ∃ m', F_X11_store_a56 m w 161 (nI k) = some m' ∧ (∀ p, p < 161 → m' 56 0 (161 * k + p) = m 59 0 p) ∧ ∀ c i j, ¬ (c = 56 ∧ i = 0 ∧ 161 * k ≤ j ∧ j < 161 * k + 161) → m' c i j = m c i j := by
  have key : ∀ g F p m1, p + g = 161 → g < F → (∀ q, q < p → m1 56 0 (161 * k + q) = m 59 0 q) → (∀ c i j, ¬ (c = 56 ∧ i = 0 ∧ 161 * k ≤ j ∧ j < 161 * k + 161) → m1 c i j = m c i j) → ∃ m', L_X11_store_a56_3 w F m1 161 (nI k) (nI p) = some m' ∧ (∀ p, p < 161 → m' 56 0 (161 * k + p) = m 59 0 p) ∧ ∀ c i j, ¬ (c = 56 ∧ i = 0 ∧ 161 * k ≤ j ∧ j < 161 * k + 161) → m' c i j = m c i j := by
    intro g
    induction g with
    | zero =>
      intro F p m1 hp hF h1 h2
      obtain ⟨F, rfl⟩ : ∃ G, F = G + 1 := ⟨F - 1, by omega⟩
      rw [L_X11_store_a56_3, if_pos (show (161 : Int32) ≤ nI p by rw [show (161 : Int32) = nI 161 from rfl, nle (by omega) (by omega)]; omega)]
      exact ⟨m1, rfl, fun q hq => h1 q (by omega), h2⟩
    | succ g ih =>
      intro F p m1 hp hF h1 h2
      obtain ⟨F, rfl⟩ : ∃ G, F = G + 1 := ⟨F - 1, by omega⟩
      have ei : (161 : Int32) * nI k + nI p = nI (161 * k + p) := by rw [show (161 : Int32) = nI 161 from rfl, nmul, nadd]
      rw [L_X11_store_a56_3, if_neg (show ¬ (161 : Int32) ≤ nI p by rw [show (161 : Int32) = nI 161 from rfl, nle (by omega) (by omega)]; omega), ck_in (by omega) (by omega), ei, ck_in (by omega) (by omega), ncl (by omega), ncl (by omega), lt_e, show nI p + 1 = nI (p + 1) from nadd p 1]
      refine ih F (p + 1) _ (by omega) (by omega) (fun q hq => ?_) (fun c i j z => ?_)
      · by_cases e : q = p
        · rw [e, u3_s]; exact h2 _ _ _ (by omega)
        · rw [u3_n (by omega)]; exact h1 q (by omega)
      · rw [u3_n (by omega)]; exact h2 c i j z
  unfold F_X11_store_a56
  exact key 161 1000000 0 m (by omega) (by omega) (fun q hq => by omega) (fun _ _ _ _ => rfl)
theorem m_st57 {m : MI} {w : WS} {k : Nat} (hk : k < 2) : ∃ m', F_X11_store_a57 m w 26 (nI k) = some m' ∧ (∀ p, p < 26 → m' 57 0 (26 * k + p) = m 59 0 p) ∧ ∀ c i j, ¬ (c = 57 ∧ i = 0 ∧ 26 * k ≤ j ∧ j < 26 * k + 26) → m' c i j = m c i j := by
  have key : ∀ g F p m1, p + g = 26 → g < F → (∀ q, q < p → m1 57 0 (26 * k + q) = m 59 0 q) → (∀ c i j, ¬ (c = 57 ∧ i = 0 ∧ 26 * k ≤ j ∧ j < 26 * k + 26) → m1 c i j = m c i j) → ∃ m', L_X11_store_a57_3 w F m1 26 (nI k) (nI p) = some m' ∧ (∀ p, p < 26 → m' 57 0 (26 * k + p) = m 59 0 p) ∧ ∀ c i j, ¬ (c = 57 ∧ i = 0 ∧ 26 * k ≤ j ∧ j < 26 * k + 26) → m' c i j = m c i j := by
    intro g
    induction g with
    | zero =>
      intro F p m1 hp hF h1 h2
      obtain ⟨F, rfl⟩ : ∃ G, F = G + 1 := ⟨F - 1, by omega⟩
      rw [L_X11_store_a57_3, if_pos (show (26 : Int32) ≤ nI p by rw [show (26 : Int32) = nI 26 from rfl, nle (by omega) (by omega)]; omega)]
      exact ⟨m1, rfl, fun q hq => h1 q (by omega), h2⟩
    | succ g ih =>
      intro F p m1 hp hF h1 h2
      obtain ⟨F, rfl⟩ : ∃ G, F = G + 1 := ⟨F - 1, by omega⟩
      have ei : (26 : Int32) * nI k + nI p = nI (26 * k + p) := by rw [show (26 : Int32) = nI 26 from rfl, nmul, nadd]
      rw [L_X11_store_a57_3, if_neg (show ¬ (26 : Int32) ≤ nI p by rw [show (26 : Int32) = nI 26 from rfl, nle (by omega) (by omega)]; omega), ck_in (by omega) (by omega), ei, ck_in (by omega) (by omega), ncl (by omega), ncl (by omega), lt_e, show nI p + 1 = nI (p + 1) from nadd p 1]
      refine ih F (p + 1) _ (by omega) (by omega) (fun q hq => ?_) (fun c i j z => ?_)
      · by_cases e : q = p
        · rw [e, u3_s]; exact h2 _ _ _ (by omega)
        · rw [u3_n (by omega)]; exact h1 q (by omega)
      · rw [u3_n (by omega)]; exact h2 c i j z
  unfold F_X11_store_a57
  exact key 26 1000000 0 m (by omega) (by omega) (fun q hq => by omega) (fun _ _ _ _ => rfl)
theorem m_st58 {m : MI} {w : WS} {k : Nat} (hk : k < 2) : ∃ m', F_X11_store_a58 m w 33 (nI k) = some m' ∧ (∀ p, p < 33 → m' 58 0 (33 * k + p) = m 59 0 p) ∧ ∀ c i j, ¬ (c = 58 ∧ i = 0 ∧ 33 * k ≤ j ∧ j < 33 * k + 33) → m' c i j = m c i j := by
  have key : ∀ g F p m1, p + g = 33 → g < F → (∀ q, q < p → m1 58 0 (33 * k + q) = m 59 0 q) → (∀ c i j, ¬ (c = 58 ∧ i = 0 ∧ 33 * k ≤ j ∧ j < 33 * k + 33) → m1 c i j = m c i j) → ∃ m', L_X11_store_a58_3 w F m1 33 (nI k) (nI p) = some m' ∧ (∀ p, p < 33 → m' 58 0 (33 * k + p) = m 59 0 p) ∧ ∀ c i j, ¬ (c = 58 ∧ i = 0 ∧ 33 * k ≤ j ∧ j < 33 * k + 33) → m' c i j = m c i j := by
    intro g
    induction g with
    | zero =>
      intro F p m1 hp hF h1 h2
      obtain ⟨F, rfl⟩ : ∃ G, F = G + 1 := ⟨F - 1, by omega⟩
      rw [L_X11_store_a58_3, if_pos (show (33 : Int32) ≤ nI p by rw [show (33 : Int32) = nI 33 from rfl, nle (by omega) (by omega)]; omega)]
      exact ⟨m1, rfl, fun q hq => h1 q (by omega), h2⟩
    | succ g ih =>
      intro F p m1 hp hF h1 h2
      obtain ⟨F, rfl⟩ : ∃ G, F = G + 1 := ⟨F - 1, by omega⟩
      have ei : (33 : Int32) * nI k + nI p = nI (33 * k + p) := by rw [show (33 : Int32) = nI 33 from rfl, nmul, nadd]
      rw [L_X11_store_a58_3, if_neg (show ¬ (33 : Int32) ≤ nI p by rw [show (33 : Int32) = nI 33 from rfl, nle (by omega) (by omega)]; omega), ck_in (by omega) (by omega), ei, ck_in (by omega) (by omega), ncl (by omega), ncl (by omega), lt_e, show nI p + 1 = nI (p + 1) from nadd p 1]
      refine ih F (p + 1) _ (by omega) (by omega) (fun q hq => ?_) (fun c i j z => ?_)
      · by_cases e : q = p
        · rw [e, u3_s]; exact h2 _ _ _ (by omega)
        · rw [u3_n (by omega)]; exact h1 q (by omega)
      · rw [u3_n (by omega)]; exact h2 c i j z
  unfold F_X11_store_a58
  exact key 33 1000000 0 m (by omega) (by omega) (fun q hq => by omega) (fun _ _ _ _ => rfl)
def wdS (s : Nat) : Nat := if s = 0 then 40 else if s = 1 then 161 else if s = 2 then 26 else 33
theorem m_stOf {m : MI} {w : WS} {s k : Nat} (hs : s < 4) (hk : k < 2) : ∃ m', F_X11_storeOf m w (nI s) (nI k) = some m' ∧ (∀ p, p < wdS s → m' (55 + s) 0 (wdS s * k + p) = m 59 0 p) ∧ ∀ c i j, ¬ (c = 55 + s ∧ i = 0 ∧ wdS s * k ≤ j ∧ j < wdS s * k + wdS s) → m' c i j = m c i j := by
  unfold F_X11_storeOf
  have h : s = 0 ∨ s = 1 ∨ s = 2 ∨ s = 3 := by omega
  rcases h with h | h | h | h <;> subst h
  · rw [if_pos (show nI 0 = 0 from rfl)]
    obtain ⟨m', a1, a2, a3⟩ := m_st55 (m := m) (w := w) hk
    rw [a1, Option.bind_some]
    exact ⟨m', rfl, a2, a3⟩
  · rw [if_neg (show ¬ nI 1 = 0 by decide), if_pos (show nI 1 = 1 from rfl)]
    obtain ⟨m', a1, a2, a3⟩ := m_st56 (m := m) (w := w) hk
    rw [a1, Option.bind_some]
    exact ⟨m', rfl, a2, a3⟩
  · rw [if_neg (show ¬ nI 2 = 0 by decide), if_neg (show ¬ nI 2 = 1 by decide), if_pos (show nI 2 = 2 from rfl)]
    obtain ⟨m', a1, a2, a3⟩ := m_st57 (m := m) (w := w) hk
    rw [a1, Option.bind_some]
    exact ⟨m', rfl, a2, a3⟩
  · rw [if_neg (show ¬ nI 3 = 0 by decide), if_neg (show ¬ nI 3 = 1 by decide), if_neg (show ¬ nI 3 = 2 by decide)]
    obtain ⟨m', a1, a2, a3⟩ := m_st58 (m := m) (w := w) hk
    rw [a1, Option.bind_some]
    exact ⟨m', rfl, a2, a3⟩
def txT (x1 x2 : Int32) (c117 : Int32 × MI × WS) : Option (Int32 × MI × WS) := if c117.1 = 0 then some ((-1 : Int32), c117.2.1, c117.2.2) else if x2 = (-1) then ck (¬ (x1 < 0 ∨ 16 ≤ x1.toNatClampNeg)) (ck (¬ (x1 < 0 ∨ 16 ≤ x1.toNatClampNeg)) (ck (¬ (x1 < 0 ∨ 16 ≤ x1.toNatClampNeg)) (lt (u3 c117.2.1 54 0 x1.toNatClampNeg ((c117.2.1 54 0 x1.toNatClampNeg) + (b2 (x2 = (-1))))) fun m118 => (F_X11_storeOf m118 c117.2.2 x1 (c117.2.1 54 0 x1.toNatClampNeg)).bind fun c119 => some ((c117.2.1 54 0 x1.toNatClampNeg), c119, c117.2.2)))) else ck (¬ (x1 < 0 ∨ 16 ≤ x1.toNatClampNeg)) (ck (¬ (x1 < 0 ∨ 16 ≤ x1.toNatClampNeg)) (lt (u3 c117.2.1 54 0 x1.toNatClampNeg ((c117.2.1 54 0 x1.toNatClampNeg) + (b2 (x2 = (-1))))) fun m118 => (F_X11_storeOf m118 c117.2.2 x1 x2).bind fun c119 => some (x2, c119, c117.2.2)))
def ncT (x2 : Int32) (c : Nat) : Nat := if x2 = -1 then c + 1 else c
theorem nI_m1 {k : Nat} (hk : k < 1000) : ¬ nI k = (-1 : Int32) := by
  intro z
  have h : ¬ nI k < 0 := by rw [show (0 : Int32) = nI 0 from rfl, nlt (by omega) (by omega)]; omega
  rw [z] at h
  exact h (by decide)
theorem m_took {m : MI} {w : WS} {s c k : Nat} {x2 : Int32} (hs : s < 4) (hc : c ≤ 2) (h54 : m 54 0 s = nI c) (hk : k < 2) (hx : (x2 = -1 ∧ k = c) ∨ (x2 = nI k ∧ k < c)) :
    ∃ m', txT (nI s) x2 (1, m, w) = some (nI k, m', w) ∧ m' 54 0 s = nI (ncT x2 c) ∧ (∀ p, p < wdS s → m' (55 + s) 0 (wdS s * k + p) = m 59 0 p) ∧ ∀ c i j, ¬ (c = 54 ∧ i = 0 ∧ j = s) → ¬ (c = 55 + s ∧ i = 0 ∧ wdS s * k ≤ j ∧ j < wdS s * k + wdS s) → m' c i j = m c i j := by
  unfold txT ncT
  dsimp only
  rw [if_neg (show ¬ (1 : Int32) = 0 by decide)]
  rcases hx with ⟨rfl, rfl⟩ | ⟨rfl, hk2⟩
  · rw [if_pos rfl, if_pos rfl, ck_in (by omega) (by omega), ck_in (by omega) (by omega), ck_in (by omega) (by omega), ncl (by omega), h54, lt_e, b2_pos rfl, show nI k + 1 = nI (k + 1) from nadd k 1]
    obtain ⟨m', a1, a2, a3⟩ := m_stOf (m := u3 m 54 0 s (nI (k + 1))) (w := w) hs hk
    rw [a1, Option.bind_some]
    exact ⟨m', rfl, by rw [a3 _ _ _ (by omega), u3_s], fun p hp => by rw [a2 p hp, u3_n (by omega)], fun c i j z1 z2 => by rw [a3 _ _ _ z2, u3_n (by omega)]⟩
  · rw [if_neg (nI_m1 (by omega)), if_neg (nI_m1 (by omega)), ck_in (by omega) (by omega), ck_in (by omega) (by omega), ncl (by omega), h54, lt_e, b2_neg (nI_m1 (by omega)), show nI c + 0 = nI c from nadd c 0]
    obtain ⟨m', a1, a2, a3⟩ := m_stOf (m := u3 m 54 0 s (nI c)) (w := w) hs hk
    rw [a1, Option.bind_some]
    exact ⟨m', rfl, by rw [a3 _ _ _ (by omega), u3_s], fun p hp => by rw [a2 p hp, u3_n (by omega)], fun c i j z1 z2 => by rw [a3 _ _ _ z2, u3_n (by omega)]⟩
/-! the class -/
def okS (s c p : Nat) : Prop := (s = 0 ∧ ((c = 5 ∧ (p < 4 ∨ 7 ≤ p ∧ p < 11)) ∨ (c = 26 ∧ p < 6) ∨ (c = 27 ∧ p < 6) ∨ (c = 28 ∧ p < 6))) ∨ (s = 1 ∧ ((c = 0 ∧ p = 0) ∨ (c = 29 ∧ p < 160))) ∨ (s = 2 ∧ (c = 30 ∧ p < 25)) ∨ (s = 3 ∧ ((c = 1 ∧ p = 0) ∨ (c = 31 ∧ p < 8) ∨ (c = 32 ∧ p < 8) ∨ (c = 33 ∧ p < 8)))
def cpP (m : MI) (s k : Nat) (m1 : MI) : Prop := (∀ c p, okS s c p → m1 c k p = m c 8 p) ∧ ∀ c i p, ¬ (i = k ∧ okS s c p) → m1 c i p = m c i p
theorem cp_of {m : MI} {s k : Nat} {P : Nat → Nat → Prop} [d : ∀ c i p : Nat, Decidable (i = k ∧ P c p)] (h : ∀ c p, P c p ↔ okS s c p) : cpP m s k (fun c i p => if i = k ∧ P c p then m c 8 p else m c i p) :=
  ⟨fun c p z => if_pos ⟨rfl, (h c p).mpr z⟩, fun c i p z => if_neg fun y => z ⟨y.1, (h c p).mp y.2⟩⟩
theorem cp_0 {m : MI} {w : WS} {k : Nat} (hk : k < 2) : ∃ m1, F_X6_copyFrom m w (2 * 0 + k) 8 = some m1 ∧ cpP m 0 k m1 := by
  rw [Nat.mul_zero, Nat.zero_add]
  exact ⟨_, c_X6 (show k ≠ 8 by omega), cp_of fun c p => ⟨fun z => Or.inl ⟨rfl, z⟩, fun z => by unfold okS at z; omega⟩⟩
theorem cp_1 {m : MI} {w : WS} {k : Nat} (hk : k < 2) : ∃ m1, F_X0_copyFrom m w (2 * 0 + k) 8 = some m1 ∧ cpP m 1 k m1 := by
  rw [Nat.mul_zero, Nat.zero_add]
  exact ⟨_, c_X0 (show k ≠ 8 by omega), cp_of fun c p => ⟨fun z => Or.inr (Or.inl ⟨rfl, z⟩), fun z => by unfold okS at z; omega⟩⟩
theorem cp_2 {m : MI} {w : WS} {k : Nat} (hk : k < 2) : ∃ m1, F_X4_copyFrom m w (2 * 0 + k) 8 = some m1 ∧ cpP m 2 k m1 := by
  rw [Nat.mul_zero, Nat.zero_add]
  exact ⟨_, c_X4 (show k ≠ 8 by omega), cp_of fun c p => ⟨fun z => Or.inr (Or.inr (Or.inl ⟨rfl, z⟩)), fun z => by unfold okS at z; omega⟩⟩
theorem cp_3 {m : MI} {w : WS} {k : Nat} (hk : k < 2) : ∃ m1, F_X2_copyFrom m w (2 * 0 + k) 8 = some m1 ∧ cpP m 3 k m1 := by
  rw [Nat.mul_zero, Nat.zero_add]
  exact ⟨_, c_X2 (show k ≠ 8 by omega), cp_of fun c p => ⟨fun z => Or.inr (Or.inr (Or.inr ⟨rfl, z⟩)), fun z => by unfold okS at z; omega⟩⟩
theorem hp_1 {m : MI} {w : WS} {s c k : Nat} {x2 : Int32} (hs : s < 4) (hc : c ≤ 2) (h21 : m 21 0 s = nI c) (hk : k < 2) (hx : (x2 = -1 ∧ k = c) ∨ (x2 = nI k ∧ k < c)) : F_X8_hasPlaceFor m w 0 (nI s) x2 = some 1 := by
  have h0 : ¬ nI s < 0 := nI_pos (by omega)
  have q1 : nI s < 4 := by rw [show (4 : Int32) = nI 4 from rfl, nlt (by omega) (by omega)]; exact hs
  unfold F_X8_hasPlaceFor
  rcases hx with ⟨rfl, rfl⟩ | ⟨rfl, hk2⟩
  · rw [if_neg h0, if_pos q1, if_pos rfl, ck_in (by omega) (by omega), ncl (by omega), h21, b2_pos (by rw [show (2 : Int32) = nI 2 from rfl, nle (by omega) (by omega)]; omega)]
  · rw [if_neg h0, if_pos q1, if_neg (nI_m1 (by omega))]
    rcases c_at w hs hc h21 (nI k) with ⟨hno, -⟩ | ⟨j, -, hc2⟩
    · exact absurd ⟨k, hk2, rfl⟩ hno
    · rw [hc2, Option.bind_some]; exact if_pos (Or.inr rfl)
theorem c_took {m : MI} {w : WS} {s c k : Nat} {x2 : Int32} (hs : s < 4) (hc : c ≤ 2) (h21 : m 21 0 s = nI c) (hk : k < 2) (hx : (x2 = -1 ∧ k = c) ∨ (x2 = nI k ∧ k < c)) :
    ∃ m', F_X8_take m w 0 (nI s) x2 = some (nI k, m') ∧ (∀ c p, okS s c p → m' c k p = m c 8 p) ∧ m' 21 0 s = nI (ncT x2 c) ∧ ∀ c i p, ¬ (i = k ∧ okS s c p) → ¬ (c = 21 ∧ i = 0 ∧ p = s) → m' c i p = m c i p := by
  have n21 : ∀ p, ¬ okS s 21 p := fun p z => by unfold okS at z; omega
  have fin1 : ∀ m1, cpP m s k m1 → k = c → ∃ m', some (nI k, u3 m1 21 0 s (m1 21 0 s + 1)) = some (nI k, m') ∧ (∀ c p, okS s c p → m' c k p = m c 8 p) ∧ m' 21 0 s = nI (c + 1) ∧ ∀ c i p, ¬ (i = k ∧ okS s c p) → ¬ (c = 21 ∧ i = 0 ∧ p = s) → m' c i p = m c i p := by
    intro m1 h e
    refine ⟨_, rfl, fun c p z => ?_, ?_, fun c i p z1 z2 => ?_⟩
    · have nc : c ≠ 21 := fun q => n21 p (q ▸ z)
      rw [u3_n (Or.inl nc)]; exact h.1 c p z
    · rw [u3_s, h.2 _ _ _ (fun z => n21 _ z.2), h21]; exact nadd c 1
    · rw [u3_n (by omega)]; exact h.2 _ _ _ z1
  have fin2 : ∀ m1, cpP m s k m1 → ∃ m', some (nI k, m1) = some (nI k, m') ∧ (∀ c p, okS s c p → m' c k p = m c 8 p) ∧ m' 21 0 s = nI c ∧ ∀ c i p, ¬ (i = k ∧ okS s c p) → ¬ (c = 21 ∧ i = 0 ∧ p = s) → m' c i p = m c i p := by
    intro m1 h
    exact ⟨m1, rfl, h.1, by rw [h.2 _ _ _ (fun z => n21 _ z.2)]; exact h21, fun c i p z1 _ => h.2 _ _ _ z1⟩
  unfold F_X8_take ncT
  rw [hp_1 (w := w) hs hc h21 hk hx, Option.bind_some, if_neg (show ¬ (1 : Int32) = 0 by decide)]
  rcases hx with ⟨rfl, rfl⟩ | ⟨rfl, hk2⟩
  · rw [if_pos rfl, if_pos rfl, ck_in (by omega) (by omega), ncl (a := s) (by omega), h21]
    have h : s = 0 ∨ s = 1 ∨ s = 2 ∨ s = 3 := by omega
    rcases h with h | h | h | h <;> subst h
    · obtain ⟨m1, e1, e2⟩ := cp_0 (m := m) (w := w) hk
      rw [if_pos (show nI 0 = 0 from rfl), ck_in (by omega) (by omega), ncl (by omega), e1, Option.bind_some, if_pos rfl, ckJ (by omega) (by omega), ckJ (by omega) (by omega), lt_e]
      exact fin1 m1 e2 rfl
    · obtain ⟨m1, e1, e2⟩ := cp_1 (m := m) (w := w) hk
      rw [if_neg (show ¬ nI 1 = 0 by decide), if_pos (show nI 1 = 1 from rfl), ck_in (by omega) (by omega), ncl (by omega), e1, Option.bind_some, if_pos rfl, ckJ (by omega) (by omega), ckJ (by omega) (by omega), lt_e]
      exact fin1 m1 e2 rfl
    · obtain ⟨m1, e1, e2⟩ := cp_2 (m := m) (w := w) hk
      rw [if_neg (show ¬ nI 2 = 0 by decide), if_neg (show ¬ nI 2 = 1 by decide), if_pos (show nI 2 = 2 from rfl), ck_in (by omega) (by omega), ncl (by omega), e1, Option.bind_some, if_pos rfl, ckJ (by omega) (by omega), ckJ (by omega) (by omega), lt_e]
      exact fin1 m1 e2 rfl
    · obtain ⟨m1, e1, e2⟩ := cp_3 (m := m) (w := w) hk
      rw [if_neg (show ¬ nI 3 = 0 by decide), if_neg (show ¬ nI 3 = 1 by decide), if_neg (show ¬ nI 3 = 2 by decide), ck_in (by omega) (by omega), ncl (by omega), e1, Option.bind_some, if_pos rfl, ckJ (by omega) (by omega), ckJ (by omega) (by omega), lt_e]
      exact fin1 m1 e2 rfl
  · rw [if_neg (nI_m1 (by omega)), if_neg (nI_m1 (by omega))]
    have h : s = 0 ∨ s = 1 ∨ s = 2 ∨ s = 3 := by omega
    rcases h with h | h | h | h <;> subst h
    · obtain ⟨m1, e1, e2⟩ := cp_0 (m := m) (w := w) hk
      rw [if_pos (show nI 0 = 0 from rfl), ck_in (by omega) (by omega), ncl (by omega), e1, Option.bind_some, if_neg (nI_m1 (by omega))]
      exact fin2 m1 e2
    · obtain ⟨m1, e1, e2⟩ := cp_1 (m := m) (w := w) hk
      rw [if_neg (show ¬ nI 1 = 0 by decide), if_pos (show nI 1 = 1 from rfl), ck_in (by omega) (by omega), ncl (by omega), e1, Option.bind_some, if_neg (nI_m1 (by omega))]
      exact fin2 m1 e2
    · obtain ⟨m1, e1, e2⟩ := cp_2 (m := m) (w := w) hk
      rw [if_neg (show ¬ nI 2 = 0 by decide), if_neg (show ¬ nI 2 = 1 by decide), if_pos (show nI 2 = 2 from rfl), ck_in (by omega) (by omega), ncl (by omega), e1, Option.bind_some, if_neg (nI_m1 (by omega))]
      exact fin2 m1 e2
    · obtain ⟨m1, e1, e2⟩ := cp_3 (m := m) (w := w) hk
      rw [if_neg (show ¬ nI 3 = 0 by decide), if_neg (show ¬ nI 3 = 1 by decide), if_neg (show ¬ nI 3 = 2 by decide), ck_in (by omega) (by omega), ncl (by omega), e1, Option.bind_some, if_neg (nI_m1 (by omega))]
      exact fin2 m1 e2
