/-! TEXT: how reading begins, on both sides -/
theorem c_clr5 {w : WS} : ∀ g F k m, k + g = 25 → g < F → (∀ j, j < k → m 30 8 j = 0) → ∃ m', L_X4_clear_2 w F m 8 (nI k) = some m' ∧ (∀ j, j < 25 → m' 30 8 j = 0) ∧ ∀ c i j, ¬ (c = 30 ∧ i = 8) → m' c i j = m c i j := by
  intro g
  induction g with
  | zero =>
    intro F k m hk hF h
    obtain ⟨F, rfl⟩ : ∃ G, F = G + 1 := ⟨F - 1, by omega⟩
    rw [L_X4_clear_2, if_pos (show (25 : Int32) ≤ nI k by rw [show (25 : Int32) = nI 25 from rfl, nle (by omega) (by omega)]; omega)]
    exact ⟨m, rfl, fun j hj => h j (by omega), fun _ _ _ _ => rfl⟩
  | succ g ih =>
    intro F k m hk hF h
    obtain ⟨F, rfl⟩ : ∃ G, F = G + 1 := ⟨F - 1, by omega⟩
    rw [L_X4_clear_2, if_neg (show ¬ (25 : Int32) ≤ nI k by rw [show (25 : Int32) = nI 25 from rfl, nle (by omega) (by omega)]; omega), ck_in (by omega) (by omega), ncl (by omega), lt_e, show nI k + 1 = nI (k + 1) from nadd k 1]
    have hh : ∀ j, j < k + 1 → u3 m 30 8 k 0 30 8 j = 0 := by
      intro j hj
      by_cases e : j = k
      · rw [e, u3_s]
      · rw [u3_n (by omega)]; exact h j (by omega)
    obtain ⟨m', q1, q2, q3⟩ := ih F (k + 1) _ (by omega) (by omega) hh
    exact ⟨m', q1, q2, fun c i j z => by rw [q3 _ _ _ z, u3_n (by omega)]⟩
theorem c_clr6 {w : WS} : ∀ g F k m, k + g = 6 → g < F → (∀ j, j < k → m 26 8 j = 0 ∧ m 27 8 j = 3 ∧ m 28 8 j = 0) → ∃ m', L_X6_clear_22 w F m 8 (nI k) = some m' ∧ (∀ j, j < 6 → m' 26 8 j = 0 ∧ m' 27 8 j = 3 ∧ m' 28 8 j = 0) ∧ ∀ c i j, ¬ ((c = 26 ∨ c = 27 ∨ c = 28) ∧ i = 8) → m' c i j = m c i j := by
  intro g
  induction g with
  | zero =>
    intro F k m hk hF h
    obtain ⟨F, rfl⟩ : ∃ G, F = G + 1 := ⟨F - 1, by omega⟩
    rw [L_X6_clear_22, if_pos (show (6 : Int32) ≤ nI k by rw [show (6 : Int32) = nI 6 from rfl, nle (by omega) (by omega)]; omega)]
    exact ⟨m, rfl, fun j hj => h j (by omega), fun _ _ _ _ => rfl⟩
  | succ g ih =>
    intro F k m hk hF h
    obtain ⟨F, rfl⟩ : ∃ G, F = G + 1 := ⟨F - 1, by omega⟩
    rw [L_X6_clear_22, if_neg (show ¬ (6 : Int32) ≤ nI k by rw [show (6 : Int32) = nI 6 from rfl, nle (by omega) (by omega)]; omega), ck_in (by omega) (by omega), lt_e, ck_in (by omega) (by omega), lt_e, ck_in (by omega) (by omega), lt_e, ncl (by omega), show nI k + 1 = nI (k + 1) from nadd k 1]
    have hh : ∀ j, j < k + 1 → u3 (u3 (u3 m 26 8 k 0) 27 8 k 3) 28 8 k 0 26 8 j = 0 ∧ u3 (u3 (u3 m 26 8 k 0) 27 8 k 3) 28 8 k 0 27 8 j = 3 ∧ u3 (u3 (u3 m 26 8 k 0) 27 8 k 3) 28 8 k 0 28 8 j = 0 := by
      intro j hj
      by_cases e : j = k
      · rw [e]
        exact ⟨by rw [u3_n (by omega), u3_n (by omega), u3_s], by rw [u3_n (by omega), u3_s], u3_s⟩
      · have := h j (by omega)
        exact ⟨by rw [u3_n (by omega), u3_n (by omega), u3_n (by omega)]; exact this.1, by rw [u3_n (by omega), u3_n (by omega), u3_n (by omega)]; exact this.2.1, by rw [u3_n (by omega), u3_n (by omega), u3_n (by omega)]; exact this.2.2⟩
    obtain ⟨m', q1, q2, q3⟩ := ih F (k + 1) _ (by omega) (by omega) hh
    exact ⟨m', q1, q2, fun c i j z => by rw [q3 _ _ _ z, u3_n (by omega), u3_n (by omega), u3_n (by omega)]⟩
/-- what the class holds when nothing is read yet -/
def clQ (m : MI) : Prop := (m 4 0 4 = 0 ∧ m 4 0 5 = -1 ∧ m 4 0 9 = 0 ∧ m 4 0 10 = 0) ∧ (∀ k, k < 30 → m 34 0 k = 0) ∧ (m 5 8 0 = 3 ∧ m 5 8 1 = 3 ∧ m 5 8 2 = 0 ∧ m 5 8 3 = 0) ∧ (∀ j, j < 6 → m 26 8 j = 0 ∧ m 27 8 j = 3 ∧ m 28 8 j = 0) ∧ m 0 8 0 = 0 ∧ (∀ j, j < 25 → m 30 8 j = 0) ∧ m 1 8 0 = 0
theorem c_rclr {m : MI} {w : WS} : ∃ m', F_X5_clear m w = some m' ∧ clQ m' ∧ clF m m' := by
  have key : ∀ g F k m1, k + g = 30 → g < F → (m1 4 0 4 = 0 ∧ m1 4 0 5 = -1 ∧ m1 4 0 9 = 0 ∧ m1 4 0 10 = 0) → (∀ j, j < k → m1 34 0 j = 0) → clF m m1 → ∃ m', L_X5_clear_22 w F m1 (nI k) = some m' ∧ clQ m' ∧ clF m m' := by
    intro g
    induction g with
    | zero =>
      intro F k m1 hk hF h1 h2 h3
      obtain ⟨F, rfl⟩ : ∃ G, F = G + 1 := ⟨F - 1, by omega⟩
      rw [L_X5_clear_22, if_pos (show (30 : Int32) ≤ nI k by rw [show (30 : Int32) = nI 30 from rfl, nle (by omega) (by omega)]; omega)]
      unfold F_X6_clear
      rw [lt_e]
      obtain ⟨m2, a1, a2, a3⟩ := c_clr6 (w := w) 6 1000000 0 (u3 (u3 (u3 (u3 m1 5 8 0 3) 5 8 1 3) 5 8 2 0) 5 8 3 0) (by omega) (by omega) (fun j hj => by omega)
      have a1' : L_X6_clear_22 w 1000000 (u3 (u3 (u3 (u3 m1 5 8 0 3) 5 8 1 3) 5 8 2 0) 5 8 3 0) 8 0 = some m2 := a1
      rw [a1', Option.bind_some]
      unfold F_X4_clear
      obtain ⟨m3, b1, b2, b3⟩ := c_clr5 (w := w) 25 1000000 0 (u3 m2 0 8 0 0) (by omega) (by omega) (fun j hj => by omega)
      have b1' : L_X4_clear_2 w 1000000 (u3 m2 0 8 0 0) 8 0 = some m3 := b1
      rw [b1', Option.bind_some]
      have e4 : ∀ j, u3 m3 1 8 0 0 4 0 j = m1 4 0 j := fun j => by rw [u3_n (by omega), b3 _ _ _ (by omega), u3_n (by omega), a3 _ _ _ (by omega), u3_n (by omega), u3_n (by omega), u3_n (by omega), u3_n (by omega)]
      have e5 : ∀ j, u3 m3 1 8 0 0 5 8 j = u3 (u3 (u3 (u3 m1 5 8 0 3) 5 8 1 3) 5 8 2 0) 5 8 3 0 5 8 j := fun j => by rw [u3_n (by omega), b3 _ _ _ (by omega), u3_n (by omega), a3 _ _ _ (by omega)]
      refine ⟨_, rfl, ⟨⟨?_, ?_, ?_, ?_⟩, fun j hj => ?_, ⟨?_, ?_, ?_, ?_⟩, fun j hj => ?_, ?_, fun j hj => ?_, u3_s⟩, fun c i j z1 z2 z3 z4 z5 => ?_⟩
      · rw [e4]; exact h1.1
      · rw [e4]; exact h1.2.1
      · rw [e4]; exact h1.2.2.1
      · rw [e4]; exact h1.2.2.2
      · rw [u3_n (by omega), b3 _ _ _ (by omega), u3_n (by omega), a3 _ _ _ (by omega), u3_n (by omega), u3_n (by omega), u3_n (by omega), u3_n (by omega)]; exact h2 j (by omega)
      · rw [e5, u3_n (by omega), u3_n (by omega), u3_n (by omega), u3_s]
      · rw [e5, u3_n (by omega), u3_n (by omega), u3_s]
      · rw [e5, u3_n (by omega), u3_s]
      · rw [e5, u3_s]
      · have := a2 j hj
        exact ⟨by rw [u3_n (by omega), b3 _ _ _ (by omega), u3_n (by omega)]; exact this.1, by rw [u3_n (by omega), b3 _ _ _ (by omega), u3_n (by omega)]; exact this.2.1, by rw [u3_n (by omega), b3 _ _ _ (by omega), u3_n (by omega)]; exact this.2.2⟩
      · rw [u3_n (by omega), b3 _ _ _ (by omega), u3_s]
      · rw [u3_n (by omega)]; exact b2 j hj
      · rw [u3_n (by omega), b3 _ _ _ (by omega), u3_n (by omega), a3 _ _ _ (by omega), u3_n (by omega), u3_n (by omega), u3_n (by omega), u3_n (by omega)]; exact h3 c i j z1 z2 z3 z4 z5
    | succ g ih =>
      intro F k m1 hk hF h1 h2 h3
      obtain ⟨F, rfl⟩ : ∃ G, F = G + 1 := ⟨F - 1, by omega⟩
      rw [L_X5_clear_22, if_neg (show ¬ (30 : Int32) ≤ nI k by rw [show (30 : Int32) = nI 30 from rfl, nle (by omega) (by omega)]; omega), ck_in (by omega) (by omega), ncl (by omega), lt_e, show nI k + 1 = nI (k + 1) from nadd k 1]
      refine ih F (k + 1) _ (by omega) (by omega) ⟨?_, ?_, ?_, ?_⟩ (fun j hj => ?_) (fun c i j z1 z2 z3 z4 z5 => ?_)
      · rw [u3_n (by omega)]; exact h1.1
      · rw [u3_n (by omega)]; exact h1.2.1
      · rw [u3_n (by omega)]; exact h1.2.2.1
      · rw [u3_n (by omega)]; exact h1.2.2.2
      · by_cases e : j = k
        · rw [e, u3_s]
        · rw [u3_n (by omega)]; exact h2 j (by omega)
      · rw [u3_n (by omega)]; exact h3 c i j z1 z2 z3 z4 z5
  unfold F_X5_clear
  rw [lt_e]
  refine key 30 1000000 0 _ (by omega) (by omega) ⟨?_, ?_, ?_, ?_⟩ (fun j hj => by omega) (fun c i j z1 z2 z3 z4 z5 => ?_)
  · rw [u3_n (by omega), u3_n (by omega), u3_n (by omega), u3_s]
  · rw [u3_n (by omega), u3_n (by omega), u3_s]
  · rw [u3_n (by omega), u3_s]
  · rw [u3_s]
  · rw [u3_n (by omega), u3_n (by omega), u3_n (by omega), u3_n (by omega)]
theorem c_rbeg {m : MI} {w : WS} {b : Nat → Nat} {len : Nat} (hl : len ≤ 600) (hb : ∀ k, k < len → m 20 0 k = nI (b k) ∧ b k < 256) : ∃ m', F_X7_begin m w (nI len) = some (m', (w.1, true, w.2.2)) ∧ tapC m' b len ∧ tokC m' b len 0 ∧ ∀ c i j, ¬ (c = 6 ∧ i = 0) → m' c i j = m c i j := by
  have e : imin (nI len) 600 = nI len := by
    unfold imin
    by_cases z : (600 : Int32) < nI len
    · rw [show (600 : Int32) = nI 600 from rfl, nlt (by omega) (by omega)] at z; omega
    · exact if_neg z
  unfold F_X7_begin
  rw [e, lt_e]
  have ht : tapC (u3 (u3 m 6 0 1 (nI len)) 6 0 2 0) b len := ⟨hl, by rw [u3_n (by omega), u3_s], fun k hk => by rw [u3_n (by omega), u3_n (by omega)]; exact hb k hk⟩
  obtain ⟨m', a1, a2, a3⟩ := c_next (w := (w.1, true, w.2.2)) (pos := 0) rfl ht (by omega) u3_s
  rw [a1, Option.bind_some]
  exact ⟨m', rfl, tapC_of ht a3, a2, fun c i j z => by rw [a3 _ _ _ (by omega), u3_n (by omega), u3_n (by omega)]⟩
/-! the model -/
def rdZ (m1 : MI) (c0 : Int32) (w : WS) : Option (Int32 × MI × WS) := ck (¬ ((0 : Int32) < 0 ∨ 4 ≤ (0 : Int32).toNatClampNeg)) (lt (u3 m1 52 0 0 (if c0 = 0 then 1 else m1 10 0 17)) fun m105 => ck (¬ ((0 : Int32) < 0 ∨ 4 ≤ (0 : Int32).toNatClampNeg)) (lt (u3 m105 53 0 0 (if c0 = 0 then m105 10 0 16 else if (m105 10 0 17) ≤ 0 then (-1) else m105 10 0 18)) fun m106 => some (b2 ((m106 52 0 0) = 0), m106, w)))
def rdN (x1 : Int32) (c101 : Int32 × MI × WS) : Option (Int32 × MI × WS) := if c101.1 = 0 then rdZ c101.2.1 c101.1 c101.2.2 else if x1 = 0 then if (c101.2.1 10 0 17) = 0 then if (c101.2.1 10 0 21) < (c101.2.1 59 0 3) then (F_X11_cutsTooFar c101.2.1 c101.2.2).bind fun c102 => if c102 = 0 then rdZ c101.2.1 c101.1 c101.2.2 else (F_X11_addsFault c101.2.1 c101.2.2 5 (c101.2.1 10 0 12)).bind fun c103 => rdZ c103 c101.1 c101.2.2 else (F_X11_addsFault c101.2.1 c101.2.2 4 (c101.2.1 10 0 12)).bind fun c104 => rdZ c104 c101.1 c101.2.2 else rdZ c101.2.1 c101.1 c101.2.2 else rdZ c101.2.1 c101.1 c101.2.2
def rdM (m : MI) (w : WS) (x1 : Int32) : Option (Int32 × MI × WS) := (F_X11_token (u3 (u3 (u3 m 10 0 21 (-1)) 10 0 10 0) 10 0 17 0) w).bind fun c100 => (F_X11_allLines c100.1 c100.2 x1).bind (rdN x1)
def iniV (s k : Nat) : Int32 := if s = 0 then if k < 2 then 3 else if 34 ≤ k ∧ k ≤ 39 then 3 else 0 else 0
theorem rt_eq {n : Nat} {m : MI} {w : WS} {x1 x2 : Int32} : L_X11_readText_2 (n + 1) m w x1 x2 = if 161 ≤ x2 then rdM m w x1 else if x1 = 0 then if x2 < 2 then ck (¬ (x2 < 0 ∨ 161 ≤ x2.toNatClampNeg)) (lt (u3 m 59 0 x2.toNatClampNeg 3) fun m107 => L_X11_readText_2 n m107 w x1 (x2 + 1)) else if ¬ (x2 < 34) ∧ (¬ (39 < x2)) then ck (¬ (x2 < 0 ∨ 161 ≤ x2.toNatClampNeg)) (lt (u3 m 59 0 x2.toNatClampNeg 3) fun m107 => L_X11_readText_2 n m107 w x1 (x2 + 1)) else ck (¬ (x2 < 0 ∨ 161 ≤ x2.toNatClampNeg)) (lt (u3 m 59 0 x2.toNatClampNeg 0) fun m107 => L_X11_readText_2 n m107 w x1 (x2 + 1)) else ck (¬ (x2 < 0 ∨ 161 ≤ x2.toNatClampNeg)) (lt (u3 m 59 0 x2.toNatClampNeg 0) fun m107 => L_X11_readText_2 n m107 w x1 (x2 + 1)) := by
  rw [L_X11_readText_2]; rfl
theorem m_ini {w : WS} {s : Nat} (hs : s < 4) : ∀ g F k m, k + g = 161 → g < F → (∀ j, j < k → m 59 0 j = iniV s j) → ∃ m', L_X11_readText_2 F m w (nI s) (nI k) = rdM m' w (nI s) ∧ (∀ j, j < 161 → m' 59 0 j = iniV s j) ∧ ∀ c i j, ¬ (c = 59 ∧ i = 0) → m' c i j = m c i j := by
  intro g
  induction g with
  | zero =>
    intro F k m hk hF h
    obtain ⟨F, rfl⟩ : ∃ G, F = G + 1 := ⟨F - 1, by omega⟩
    rw [rt_eq, if_pos (show (161 : Int32) ≤ nI k by rw [show (161 : Int32) = nI 161 from rfl, nle (by omega) (by omega)]; omega)]
    exact ⟨m, rfl, fun j hj => h j (by omega), fun _ _ _ _ => rfl⟩
  | succ g ih =>
    intro F k m hk hF h
    obtain ⟨F, rfl⟩ : ∃ G, F = G + 1 := ⟨F - 1, by omega⟩
    have one : ∀ v : Int32, v = iniV s k → ∃ m', ck (¬ (nI k < 0 ∨ 161 ≤ (nI k).toNatClampNeg)) (lt (u3 m 59 0 (nI k).toNatClampNeg v) fun m107 => L_X11_readText_2 F m107 w (nI s) (nI k + 1)) = rdM m' w (nI s) ∧ (∀ j, j < 161 → m' 59 0 j = iniV s j) ∧ ∀ c i j, ¬ (c = 59 ∧ i = 0) → m' c i j = m c i j := by
      intro v hv
      rw [ck_in (by omega) (by omega), ncl (by omega), lt_e, show nI k + 1 = nI (k + 1) from nadd k 1]
      have hh : ∀ j, j < k + 1 → u3 m 59 0 k v 59 0 j = iniV s j := by
        intro j hj
        by_cases e : j = k
        · rw [e, u3_s, hv]
        · rw [u3_n (by omega)]; exact h j (by omega)
      obtain ⟨m', q1, q2, q3⟩ := ih F (k + 1) _ (by omega) (by omega) hh
      exact ⟨m', q1, q2, fun c i j z => by rw [q3 _ _ _ z, u3_n (by omega)]⟩
    rw [rt_eq, if_neg (show ¬ (161 : Int32) ≤ nI k by rw [show (161 : Int32) = nI 161 from rfl, nle (by omega) (by omega)]; omega)]
    unfold iniV at one
    by_cases e0 : s = 0
    · rw [if_pos (show nI s = 0 by rw [e0]; rfl)]
      by_cases e1 : k < 2
      · rw [if_pos (show nI k < 2 by rw [i2, nlt (by omega) (by omega)]; exact e1)]
        exact one 3 (by rw [if_pos e0, if_pos e1])
      · rw [if_neg (show ¬ nI k < 2 by rw [i2, nlt (by omega) (by omega)]; exact e1)]
        by_cases e2 : 34 ≤ k ∧ k ≤ 39
        · rw [if_pos (show ¬ (nI k < 34) ∧ ¬ ((39 : Int32) < nI k) by rw [show (34 : Int32) = nI 34 from rfl, show (39 : Int32) = nI 39 from rfl, nlt (by omega) (by omega), nlt (by omega) (by omega)]; omega)]
          exact one 3 (by rw [if_pos e0, if_neg e1, if_pos e2])
        · rw [if_neg (show ¬ (¬ (nI k < 34) ∧ ¬ ((39 : Int32) < nI k)) by rw [show (34 : Int32) = nI 34 from rfl, show (39 : Int32) = nI 39 from rfl, nlt (by omega) (by omega), nlt (by omega) (by omega)]; omega)]
          exact one 0 (by rw [if_pos e0, if_neg e1, if_neg e2])
    · rw [if_neg (show ¬ nI s = 0 from nne0 (by omega) e0)]
      exact one 0 (by rw [if_neg e0])
theorem st_0 {mC mM : MI} (hc : clQ mC) (h59 : ∀ j, j < 161 → mM 59 0 j = iniV 0 j) (h21 : mM 10 0 21 = -1) : Ct0 mC mM (0, 0) := by
  obtain ⟨⟨a1, a2, a3, a4⟩, b1, ⟨c1, c2, c3, c4⟩, d1, e1, f1, g1⟩ := hc
  refine ⟨⟨0, by omega, c4⟩, ⟨0, by omega, h59 3 (by omega)⟩, fun _ => ⟨3, 3, 0, 0, 0, fun _ => 0, fun _ => 3, ⟨by omega, by omega, by omega, by omega, by omega, fun _ _ => (by decide : (0 : Nat) < 32), fun _ _ _ => rfl, fun _ _ => (by decide : 1 ≤ 3 ∧ 3 ≤ 9)⟩, ⟨c1, c2, c3, c4, b1, fun s hs => (d1 s hs).2.1, a3, fun s hs => ⟨(d1 s hs).1, (d1 s hs).2.2⟩⟩, ⟨h59 0 (by omega), h59 1 (by omega), h59 2 (by omega), h59 3 (by omega), fun k hk => ?_, fun s hs => ?_, h21⟩⟩⟩
  · rw [h59 _ (by omega)]
    unfold iniV
    rw [if_pos rfl, if_neg (by omega), if_neg (by omega)]
    rfl
  · rw [h59 _ (by omega)]
    unfold iniV
    rw [if_pos rfl, if_neg (by omega), if_pos (by omega)]
    rfl
theorem st_1 {mC mM : MI} (hc : clQ mC) (h59 : ∀ j, j < 161 → mM 59 0 j = iniV 1 j) : Ct1 mC mM (0, 0) := by
  obtain ⟨-, -, -, -, e1, -, -⟩ := hc
  exact ⟨⟨0, by omega, e1⟩, ⟨0, by omega, h59 0 (by omega)⟩, fun _ => ⟨0, fun _ => 0, fun k hk => absurd hk (Nat.not_lt_zero k), ⟨by omega, e1, fun k hk => absurd hk (by omega)⟩, ⟨by omega, h59 0 (by omega), fun k hk => absurd hk (by omega)⟩⟩⟩
theorem st_2 {mC mM : MI} (hc : clQ mC) (h59 : ∀ j, j < 161 → mM 59 0 j = iniV 2 j) : Ct2 mC mM (0, 0) := by
  obtain ⟨⟨a1, a2, a3, a4⟩, -, -, -, -, f1, -⟩ := hc
  refine ⟨⟨0, by omega, a4⟩, ⟨0, by omega, h59 0 (by omega)⟩, fun _ => ⟨0, fun _ => 0, ⟨fun _ _ => (by decide : (0 : Nat) ≤ 9), fun _ _ _ => rfl⟩, ⟨by omega, a4, f1⟩, ⟨by omega, h59 0 (by omega), fun k hk => ?_⟩⟩⟩
  rw [h59 _ (by omega)]
  rfl
theorem st_3 {mC mM : MI} (hc : clQ mC) (h59 : ∀ j, j < 161 → mM 59 0 j = iniV 3 j) : Ct3 mC mM (0, 0) := by
  obtain ⟨-, -, -, -, -, -, g1⟩ := hc
  exact ⟨⟨0, by omega, g1⟩, ⟨0, by omega, h59 0 (by omega)⟩, fun _ => ⟨0, fun _ => 0, fun k hk => absurd hk (Nat.not_lt_zero k), ⟨by omega, g1, fun k hk => absurd hk (Nat.not_lt_zero k)⟩, ⟨by omega, h59 0 (by omega), fun k hk => absurd hk (by omega)⟩⟩⟩
/-- reading, as far as the last line -/
theorem tx_read {s : Nat} {Ct : MI → MI → Nat × Nat → Prop} {b : Nat → Nat} {len : Nat} {mC mM : MI} {wC wM : WS} (hs : s < 4) (HS : hsT s Ct) (HM : ∀ mC mM mM' f, (∀ j, mM' 59 0 j = mM 59 0 j) → mM' 10 0 21 = mM 10 0 21 → Ct mC mM f → Ct mC mM' f) (HC : ∀ mC mC' mM f, lnF mC mC' → Ct mC mM f → Ct mC' mM f)
    (H0 : ∀ mC mM, clQ mC → (∀ j, j < 161 → mM 59 0 j = iniV s j) → mM 10 0 21 = -1 → Ct mC mM (0, 0)) (hl : len ≤ 600) (hb : ∀ k, k < len → mC 20 0 k = nI (b k) ∧ b k < 256) (hm : ∀ k, k < len → mM 50 0 k &&& 255 = nI (b k) ∧ b k < 256) (h11 : mM 10 0 11 = nI len) :
    (∃ mC' mM' wd pos' f', F_X5_read mC wC (nI len) (nI s) = rdE mC' (wC.1, true, wC.2.2) (nI s) ∧ F_X11_readText mM wM (nI s) = rdN (nI s) (1, mM', (wM.1, wM.2.1, wM.2.2.1, wd)) ∧ pos' ≤ len ∧ tapC mC' b len ∧ tokC mC' b len pos' ∧ ntC mC' f' ∧ mL b len pos' f' mM' (wM.1, wM.2.1, wM.2.2.1, wd) ∧ Ct mC' mM' f' ∧ clF mC mC' ∧ MF mM mM') ∨
    (∃ mC' mM' wd p, F_X5_read mC wC (nI len) (nI s) = some (u3 (u3 mC' 4 0 4 1) 4 0 5 (nI p), (wC.1, true, wC.2.2)) ∧ F_X11_readText mM wM (nI s) = rdN (nI s) (0, mM', (wM.1, wM.2.1, wM.2.2.1, wd)) ∧ p ≤ 600 ∧ mM' 10 0 16 = nI p ∧ clF mC mC' ∧ MF mM mM') := by
  obtain ⟨mC1, a1, a2, a3⟩ := c_rclr (m := mC) (w := wC)
  have hb1 : ∀ k, k < len → mC1 20 0 k = nI (b k) ∧ b k < 256 := fun k hk => by rw [a3 _ _ _ (by omega) (by omega) (by omega) (by omega) (by omega)]; exact hb k hk
  obtain ⟨mC2, b1, b2, b3, b4⟩ := c_rbeg (w := wC) hl hb1
  have hq : clQ mC2 := by
    have e : ∀ c i j, ¬ c = 6 → mC2 c i j = mC1 c i j := fun c i j z => b4 c i j fun y => z y.1
    unfold clQ at a2 ⊢
    simp only [e 4 0 _ (by omega), e 34 0 _ (by omega), e 5 8 _ (by omega), e 26 8 _ (by omega), e 27 8 _ (by omega), e 28 8 _ (by omega), e 0 8 _ (by omega), e 30 8 _ (by omega), e 1 8 _ (by omega)]
    exact a2
  obtain ⟨mM1, d1, d2, d3⟩ := m_ini (w := wM) hs 161 1000000 0 mM (by omega) (by omega) (fun j hj => by omega)
  have ht : tapM (u3 (u3 (u3 mM1 10 0 21 (-1)) 10 0 10 0) 10 0 17 0) b len := ⟨hl, by rw [u3_n (by omega), u3_n (by omega), u3_n (by omega), d3 _ _ _ (by omega)]; exact h11, fun k hk => by rw [u3_n (by omega), u3_n (by omega), u3_n (by omega), d3 _ _ _ (by omega)]; exact hm k hk⟩
  obtain ⟨mM2, wd, r1, r2, r3⟩ := m_token (w := wM) (pos := 0) ht (by omega) (by rw [u3_n (by omega), u3_s]; rfl)
  have hL : mL b len 0 (0, 0) mM2 (wM.1, wM.2.1, wM.2.2.1, wd) := ⟨tapM_of ht fun c i j q => r3 _ _ _ (by omega), r2, ⟨by decide, by decide, by rw [r3 _ _ _ (by omega), u3_s]; rfl, fun q => absurd rfl q⟩, fun q => absurd rfl q⟩
  have hC : Ct mC2 mM2 (0, 0) := H0 mC2 mM2 hq (fun j hj => by rw [r3 _ _ _ (by omega), u3_n (by omega), u3_n (by omega), u3_n (by omega)]; exact d2 j hj) (by rw [r3 _ _ _ (by omega), u3_n (by omega), u3_n (by omega), u3_s])
  have hn : ntC mC2 (0, 0) := ⟨by decide, by decide, hq.1.1, fun q => absurd rfl q⟩
  have fC : clF mC mC2 := clF_trans a3 fun c i j _ z2 _ _ _ => b4 c i j z2
  have fM : MF mM mM2 := fun c i j z1 z2 _ => by rw [r3 _ _ _ (by omega), u3_n (by omega), u3_n (by omega), u3_n (by omega), d3 _ _ _ z2]
  have eC : F_X5_read mC wC (nI len) (nI s) = L_X5_read_16 1000000 mC2 (wC.1, true, wC.2.2) (nI len) (nI s) (nI 0) := by
    unfold F_X5_read
    rw [a1, Option.bind_some, b1, Option.bind_some]
    rfl
  have eM : F_X11_readText mM wM (nI s) = (L_X11_allLines_2 1000000 mM2 (wM.1, wM.2.1, wM.2.2.1, wd) (nI s) 1).bind (rdN (nI s)) := by
    unfold F_X11_readText
    refine d1.trans ?_
    unfold rdM
    rw [r1, Option.bind_some]
    rfl
  rw [eC, eM]
  rcases tx_loop (s := s) (Ct := Ct) (b := b) (len := len) (x2 := nI len) (wC := (wC.1, true, wC.2.2)) hs HS HM HC rfl 601 1000000 1000000 0 0 (0, 0) mC2 mM2 (wM.1, wM.2.1, wM.2.2.1, wd) (by omega) (by omega) (by omega) (by omega) (by omega) b2 b3 hn hL hC with ⟨mC', mM', wd', pos', f', g1, g2, g3, g4, g5, g6, g7, g8, g9, g10, g11⟩ | ⟨mC', mM', wd', p, g1, g2, g3, g4, g5, g6⟩
  · exact Or.inl ⟨mC', mM', wd', pos', f', g1, by rw [g2, Option.bind_some], g3, g5, g6, g7, g8, g9, clF_trans fC g10, MF_trans fM g11⟩
  · exact Or.inr ⟨mC', mM', wd', p, g1, by rw [g2, Option.bind_some], g3, g4, clF_trans fC g5, MF_trans fM g6⟩
