/-! TEXT: reading, whole, on both sides -/
theorem ck0_4 {α : Type} (x : Option α) : ck (¬ ((0 : Int32) < 0 ∨ 4 ≤ (0 : Int32).toNatClampNeg)) x = x := if_pos (by decide)
theorem rdZ_1 {m : MI} {w : WS} {f : Nat × Nat} (hf : ntM m f) : ∃ m', rdZ m 1 w = some (b2 (nI f.1 = 0), m', w) ∧ m' 52 0 0 = nI f.1 ∧ m' 53 0 0 = (if f.1 = 0 then -1 else nI f.2) ∧ ∀ c i j, ¬ (c = 52 ∧ i = 0 ∧ j = 0) → ¬ (c = 53 ∧ i = 0 ∧ j = 0) → m' c i j = m c i j := by
  obtain ⟨f1, f2, f3, f4⟩ := hf
  unfold rdZ
  rw [ck0_4, lt_e, ck0_4, lt_e, if_neg (show ¬ (1 : Int32) = 0 by decide), if_neg (show ¬ (1 : Int32) = 0 by decide)]
  have e17 : u3 m 52 0 0 (m 10 0 17) 10 0 17 = nI f.1 := by rw [u3_n (by omega)]; exact f3
  have e18 : u3 m 52 0 0 (m 10 0 17) 10 0 18 = m 10 0 18 := u3_n (by omega)
  have e52 : u3 m 52 0 0 (m 10 0 17) 52 0 0 = nI f.1 := by rw [u3_s]; exact f3
  refine ⟨_, congrArg some (Prod.ext ?_ rfl), ?_, ?_, fun c i j z1 z2 => ?_⟩
  · dsimp only
    rw [u3_n (by omega), e52]
  · rw [u3_n (by omega), e52]
  · rw [u3_s, e17, e18]
    by_cases z : f.1 = 0
    · rw [if_pos z, if_pos (by rw [z]; decide)]
    · rw [if_neg z, if_neg (show ¬ nI f.1 ≤ 0 by rw [show (0 : Int32) = nI 0 from rfl, nle (by omega) (by omega)]; omega)]
      exact f4 z
  · rw [u3_n (by omega), u3_n (by omega)]
theorem rdZ_0 {m : MI} {w : WS} {p : Nat} (h : m 10 0 16 = nI p) : ∃ m', rdZ m 0 w = some (0, m', w) ∧ m' 52 0 0 = 1 ∧ m' 53 0 0 = nI p ∧ ∀ c i j, ¬ (c = 52 ∧ i = 0 ∧ j = 0) → ¬ (c = 53 ∧ i = 0 ∧ j = 0) → m' c i j = m c i j := by
  unfold rdZ
  rw [ck0_4, lt_e, ck0_4, lt_e, if_pos (show (0 : Int32) = 0 from rfl), if_pos (show (0 : Int32) = 0 from rfl)]
  refine ⟨_, congrArg some (Prod.ext ?_ rfl), ?_, ?_, fun c i j z1 z2 => ?_⟩
  · dsimp only
    rw [u3_n (by omega), u3_s]
    exact b2_neg (by decide)
  · rw [u3_n (by omega), u3_s]
  · rw [u3_s, u3_n (by omega)]; exact h
  · rw [u3_n (by omega), u3_n (by omega)]
/-- what was read without a fault -/
def dnS (s : Nat) (mC mM : MI) : Prop :=
  (s = 0 → ∃ W H sl n, ∃ cu we ro : Nat → Nat, shOK W H sl n cu we ∧ ShC mC 8 W H sl n cu we ∧ (mM 59 0 0 = nI W ∧ mM 59 0 1 = nI H ∧ mM 59 0 2 = nI sl ∧ mM 59 0 3 = nI n) ∧ (∀ k, k < 30 → mM 59 0 (4 + k) = nI (ro k)) ∧ (∀ s, s < 6 → mM 59 0 (34 + s) = nI (we s)) ∧ (∀ s, s < n → cu s = cutN W ro s) ∧ (∀ s, n ≤ s → s < 6 → cu s = 0) ∧ (∀ k, k < 5 * n → ro k = 0 ∨ (k % 5 < H ∧ ro k < 2 ^ W))) ∧
  (s = 1 → ∃ n q, dO1 n q ∧ sC1 mC n q ∧ sM1 mM 40 n q) ∧ (s = 2 → ∃ n co, dO2 n co ∧ sC2 mC n co ∧ sM2 mM n co) ∧ (s = 3 → ∃ n q, dO3 n q ∧ sC3 mC n q ∧ sM1 mM 8 n q)
def rnO (s : Nat) (mC mM : MI) (wC wM : WS) (c : MI × WS) (r : Int32 × MI × WS) : Prop := c.2 = (wC.1, true, wC.2.2) ∧ r.2.2.2.2.1 = wM.2.2.1 ∧ clF mC c.1 ∧ (∀ c' i j, ¬ (c' = 10 ∧ i = 0) → ¬ (c' = 59 ∧ i = 0) → ¬ (c' = 60 ∧ i = 0) → ¬ (c' = 52 ∧ i = 0 ∧ j = 0) → ¬ (c' = 53 ∧ i = 0 ∧ j = 0) → r.2.1 c' i j = mM c' i j) ∧
  ((¬ c.1 4 0 4 = 0 ∧ r.1 = 0 ∧ r.2.1 52 0 0 = c.1 4 0 4 ∧ r.2.1 53 0 0 = c.1 4 0 5) ∨ (c.1 4 0 4 = 0 ∧ r.1 = 1 ∧ r.2.1 52 0 0 = 0 ∧ r.2.1 53 0 0 = -1 ∧ dnS s c.1 r.2.1))
theorem rd_bad {s p : Nat} {mC mC' mM mM' : MI} {wC wM : WS} {wd : Int64} (h16 : mM' 10 0 16 = nI p) (hC : clF mC mC') (hM : MF mM mM') : ∃ r, rdN (nI s) (0, mM', (wM.1, wM.2.1, wM.2.2.1, wd)) = some r ∧ rnO s mC mM wC wM (u3 (u3 mC' 4 0 4 1) 4 0 5 (nI p), (wC.1, true, wC.2.2)) r := by
  obtain ⟨m', e1, e2, e3, e4⟩ := rdZ_0 (w := (wM.1, wM.2.1, wM.2.2.1, wd)) h16
  unfold rdN
  dsimp only
  rw [if_pos (show (0 : Int32) = 0 from rfl), e1]
  refine ⟨_, rfl, rfl, rfl, fun c i j z1 z2 z3 z4 z5 => ?_, fun c i j z1 z2 z3 z4 z5 => ?_, Or.inl ⟨?_, rfl, ?_, ?_⟩⟩
  · dsimp only
    rw [u3_n (by omega), u3_n (by omega)]; exact hC c i j z1 z2 z3 z4 z5
  · dsimp only
    rw [e4 _ _ _ z4 z5]; exact hM c i j z1 z2 z3
  · dsimp only
    rw [u3_n (by omega), u3_s]; decide
  · dsimp only
    rw [e2, u3_n (by omega), u3_s]
  · dsimp only
    rw [e3, u3_s]
theorem rd_flt {s : Nat} {f : Nat × Nat} {mC mC' mM mM' mM2 : MI} {wC wM : WS} {wd : Int64} (f0 : f.1 ≠ 0) (hnC : ntC mC' f) (hnM : ntM mM2 f) (hC : clF mC mC') (hM : MF mM mM2) : ∃ r, rdZ mM2 1 (wM.1, wM.2.1, wM.2.2.1, wd) = some r ∧ rnO s mC mM wC wM (mC', (wC.1, true, wC.2.2)) r := by
  obtain ⟨m', e1, e2, e3, e4⟩ := rdZ_1 (w := (wM.1, wM.2.1, wM.2.2.1, wd)) hnM
  have h8 := hnC.1
  have nz : ¬ nI f.1 = 0 := nne0 (by omega) f0
  rw [e1]
  refine ⟨_, rfl, rfl, rfl, hC, fun c i j z1 z2 z3 z4 z5 => ?_, Or.inl ⟨?_, b2_neg nz, ?_, ?_⟩⟩
  · dsimp only
    rw [e4 _ _ _ z4 z5]; exact hM c i j z1 z2 z3
  · dsimp only
    rw [hnC.2.2.1]; exact nz
  · dsimp only
    rw [e2, hnC.2.2.1]
  · dsimp only
    rw [e3, if_neg f0, hnC.2.2.2 f0]
theorem rd_ok {s : Nat} {f : Nat × Nat} {mC mC' mM mM2 : MI} {wC wM : WS} {wd : Int64} (f0 : f.1 = 0) (hnC : ntC mC' f) (hnM : ntM mM2 f) (hC : clF mC mC') (hM : MF mM mM2) (hd : ∀ m', (∀ j, m' 59 0 j = mM2 59 0 j) → dnS s mC' m') : ∃ r, rdZ mM2 1 (wM.1, wM.2.1, wM.2.2.1, wd) = some r ∧ rnO s mC mM wC wM (mC', (wC.1, true, wC.2.2)) r := by
  obtain ⟨m', e1, e2, e3, e4⟩ := rdZ_1 (w := (wM.1, wM.2.1, wM.2.2.1, wd)) hnM
  have z0 : nI f.1 = 0 := by rw [f0]; rfl
  rw [e1]
  refine ⟨_, rfl, rfl, rfl, hC, fun c i j z1 z2 z3 z4 z5 => ?_, Or.inr ⟨?_, b2_pos z0, ?_, ?_, ?_⟩⟩
  · dsimp only
    rw [e4 _ _ _ z4 z5]; exact hM c i j z1 z2 z3
  · dsimp only
    rw [hnC.2.2.1]; exact z0
  · dsimp only
    rw [e2]; exact z0
  · dsimp only
    rw [e3, if_pos f0]
  · exact hd m' fun j => e4 _ _ _ (by omega) (by omega)
theorem tx_run {s : Nat} {b : Nat → Nat} {len : Nat} {mC mM : MI} {wC wM : WS} (hs : s < 4) (hl : len ≤ 600) (hb : ∀ k, k < len → mC 20 0 k = nI (b k) ∧ b k < 256) (hm : ∀ k, k < len → mM 50 0 k &&& 255 = nI (b k) ∧ b k < 256) (h11 : mM 10 0 11 = nI len) :
    ∃ c r, F_X5_read mC wC (nI len) (nI s) = some c ∧ F_X11_readText mM wM (nI s) = some r ∧ rnO s mC mM wC wM c r := by
  have h : s = 0 ∨ s = 1 ∨ s = 2 ∨ s = 3 := by omega
  -- a sort that is no shop
  have other : ∀ mC' mM' wd f, s ≠ 0 → ntC mC' f → ntM mM' f → clF mC mC' → MF mM mM' → (f.1 = 0 → ∀ m', (∀ j, m' 59 0 j = mM' 59 0 j) → dnS s mC' m') → ∃ c r, rdE mC' (wC.1, true, wC.2.2) (nI s) = some c ∧ rdN (nI s) (1, mM', (wM.1, wM.2.1, wM.2.2.1, wd)) = some r ∧ rnO s mC mM wC wM c r := by
    intro mC' mM' wd f s0 g1 g2 g3 g4 g5
    have n0 : ¬ nI s = 0 := nne0 (by omega) s0
    have eC : rdE mC' (wC.1, true, wC.2.2) (nI s) = some (mC', (wC.1, true, wC.2.2)) := by
      unfold rdE
      by_cases z : mC' 4 0 4 = 0
      · rw [if_pos z, if_neg n0]
      · rw [if_neg z]
    have eM : rdN (nI s) (1, mM', (wM.1, wM.2.1, wM.2.2.1, wd)) = rdZ mM' 1 (wM.1, wM.2.1, wM.2.2.1, wd) := by
      unfold rdN
      dsimp only
      rw [if_neg (show ¬ (1 : Int32) = 0 by decide), if_neg n0]
    by_cases f0 : f.1 = 0
    · obtain ⟨r, r1, r2⟩ := rd_ok (s := s) (wC := wC) (wM := wM) (wd := wd) f0 g1 g2 g3 g4 (g5 f0)
      exact ⟨_, r, eC, eM.trans r1, r2⟩
    · obtain ⟨r, r1, r2⟩ := rd_flt (s := s) (mM' := mM') (wC := wC) (wM := wM) (wd := wd) f0 g1 g2 g3 g4
      exact ⟨_, r, eC, eM.trans r1, r2⟩
  rcases h with h | h | h | h <;> subst h
  · rcases tx_read (wC := wC) (wM := wM) hs hs_0 hm_0 hc_0 (fun mC mM h1 h2 h3 => st_0 h1 h2 h3) hl hb hm h11 with ⟨mC', mM', wd, pos', f', g1, g2, g3, g4, g5, g6, g7, g8, g9, g10⟩ | ⟨mC', mM', wd, p, g1, g2, g3, g4, g5, g6⟩
    · rw [g1, g2]
      have h600 := g4.1
      obtain ⟨p1, p2, p3⟩ := tk_le (b := b) g3
      by_cases f0 : f'.1 = 0
      · obtain ⟨W, H, sl, n, wb, ro, we, d1, d2, d3⟩ := g8.2.2 f0
        obtain ⟨mC2, x1, x2, x3, x4, x5⟩ := c_shopEnd (w := (wC.1, true, wC.2.2)) (p := tkP b len pos') (by omega) d1 d2 g5.2.2.1 g6 f0
        obtain ⟨mM2, y1, y2, y3, y4, y5⟩ := m_shopEnd (w := (wM.1, wM.2.1, wM.2.2.1, wd)) (p := tkP b len pos') (by omega) d1 d3 g7.2.1.2.1 g7.2.2.1 f0
        have fC := clF_trans g9 x2
        have fM : MF mM mM2 := MF_trans g10 fun c i j z1 z2 z3 => y2 _ _ _ (by omega)
        have x1' : rdE mC' (wC.1, true, wC.2.2) (nI 0) = some (mC2, (wC.1, true, wC.2.2)) := x1
        have y1' : rdN (nI 0) (1, mM', (wM.1, wM.2.1, wM.2.2.1, wd)) = rdZ mM2 1 (wM.1, wM.2.1, wM.2.2.1, wd) := y1
        rw [x1', y1']
        by_cases q1 : faI wb < nI n
        · by_cases q2 : ∃ j, j < 5 * n ∧ baK W H ro j
          · obtain ⟨r, r1, r2⟩ := rd_flt (s := 0) (mM' := mM') (wC := wC) (wM := wM) (wd := wd) (f := (5, tkP b len pos')) (show (5 : Nat) ≠ 0 by decide) (x4 q1 q2) (y4 q1 q2) fC fM
            exact ⟨_, r, rfl, r1, r2⟩
          · obtain ⟨k1, k2⟩ := x5 q1 q2
            obtain ⟨e1, e2, e3, e4, e5, e6, e7, e8⟩ := d1
            have good : ∀ k, k < 5 * n → ro k = 0 ∨ (k % 5 < H ∧ ro k < 2 ^ W) := by
              intro k hk
              by_cases z : ro k = 0
              · exact Or.inl z
              · refine Or.inr ⟨Classical.byContradiction fun y => q2 ⟨k, hk, z, Or.inl (by omega)⟩, ?_⟩
                have z2 : ro k >>> W = 0 := Classical.byContradiction fun y => q2 ⟨k, hk, z, Or.inr y⟩
                rw [Nat.shiftRight_eq_div_pow] at z2
                exact (Nat.div_eq_zero_iff.mp z2).resolve_left (by have := Nat.two_pow_pos W; omega)
            have hd : ∀ m', (∀ j, m' 59 0 j = mM2 59 0 j) → dnS 0 mC2 m' := by
              intro m' hm'
              refine ⟨fun _ => ⟨W, H, sl, n, acN W ro (5 * n), we, ro, ⟨e1, e2, e3, e4, fun s hs => ac_lt ⟨e1, e2⟩ q2 hs, e8⟩, k2, ⟨?_, ?_, ?_, ?_⟩, fun k hk => ?_, fun s hs => ?_, fun s hs => ?_, fun s h1 h2 => ?_, good⟩, fun z => absurd z (by decide), fun z => absurd z (by decide), fun z => absurd z (by decide)⟩
              · rw [hm', y2 _ _ _ (by omega)]; exact d3.1
              · rw [hm', y2 _ _ _ (by omega)]; exact d3.2.1
              · rw [hm', y2 _ _ _ (by omega)]; exact d3.2.2.1
              · rw [hm', y2 _ _ _ (by omega)]; exact d3.2.2.2.1
              · rw [hm', y2 _ _ _ (by omega)]; exact d3.2.2.2.2.1 k hk
              · rw [hm', y2 _ _ _ (by omega)]; exact d3.2.2.2.2.2.1 s hs
              · unfold acN cutN
                rw [show min 5 (5 * n - 5 * s) = 5 by omega]
              · unfold acN
                rw [show min 5 (5 * n - 5 * s) = 0 by omega]
                rfl
            obtain ⟨r, r1, r2⟩ := rd_ok (s := 0) (wC := wC) (wM := wM) (wd := wd) f0 k1 (y5 q1 q2) fC fM hd
            exact ⟨_, r, rfl, r1, r2⟩
        · obtain ⟨r, r1, r2⟩ := rd_flt (s := 0) (mM' := mM') (wC := wC) (wM := wM) (wd := wd) (f := (4, tkP b len pos')) (show (4 : Nat) ≠ 0 by decide) (x3 q1) (y3 q1) fC fM
          exact ⟨_, r, rfl, r1, r2⟩
      · have h8 := g6.1
        have nz : ¬ nI f'.1 = 0 := nne0 (by omega) f0
        have eC : rdE mC' (wC.1, true, wC.2.2) (nI 0) = some (mC', (wC.1, true, wC.2.2)) := by
          unfold rdE
          rw [if_neg (show ¬ mC' 4 0 4 = 0 by rw [g6.2.2.1]; exact nz)]
        have eM : rdN (nI 0) (1, mM', (wM.1, wM.2.1, wM.2.2.1, wd)) = rdZ mM' 1 (wM.1, wM.2.1, wM.2.2.1, wd) := by
          unfold rdN
          dsimp only
          rw [if_neg (show ¬ (1 : Int32) = 0 by decide), if_pos (show nI 0 = 0 from rfl), if_neg (show ¬ mM' 10 0 17 = 0 by rw [g7.2.2.1.2.2.1]; exact nz)]
        rw [eC, eM]
        obtain ⟨r, r1, r2⟩ := rd_flt (s := 0) (mM' := mM') (wC := wC) (wM := wM) (wd := wd) f0 g6 g7.2.2.1 g9 g10
        exact ⟨_, r, rfl, r1, r2⟩
    · rw [g1, g2]
      obtain ⟨r, r1, r2⟩ := rd_bad (s := 0) (wC := wC) (wM := wM) (wd := wd) g4 g5 g6
      exact ⟨_, r, rfl, r1, r2⟩
  · rcases tx_read (wC := wC) (wM := wM) hs hs_1 hm_1 hc_1 (fun mC mM h1 h2 _ => st_1 h1 h2) hl hb hm h11 with ⟨mC', mM', wd, pos', f', g1, g2, g3, g4, g5, g6, g7, g8, g9, g10⟩ | ⟨mC', mM', wd, p, g1, g2, g3, g4, g5, g6⟩
    · rw [g1, g2]
      refine other mC' mM' wd f' (by decide) g6 g7.2.2.1 g9 g10 fun f0 m' hm' => ⟨fun z => absurd z (by decide), fun _ => ?_, fun z => absurd z (by decide), fun z => absurd z (by decide)⟩
      obtain ⟨n, q, d1, d2, d3⟩ := g8.2.2 f0
      exact ⟨n, q, d1, d2, by unfold sM1 at d3 ⊢; simp only [hm']; exact d3⟩
    · rw [g1, g2]
      obtain ⟨r, r1, r2⟩ := rd_bad (s := 1) (wC := wC) (wM := wM) (wd := wd) g4 g5 g6
      exact ⟨_, r, rfl, r1, r2⟩
  · rcases tx_read (wC := wC) (wM := wM) hs hs_2 hm_2 hc_2 (fun mC mM h1 h2 _ => st_2 h1 h2) hl hb hm h11 with ⟨mC', mM', wd, pos', f', g1, g2, g3, g4, g5, g6, g7, g8, g9, g10⟩ | ⟨mC', mM', wd, p, g1, g2, g3, g4, g5, g6⟩
    · rw [g1, g2]
      refine other mC' mM' wd f' (by decide) g6 g7.2.2.1 g9 g10 fun f0 m' hm' => ⟨fun z => absurd z (by decide), fun z => absurd z (by decide), fun _ => ?_, fun z => absurd z (by decide)⟩
      obtain ⟨n, q, d1, d2, d3⟩ := g8.2.2 f0
      exact ⟨n, q, d1, d2, by unfold sM2 at d3 ⊢; simp only [hm']; exact d3⟩
    · rw [g1, g2]
      obtain ⟨r, r1, r2⟩ := rd_bad (s := 2) (wC := wC) (wM := wM) (wd := wd) g4 g5 g6
      exact ⟨_, r, rfl, r1, r2⟩
  · rcases tx_read (wC := wC) (wM := wM) hs hs_3 hm_3 hc_3 (fun mC mM h1 h2 _ => st_3 h1 h2) hl hb hm h11 with ⟨mC', mM', wd, pos', f', g1, g2, g3, g4, g5, g6, g7, g8, g9, g10⟩ | ⟨mC', mM', wd, p, g1, g2, g3, g4, g5, g6⟩
    · rw [g1, g2]
      refine other mC' mM' wd f' (by decide) g6 g7.2.2.1 g9 g10 fun f0 m' hm' => ⟨fun z => absurd z (by decide), fun z => absurd z (by decide), fun z => absurd z (by decide), fun _ => ?_⟩
      obtain ⟨n, q, d1, d2, d3⟩ := g8.2.2 f0
      exact ⟨n, q, d1, d2, by unfold sM1 at d3 ⊢; simp only [hm']; exact d3⟩
    · rw [g1, g2]
      obtain ⟨r, r1, r2⟩ := rd_bad (s := 3) (wC := wC) (wM := wM) (wd := wd) g4 g5 g6
      exact ⟨_, r, rfl, r1, r2⟩
