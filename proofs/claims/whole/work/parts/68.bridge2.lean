theorem lo_74 {m : MI} {w : WS} {W H cut a b : Nat} {x1 x2 x3 : Int32} {k48 : MI → Int32 → Int32 → Int32 → Int32 → Int32 → Int32 → Option (Int32 × MI)} {k61 : MI → Int32 → Int32 → Int32 → Int32 → Int32 → Int32 → Int32 → Option (Int32 × MI)}
    (bw : BW W H) (mw : MW m W H) (ha : a < W * H) (hb : b < W * H) : ∀ r f c V o, c + r = W * H → r < f → BsP W H cut V o →
    ∃ o', L_X11_bridges_74 w k48 k61 f m x1 x2 x3 (nI cut) (enO o) (nI a) (nI b) (nI c) = k61 m x1 x2 x3 (nI cut) (enO o') (nI a) (nI (b + 1)) ∧ BsP W H cut (fun X => V X ∨ ∃ c', c ≤ c' ∧ c' < W * H ∧ X = (1 <<< a ||| 1 <<< b) ||| 1 <<< c') o' := by
  have hC := cells_le bw.1.2 bw.2.2
  intro r
  induction r with
  | zero =>
    intro f c V o hc hf B
    obtain ⟨f, rfl⟩ : ∃ m, f = m + 1 := ⟨f - 1, by omega⟩
    refine ⟨o, ?_, bs_iff (fun X => ⟨Or.inl, fun q => q.elim id fun ⟨c', q1, q2, _⟩ => absurd q1 (by omega)⟩) B⟩
    rw [L_X11_bridges_74, mw.2.2, if_pos (show nI (W * H) ≤ nI c by rw [nle (by omega) (by omega)]; omega), show nI b + 1 = nI (b + 1) from nI_add b 1]
  | succ r ih =>
    intro f c V o hc hf B
    obtain ⟨f, rfl⟩ : ∃ m, f = m + 1 := ⟨f - 1, by omega⟩
    obtain ⟨o1, e1, B1⟩ := st_74 (w := w) (k48 := k48) (k61 := k61) (x1 := x1) (x2 := x2) (x3 := x3) bw mw ha hb (show c < W * H by omega) B f
    obtain ⟨o2, e2, B2⟩ := ih f (c + 1) _ o1 (by omega) (by omega) B1
    refine ⟨o2, e1.trans e2, bs_iff (fun X => ⟨?_, ?_⟩) B2⟩
    · rintro ((q | q) | ⟨c', q1, q2, q3⟩)
      · exact Or.inl q
      · exact Or.inr ⟨c, by omega, by omega, q⟩
      · exact Or.inr ⟨c', by omega, q2, q3⟩
    · rintro (q | ⟨c', q1, q2, q3⟩)
      · exact Or.inl (Or.inl q)
      · by_cases e : c' = c
        · rw [e] at q3; exact Or.inl (Or.inr q3)
        · exact Or.inr ⟨c', by omega, q2, q3⟩
theorem lo_61 {m : MI} {w : WS} {W H cut a : Nat} {x1 x2 x3 : Int32} {k48 : MI → Int32 → Int32 → Int32 → Int32 → Int32 → Int32 → Option (Int32 × MI)}
    (bw : BW W H) (mw : MW m W H) (ha : a < W * H) : ∀ r f b V o, b + r = W * H → r < f → BsP W H cut V o →
    ∃ o', L_X11_bridges_61 w k48 f m x1 x2 x3 (nI cut) (enO o) (nI a) (nI b) = k48 m x1 x2 x3 (nI cut) (enO o') (nI (a + 1)) ∧ BsP W H cut (fun X => V X ∨ ∃ b' c', b ≤ b' ∧ b' ≤ c' ∧ c' < W * H ∧ X = (1 <<< a ||| 1 <<< b') ||| 1 <<< c') o' := by
  have hC := cells_le bw.1.2 bw.2.2
  intro r
  induction r with
  | zero =>
    intro f b V o hb hf B
    obtain ⟨f, rfl⟩ : ∃ m, f = m + 1 := ⟨f - 1, by omega⟩
    refine ⟨o, ?_, bs_iff (fun X => ⟨Or.inl, fun q => q.elim id fun ⟨b', c', q1, q2, q3, _⟩ => absurd q1 (by omega)⟩) B⟩
    rw [L_X11_bridges_61, mw.2.2, if_pos (show nI (W * H) ≤ nI b by rw [nle (by omega) (by omega)]; omega), show nI a + 1 = nI (a + 1) from nI_add a 1]
  | succ r ih =>
    intro f b V o hb hf B
    obtain ⟨f, rfl⟩ : ∃ m, f = m + 1 := ⟨f - 1, by omega⟩
    obtain ⟨o1, e1, B1⟩ := lo_74 (w := w) (k48 := k48) (k61 := fun mi x1 x2 x3 x4 x5 x6 x7 => L_X11_bridges_61 w k48 f mi x1 x2 x3 x4 x5 x6 x7) (x1 := x1) (x2 := x2) (x3 := x3) bw mw ha (show b < W * H by omega) (W * H - b) 1000000 b V o (by omega) (by omega) B
    obtain ⟨o2, e2, B2⟩ := ih f (b + 1) _ o1 (by omega) (by omega) B1
    refine ⟨o2, ?_, bs_iff (fun X => ⟨?_, ?_⟩) B2⟩
    · rw [L_X11_bridges_61, mw.2.2, if_neg (show ¬ nI (W * H) ≤ nI b by rw [nle (by omega) (by omega)]; omega)]
      exact e1.trans e2
    · rintro ((q | ⟨c', q1, q2, q3⟩) | ⟨b', c', q1, q2, q3, q4⟩)
      · exact Or.inl q
      · exact Or.inr ⟨b, c', by omega, q1, q2, q3⟩
      · exact Or.inr ⟨b', c', by omega, q2, q3, q4⟩
    · rintro (q | ⟨b', c', q1, q2, q3, q4⟩)
      · exact Or.inl (Or.inl q)
      · by_cases e : b' = b
        · rw [e] at q4 q2; exact Or.inl (Or.inr ⟨c', q2, q3, q4⟩)
        · exact Or.inr ⟨b', c', by omega, q2, q3, q4⟩
theorem lo_48 {m : MI} {w : WS} {W H cut : Nat} {x1 x2 x3 : Int32} (bw : BW W H) (mw : MW m W H) : ∀ r f a V o, a + r = W * H → r < f → BsP W H cut V o →
    ∃ o', L_X11_bridges_48 w f m x1 x2 x3 (nI cut) (enO o) (nI a) = (if enO o' = (-1) then some (enO o', m) else if x3 = 0 then (F_X11_ones m w (enO o')).bind fun c209 => some (c209, m) else some (enO o', m)) ∧ BsP W H cut (fun X => V X ∨ ∃ a' b' c', a ≤ a' ∧ a' ≤ b' ∧ b' ≤ c' ∧ c' < W * H ∧ X = (1 <<< a' ||| 1 <<< b') ||| 1 <<< c') o' := by
  have hC := cells_le bw.1.2 bw.2.2
  intro r
  induction r with
  | zero =>
    intro f a V o ha hf B
    obtain ⟨f, rfl⟩ : ∃ m, f = m + 1 := ⟨f - 1, by omega⟩
    refine ⟨o, ?_, bs_iff (fun X => ⟨Or.inl, fun q => q.elim id fun ⟨a', b', c', q1, q2, q3, q4, _⟩ => absurd q1 (by omega)⟩) B⟩
    rw [L_X11_bridges_48, mw.2.2, if_pos (show nI (W * H) ≤ nI a by rw [nle (by omega) (by omega)]; omega)]
  | succ r ih =>
    intro f a V o ha hf B
    obtain ⟨f, rfl⟩ : ∃ m, f = m + 1 := ⟨f - 1, by omega⟩
    obtain ⟨o1, e1, B1⟩ := lo_61 (w := w) (k48 := fun mi x1 x2 x3 x4 x5 x6 => L_X11_bridges_48 w f mi x1 x2 x3 x4 x5 x6) (x1 := x1) (x2 := x2) (x3 := x3) bw mw (show a < W * H by omega) (W * H - a) 1000000 a V o (by omega) (by omega) B
    obtain ⟨o2, e2, B2⟩ := ih f (a + 1) _ o1 (by omega) (by omega) B1
    refine ⟨o2, ?_, bs_iff (fun X => ⟨?_, ?_⟩) B2⟩
    · rw [L_X11_bridges_48, mw.2.2, if_neg (show ¬ nI (W * H) ≤ nI a by rw [nle (by omega) (by omega)]; omega)]
      exact e1.trans e2
    · rintro ((q | ⟨b', c', q1, q2, q3, q4⟩) | ⟨a', b', c', q1, q2, q3, q4, q5⟩)
      · exact Or.inl q
      · exact Or.inr ⟨a, b', c', by omega, q1, q2, q3, q4⟩
      · exact Or.inr ⟨a', b', c', by omega, q2, q3, q4, q5⟩
    · rintro (q | ⟨a', b', c', q1, q2, q3, q4, q5⟩)
      · exact Or.inl (Or.inl q)
      · by_cases e : a' = a
        · rw [e] at q5 q2; exact Or.inl (Or.inr ⟨b', c', q2, q3, q4, q5⟩)
        · exact Or.inr ⟨a', b', c', by omega, q2, q3, q4, q5⟩
/-- sets of one, two or three cells are the sums of three cells in order -/
theorem pop_or_le (y : Nat) {c : Nat} (hc : c < 25) : popN (y ||| 1 <<< c) ≤ popN y + 1 := by
  cases q : y.testBit c
  · refine Nat.le_of_eq (sN_one hc (fun k _ hk => ?_) ?_)
    · unfold bN
      rw [Nat.testBit_or, one_tb2, decide_eq_false (Ne.symm hk), Bool.or_false]
    · unfold bN
      rw [Nat.testBit_or, one_tb2, decide_eq_true rfl, Bool.or_true, q]
      rfl
  · have : y ||| 1 <<< c = y := eq_tb fun i => by
      rw [Nat.testBit_or, one_tb2, Bool.or_eq_true, decide_eq_true_eq]
      exact ⟨fun h => h.elim id fun e => by rw [← e]; exact q, Or.inl⟩
    rw [this]
    omega
theorem top_cell {X N : Nat} (hX : X < 2 ^ N) (hN : N ≤ 25) (h0 : popN X ≠ 0) : ∃ y c, c < N ∧ y < 2 ^ c ∧ X = y ||| 1 <<< c ∧ popN X = popN y + 1 := by
  have hp : 2 ^ N ≤ 2 ^ 25 := Nat.pow_le_pow_right (by omega) hN
  have hx : X ≠ 0 := fun q => h0 ((pop_0 (by omega)).mpr q)
  have h1 : X < 2 ^ (X.log2 + 1) := Nat.lt_log2_self
  have hc : X.log2 < N := (Nat.log2_lt hx).mpr hX
  have h2 : X.testBit X.log2 = true := by
    cases q : X.testBit X.log2
    · have := no_top h1 q
      have h3 := Nat.log2_self_le hx
      omega
    · rfl
  obtain ⟨y, hy, e⟩ := top_off h1 h2
  exact ⟨y, X.log2, hc, hy, e, by have := pop_or hy (show X.log2 < 25 by omega); rw [← e] at this; exact this⟩
theorem three {X N : Nat} (hN : N ≤ 25) (hX : X < 2 ^ N) (h1 : 1 ≤ popN X) (h3 : popN X ≤ 3) : ∃ a b c, a ≤ b ∧ b ≤ c ∧ c < N ∧ X = (1 <<< a ||| 1 <<< b) ||| 1 <<< c := by
  have z : ∀ {y c : Nat}, c < 25 → y < 2 ^ c → popN y = 0 → y = 0 := fun {y c} hc hy h => (pop_0 (Nat.lt_of_lt_of_le hy (Nat.pow_le_pow_right (by omega) (by omega)))).mp h
  obtain ⟨y, c, hc, hy, rfl, e1⟩ := top_cell hX hN (by omega)
  by_cases q1 : popN y = 0
  · have := z (by omega) hy q1
    subst this
    exact ⟨c, c, c, Nat.le_refl _, Nat.le_refl _, hc, by rw [Nat.zero_or, Nat.or_self, Nat.or_self]⟩
  · obtain ⟨u, b, hb, hu, rfl, e2⟩ := top_cell hy (by omega) q1
    by_cases q2 : popN u = 0
    · have := z (by omega) hu q2
      subst this
      exact ⟨b, b, c, Nat.le_refl _, by omega, hc, by rw [Nat.zero_or, Nat.or_self]⟩
    · obtain ⟨v, a, ha, hv, rfl, e3⟩ := top_cell hu (by omega) q2
      have := z (c := a) (by omega) hv (by omega)
      subst this
      exact ⟨a, b, c, by omega, by omega, hc, by rw [Nat.zero_or]⟩
theorem op_bridges {mi : MI} {w : WS} (I : Inv mi w) (x1 : Int32) (x2 : Int32) (x3 : Int32) (hb : x3 = 0 ∨ x3 = 1) : ∃ c, F_X10_bridges mi w x1 x2 x3 = some c ∧ ∃ e, F_X11_bridges mi w x1 x2 x3 = some e ∧ c = e.1 ∧ Inv e.2 w := by
  have key : ∃ c, F_X10_bridges mi w x1 x2 x3 = some c ∧ ∃ e, F_X11_bridges mi w x1 x2 x3 = some e ∧ c = e.1 := by
    unfold F_X10_bridges F_X11_bridges
    refine shop_op I x1 (-1) rfl (fun m => ⟨_, if_pos rfl⟩) fun j W H sl n cu we m hj ok hc hd K => ?_
    dsimp only [onO]
    have hn := ok.cnt
    have hC := ok.cells
    rw [if_neg ne10]
    by_cases h2 : ∃ s, s < n ∧ x2 = nI s
    · rw [if_pos ((hc.sheet ok _).mpr h2), if_pos ((hd.sheet ok _).mpr h2)]
      obtain ⟨s, hs, rfl⟩ := h2
      have hcu := pw (ok.cu (s := s) (by omega)) hC
      rw [ck6 (by omega), ck6 (by omega), ncl (by omega), hc.cut (by omega), hd.cut (by omega), m_fallsBy w ok.bw hd.mw, Option.bind_some]
      obtain ⟨r, f1, f2⟩ := c_fewest (mi := mi) (cut := cu s) w ok.bw hc.cw hcu
      rw [f1, Option.bind_some]
      have hz : andn (cu s) 0 = cu s := by unfold andn; rw [Nat.and_zero, Nat.xor_zero]
      by_cases h0 : fallN W H (cu s) = 0
      · have P0 : PT W H (cu s) 0 25 0 := ⟨Nat.zero_and _, (pop_0 (by omega)).mpr rfl, by omega, by rw [hz]; exact h0⟩
        have hr : r = nI 0 := by
          rcases f2 with ⟨-, h⟩ | ⟨x, k, hk, rfl, h1, -, h4⟩
          · exact absurd P0 (h 0 0 (by omega))
          · by_cases ek : k = 0
            · subst ek
              rw [(pop_0 h1.2.2.1).mp h1.2.1]
            · exact absurd P0 (h4 0 0 (by omega))
        rw [hr, if_pos (show nI (fallN W H (cu s)) = 0 by rw [h0]; rfl)]
        rcases hb with rfl | rfl
        · rw [if_pos rfl, if_neg (by decide), c_pop (by omega), (pop_0 (by omega)).mpr rfl]
          exact ⟨_, m, rfl, rfl⟩
        · rw [if_neg (by decide)]
          exact ⟨_, m, rfl, rfl⟩
      · have hfl := pw (fall_lt W H (cu s)) hC
        rw [if_neg (nne0 (by omega) h0)]
        have no0 : ∀ X, ¬ PT W H (cu s) 0 25 X := fun X ⟨_, h2, h3, h4⟩ => by
          have := (pop_0 h3).mp h2
          subst this
          rw [hz] at h4
          exact h0 h4
        obtain ⟨o, e1, e2⟩ := lo_48 (m := m) (w := w) (cut := cu s) (x1 := x1) (x2 := nI s) (x3 := x3) ok.bw hd.mw (W * H) 1000000 0 (fun _ => False) none (by omega) (by omega) (Or.inl ⟨rfl, fun _ q => q.elim⟩)
        have e1' : L_X11_bridges_48 w 1000000 m x1 (nI s) x3 (nI (cu s)) (-1) 0 = _ := e1
        rw [e1']
        have hV : ∀ X k, 1 ≤ k → k ≤ 3 → PT W H (cu s) k 25 X → (False ∨ ∃ a' b' c', 0 ≤ a' ∧ a' ≤ b' ∧ b' ≤ c' ∧ c' < W * H ∧ X = (1 <<< a' ||| 1 <<< b') ||| 1 <<< c') ∧ gdN W H (cu s) X := by
          intro X k k1 k3 ⟨h1, h2, h3, h4⟩
          have hX : X < 2 ^ (W * H) := by rw [← h1]; exact and_lt_r (ok.cu (by omega))
          obtain ⟨a, b, c, q1, q2, q3, q4⟩ := three hC hX (by omega) (by omega)
          exact ⟨Or.inr ⟨a, b, c, Nat.zero_le _, q1, q2, q3, q4⟩, h1, h4⟩
        rcases e2 with ⟨rfl, g1⟩ | ⟨B, rfl, g1, g2, g3, g4⟩
        · have hr : r = -1 := by
            rcases f2 with ⟨h, -⟩ | ⟨x, k, hk, rfl, h1, -, h4⟩
            · exact h
            · by_cases ek : k = 0
              · subst ek; exact absurd h1 (no0 x)
              · obtain ⟨v1, v2⟩ := hV x k (by omega) hk h1
                exact absurd v2 (g1 x v1)
          rw [hr, if_pos (show enO none = -1 from rfl)]
          rcases hb with rfl | rfl
          · rw [if_pos rfl, if_pos rfl]
            exact ⟨_, m, rfl, rfl⟩
          · rw [if_neg (by decide)]
            exact ⟨_, m, rfl, rfl⟩
        · have hB3 : popN B ≤ 3 := by
            rcases g1 with q | ⟨a, b, c, -, q1, q2, q3, rfl⟩
            · exact q.elim
            · have p1 := pop_or_le (1 <<< a ||| 1 <<< b) (show c < 25 by omega)
              have p2 := pop_or_le (1 <<< a) (show b < 25 by omega)
              have p3 := pop_or_le 0 (show a < 25 by omega)
              rw [Nat.zero_or, (pop_0 (by omega)).mpr rfl] at p3
              omega
          have PB : PT W H (cu s) (popN B) 25 B := ⟨g3.1, rfl, by omega, g3.2⟩
          have hr : r = nI B := by
            rcases f2 with ⟨-, h⟩ | ⟨x, k, hk, rfl, h1, h5, h4⟩
            · exact absurd PB (h B _ hB3)
            · by_cases ek : k = 0
              · subst ek; exact absurd h1 (no0 x)
              · obtain ⟨v1, v2⟩ := hV x k (by omega) hk h1
                have le := g4 x v1 v2
                have hx := h1.2.1
                have hkB : ¬ popN B < k := fun q => h4 B _ q PB
                unfold leP at le
                have ekB : popN B = k := by omega
                have := h5 B (by rw [← ekB]; exact PB)
                have : x = B := by omega
                rw [this]
          rw [hr, if_neg (show ¬ enO (some B) = -1 from not_m1 (by omega))]
          rcases hb with rfl | rfl
          · rw [if_pos rfl, if_pos rfl, if_neg (show ¬ nI B = -1 from not_m1 (by omega)), c_pop g2, show enO (some B) = nI B from rfl, m_ones m w g2, Option.bind_some]
            exact ⟨_, m, rfl, rfl⟩
          · rw [if_neg (by decide), if_neg (by decide)]
            exact ⟨_, m, rfl, rfl⟩
    · rw [if_neg fun q => h2 ((hc.sheet ok _).mp q), if_neg fun q => h2 ((hd.sheet ok _).mp q)]
      exact ⟨_, _, rfl, rfl⟩
  obtain ⟨c, h1, e, h2, h3⟩ := key
  exact ⟨c, h1, e, h2, h3, Inv_m I (kp_X11_bridges h2)⟩
