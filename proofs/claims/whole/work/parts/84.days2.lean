/-! CALLS OF A DAY: stop, state, after, themselves -/
theorem op_stop {mi : MI} {w : WS} (I : Inv mi w) (x1 : Int32) (x2 : Int32) : ∃ c, F_X10_stop mi w x1 x2 = some c ∧ ∃ e, F_X11_stop c.2.1 c.2.2 x1 x2 = some e ∧ c.1 = e.1 ∧ Inv e.2 c.2.2 ∧ c.2.2.2.2.1 = w.2.2.1 := by
  rcases day_both I x1 x2 with ⟨h1, h2⟩ | ⟨j, jd, W, H, sl, n, nd, cu, we, hj, hjd, g1, g2, ok, hc, hnd, d0, dq, hm⟩
  · have hcls : F_X10_stop mi w x1 x2 = some (-1, mi, w) := by
      unfold F_X10_stop
      rcases h1 with ⟨a, o, b⟩ | ⟨⟨j, a⟩, b⟩
      · rw [a, Option.bind_some, onO_n, b, Option.bind_some]
        cases o <;> rfl
      · rw [a, Option.bind_some, onO_s, b, Option.bind_some, onO_n]
    obtain ⟨m', e⟩ := h2 (u3 mi 10 0 0 0) w (keep_c mi)
    have hmod : F_X11_stop mi w x1 x2 = some (-1, m') := by
      unfold F_X11_stop
      rw [e, Option.bind_some, if_pos rfl]
    exact ⟨_, hcls, _, hmod, rfl, Inv_m I (kp_X11_stop hmod), rfl⟩
  · obtain ⟨mb, b1, b4, b3⟩ := c_begin (w := w) hc
    have Kb : Keep mi mb := kp_X9_begin b1
    have hn0 : mb 0 jd 0 = nI nd := by rw [Kb 0 jd 0 (st_c (by omega) (by omega))]; exact d0
    obtain ⟨mr, r1, r2, r3, r4⟩ := c_run (w := (j, w.2)) (N := nd) (i := jd) ok (show j < 8 by omega) (by omega) dq hnd (Nat.le_refl _) nd (1000000 + 1) 0 (D0 cu) mb (by omega) (by omega) (ShC_keep Kb (by omega) hc) hn0 (fun p _ => Kb 29 jd p (st_c (by omega) (by omega))) b4 (dok_0 ok) b3
    have hrun : F_X9_run mb (j, w.2) jd (nI nd) = _ := (run_L mb (j, w.2) jd (nI nd)).trans r1
    have hcls : F_X10_stop mi w x1 x2 = some (nI (goN (stpN W H n we (mi 29 jd)) nd 0 (D0 cu)).1, mr, (j, w.2)) := by
      unfold F_X10_stop
      rw [g1, Option.bind_some, onO_s, g2, Option.bind_some, onO_s, b1, Option.bind_some]
      dsimp only
      rw [hn0, hrun, Option.bind_some]
    have Kr : Keep mi mr := keep_trans Kb (kp_X9_run hrun)
    obtain ⟨m1, l1, l2, l3, l4, l5⟩ := hm (u3 mr 10 0 0 0) (j, w.2) (keep_u3 rfl Kr)
    obtain ⟨mp, p1, p2, p3⟩ := m_play (w := (j, w.2)) ok hj hjd dq hnd (Nat.le_refl nd) nd 1000000 0 (D0 cu) m1 (by omega) (by omega) l3 l5 l2 (dok_0 ok)
    have hmod : F_X11_stop mr (j, w.2) x1 x2 = some (nI (goN (stpN W H n we (mi 29 jd)) nd 0 (D0 cu)).1, mp) := by
      unfold F_X11_stop F_X11_play
      rw [l1, Option.bind_some, if_neg ne10, m_deeds _ l3 hjd, Option.bind_some, l4]
      dsimp only
      have p1' : L_X11_play_2 (j, w.2) 1000000 m1 (nI nd) 0 = _ := p1
      rw [p1', Option.bind_some]
    exact ⟨_, hcls, _, hmod, rfl, Inv_keep (keep_trans Kr (kp_X11_stop hmod)) rfl I, rfl⟩
theorem op_state {mi : MI} {w : WS} (I : Inv mi w) (x1 : Int32) (x2 : Int32) (x3 : Int32) (x4 : Int32) : ∃ c, F_X10_state mi w x1 x2 x3 x4 = some c ∧ ∃ e, F_X11_state c.2.1 c.2.2 x1 x2 x3 x4 = some e ∧ c.1 = e.1 ∧ Inv e.2 c.2.2 ∧ c.2.2.2.2.1 = w.2.2.1 := by
  rcases day_both I x1 x2 with ⟨h1, h2⟩ | ⟨j, jd, W, H, sl, n, nd, cu, we, hj, hjd, g1, g2, ok, hc, hnd, d0, dq, hm⟩
  · have hcls : F_X10_state mi w x1 x2 x3 x4 = some (-1, mi, w) := by
      unfold F_X10_state
      rcases h1 with ⟨a, o, b⟩ | ⟨⟨j, a⟩, b⟩
      · rw [a, Option.bind_some, onO_n, b, Option.bind_some]
        cases o <;> rfl
      · rw [a, Option.bind_some, onO_s, b, Option.bind_some, onO_n]
    obtain ⟨m', e⟩ := h2 (u3 mi 10 0 0 0) w (keep_c mi)
    have hmod : F_X11_state mi w x1 x2 x3 x4 = some (-1, m') := by
      unfold F_X11_state
      rw [e, Option.bind_some, if_pos rfl]
    exact ⟨_, hcls, _, hmod, rfl, Inv_m I (kp_X11_state hmod), rfl⟩
  · by_cases hN : ∃ N, N ≤ nd ∧ x3 = nI N
    · obtain ⟨N, hN, rfl⟩ := hN
      obtain ⟨mb, b1, b4, b3⟩ := c_begin (w := w) hc
      have Kb : Keep mi mb := kp_X9_begin b1
      have hn0 : mb 0 jd 0 = nI nd := by rw [Kb 0 jd 0 (st_c (by omega) (by omega))]; exact d0
      obtain ⟨mr, r1, r2, r3, r4⟩ := c_run (w := (j, w.2)) (N := N) (i := jd) ok (show j < 8 by omega) (by omega) dq hnd hN N (1000000 + 1) 0 (D0 cu) mb (by omega) (by omega) (ShC_keep Kb (by omega) hc) hn0 (fun p _ => Kb 29 jd p (st_c (by omega) (by omega))) b4 (dok_0 ok) b3
      have hrun : F_X9_run mb (j, w.2) jd (nI N) = _ := (run_L mb (j, w.2) jd (nI N)).trans r1
      have Kr : Keep mi mr := keep_trans Kb (kp_X9_run hrun)
      obtain ⟨m1, l1, l2, l3, l4, l5⟩ := hm (u3 mr 10 0 0 0) (j, w.2) (keep_u3 rfl Kr)
      obtain ⟨mp, p1, p2, p3⟩ := m_play (w := (j, w.2)) (N := N) ok hj hjd dq hnd hN N 1000000 0 (D0 cu) m1 (by omega) (by omega) l3 l5 l2 (dok_0 ok)
      have p1' : L_X11_play_2 (j, w.2) 1000000 m1 (nI N) 0 = _ := p1
      have hle := go_le (stpN W H n we (mi 29 jd)) N 0 (D0 cu)
      obtain ⟨v, t1, t2⟩ := tell_eq (w := (j, w.2)) (w' := (j, w.2)) (d1 := (goN (stpN W H n we (mi 29 jd)) N 0 (D0 cu)).2.1) (wa := (goN (stpN W H n we (mi 29 jd)) N 0 (D0 cu)).2.2.1) (nn := (goN (stpN W H n we (mi 29 jd)) N 0 (D0 cu)).2.2.2.1) (r := (goN (stpN W H n we (mi 29 jd)) N 0 (D0 cu)).2.2.2.2) (r' := (goN (stpN W H n we (mi 29 jd)) N 0 (D0 cu)).2.2.2.2) ok r4 r2 p2 r3 r3 x4
      generalize goN (stpN W H n we (mi 29 jd)) N 0 (D0 cu) = G at *
      have c0 : ¬ nI N < 0 := nI_pos (by omega)
      have m0 : ¬ (nI N < 0) ∧ (¬ (nI nd < nI N)) := ⟨c0, by rw [nlt (by omega) (by omega)]; omega⟩
      by_cases hG : G.1 = N
      · have hcls : F_X10_state mi w x1 x2 (nI N) x4 = some (v, mr, (j, w.2)) := by
          unfold F_X10_state
          rw [g1, Option.bind_some, onO_s, g2, Option.bind_some, onO_s, if_neg c0, d0, if_pos (by rw [nle (by omega) (by omega)]; exact hN), b1, Option.bind_some]
          dsimp only
          rw [hrun, Option.bind_some]
          dsimp only
          rw [if_pos (by rw [nle (by omega) (by omega)]; omega), t1, Option.bind_some]
        have hmod : F_X11_state mr (j, w.2) x1 x2 (nI N) x4 = some (v, mp) := by
          unfold F_X11_state F_X11_play
          rw [l1, Option.bind_some, if_neg ne10, m_deeds _ l3 hjd, Option.bind_some, l4, if_pos m0]
          dsimp only
          rw [p1', Option.bind_some]
          dsimp only
          rw [if_pos (by rw [hG]), t2, Option.bind_some]
        exact ⟨_, hcls, _, hmod, rfl, Inv_keep (keep_trans Kr (kp_X11_state hmod)) rfl I, rfl⟩
      · have hcls : F_X10_state mi w x1 x2 (nI N) x4 = some (-1, mr, (j, w.2)) := by
          unfold F_X10_state
          rw [g1, Option.bind_some, onO_s, g2, Option.bind_some, onO_s, if_neg c0, d0, if_pos (by rw [nle (by omega) (by omega)]; exact hN), b1, Option.bind_some]
          dsimp only
          rw [hrun, Option.bind_some]
          dsimp only
          rw [if_neg (by rw [nle (by omega) (by omega)]; omega)]
        have hmod : F_X11_state mr (j, w.2) x1 x2 (nI N) x4 = some (-1, mp) := by
          unfold F_X11_state F_X11_play
          rw [l1, Option.bind_some, if_neg ne10, m_deeds _ l3 hjd, Option.bind_some, l4, if_pos m0]
          dsimp only
          rw [p1', Option.bind_some]
          dsimp only
          rw [if_neg (nne (by omega) (by omega) hG)]
        exact ⟨_, hcls, _, hmod, rfl, Inv_keep (keep_trans Kr (kp_X11_state hmod)) rfl I, rfl⟩
    · obtain ⟨m1, l1, l2, l3, l4, l5⟩ := hm (u3 mi 10 0 0 0) w (keep_c mi)
      have hcls : F_X10_state mi w x1 x2 x3 x4 = some (-1, mi, w) := by
        unfold F_X10_state
        rw [g1, Option.bind_some, onO_s, g2, Option.bind_some, onO_s]
        by_cases h0 : x3 < 0
        · rw [if_pos h0]
        · rw [if_neg h0, d0]
          obtain ⟨N, hN2, rfl⟩ := nI_of h0
          rw [if_neg]
          rw [nle (by omega) (by omega)]
          exact fun q => hN ⟨N, q, rfl⟩
      have hmod : F_X11_state mi w x1 x2 x3 x4 = some (-1, m1) := by
        unfold F_X11_state
        rw [l1, Option.bind_some, if_neg ne10, m_deeds _ l3 hjd, Option.bind_some, l4, if_neg]
        rintro ⟨h0, q⟩
        obtain ⟨N, hN2, rfl⟩ := nI_of h0
        rw [nlt (by omega) (by omega)] at q
        exact hN ⟨N, by omega, rfl⟩
      exact ⟨_, hcls, _, hmod, rfl, Inv_m I (kp_X11_state hmod), rfl⟩
def fnA (w : WS) (x3 x4 : Int32) (m : MI) : Option (Int32 × MI) := if x3 = 0 then some (x4, m) else if x3 = 1 then (F_X11_busy m w ).bind fun c357 => some (c357, m) else if x3 = 2 then some (m 10 0 36, m) else if x3 = 3 then some (m 10 0 37, m) else if x3 = 4 then (F_X11_coloured m w ).bind fun c358 => some ((m 10 0 26) - c358, m) else (F_X11_torn m w ).bind fun c356 => some (c356, m)
theorem m_after {w : WS} {j jd W H sl n nd : Nat} {cu we : Nat → Nat} {q : Nat → Int32} {x1 x2 x3 : Int32} (ok : shOK W H sl n cu we) (hj : j < 2) (hjd : jd < 2) (hq : ∀ k, k < nd → qd q k) (hnd : nd ≤ 40) :
    ∀ r F k D m, k + r = nd → r + 1 < F → m 10 0 35 = nI jd → m 56 0 (161 * jd) = nI nd → (∀ p, p < 4 * nd → m 56 0 (161 * jd + (1 + p)) = q p) → DM m j W H n we D → DOK W H we D → D.2.2.2.1 ≤ 25 * k →
      ∃ m', L_X11_after_35 w F m x1 x2 x3 D.2.2.2.2.2 1 (nI k) = fnA w x3 (goN (stpN W H n we q) r k D).2.2.2.2.2.2 m' ∧ DM m' j W H n we (goN (stpN W H n we q) r k D).2 ∧ DOK W H we (goN (stpN W H n we q) r k D).2 := by
  intro r
  induction r with
  | zero =>
    intro F k D m hk hF h35 h0 h56 hd hD ho
    obtain ⟨F, rfl⟩ : ∃ m, F = m + 1 := ⟨F - 1, by omega⟩
    refine ⟨m, ?_, hd, hD⟩
    rw [L_X11_after_35, if_neg ne10, m_deeds _ h35 hjd, Option.bind_some, h0, if_pos (by rw [nle (by omega) (by omega)]; omega)]
    rfl
  | succ r ih =>
    intro F k D m hk hF h35 h0 h56 hd hD ho
    obtain ⟨F, rfl⟩ : ∃ m, F = m + 1 := ⟨F - 1, by omega⟩
    rw [L_X11_after_35, if_neg ne10, m_deeds _ h35 hjd, Option.bind_some, h0, if_neg (by rw [nle (by omega) (by omega)]; omega)]
    rcases m_doesDeed (w := w) ok hj hjd hq hnd (show k < nd by omega) h35 h56 hd hD with ⟨g1, m1, g2, g3, -⟩ | ⟨D', m1, g1, g2, g3, g4⟩
    · rw [g2, Option.bind_some, go_no g1]
      dsimp only
      have fin : L_X11_after_35 w F m1 x1 x2 x3 D.2.2.2.2.2 0 (nI k + 1) = fnA w x3 D.2.2.2.2.2 m1 := by
        obtain ⟨F, rfl⟩ : ∃ m, F = m + 1 := ⟨F - 1, by omega⟩
        rw [L_X11_after_35, if_pos rfl]
        rfl
      refine ⟨m1, ?_, g3, hD⟩
      by_cases e : D.2.2.2.2.2 = -1
      · have ov0 := hD.2.2.mp e
        rw [if_pos e, if_pos (by rw [g3.2.2.2.2.1.2.1, ov0]; decide)]
        exact fin
      · rw [if_neg e]
        exact fin
    · have o1 := do_ov ok.cells g1
      have hD' := do_ok ok hD (m1_ne (by omega)) (hq k (by omega)) g1
      rw [g2, Option.bind_some, go_yes g1]
      dsimp only
      have nxt := ih F (k + 1) D' m1 (by omega) (by omega) (by rw [g4 10 0 35 ⟨by omega, by omega⟩]; exact h35) (by rw [g4 _ _ _ ⟨by omega, by omega⟩]; exact h0) (fun p hp => by rw [g4 _ _ _ ⟨by omega, by omega⟩]; exact h56 p hp) g3 hD' (by omega)
      have e36 : m1 10 0 36 = nI D'.2.2.2.1 := g3.2.2.2.2.1.2.1
      by_cases e : D.2.2.2.2.2 = -1
      · rw [if_pos e]
        by_cases z : D'.2.2.2.1 = 0
        · rw [if_pos (by rw [e36, z]; decide), i1, nadd]
          have : D'.2.2.2.2.2 = D.2.2.2.2.2 := by rw [hD'.2.2.mpr z, e]
          rw [← this]
          exact nxt
        · rw [if_neg (by rw [e36, i0, nle (by omega) (by omega)]; omega), i1, nadd]
          have : D'.2.2.2.2.2 = nI k := by
            rcases o1.2 with y | y
            · exact absurd (hD'.2.2.mp (y.trans e)) z
            · exact y.2
          rw [← this]
          exact nxt
      · rw [if_neg e, i1, nadd]
        have : D'.2.2.2.2.2 = D.2.2.2.2.2 := by
          rcases o1.2 with y | y
          · exact y
          · exact absurd y.1 e
        rw [← this]
        exact nxt
theorem op_after {mi : MI} {w : WS} (I : Inv mi w) (x1 : Int32) (x2 : Int32) (x3 : Int32) : ∃ c, F_X10_after mi w x1 x2 x3 = some c ∧ ∃ e, F_X11_after c.2.1 c.2.2 x1 x2 x3 = some e ∧ c.1 = e.1 ∧ Inv e.2 c.2.2 ∧ c.2.2.2.2.1 = w.2.2.1 := by
  rcases day_both I x1 x2 with ⟨h1, h2⟩ | ⟨j, jd, W, H, sl, n, nd, cu, we, hj, hjd, g1, g2, ok, hc, hnd, d0, dq, hm⟩
  · have hcls : F_X10_after mi w x1 x2 x3 = some (-2, mi, w) := by
      unfold F_X10_after
      rcases h1 with ⟨a, o, b⟩ | ⟨⟨j, a⟩, b⟩
      · rw [a, Option.bind_some, onO_n, b, Option.bind_some]
        cases o <;> rfl
      · rw [a, Option.bind_some, onO_s, b, Option.bind_some, onO_n]
    obtain ⟨m', e⟩ := h2 (u3 mi 10 0 0 0) w (keep_c mi)
    have hmod : F_X11_after mi w x1 x2 x3 = some (-2, m') := by
      unfold F_X11_after
      rw [e, Option.bind_some, if_pos rfl]
    exact ⟨_, hcls, _, hmod, rfl, Inv_m I (kp_X11_after hmod), rfl⟩
  · obtain ⟨mb, b1, b4, b3⟩ := c_begin (w := w) hc
    have Kb : Keep mi mb := kp_X9_begin b1
    have hn0 : mb 0 jd 0 = nI nd := by rw [Kb 0 jd 0 (st_c (by omega) (by omega))]; exact d0
    obtain ⟨mr, r1, r2, r3, r4⟩ := c_run (w := (j, w.2)) (N := nd) (i := jd) ok (show j < 8 by omega) (by omega) dq hnd (Nat.le_refl _) nd (1000000 + 1) 0 (D0 cu) mb (by omega) (by omega) (ShC_keep Kb (by omega) hc) hn0 (fun p _ => Kb 29 jd p (st_c (by omega) (by omega))) b4 (dok_0 ok) b3
    have hrun : F_X9_run mb (j, w.2) jd (nI nd) = _ := (run_L mb (j, w.2) jd (nI nd)).trans r1
    have Kr : Keep mi mr := keep_trans Kb (kp_X9_run hrun)
    obtain ⟨m1, l1, l2, l3, l4, l5⟩ := hm (u3 mr 10 0 0 0) (j, w.2) (keep_u3 rfl Kr)
    obtain ⟨mp, p1, p2, p3⟩ := m_after (w := (j, w.2)) (x1 := x1) (x2 := x2) (x3 := x3) ok hj hjd dq hnd nd 1000000 0 (D0 cu) m1 (by omega) (by omega) l3 l4 l5 l2 (dok_0 ok) (Nat.zero_le _)
    have p1' : L_X11_after_35 (j, w.2) 1000000 m1 x1 x2 x3 (-1) 1 0 = _ := p1
    generalize goN (stpN W H n we (mi 29 jd)) nd 0 (D0 cu) = G at *
    have start : ∀ k : Option (Int32 × MI × WS), (if x3 = 0 then some (mr 8 0 9, mr, ((j, w.2) : WS)) else if x3 = 1 then (F_X9_busiest mr (j, w.2)).bind fun c274 => some (c274, mr, ((j, w.2) : WS)) else if x3 = 2 then some (mr 8 0 10, mr, ((j, w.2) : WS)) else if x3 = 3 then some (mr 8 0 11, mr, ((j, w.2) : WS)) else if x3 = 4 then (F_X9_painted mr (j, w.2)).bind fun c275 => some (pop32 ((mr 5 j 7) &&& (c275 ^^^ (-1))), mr, ((j, w.2) : WS)) else if x3 = 5 then (F_X9_tornSheets mr (j, w.2)).bind fun c276 => some (c276, mr, ((j, w.2) : WS)) else some ((-2 : Int32), mr, ((j, w.2) : WS))) = k → F_X10_after mi w x1 x2 x3 = k := by
      intro k hk
      unfold F_X10_after
      rw [g1, Option.bind_some, onO_s, g2, Option.bind_some, onO_s, b1, Option.bind_some]
      dsimp only
      rw [hn0, hrun, Option.bind_some]
      exact hk
    have done : ∀ v, F_X10_after mi w x1 x2 x3 = some (v, mr, (j, w.2)) → fnA (j, w.2) x3 G.2.2.2.2.2.2 mp = some (v, mp) → ¬ (x3 < 0) ∧ (¬ (5 < x3)) → ∃ c, F_X10_after mi w x1 x2 x3 = some c ∧ ∃ e, F_X11_after c.2.1 c.2.2 x1 x2 x3 = some e ∧ c.1 = e.1 ∧ Inv e.2 c.2.2 ∧ c.2.2.2.2.1 = w.2.2.1 := by
      intro v hcls hf hx
      have hmod : F_X11_after mr (j, w.2) x1 x2 x3 = some (v, mp) := by
        unfold F_X11_after
        rw [l1, Option.bind_some, if_neg ne10, if_pos hx]
        dsimp only
        rw [p1']
        exact hf
      exact ⟨_, hcls, _, hmod, rfl, Inv_keep (keep_trans Kr (kp_X11_after hmod)) rfl I, rfl⟩
    have bad : F_X10_after mi w x1 x2 x3 = some (-2, mr, (j, w.2)) → ¬ (¬ (x3 < 0) ∧ (¬ (5 < x3))) → ∃ c, F_X10_after mi w x1 x2 x3 = some c ∧ ∃ e, F_X11_after c.2.1 c.2.2 x1 x2 x3 = some e ∧ c.1 = e.1 ∧ Inv e.2 c.2.2 ∧ c.2.2.2.2.1 = w.2.2.1 := by
      intro hcls hx
      have hmod : F_X11_after mr (j, w.2) x1 x2 x3 = some (-2, m1) := by
        unfold F_X11_after
        rw [l1, Option.bind_some, if_neg ne10, if_neg hx]
      exact ⟨_, hcls, _, hmod, rfl, Inv_keep (keep_trans Kr (kp_X11_after hmod)) rfl I, rfl⟩
    have hC := ok.cells
    rcases pk_ix x3 (n := 6) (by omega) with h | h | ⟨a, ha, rfl⟩
    · have hx : ∀ k, k < 2147483648 → ¬ x3 = nI k := fun k hk q => by rw [q] at h; exact nI_pos hk h
      exact bad (start _ (by rw [if_neg (show ¬ x3 = 0 from hx 0 (by omega)), if_neg (show ¬ x3 = 1 from hx 1 (by omega)), if_neg (show ¬ x3 = 2 from hx 2 (by omega)), if_neg (show ¬ x3 = 3 from hx 3 (by omega)), if_neg (show ¬ x3 = 4 from hx 4 (by omega)), if_neg (show ¬ x3 = 5 from hx 5 (by omega))])) fun q => q.1 h
    · have g := ge_nl (n := 6) (by omega) h
      have hx : ∀ k, k < 6 → ¬ x3 = nI k := fun k hk q => g (by rw [q, nlt (by omega) (by omega)]; exact hk)
      exact bad (start _ (by rw [if_neg (show ¬ x3 = 0 from hx 0 (by omega)), if_neg (show ¬ x3 = 1 from hx 1 (by omega)), if_neg (show ¬ x3 = 2 from hx 2 (by omega)), if_neg (show ¬ x3 = 3 from hx 3 (by omega)), if_neg (show ¬ x3 = 4 from hx 4 (by omega)), if_neg (show ¬ x3 = 5 from hx 5 (by omega))])) fun q => q.2 (ge_gt (n := 5) (by omega) h)
    · have hx : ¬ (nI a < 0) ∧ (¬ ((5 : Int32) < nI a)) := ⟨nI_pos (by omega), by rw [i5, nlt (by omega) (by omega)]; omega⟩
      rcases (by omega : a = 0 ∨ a = 1 ∨ a = 2 ∨ a = 3 ∨ a = 4 ∨ a = 5) with rfl | rfl | rfl | rfl | rfl | rfl
      · refine done _ (start _ (if_pos rfl)) ?_ hx
        rw [r2.2.2.2.2.2]
        exact if_pos rfl
      · refine done (bsN G.2.1.2.1 n).1 (start _ ?_) ?_ hx
        · rw [if_neg (by decide), if_pos (show nI 1 = 1 from rfl), c_busy (w := (j, w.2)) ok r4 r2 r3]; rfl
        · unfold fnA
          rw [if_neg (by decide), if_pos (show nI 1 = 1 from rfl), m_busy ok p2 p3]; rfl
      · refine done (nI G.2.2.2.2.1) (start _ ?_) ?_ hx
        · rw [if_neg (by decide), if_neg (by decide), if_pos (show nI 2 = 2 from rfl), r2.2.2.2.1]
        · unfold fnA
          rw [if_neg (by decide), if_neg (by decide), if_pos (show nI 2 = 2 from rfl), p2.2.2.2.2.1.2.1]
      · refine done (nI G.2.2.2.2.2.1) (start _ ?_) ?_ hx
        · rw [if_neg (by decide), if_neg (by decide), if_neg (by decide), if_pos (show nI 3 = 3 from rfl), r2.2.2.2.2.1]
        · unfold fnA
          rw [if_neg (by decide), if_neg (by decide), if_neg (by decide), if_pos (show nI 3 = 3 from rfl), p2.2.2.2.2.1.2.2]
      · have e := left_pop (wa := G.2.2.1) (W := W) (H := H) r3.2.1 hC
        refine done (nI (W * H - wnN G.2.2.1 (W * H))) (start _ ?_) ?_ hx
        · rw [if_neg (by decide), if_neg (by decide), if_neg (by decide), if_neg (by decide), if_pos (show nI 4 = 4 from rfl), c_painted r2, Option.bind_some, r4.2.2.1, nandn, c_pop (pw (andn_lt _ (aM_lt W H)) hC)]
          rw [show popN (andn (aM W H) (paN G.2.2.1 (W * H))) = W * H - wnN G.2.2.1 (W * H) by omega]
        · unfold fnA
          rw [if_neg (by decide), if_neg (by decide), if_neg (by decide), if_neg (by decide), if_pos (show nI 4 = 4 from rfl), m_coloured ok.bw p2 r3.2.1, Option.bind_some, p2.1.2.2, nsub (by omega)]
      · refine done (nI (seN (fun s => decide (we s ≤ G.2.1.2.1 s)) n)) (start _ ?_) ?_ hx
        · rw [if_neg (by decide), if_neg (by decide), if_neg (by decide), if_neg (by decide), if_neg (by decide), if_pos (show nI 5 = 5 from rfl), c_torn (w := (j, w.2)) ok r4 r2 r3]; rfl
        · unfold fnA
          rw [if_neg (by decide), if_neg (by decide), if_neg (by decide), if_neg (by decide), if_neg (by decide), m_torn ok hj p2 p3]; rfl
