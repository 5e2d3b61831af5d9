/-! DUEL, end -/
def whP (o : Nat → Nat) (n T : Nat) (e wh : Int32) : Prop := ∃ v : Nat → Int32, (∀ j, j < 7 → enP o n T 1 j (v j)) ∧ foP true v 7 e wh
theorem m_level {m0 : MI} {w : WS} {o : Nat → Nat} {n T t : Nat} {x1 x2 x3 : Int32} {k72 : MI → Int32 → Int32 → Int32 → Int32 → Int32 → Option (Int32 × MI)} (hn : n ≤ 6) (hT : T ≤ 6) (ht : t + 1 ≤ T) (h : ∀ q, q < 7 ^ (t + 1) → enP o n T (t + 1) q (m0 70 0 q)) :
    ∃ m, L_X11_duel_87 w k72 1000000 m0 x1 x2 x3 (nI (7 ^ t)) (nI t) 0 = k72 m x1 x2 x3 (nI (7 ^ t)) (nI t - 1) ∧ (∀ q, q < 7 ^ t → enP o n T t q (m 70 0 q)) ∧ (t = 0 → whP o n T (m 70 0 0) (m 10 0 43)) ∧ ∀ c i j, ¬ (c = 70 ∧ i = 0) → ¬ (c = 10 ∧ i = 0 ∧ j = 43) → m c i j = m0 c i j := by
  have h7 : 7 ^ t ≤ 16807 := Nat.le_trans (Nat.pow_le_pow_right (by omega) (show t ≤ 5 by omega)) (by decide)
  have h77 : 7 ^ (t + 1) = 7 * 7 ^ t := by rw [Nat.pow_succ, Nat.mul_comm]
  have hb2 : b2 (irem (nI t) 2 = 0) = (if decide (t % 2 = 0) = true then (1 : Int32) else 0) := by
    have hev : irem (nI t) 2 = nI (t % 2) := by rw [i2]; exact nrem (d := 2) (by omega) (by omega) (by omega)
    by_cases z : t % 2 = 0
    · rw [decide_eq_true z, if_pos rfl, b2_pos (by rw [hev, z]; rfl)]
    · rw [decide_eq_false z, if_neg Bool.false_ne_true, b2_neg (by rw [hev]; exact nne0 (by omega) z)]
  have key := lp_inv (L := fun f m k => L_X11_duel_87 w k72 f m x1 x2 x3 (nI (7 ^ t)) (nI t) (nI k)) (N := 7 ^ t) (post := fun m => k72 m x1 x2 x3 (nI (7 ^ t)) (nI t - 1))
    (fun k m => (∀ q, q < k → enP o n T t q (m 70 0 q)) ∧ (∀ q, 7 * k ≤ q → q < 7 ^ (t + 1) → enP o n T (t + 1) q (m 70 0 q)) ∧ (t = 0 → k = 1 → whP o n T (m 70 0 0) (m 10 0 43)) ∧ ∀ c i j, ¬ (c = 70 ∧ i = 0) → ¬ (c = 10 ∧ i = 0 ∧ j = 43) → m c i j = m0 c i j) (fun f m hI => ?_) (fun f k m hk hI => ?_) (F := 1000000) (by omega) m0 ⟨fun q hq => absurd hq (Nat.not_lt_zero q), fun q _ hq => h q hq, fun _ q => by omega, fun _ _ _ _ _ => rfl⟩
  · obtain ⟨m, ⟨g1, g2, g3, g4⟩, g5⟩ := key
    exact ⟨m, g5, g1, fun z => g3 z (by rw [z]), g4⟩
  · show L_X11_duel_87 w k72 (f + 1) m x1 x2 x3 (nI (7 ^ t)) (nI t) (nI (7 ^ t)) = _
    rw [L_X11_duel_87, if_pos (by rw [nle (by omega) (by omega)]; omega), nI_dn]
  · show ∃ s', L_X11_duel_87 w k72 (f + 1) m x1 x2 x3 (nI (7 ^ t)) (nI t) (nI k) = L_X11_duel_87 w k72 f s' x1 x2 x3 (nI (7 ^ t)) (nI t) (nI (k + 1)) ∧ _
    obtain ⟨g1, g2, g3, g4⟩ := hI
    have i7 : (7 : Int32) = nI 7 := rfl
    obtain ⟨e, m1, a1, a2, a3⟩ := m_fold (m0 := m) (w := w) (a := 7 * k) (by omega) (decide (t % 2 = 0))
    have hv : ∀ j, j < 7 → enP o n T (t + 1) (7 * k + j) (m 70 0 (7 * k + j)) := fun j hj => g2 _ (by omega) (by omega)
    have st := fold_step (k := k) hn ht hv a2
    rw [L_X11_duel_87, if_neg (by rw [nle (by omega) (by omega)]; omega), i7, nmul, hb2, a1, Option.bind_some]
    simp (disch := omega) only [ncl, ckJ, lt_e]
    rw [show nI k + 1 = nI (k + 1) by rw [i1, nadd]]
    refine ⟨_, rfl, fun q hq => ?_, fun q h1 h2 => ?_, fun z1 z2 => ?_, fun c i j q1 q2 => by rw [u3_n (by omega), a3 c i j (by omega)]; exact g4 c i j q1 q2⟩
    · by_cases eq : q = k
      · rw [eq, u3_s]; exact st
      · rw [u3_n (by omega), a3 _ _ _ (by omega)]; exact g1 q (by omega)
    · rw [u3_n (by omega), a3 _ _ _ (by omega)]; exact g2 q (by omega) h2
    · have hk0 : k = 0 := by omega
      subst hk0
      subst z1
      refine ⟨fun j => m 70 0 (7 * 0 + j), fun j hj => ?_, ?_⟩
      · have := hv j hj
        have e0 : 7 * 0 + j = j := by omega
        show enP o n T 1 j (m 70 0 (7 * 0 + j))
        rw [e0] at this ⊢
        exact this
      · rw [u3_s, u3_n (by omega)]
        exact a2
theorem m_levels {w : WS} {o : Nat → Nat} {n T : Nat} {x1 x2 x3 : Int32} (hn : n ≤ 6) (hT : T ≤ 6) :
    ∀ t F m, t ≤ T → t < F → (∀ q, q < 7 ^ t → enP o n T t q (m 70 0 q)) → (t = 0 → (T = 0 ∧ m 10 0 43 = -1) ∨ (T ≠ 0 ∧ whP o n T (m 70 0 0) (m 10 0 43))) →
      ∃ m', L_X11_duel_72 w F m x1 x2 x3 (nI (7 ^ t)) (nI t - 1) = some (if x3 = 0 then m' 70 0 0 else m' 10 0 43, m') ∧ enP o n T 0 0 (m' 70 0 0) ∧ ((T = 0 ∧ m' 10 0 43 = -1) ∨ (T ≠ 0 ∧ whP o n T (m' 70 0 0) (m' 10 0 43))) := by
  intro t
  induction t with
  | zero =>
    intro F m _ hF h1 h2
    obtain ⟨F, rfl⟩ : ∃ G, F = G + 1 := ⟨F - 1, by omega⟩
    refine ⟨m, ?_, h1 0 (by decide), h2 rfl⟩
    rw [L_X11_duel_72, if_pos (by decide)]
    by_cases q : x3 = 0
    · rw [if_pos q, if_pos q]
    · rw [if_neg q, if_neg q]
  | succ t ih =>
    intro F m ht hF h1 _
    obtain ⟨F, rfl⟩ : ∃ G, F = G + 1 := ⟨F - 1, by omega⟩
    have h7 : 7 ^ t ≤ 16807 := Nat.le_trans (Nat.pow_le_pow_right (by omega) (show t ≤ 5 by omega)) (by decide)
    have i7 : (7 : Int32) = nI 7 := rfl
    have hd : nI (7 ^ (t + 1)) / 7 = nI (7 ^ t) := by
      rw [Nat.pow_succ, i7, ndiv (by omega) (by omega) (by omega), Nat.mul_div_cancel _ (by omega)]
    obtain ⟨m1, a1, a2, a3, -⟩ := m_level (m0 := m) (w := w) (x1 := x1) (x2 := x2) (x3 := x3) (k72 := fun mi x1 x2 x3 x4 x5 => L_X11_duel_72 w F mi x1 x2 x3 x4 x5) hn hT ht h1
    obtain ⟨m', b1, b2', b3⟩ := ih F m1 (by omega) (by omega) a2 (fun z => Or.inr ⟨by omega, a3 z⟩)
    refine ⟨m', ?_, b2', b3⟩
    rw [nI_pred, L_X11_duel_72, if_neg (nI_pos (by omega)), hd, a1]
    exact b1
theorem m_sevens {m : MI} {w : WS} {T : Nat} (hT : T ≤ 6) : F_X11_sevens m w (nI T) = some (nI (7 ^ T)) := by
  have key := lp_inv (L := fun f (s : Nat) k => L_X11_sevens_4 m w f (nI T) (nI s) (nI k)) (N := T) (post := fun s => some (nI s)) (fun k s => s = 7 ^ k) (fun f s _ => ?_) (fun f k s hk hI => ?_) (F := 1000000) (by omega) 1 rfl
  · obtain ⟨s, g1, g2⟩ := key
    rw [g1] at g2
    exact g2
  · show L_X11_sevens_4 m w (f + 1) (nI T) (nI s) (nI T) = _
    rw [L_X11_sevens_4, if_pos (by rw [nle (by omega) (by omega)]; omega)]
  · show ∃ s' : Nat, L_X11_sevens_4 m w (f + 1) (nI T) (nI s) (nI k) = L_X11_sevens_4 m w f (nI T) (nI s') (nI (k + 1)) ∧ _
    have i7 : (7 : Int32) = nI 7 := rfl
    refine ⟨s * 7, ?_, by rw [hI, Nat.pow_succ]⟩
    rw [L_X11_sevens_4, if_neg (by rw [nle (by omega) (by omega)]; omega), i7, nmul, i1, nadd]
theorem c_worth {m : MI} {w : WS} {i W H sl n r used me th : Nat} {cu we : Nat → Nat} (ok : shOK W H sl n cu we) (hc : ShC m i W H sl n cu we) (hr : r ≤ 6) (hu : used < 64) (hme : me < 33554432) (hth : th < 33554432) : ∃ b, F_X1_bestWorth m w 16 i (nI r) (nI used) (nI me) (nI th) (-99) 99 = some b ∧ b.toInt = gv (opS W H cu) n r used me th ∧ (-25 ≤ b.toInt ∧ b.toInt ≤ 25) := by
  obtain ⟨b, h1, h2, h3⟩ := c_best (w := w) ok hc r 16 used me th (-99) 99 (by omega) hu hme hth (by decide) (by decide) (by decide) (by decide) (by omega)
  have e1 : (-99 : Int32).toInt = -99 := by decide
  have e2 : (99 : Int32).toInt = 99 := by decide
  rw [e1, e2] at h3
  obtain ⟨p1, p2⟩ := h3
  have q1 := p1 (by omega)
  have q2 := p2 (by omega)
  exact ⟨b, h1, by omega, h2⟩
theorem eq_99 : (-99 : Int32).toInt = -99 := by decide
theorem op_duel {mi : MI} {w : WS} (I : Inv mi w) (x1 : Int32) (x2 : Int32) (x3 : Int32) (hb : x3 = 0 ∨ x3 = 1) : ∃ c, F_X10_duel mi w x1 x2 x3 = some c ∧ ∃ e, F_X11_duel mi w x1 x2 x3 = some e ∧ c = e.1 ∧ Inv e.2 w := by
  have hx : (∃ T, T ≤ 6 ∧ x2 = nI T) ∨ ((x2 < 0 ∨ ¬ x2 ≤ 6) ∧ ¬ (¬ (x2 < 0) ∧ (¬ (6 < x2)))) := by
    by_cases h0 : x2 < 0
    · exact Or.inr ⟨Or.inl h0, fun q => q.1 h0⟩
    · obtain ⟨N, hN2, rfl⟩ := nI_of h0
      by_cases hN : N ≤ 6
      · exact Or.inl ⟨N, hN, rfl⟩
      · refine Or.inr ⟨Or.inr ?_, fun q => q.2 ?_⟩
        · rw [i6, nle (by omega) (by omega)]; exact hN
        · rw [i6, nlt (by omega) (by omega)]; omega
  rcases shop_at I x1 with ⟨h1, h2⟩ | ⟨j, ⟨hj, rfl⟩, h1, W, H, sl, n, cu, we, ok, hc, h2⟩
  · have hcls : F_X10_duel mi w x1 x2 x3 = some (-99) := by
      unfold F_X10_duel
      rw [h1, Option.bind_some, onO_n]
    have hmod : ∃ m', F_X11_duel mi w x1 x2 x3 = some (-99, m') := by
      unfold F_X11_duel
      rcases hx with ⟨N, hN, rfl⟩ | ⟨-, hx⟩
      · rw [if_pos ⟨nI_pos (by omega), by rw [i6, nlt (by omega) (by omega)]; omega⟩, h2 _ w (keep_c mi), Option.bind_some, if_pos rfl]
        exact ⟨_, rfl⟩
      · rw [if_neg hx]
        exact ⟨_, rfl⟩
    obtain ⟨m', hmod⟩ := hmod
    exact ⟨_, hcls, _, hmod, rfl, Inv_m I (kp_X11_duel hmod)⟩
  · rcases hx with ⟨T, hT, rfl⟩ | ⟨hx1, hx2⟩
    · have hn := ok.cnt
      have h7 : 7 ^ T ≤ 117649 := Nat.le_trans (Nat.pow_le_pow_right (by omega) hT) (by decide)
      obtain ⟨m1, l1, l2, l3⟩ := h2 _ w (keep_c mi)
      have key := lp_inv (L := fun f m k => L_X11_duel_35 w f m (nI j) (nI T) x3 (nI (7 ^ T)) (nI k)) (N := 7 ^ T) (post := fun m => L_X11_duel_72 w 1000000 (u3 m 10 0 43 (-1)) (nI j) (nI T) x3 (nI (7 ^ T)) (nI T - 1)) (fun k m => (∀ q, q < k → enP (opS W H cu) n T T q (m 70 0 q)) ∧ ∀ c i j, ¬ (c = 70 ∧ i = 0) → m c i j = m1 c i j) (fun f m hI => ?_) (fun f k m hk hI => ?_) (F := 1000000) (by omega) m1 ⟨fun q hq => absurd hq (Nat.not_lt_zero q), fun _ _ _ _ => rfl⟩
      · obtain ⟨m2, ⟨s1, s2⟩, s3⟩ := key
        obtain ⟨mp, p1, p2, p3⟩ := m_levels (w := w) (x1 := nI j) (x2 := nI T) (x3 := x3) hn hT T 1000000 (u3 m2 10 0 43 (-1)) (Nat.le_refl _) (by omega) (fun q hq => by rw [u3_n (by omega)]; exact s1 q hq) (fun z => Or.inl ⟨z, u3_s⟩)
        have hmod : F_X11_duel mi w (nI j) (nI T) x3 = some (if x3 = 0 then mp 70 0 0 else mp 10 0 43, mp) := by
          unfold F_X11_duel
          rw [if_pos ⟨nI_pos (by omega), by rw [i6, nlt (by omega) (by omega)]; omega⟩, l1, Option.bind_some, if_neg ne10]
          dsimp only
          rw [m_sevens hT, Option.bind_some]
          exact s3.trans p1
        have c0 : ¬ nI T < 0 := nI_pos (by omega)
        have c6 : nI T ≤ (6 : Int32) := by rw [i6, nle (by omega) (by omega)]; exact hT
        obtain ⟨b, b1, b2', b3⟩ := c_worth (w := w) ok hc hT (show 0 < 64 by omega) (show 0 < 33554432 by omega) (show 0 < 33554432 by omega)
        have hw1 : F_X1_duelWorth mi w j (nI T) = some b := by
          unfold F_X1_duelWorth
          have b1' : F_X1_bestWorth mi w 16 j (nI T) 0 0 0 (-99) 99 = some b := b1
          rw [b1', Option.bind_some]
        have hval : (mp 70 0 0).toInt = gv (opS W H cu) n T 0 0 0 := by
          have := (enP_s (s := (0, 0, 0)) (o := opS W H cu) (n := n) (T := T) (t := 0) (k := 0) rfl).mp p2
          exact this
        have hbe : b = mp 70 0 0 := Int32.toInt_inj.mp (by rw [b2', hval])
        rcases hb with rfl | rfl
        · have hcls : F_X10_duel mi w (nI j) (nI T) 0 = some (mp 70 0 0) := by
            unfold F_X10_duel
            rw [h1, Option.bind_some, onO_s, if_neg c0, if_pos c6, if_pos rfl, hw1, Option.bind_some, hbe]
          rw [if_pos rfl] at hmod
          exact ⟨_, hcls, _, hmod, rfl, Inv_m I (kp_X11_duel hmod)⟩
        · rw [if_neg ne10] at hmod
          have hcls : F_X10_duel mi w (nI j) (nI T) 1 = some (mp 10 0 43) := by
            unfold F_X10_duel F_X1_duelFirst
            rw [h1, Option.bind_some, onO_s, if_neg c0, if_pos c6, if_neg ne10]
            rcases p3 with ⟨hT0, p3⟩ | ⟨hT0, v, p3, p4⟩
            · rw [if_neg (by rw [hT0]; decide), Option.bind_some, p3]
            · rw [if_pos (by rw [i0, nlt (by omega) (by omega)]; omega), hw1, Option.bind_some]
              obtain ⟨r, rfl⟩ : ∃ r, T = r + 1 := ⟨T - 1, by omega⟩
              have er : nI (r + 1) - 1 = nI r := by rw [i1, nsub (by omega)]; rfl
              -- the seven
              have vs : ∀ s, s < n → (v s).toInt = -(gv (opS W H cu) n r (1 <<< s) 0 (opS W H cu s)) := fun s hs => by
                have st : sttF (opS W H cu) n (0 + 1) s = some (0 ||| 1 <<< s, 0 ||| opS W H cu s, andn 0 (opS W H cu s)) := by
                  have e1 : s / 7 = 0 := by omega
                  have e2 : s % 7 = s := by omega
                  rw [sttF, e1, e2]
                  show (if 6 ≤ s then some (0, 0, 0) else if n ≤ s then none else if Nat.testBit 0 s = true then none else some (0 ||| 1 <<< s, if 0 % 2 = 0 then (0 ||| opS W H cu s, andn 0 (opS W H cu s)) else (andn 0 (opS W H cu s), 0 ||| opS W H cu s))) = _
                  rw [if_neg (by omega), if_neg (by omega), if_neg (by rw [Nat.zero_testBit]; decide), if_pos (by decide)]
                have := (enP_s st).mp (p3 s (by omega))
                rw [if_neg (by decide)] at this
                dsimp only at this
                have z0 : andn 0 (opS W H cu s) = 0 := eq_tb fun i => by rw [tb_andn, Nat.zero_testBit, Bool.false_and]
                rw [z0, Nat.zero_or, Nat.zero_or] at this
                exact this
              have sx : ∀ s, s < 6 → n ≤ s → v s = -99 := fun s h6 hs => by
                refine (enP_n ?_).mp (p3 s (by omega))
                have e1 : s / 7 = 0 := by omega
                have e2 : s % 7 = s := by omega
                rw [sttF, e1, e2]
                show (if 6 ≤ s then some (0, 0, 0) else if n ≤ s then none else _) = _
                rw [if_neg (by omega), if_pos hs]
              have v6 : (v 6) ≠ -99 := by
                have st : sttF (opS W H cu) n (0 + 1) 6 = some (0, 0, 0) := rfl
                have := (enP_s st).mp (p3 6 (by omega))
                rw [if_neg (by decide)] at this
                have bb := gv_le (o := opS W H cu) (n := n) (r + 1 - (0 + 1)) 0 0 0
                dsimp only at this
                exact n99 (by omega)
              have loop : ∀ q F s, s + q = n → q < F → (∀ j0, (j0 < 7 ∧ v j0 ≠ -99 ∧ mp 70 0 0 = v j0 ∧ ∀ j, j < 7 → v j ≠ -99 → v j = mp 70 0 0 → j0 ≤ j) → s ≤ j0 → L_X1_duelFirst_14 mi w F j (nI (r + 1)) b (nI s) = some (nI j0)) := by
                intro q
                induction q with
                | zero =>
                  intro F s hs hF j0 ⟨q1, q2, q3, q5⟩ hle
                  obtain ⟨F, rfl⟩ : ∃ G, F = G + 1 := ⟨F - 1, by omega⟩
                  have : j0 = 6 := by
                    by_cases h6 : j0 < 6
                    · exact absurd (sx j0 h6 (by omega)) q2
                    · omega
                  rw [L_X1_duelFirst_14, if_pos (by rw [hc.cnt, nle (by omega) (by omega)]; omega), this]
                  rfl
                | succ q ih =>
                  intro F s hs hF j0 hj0 hle
                  obtain ⟨F, rfl⟩ : ∃ G, F = G + 1 := ⟨F - 1, by omega⟩
                  have hop : mi 28 j s = nI (opS W H cu s) := hc.op (by omega)
                  have ho : opS W H cu s < 33554432 := ok.op2 (s := s) (by omega)
                  obtain ⟨d, d1, d2, d3⟩ := c_worth (w := w) ok hc (show r ≤ 6 by omega) (show 1 <<< s < 64 from bit_lt (n := 6) (by omega)) (show 0 < 33554432 by omega) ho
                  have d1' : F_X1_bestWorth mi w 16 j (nI r) (nI (1 <<< s)) 0 (nI (opS W H cu s)) (-99) 99 = some d := d1
                  rw [L_X1_duelFirst_14, if_neg (by rw [hc.cnt, nle (by omega) (by omega)]; omega)]
                  simp (disch := omega) only [ncl, ckJ]
                  rw [er, n31 (by omega), show (1 : Int32) <<< nI s = nI (1 <<< s) by rw [i1, nshl _ (by omega)], hop, d1', Option.bind_some]
                  have nd : (-d).toInt = -d.toInt := t_neg (by omega) (by omega)
                  have hvs := vs s (by omega)
                  have hiff : -d = b ↔ v s = mp 70 0 0 := by
                    rw [hbe]
                    constructor
                    · intro z; rw [← z]; apply Int32.toInt_inj.mp; omega
                    · intro z; rw [← z]; apply Int32.toInt_inj.mp; omega
                  obtain ⟨q1, q2, q3, q5⟩ := hj0
                  by_cases z : v s = mp 70 0 0
                  · rw [if_pos (hiff.mpr z)]
                    have := q5 s (by omega) (n99 (by omega)) z
                    rw [show s = j0 by omega]
                  · rw [if_neg (fun y => z (hiff.mp y)), show nI s + 1 = nI (s + 1) by rw [i1, nadd]]
                    refine ih F (s + 1) (by omega) (by omega) j0 ⟨q1, q2, q3, q5⟩ ?_
                    have : s ≠ j0 := fun y => z (by rw [y]; exact q3.symm)
                    omega
              rcases p4 with ⟨q, _, _⟩ | ⟨j0, q1, q2, q3, q4, q5⟩
              · exact absurd (q 6 (by omega)) v6
              · have := loop n 1000000 0 (by omega) (by omega) j0 ⟨q1, q2, q3, fun j hj hv hz => (q5 j hj hv).2 hz⟩ (Nat.zero_le _)
                have this' : L_X1_duelFirst_14 mi w 1000000 j (nI (r + 1)) b 0 = some (nI j0) := this
                rw [this', Option.bind_some, q4]
          exact ⟨_, hcls, _, hmod, rfl, Inv_m I (kp_X11_duel hmod)⟩
      · show L_X11_duel_35 w (f + 1) m (nI j) (nI T) x3 (nI (7 ^ T)) (nI (7 ^ T)) = _
        rw [L_X11_duel_35, if_pos (by rw [nle (by omega) (by omega)]; omega)]
      · show ∃ s', L_X11_duel_35 w (f + 1) m (nI j) (nI T) x3 (nI (7 ^ T)) (nI k) = L_X11_duel_35 w f s' (nI j) (nI T) x3 (nI (7 ^ T)) (nI (k + 1)) ∧ _
        obtain ⟨g1, g2⟩ := hI
        obtain ⟨r, r1, r2⟩ := m_endOf (m := m) (w := w) (x1 := nI T) (x2 := nI k) ok (by rw [g2 _ _ _ (by omega)]; exact l2.cnt) (fun s hs => by rw [g2 _ _ _ (by omega)]; exact l2.op hs) T 1000000 k 0 0 0 (by omega) (by omega) (by omega) (by omega) (by have : (0 : Int32).toInt = 0 := rfl; omega) (by have : (0 : Int32).toInt = 0 := rfl; omega)
        have he : F_X11_endOf m w (nI T) (nI k) = some r := r1
        have hen : enP (opS W H cu) n T T k r := by
          cases hst : sttF (opS W H cu) n T k with
          | none => exact (enP_n hst).mpr ((endP_n hst).mp r2)
          | some s =>
            refine (enP_s hst).mpr ?_
            rcases (endP_s hst).mp r2 with ⟨q, _⟩ | ⟨_, q⟩
            · exact absurd (Nat.and_zero _) q
            · have z : ∀ p, andn p 0 = p := fun p => by unfold andn; rw [Nat.and_zero, Nat.xor_zero]
              rw [z, z] at q
              have e0 : (0 : Int32).toInt = 0 := rfl
              rw [Nat.sub_self, gv, gv, q, e0]
              split <;> omega
        rw [L_X11_duel_35, if_neg (by rw [nle (by omega) (by omega)]; omega), he, Option.bind_some]
        simp (disch := omega) only [ncl, ckJ, lt_e]
        rw [show nI k + 1 = nI (k + 1) by rw [i1, nadd]]
        refine ⟨_, rfl, fun q hq => ?_, fun c i j h => by rw [u3_n (by omega)]; exact g2 c i j h⟩
        by_cases eq : q = k
        · rw [eq, u3_s]; exact hen
        · rw [u3_n (by omega)]; exact g1 q (by omega)
    · have hcls : F_X10_duel mi w (nI j) x2 x3 = some (-99) := by
        unfold F_X10_duel
        rw [h1, Option.bind_some, onO_s]
        rcases hx1 with h | h
        · rw [if_pos h]
        · by_cases h0 : x2 < 0
          · rw [if_pos h0]
          · rw [if_neg h0, if_neg h]
      have hmod : F_X11_duel mi w (nI j) x2 x3 = some (-99, u3 mi 10 0 0 0) := by
        unfold F_X11_duel
        rw [if_neg hx2]
      exact ⟨_, hcls, _, hmod, rfl, Inv_m I (kp_X11_duel hmod)⟩
