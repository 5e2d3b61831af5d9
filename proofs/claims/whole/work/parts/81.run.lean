/-! A DAY: deed by deed -/
def qd (q : Nat → Int32) (k : Nat) : Prop := deedOK (q (4 * k)) (q (4 * k + 1)) (q (4 * k + 2)) (q (4 * k + 3))
def stpN (W H n : Nat) (we : Nat → Nat) (q : Nat → Int32) (k : Nat) (D : DS) : Option DS := doD W H n we (nI k) D (q (4 * k)) (q (4 * k + 1)) (q (4 * k + 2)) (q (4 * k + 3))
def goN (f : Nat → DS → Option DS) : Nat → Nat → DS → Nat × DS
  | 0, k, D => (k, D)
  | r + 1, k, D => match f k D with
    | none => (k, D)
    | some D' => goN f r (k + 1) D'
theorem go_no {f : Nat → DS → Option DS} {r k : Nat} {D : DS} (h : f k D = none) : goN f (r + 1) k D = (k, D) := by
  rw [goN, h]
theorem go_yes {f : Nat → DS → Option DS} {r k : Nat} {D D' : DS} (h : f k D = some D') : goN f (r + 1) k D = goN f r (k + 1) D' := by
  rw [goN, h]
theorem go_le (f : Nat → DS → Option DS) : ∀ r k D, k ≤ (goN f r k D).1 ∧ (goN f r k D).1 ≤ k + r := by
  intro r
  induction r with
  | zero => intro k D; exact ⟨Nat.le_refl _, Nat.le_refl _⟩
  | succ r ih =>
    intro k D
    cases h : f k D with
    | none => rw [go_no h]; exact ⟨Nat.le_refl _, Nat.le_add_right _ _⟩
    | some D' =>
      rw [go_yes h]
      have := ih (k + 1) D'
      omega
theorem do_ov {W H n : Nat} {we : Nat → Nat} {t : Int32} {D D' : DS} {q0 q1 q2 q3 : Int32} (hC : W * H ≤ 25) (h : doD W H n we t D q0 q1 q2 q3 = some D') : D'.2.2.2.1 ≤ D.2.2.2.1 + 25 ∧ (D'.2.2.2.2.2 = D.2.2.2.2.2 ∨ (D.2.2.2.2.2 = -1 ∧ D'.2.2.2.2.2 = t)) := by
  have same : ∀ E : DS, some E = some D' → E.2.2.2.1 = D.2.2.2.1 → E.2.2.2.2.2 = D.2.2.2.2.2 → D'.2.2.2.1 ≤ D.2.2.2.1 + 25 ∧ (D'.2.2.2.2.2 = D.2.2.2.2.2 ∨ (D.2.2.2.2.2 = -1 ∧ D'.2.2.2.2.2 = t)) := by
    intro E e3 e1 e2
    cases e3
    exact ⟨by omega, Or.inl e2⟩
  unfold doD at h
  by_cases h5 : q0 = 5
  · rw [if_pos h5] at h
    split at h
    · cases h
    · exact same _ h rfl rfl
  · rw [if_neg h5] at h
    by_cases h6 : n ≤ q1.toNatClampNeg
    · rw [if_pos h6] at h; cases h
    · rw [if_neg h6] at h
      by_cases h0 : q0 = 0
      · rw [if_pos h0] at h
        split at h
        · cases h
        · cases h
          have := hit_le (W * H) hC D.2.1 (nowN W H D q1.toNatClampNeg) q2.toNatClampNeg 9
          refine ⟨?_, ?_⟩
          · show D.2.2.2.1 + _ ≤ _
            omega
          · show (if D.2.2.2.2.2 = -1 ∧ _ then t else D.2.2.2.2.2) = _ ∨ (_ ∧ (if D.2.2.2.2.2 = -1 ∧ _ then t else D.2.2.2.2.2) = t)
            split
            · rename_i z; exact Or.inr ⟨z.1, rfl⟩
            · exact Or.inl rfl
      · rw [if_neg h0] at h
        by_cases h1 : q0 = 1
        · rw [if_pos h1] at h; exact same _ h rfl rfl
        · rw [if_neg h1] at h
          by_cases h2 : q0 = 2
          · rw [if_pos h2] at h; exact same _ h rfl rfl
          · rw [if_neg h2] at h
            by_cases h3 : q0 = 3
            · rw [if_pos h3] at h
              split at h
              · cases h
              · exact same _ h rfl rfl
            · rw [if_neg h3] at h
              split at h
              · exact same _ h rfl rfl
              · cases h
theorem c_run {w : WS} {W H sl n N nd i : Nat} {cu we : Nat → Nat} {q : Nat → Int32} (ok : shOK W H sl n cu we) (hw : w.1 < 8) (hi : i < 8) (hq : ∀ k, k < nd → qd q k) (hnd : nd ≤ 40) (hN : N ≤ nd) :
    ∀ r F k D mi, k + r = N → r < F → ShC mi w.1 W H sl n cu we → mi 0 i 0 = nI nd → (∀ p, p < 160 → mi 29 i p = q p) → DC mi W H D → DOK W H we D → mi 8 0 6 = nI k →
      ∃ m', L_X9_run_0 w F mi i (nI N) = some (nI (goN (stpN W H n we q) r k D).1, m') ∧ DC m' W H (goN (stpN W H n we q) r k D).2 ∧ DOK W H we (goN (stpN W H n we q) r k D).2 ∧ ShC m' w.1 W H sl n cu we := by
  intro r
  induction r with
  | zero =>
    intro F k D mi hk hF hs h0 h29 hd hD h6
    obtain ⟨F, rfl⟩ : ∃ m, F = m + 1 := ⟨F - 1, by omega⟩
    refine ⟨mi, ?_, hd, hD, hs⟩
    rw [L_X9_run_0, h6, if_pos (by rw [nle (by omega) (by omega)]; omega)]
    rfl
  | succ r ih =>
    intro F k D mi hk hF hs h0 h29 hd hD h6
    obtain ⟨F, rfl⟩ : ∃ m, F = m + 1 := ⟨F - 1, by omega⟩
    have pt : ∀ p, p < 4 → F_X0_part mi w i (nI k) (nI p) = some (q (4 * k + p)) := fun p hp => by rw [c_part w (by omega) hp, h29 _ (by omega)]
    have p0 : F_X0_part mi w i (nI k) 0 = some (q (4 * k)) := pt 0 (by omega)
    have p1 : F_X0_part mi w i (nI k) 1 = some (q (4 * k + 1)) := pt 1 (by omega)
    have p2 : F_X0_part mi w i (nI k) 2 = some (q (4 * k + 2)) := pt 2 (by omega)
    have p3 : F_X0_part mi w i (nI k) 3 = some (q (4 * k + 3)) := pt 3 (by omega)
    rw [L_X9_run_0, h6, if_neg (by rw [nle (by omega) (by omega)]; omega), h0, if_neg (by rw [nle (by omega) (by omega)]; omega), p0, Option.bind_some, p1, Option.bind_some, p2, Option.bind_some, p3, Option.bind_some]
    have ht : nI k ≠ -1 := fun z => by
      have : (nI k).toInt = (-1 : Int32).toInt := by rw [z]
      rw [nI_toInt (by omega)] at this
      have e : (-1 : Int32).toInt = -1 := by decide
      omega
    rcases c_act ok hs hd hD (by rw [h6]; exact ht) (hq k (by omega)) with ⟨g1, g2⟩ | ⟨D', m1, g1, g2, g3, g4, g5, g6⟩
    · rw [h6] at g1
      have g1 : stpN W H n we q k D = none := g1
      rw [g2, Option.bind_some, if_pos rfl, go_no g1]
      dsimp only
      rw [h6]
      exact ⟨mi, rfl, hd, hD, hs⟩
    · rw [h6] at g1 g5
      have g1 : stpN W H n we q k D = some D' := g1
      rw [g2, Option.bind_some, if_neg ne10, lt_e, go_yes g1]
      dsimp only
      rw [g5, i1, nadd]
      have K : Keep mi m1 := kp_X9_act g2
      have K2 : Keep mi (u3 m1 8 0 6 (nI (k + 1))) := keep_u3 rfl K
      exact ih F (k + 1) D' _ (by omega) (by omega) (ShC_keep K2 hw hs) (by rw [K2 0 i 0 (st_c (by omega) hi)]; exact h0) (fun p hp => by rw [K2 29 i p (st_c (by omega) hi)]; exact h29 p hp) (by
        obtain ⟨a1, a2, a3, a4, a5, a6⟩ := g3
        exact ⟨fun s hs => by rw [u3_n (by omega), u3_n (by omega), u3_n (by omega), u3_n (by omega)]; exact a1 s hs, fun c c1 c9 => by rw [u3_n (by omega)]; exact a2 c c1 c9, by rw [u3_n (by omega)]; exact a3, by rw [u3_n (by omega)]; exact a4, by rw [u3_n (by omega)]; exact a5, by rw [u3_n (by omega)]; exact a6⟩) g4 u3_s
theorem run_L (mi : MI) (w : WS) (i : Nat) (x : Int32) : F_X9_run mi w i x = L_X9_run_0 w (1000000 + 1) mi i x := by
  unfold F_X9_run
  exact (L_X9_run_0.eq_2 w mi i x 1000000).symm
theorem m_doesDeed {m : MI} {w : WS} {j jd W H sl n nd k : Nat} {cu we : Nat → Nat} {q : Nat → Int32} {D : DS} (ok : shOK W H sl n cu we) (hj : j < 2) (hjd : jd < 2) (hq : ∀ k, k < nd → qd q k) (hnd : nd ≤ 40) (hk : k < nd) (h35 : m 10 0 35 = nI jd) (h56 : ∀ p, p < 4 * nd → m 56 0 (161 * jd + (1 + p)) = q p) (hd : DM m j W H n we D) (hD : DOK W H we D) :
    MAct m j W H n we D (F_X11_doesDeed m w (nI k)) (stpN W H n we q k D) := by
  have pt : ∀ p, p < 4 → F_X11_deedOf m w (nI k) (nI p) = some (q (4 * k + p)) := fun p hp => by rw [m_deedOf w h35 hjd (by omega) hp, h56 _ (by omega)]
  have p0 : F_X11_deedOf m w (nI k) 0 = some (q (4 * k)) := pt 0 (by omega)
  have p1 : F_X11_deedOf m w (nI k) 1 = some (q (4 * k + 1)) := pt 1 (by omega)
  have p2 : F_X11_deedOf m w (nI k) 2 = some (q (4 * k + 2)) := pt 2 (by omega)
  have p3 : F_X11_deedOf m w (nI k) 3 = some (q (4 * k + 3)) := pt 3 (by omega)
  unfold F_X11_doesDeed
  rw [p0, Option.bind_some, p1, Option.bind_some, p2, Option.bind_some, p3, Option.bind_some]
  exact mact_ck (m_act ok hj hd hD (nI k) (hq k hk))
theorem do_ok {W H sl n : Nat} {cu we : Nat → Nat} {t : Int32} {D D' : DS} {q0 q1 q2 q3 : Int32} (ok : shOK W H sl n cu we) (hD : DOK W H we D) (ht : t ≠ -1) (hq : deedOK q0 q1 q2 q3) (h : doD W H n we t D q0 q1 q2 q3 = some D') : DOK W H we D' := by
  have hn := ok.cnt
  have cutOK : ∀ s x, s < 6 → x < 2 ^ (W * H) → DOK W H we (cutD D s x) := by
    intro s x s6 hx
    refine ⟨fun k hk => ?_, hD.2.1, hD.2.2⟩
    obtain ⟨a1, a2⟩ := hD.1 k hk
    refine ⟨?_, a2⟩
    show updN D.1.1 s x k < _
    by_cases q : k = s
    · rw [q, updN_s]; exact hx
    · rw [updN_n q]; exact a1
  unfold doD at h
  rcases hq with ⟨rfl, ⟨s, s6, rfl⟩, ⟨c, c1, c9, rfl⟩, rfl⟩ | ⟨h0, ⟨s, s6, rfl⟩, rfl, rfl⟩ | ⟨h0, ⟨s, s6, rfl⟩, ⟨x, hx, rfl⟩, ⟨y, hy, rfl⟩⟩ | ⟨rfl, ⟨c, c1, c9, rfl⟩, rfl, rfl⟩
  · rw [if_neg (by decide), ncl (by omega), ncl (by omega)] at h
    split at h
    · cases h
    · rw [if_pos rfl] at h
      split at h
      · cases h
      · cases h
        refine ⟨fun k hk => ?_, fun p => ?_, ?_⟩
        · obtain ⟨b1, b2, b3, b4⟩ := hD.1 k hk
          refine ⟨b1, ?_, b3, b4⟩
          show updN D.1.2.1 s (D.1.2.1 s + 1) k ≤ we k
          by_cases q : k = s
          · rw [q, updN_s]; omega
          · rw [updN_n q]; exact b2
        · show (if (nowN W H D s).testBit p then c else D.2.1 p) ≤ 9
          have := hD.2.1 p
          split <;> omega
        · show (if D.2.2.2.2.2 = -1 ∧ hitN (W * H) D.2.1 (nowN W H D s) c 9 ≠ 0 then t else D.2.2.2.2.2) = -1 ↔ D.2.2.2.1 + hitN (W * H) D.2.1 (nowN W H D s) c 9 = 0
          have hf := hD.2.2
          generalize hitN (W * H) D.2.1 (nowN W H D s) c 9 = q at *
          by_cases z : D.2.2.2.2.2 = -1 ∧ q ≠ 0
          · rw [if_pos z]
            exact ⟨fun y => absurd y ht, fun y => absurd (show q = 0 by omega) z.2⟩
          · rw [if_neg z, hf]
            constructor
            · intro y
              have : q = 0 := Decidable.byContradiction fun x => z ⟨hf.mpr y, x⟩
              omega
            · intro y; omega
  · rw [if_neg (by rcases h0 with rfl | rfl <;> decide), ncl (by omega)] at h
    split at h
    · cases h
    · have hX := (hD.1 s s6).1
      rcases h0 with rfl | rfl
      · rw [if_neg (by decide), if_pos rfl] at h
        cases h
        exact cutOK s _ s6 (fl_lt ok.bw.1.2 ok.bw.2.2 hX)
      · rw [if_neg (by decide), if_neg (by decide), if_pos rfl] at h
        cases h
        exact cutOK s _ s6 (tu_lt ok.bw.1.2 ok.bw.2.2 hX)
  · rw [if_neg (by rcases h0 with rfl | rfl <;> decide), ncl (by omega), ncl (by omega), ncl (by omega)] at h
    split at h
    · cases h
    · rcases h0 with rfl | rfl
      · rw [if_neg (by decide), if_neg (by decide), if_neg (by decide), if_pos rfl] at h
        split at h
        · cases h
        · cases h
          refine ⟨fun k hk => ?_, hD.2.1, hD.2.2⟩
          obtain ⟨a1, a2, a3, a4⟩ := hD.1 k hk
          refine ⟨a1, a2, ?_, ?_⟩
          · show updN D.1.2.2.1 s x k < 5
            by_cases q : k = s
            · rw [q, updN_s]; exact hx
            · rw [updN_n q]; exact a3
          · show updN D.1.2.2.2 s y k < 5
            by_cases q : k = s
            · rw [q, updN_s]; exact hy
            · rw [updN_n q]; exact a4
      · rw [if_neg (by decide), if_neg (by decide), if_neg (by decide), if_neg (by decide)] at h
        split at h
        · cases h
          exact cutOK s _ s6 (andn_lt _ (hD.1 s s6).1)
        · cases h
  · rw [if_pos rfl, ncl (by omega)] at h
    split at h
    · cases h
    · cases h
      refine ⟨hD.1, fun p => ?_, hD.2.2⟩
      show (if D.2.1 p = c then 0 else D.2.1 p) ≤ 9
      have := hD.2.1 p
      split <;> omega
theorem m1_ne {k : Nat} (hk : k < 2147483648) : nI k ≠ -1 := fun z => by
  have : (nI k).toInt = (-1 : Int32).toInt := by rw [z]
  rw [nI_toInt (by omega)] at this
  have e : (-1 : Int32).toInt = -1 := by decide
  omega
theorem dm_of {m m' : MI} {k W H n : Nat} {we : Nat → Nat} {D : DS} (h : DM m k W H n we D) (e : ∀ c i j, (c = 55 ∨ (61 ≤ c ∧ c ≤ 66)) ∨ (c = 10 ∧ (j = 23 ∨ j = 24 ∨ j = 25 ∨ j = 26 ∨ j = 27 ∨ j = 28 ∨ j = 36 ∨ j = 37)) → m' c i j = m c i j) : DM m' k W H n we D := by
  obtain ⟨h1, ⟨h2, h27⟩, h3, h4, ⟨h5, h6, h7⟩, h8⟩ := h
  refine ⟨MW_of h1 fun j _ _ => e _ _ _ (by omega), ⟨by rw [e _ _ _ (by omega)]; exact h2, by rw [e _ _ _ (by omega)]; exact h27⟩, fun s hs => ?_, fun c hc => by rw [e _ _ _ (by omega)]; exact h4 c hc, ⟨by rw [e _ _ _ (by omega)]; exact h5, by rw [e _ _ _ (by omega)]; exact h6, by rw [e _ _ _ (by omega)]; exact h7⟩, fun s hs => by rw [e _ _ _ (by omega)]; exact h8 s hs⟩
  rw [e 61 _ _ (by omega), e 62 _ _ (by omega), e 63 _ _ (by omega), e 64 _ _ (by omega), e 65 _ _ (by omega)]
  exact h3 s hs
theorem m_play {w : WS} {j jd W H sl n nd N : Nat} {cu we : Nat → Nat} {q : Nat → Int32} (ok : shOK W H sl n cu we) (hj : j < 2) (hjd : jd < 2) (hq : ∀ k, k < nd → qd q k) (hnd : nd ≤ 40) (hN : N ≤ nd) :
    ∀ r F k D m, k + r = N → r < F → m 10 0 35 = nI jd → (∀ p, p < 4 * nd → m 56 0 (161 * jd + (1 + p)) = q p) → DM m j W H n we D → DOK W H we D →
      ∃ m', L_X11_play_2 w F m (nI N) (nI k) = some (nI (goN (stpN W H n we q) r k D).1, m') ∧ DM m' j W H n we (goN (stpN W H n we q) r k D).2 ∧ DOK W H we (goN (stpN W H n we q) r k D).2 := by
  intro r
  induction r with
  | zero =>
    intro F k D m hk hF h35 h56 hd hD
    obtain ⟨F, rfl⟩ : ∃ m, F = m + 1 := ⟨F - 1, by omega⟩
    exact ⟨m, by rw [L_X11_play_2, if_pos (by rw [nle (by omega) (by omega)]; omega)]; rfl, hd, hD⟩
  | succ r ih =>
    intro F k D m hk hF h35 h56 hd hD
    obtain ⟨F, rfl⟩ : ∃ m, F = m + 1 := ⟨F - 1, by omega⟩
    rw [L_X11_play_2, if_neg (by rw [nle (by omega) (by omega)]; omega)]
    rcases m_doesDeed (w := w) ok hj hjd hq hnd (show k < nd by omega) h35 h56 hd hD with ⟨g1, m1, g2, g3, -⟩ | ⟨D', m1, g1, g2, g3, g4⟩
    · rw [g2, Option.bind_some, if_pos rfl, go_no g1]
      exact ⟨m1, rfl, g3, hD⟩
    · rw [g2, Option.bind_some, if_neg ne10, go_yes g1]
      dsimp only
      rw [i1, nadd]
      exact ih F (k + 1) D' m1 (by omega) (by omega) (by rw [g4 10 0 35 ⟨by omega, by omega⟩]; exact h35) (fun p hp => by rw [g4 _ _ _ ⟨by omega, by omega⟩]; exact h56 p hp) g3 (do_ok ok hD (m1_ne (by omega)) (hq k (by omega)) g1)
