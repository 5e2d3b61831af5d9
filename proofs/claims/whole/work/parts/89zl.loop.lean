/-! TEXT: line by line, on both sides -/
def clF (m m' : MI) : Prop := ∀ c i j, ¬ (c = 4 ∧ i = 0) → ¬ (c = 6 ∧ i = 0) → ¬ (c = 35 ∧ i = 0) → ¬ (c = 34 ∧ i = 0) → ¬ (i = 8 ∧ (c = 0 ∨ c = 1 ∨ c = 5 ∨ (26 ≤ c ∧ c ≤ 33))) → m' c i j = m c i j
theorem clF_trans {a c d : MI} (h : clF a c) (h2 : clF c d) : clF a d := fun x i j z1 z2 z3 z4 z5 => (h2 x i j z1 z2 z3 z4 z5).trans (h x i j z1 z2 z3 z4 z5)
theorem clF_ln {m m' : MI} (h : lnF m m') : clF m m' := fun c i j z1 z2 z3 _ _ => h c i j (by omega) (by omega) z3
theorem clF_sf {m m' : MI} (h : sfF m m') : clF m m' := fun c i j z1 _ _ z4 z5 => h c i j (by omega) z4 z5
def rdE (m : MI) (w : WS) (x3 : Int32) : Option (MI × WS) := if (m 4 0 4) = 0 then if x3 = 0 then (F_X6_measure m w 8).bind fun c133 => (F_X5_checkShop c133 w (c133 6 0 4)).bind fun c134 => (F_X6_openSheets c134 w 8).bind fun c135 => some (c135, w) else some (m, w) else some (m, w)
theorem r16 {n : Nat} {m : MI} {w : WS} {x2 x3 x4 : Int32} : L_X5_read_16 (n + 1) m w x2 x3 x4 = if 600 < x4 then rdE m w x3 else if (m 6 0 3) = 3 then rdE m w x3 else (F_X5_readLine m w x3).bind fun c131 => if c131.1 = 0 then some (u3 (u3 c131.2 4 0 4 1) 4 0 5 ((u3 c131.2 4 0 4 1) 6 0 4), w) else L_X5_read_16 n c131.2 w x2 x3 (x4 + 1) := by
  rw [L_X5_read_16]; rfl
def aft (n : Nat) (x1 : Int32) (c96 : Int32 × MI × WS) : Option (Int32 × MI × WS) := if c96.1 = 0 then if c96.1 = 0 then L_X11_allLines_2 n c96.2.1 c96.2.2 x1 c96.1 else (F_X11_token c96.2.1 c96.2.2).bind fun c98 => L_X11_allLines_2 n c98.1 c98.2 x1 c96.1 else if (c96.2.1 10 0 13) = 4 then if c96.1 = 0 then L_X11_allLines_2 n c96.2.1 c96.2.2 x1 c96.1 else (F_X11_token c96.2.1 c96.2.2).bind fun c98 => L_X11_allLines_2 n c98.1 c98.2 x1 c96.1 else (F_X11_fails c96.2.1 c96.2.2).bind fun c97 => if c97.1 = 0 then L_X11_allLines_2 n c97.2 c96.2.2 x1 c97.1 else (F_X11_token c97.2 c96.2.2).bind fun c98 => L_X11_allLines_2 n c98.1 c98.2 x1 c97.1
theorem al_eq {n : Nat} {m : MI} {w : WS} {x1 : Int32} (h : ¬ m 10 0 13 = 0) : L_X11_allLines_2 (n + 1) m w x1 1 = (F_X11_lineOf (u3 m 10 0 22 1) w x1 (wdX (u3 m 10 0 22 1) w.2.2.2) (m 10 0 12)).bind (aft n x1) := by
  have e : u3 m 10 0 22 1 10 0 13 = m 10 0 13 := u3_n (by omega)
  rw [L_X11_allLines_2, if_neg (show ¬ (1 : Int32) = 0 by decide), if_neg h]
  unfold wdX
  rw [e]
  by_cases z : m 10 0 13 = 2
  · rw [if_pos z, if_pos z]; rfl
  · rw [if_neg z, if_neg z]; rfl
theorem al_end {n : Nat} {m : MI} {w : WS} {x1 : Int32} (h : m 10 0 13 = 0) : L_X11_allLines_2 (n + 1) m w x1 1 = some (1, m, w) := by
  rw [L_X11_allLines_2, if_neg (show ¬ (1 : Int32) = 0 by decide), if_pos h]
  exact if_pos (Or.inr rfl)
theorem al_0 {n : Nat} {m : MI} {w : WS} {x1 : Int32} : L_X11_allLines_2 (n + 1) m w x1 0 = some (0, m, w) := by
  rw [L_X11_allLines_2, if_pos (show (0 : Int32) = 0 from rfl)]
  exact if_pos (Or.inl rfl)
theorem aft_ok {n : Nat} {m : MI} {w : WS} {x1 : Int32} (h : m 10 0 13 = 4) : aft n x1 (1, m, w) = (F_X11_token m w).bind fun c98 => L_X11_allLines_2 n c98.1 c98.2 x1 1 := by
  unfold aft
  dsimp only
  rw [if_neg (show ¬ (1 : Int32) = 0 by decide), if_pos h, if_neg (show ¬ (1 : Int32) = 0 by decide)]
theorem aft_bad {n : Nat} {m : MI} {w : WS} {x1 : Int32} : aft (n + 1) x1 (0, m, w) = some (0, m, w) := by
  unfold aft
  dsimp only
  rw [if_pos (show (0 : Int32) = 0 from rfl), if_pos (show (0 : Int32) = 0 from rfl), al_0]
theorem aft_no {n : Nat} {m : MI} {w : WS} {x1 : Int32} (h : ¬ m 10 0 13 = 4) : aft (n + 1) x1 (1, m, w) = some (0, u3 m 10 0 16 (m 10 0 12), w) := by
  unfold aft
  dsimp only
  rw [if_neg (show ¬ (1 : Int32) = 0 by decide), if_neg h]
  unfold F_X11_fails
  rw [Option.bind_some]
  dsimp only
  rw [if_pos (show (0 : Int32) = 0 from rfl), al_0]
theorem srt_4 {k : Nat} (h : k ≤ 4) : (nI (srtN k) = 4) = (k = 2) := by
  have e : k = 0 ∨ k = 1 ∨ k = 2 ∨ k = 3 ∨ k = 4 := by omega
  rcases e with e | e | e | e | e <;> subst e <;> decide
theorem srt_0 {k : Nat} (h : k ≤ 4) : (nI (srtN k) = 0) = (k = 3) := by
  have e : k = 0 ∨ k = 1 ∨ k = 2 ∨ k = 3 ∨ k = 4 := by omega
  rcases e with e | e | e | e | e <;> subst e <;> decide
theorem kd_3 {k : Nat} (h : k ≤ 4) : (nI k = 3) = (k = 3) := by
  have e : k = 0 ∨ k = 1 ∨ k = 2 ∨ k = 3 ∨ k = 4 := by omega
  rcases e with e | e | e | e | e <;> subst e <;> decide
theorem ntC_of {m m' : MI} {f : Nat × Nat} (h : ntC m f) (e : ∀ j, (j = 4 ∨ j = 5) → m' 4 0 j = m 4 0 j) : ntC m' f := ⟨h.1, h.2.1, by rw [e _ (by omega)]; exact h.2.2.1, fun q => by rw [e _ (by omega)]; exact h.2.2.2 q⟩
theorem bu_le {i : Nat} (hi : i < 13) : buN i ≤ 600 := by
  unfold buN
  by_cases q : liB i = true
  · rw [if_pos q]; omega
  · rw [if_neg q]; have := ((nu_of hi).2 q).2; omega
theorem tx_loop {s : Nat} {Ct : MI → MI → Nat × Nat → Prop} {b : Nat → Nat} {len : Nat} {x2 : Int32} {wC : WS} (hs : s < 4) (HS : hsT s Ct) (HM : ∀ mC mM mM' f, (∀ j, mM' 59 0 j = mM 59 0 j) → mM' 10 0 21 = mM 10 0 21 → Ct mC mM f → Ct mC mM' f) (HC : ∀ mC mC' mM f, lnF mC mC' → Ct mC mM f → Ct mC' mM f) (hw : wC.2.1 = true) :
    ∀ g F G pos j f mC mM wM, pos ≤ len → len < pos + g → g < F → g + 1 < G → j ≤ pos → tapC mC b len → tokC mC b len pos → ntC mC f → mL b len pos f mM wM → Ct mC mM f →
    (∃ mC' mM' wd pos' f', L_X5_read_16 F mC wC x2 (nI s) (nI j) = rdE mC' wC (nI s) ∧ L_X11_allLines_2 G mM wM (nI s) 1 = some (1, mM', (wM.1, wM.2.1, wM.2.2.1, wd)) ∧ pos' ≤ len ∧ tkK b len pos' = 3 ∧ tapC mC' b len ∧ tokC mC' b len pos' ∧ ntC mC' f' ∧ mL b len pos' f' mM' (wM.1, wM.2.1, wM.2.2.1, wd) ∧ Ct mC' mM' f' ∧ clF mC mC' ∧ MF mM mM') ∨
    (∃ mC' mM' wd p, L_X5_read_16 F mC wC x2 (nI s) (nI j) = some (u3 (u3 mC' 4 0 4 1) 4 0 5 (nI p), wC) ∧ L_X11_allLines_2 G mM wM (nI s) 1 = some (0, mM', (wM.1, wM.2.1, wM.2.2.1, wd)) ∧ p ≤ 600 ∧ mM' 10 0 16 = nI p ∧ clF mC mC' ∧ MF mM mM') := by
  intro g
  induction g with
  | zero => intro F G pos j f mC mM wM h1 h2; omega
  | succ g ih =>
    intro F G pos j f mC mM wM hp hlen hF hG hj ht htk hf hL hC
    obtain ⟨F, rfl⟩ : ∃ X, F = X + 1 := ⟨F - 1, by omega⟩
    obtain ⟨G, rfl⟩ : ∃ X, G = X + 2 := ⟨G - 2, by omega⟩
    have h600 := ht.1
    obtain ⟨p1, p2, p3⟩ := tk_le (b := b) hp
    obtain ⟨t1, t2, t3, t4⟩ := id htk
    obtain ⟨l1, l2, l3, l4⟩ := id hL
    rw [r16, if_neg (show ¬ (600 : Int32) < nI j by rw [show (600 : Int32) = nI 600 from rfl, nlt (by omega) (by omega)]; omega)]
    by_cases kd : tkK b len pos = 3
    · rw [if_pos (show mC 6 0 3 = 3 by rw [t2, kd_3 tkK_le]; exact kd), al_end (show mM 10 0 13 = 0 by rw [l2.2.2.1, srt_0 tkK_le]; exact kd)]
      exact Or.inl ⟨mC, mM, wM.2.2.2, pos, f, rfl, rfl, hp, kd, ht, htk, hf, hL, hC, fun _ _ _ _ _ _ _ _ => rfl, MF_refl mM⟩
    · rw [if_neg (show ¬ mC 6 0 3 = 3 by rw [t2, kd_3 tkK_le]; exact kd), al_eq (show ¬ mM 10 0 13 = 0 by rw [l2.2.2.1, srt_0 tkK_le]; exact kd), l2.2.1]
      have adv := tk_adv (b := b) (len := len) (pos := pos) kd
      have hL2 : mL b len pos f (u3 mM 10 0 22 1) wM := ⟨tapM_of l1 fun c i j q => u3_n (by omega), tokM_of l2 fun j q => u3_n (by omega), ntM_of l3 fun j q => u3_n (by omega), l4⟩
      have hC2 : Ct mC (u3 mM 10 0 22 1) f := HM _ _ _ _ (fun j => u3_n (by omega)) (u3_n (by omega)) hC
      have hF2 : MF mM (u3 mM 10 0 22 1) := fun c i j z1 z2 z3 => u3_n (by omega)
      have bad : ∀ mC' p, mC' 6 0 4 = nI p → (if (0 : Int32) = 0 then some (u3 (u3 mC' 4 0 4 1) 4 0 5 ((u3 mC' 4 0 4 1) 6 0 4), wC) else L_X5_read_16 F mC' wC x2 (nI s) (nI j + 1)) = some (u3 (u3 mC' 4 0 4 1) 4 0 5 (nI p), wC) := by
        intro mC' p e
        rw [if_pos rfl, u3_n (by omega), e]
      rcases c_line (w := wC) hw ht hp htk hs hf with ⟨i, f1, K, mC1, i1', i2', i3', i4', q1, hK, q2, q3, q4, q5, q6, q7⟩ | ⟨n1, n2⟩
      · have hK6 : K ≤ 600 := by have := hK.1; have := bu_le i3'; omega
        obtain ⟨f1', r1, r2⟩ := HS b len pos i K f mC (u3 mM 10 0 22 1) wC wM hp i1' i2' i4' hK hL2 u3_s hC2
        have ef : f1' = f1 := by
          rcases q1 with ⟨a1, a2⟩ | ⟨a1, a2⟩ <;> rcases r1 with ⟨b1, b2⟩ | ⟨b1, b2⟩
          · rw [a2, b2]
          · exact absurd a1 b1
          · exact absurd b1 a1
          · rw [a2, b2]
        subst ef
        have hpK := po_le (b := b) p3 K
        obtain ⟨o1, o2, o3⟩ := tk_le (b := b) hpK.2
        rw [q2]
        rcases r2 with ⟨ok, m', wd, e1, e2, e3, e4⟩ | ⟨ok, m', wd, e1, e2, e3⟩
        · rw [e1, Option.bind_some]
          obtain ⟨s1, s2, s3, s4⟩ := e2
          rcases c_tail (w := wC) q4 i3' hK6 with ⟨v1, v2⟩ | ⟨v1, v2⟩
          · rw [v2, aft_ok (show m' 10 0 13 = 4 by rw [s2.2.2.1, srt_4 tkK_le]; exact v1.1)]
            obtain ⟨mM2, wd2, y1, y2, y3⟩ := m_token (w := (wM.1, wM.2.1, wM.2.2.1, wd)) s1 o3 s2.1
            rw [y1, Option.bind_some]
            obtain ⟨u1, u2⟩ := e3 ok mC1 q7 q6
            have stored : ∃ mC2, (if mC1 4 0 4 = 0 then F_X5_store mC1 wC (nI i) (nI K) else some mC1) = some mC2 ∧ sfF mC1 mC2 ∧ Ct mC2 m' (faF b len (tkE b len pos) i f1' K) := by
              by_cases z : (faF b len (tkE b len pos) i f1' K).1 = 0
              · rw [if_pos (show mC1 4 0 4 = 0 by rw [q5.2.2.1, z]; rfl)]
                exact u2 z
              · rw [if_neg (show ¬ mC1 4 0 4 = 0 by rw [q5.2.2.1]; exact nne0 (by have := q5.1; omega) z)]
                exact ⟨mC1, rfl, fun _ _ _ _ _ _ => rfl, u1 z⟩
            obtain ⟨mC2, x1', x2', x3'⟩ := stored
            rw [x1', Option.bind_some]
            have ht2 : tapC mC2 b len := tapC_by q3 (x2' _ _ _ (by omega) (by omega) (by omega)) fun k => x2' _ _ _ (by omega) (by omega) (by omega)
            obtain ⟨mC3, z1, z2, z3⟩ := c_next (w := wC) hw ht2 o3 (by rw [x2' _ _ _ (by omega) (by omega) (by omega)]; exact q4.1)
            rw [z1, Option.bind_some, Option.bind_some]
            dsimp only
            rw [if_neg (show ¬ (1 : Int32) = 0 by decide), show nI j + 1 = nI (j + 1) from nadd j 1]
            have ln3 : lnF mC2 mC3 := fun c i j a1 _ _ => z3 c i j a1
            have hn3 : ntC mC3 (faF b len (tkE b len pos) i f1' K) := ntC_of q5 fun j hj => by rw [z3 _ _ _ (by omega), x2' _ _ _ (by omega) (by omega) (by omega)]
            have pp := tk_le (b := b) (pos := tkE b len (poN b len (tkE b len pos) K)) o3
            have hL3 : mL b len (tkE b len (poN b len (tkE b len pos) K)) (faF b len (tkE b len pos) i f1' K) mM2 (wM.1, wM.2.1, wM.2.2.1, wd2) := ⟨tapM_of s1 fun c i j q => y3 _ _ _ (by omega), y2, ntM_of s3 fun j q => y3 _ _ _ (by omega), fun q => by have := s4 q; omega⟩
            have hC3 : Ct mC3 mM2 (faF b len (tkE b len pos) i f1' K) := HC _ _ _ _ ln3 (HM _ _ _ _ (fun j => y3 _ _ _ (by omega)) (y3 _ _ _ (by omega)) x3')
            have fC : clF mC mC3 := clF_trans (clF_ln q7) (clF_trans (clF_sf x2') (clF_ln ln3))
            have fM : MF mM mM2 := MF_trans hF2 (MF_trans e4 fun c i j a1 a2 a3 => y3 _ _ _ (by omega))
            rcases ih F (G + 1) _ (j + 1) _ mC3 mM2 (wM.1, wM.2.1, wM.2.2.1, wd2) o3 (by omega) (by omega) (by omega) (by omega) (tapC_of ht2 z3) z2 hn3 hL3 hC3 with ⟨mC', mM', wd', pos', f', g1, g2, g3, g4, g5, g6, g7, g8, g9, g10, g11⟩ | ⟨mC', mM', wd', p, g1, g2, g3, g4, g5, g6⟩
            · exact Or.inl ⟨mC', mM', wd', pos', f', g1, g2, g3, g4, g5, g6, g7, g8, g9, clF_trans fC g10, MF_trans fM g11⟩
            · exact Or.inr ⟨mC', mM', wd', p, g1, g2, g3, g4, clF_trans fC g5, MF_trans fM g6⟩
          · have nk : tkK b len (poN b len (tkE b len pos) K) ≠ 2 := fun z => v1 ⟨z, ok⟩
            rw [v2, aft_no (show ¬ m' 10 0 13 = 4 by rw [s2.2.2.1, srt_4 tkK_le]; exact nk), Option.bind_some]
            refine Or.inr ⟨mC1, _, wd, tkP b len (poN b len (tkE b len pos) K), bad _ _ q4.2.2.1, rfl, by omega, ?_, clF_ln q7, MF_trans hF2 (MF_trans e4 fun c i j a1 a2 a3 => u3_n (by omega))⟩
            rw [u3_s]; exact s2.2.1
        · rw [e1, Option.bind_some, aft_bad]
          rcases c_tail (w := wC) q4 i3' hK6 with ⟨v1, v2⟩ | ⟨v1, v2⟩
          · exact absurd v1.2 ok
          · rw [v2, Option.bind_some]
            exact Or.inr ⟨mC1, m', wd, tkP b len (poN b len (tkE b len pos) K), bad _ _ q4.2.2.1, rfl, by omega, e2, clF_ln q7, MF_trans hF2 e3⟩
      · rw [n2, m_noLine hp hL2.2.1 hs n1, Option.bind_some, Option.bind_some, aft_bad]
        refine Or.inr ⟨mC, _, wM.2.2.2, tkP b len pos, bad _ _ t3, rfl, by omega, u3_s, fun _ _ _ _ _ _ _ _ => rfl, MF_trans hF2 fun c i j a1 a2 a3 => u3_n (by omega)⟩
theorem hm_0 : ∀ mC mM mM' f, (∀ j, mM' 59 0 j = mM 59 0 j) → mM' 10 0 21 = mM 10 0 21 → Ct0 mC mM f → Ct0 mC mM' f := by
  intro mC mM mM' f e1 e2 h
  obtain ⟨a, ⟨nm, c1, c2⟩, d⟩ := h
  refine ⟨a, ⟨nm, c1, by rw [e1]; exact c2⟩, fun z => ?_⟩
  obtain ⟨W, H, sl, n, wb, ro, we, d1, d2, d3⟩ := d z
  exact ⟨W, H, sl, n, wb, ro, we, d1, d2, by unfold sM0 at d3 ⊢; simp only [e1, e2]; exact d3⟩
theorem hm_1 : ∀ mC mM mM' f, (∀ j, mM' 59 0 j = mM 59 0 j) → mM' 10 0 21 = mM 10 0 21 → Ct1 mC mM f → Ct1 mC mM' f := by
  intro mC mM mM' f e1 e2 h
  obtain ⟨a, ⟨nm, c1, c2⟩, d⟩ := h
  refine ⟨a, ⟨nm, c1, by rw [e1]; exact c2⟩, fun z => ?_⟩
  obtain ⟨n, q, d1, d2, d3⟩ := d z
  exact ⟨n, q, d1, d2, by unfold sM1 at d3 ⊢; simp only [e1]; exact d3⟩
theorem hm_2 : ∀ mC mM mM' f, (∀ j, mM' 59 0 j = mM 59 0 j) → mM' 10 0 21 = mM 10 0 21 → Ct2 mC mM f → Ct2 mC mM' f := by
  intro mC mM mM' f e1 e2 h
  obtain ⟨a, ⟨nm, c1, c2⟩, d⟩ := h
  refine ⟨a, ⟨nm, c1, by rw [e1]; exact c2⟩, fun z => ?_⟩
  obtain ⟨n, q, d1, d2, d3⟩ := d z
  exact ⟨n, q, d1, d2, by unfold sM2 at d3 ⊢; simp only [e1]; exact d3⟩
theorem hm_3 : ∀ mC mM mM' f, (∀ j, mM' 59 0 j = mM 59 0 j) → mM' 10 0 21 = mM 10 0 21 → Ct3 mC mM f → Ct3 mC mM' f := by
  intro mC mM mM' f e1 e2 h
  obtain ⟨a, ⟨nm, c1, c2⟩, d⟩ := h
  refine ⟨a, ⟨nm, c1, by rw [e1]; exact c2⟩, fun z => ?_⟩
  obtain ⟨n, q, d1, d2, d3⟩ := d z
  exact ⟨n, q, d1, d2, by unfold sM1 at d3 ⊢; simp only [e1]; exact d3⟩
theorem hc_0 : ∀ mC mC' mM f, lnF mC mC' → Ct0 mC mM f → Ct0 mC' mM f := by
  intro mC mC' mM f e h
  obtain ⟨⟨nc, c1, c2⟩, a, d⟩ := h
  refine ⟨⟨nc, c1, by rw [e _ _ _ (by omega) (by omega) (by omega)]; exact c2⟩, a, fun z => ?_⟩
  obtain ⟨W, H, sl, n, wb, ro, we, d1, d2, d3⟩ := d z
  exact ⟨W, H, sl, n, wb, ro, we, d1, sC0_of e d2, d3⟩
theorem hc_1 : ∀ mC mC' mM f, lnF mC mC' → Ct1 mC mM f → Ct1 mC' mM f := by
  intro mC mC' mM f e h
  obtain ⟨⟨nc, c1, c2⟩, a, d⟩ := h
  refine ⟨⟨nc, c1, by rw [e _ _ _ (by omega) (by omega) (by omega)]; exact c2⟩, a, fun z => ?_⟩
  obtain ⟨n, q, d1, d2, d3⟩ := d z
  exact ⟨n, q, d1, sC1_of e d2, d3⟩
theorem hc_2 : ∀ mC mC' mM f, lnF mC mC' → Ct2 mC mM f → Ct2 mC' mM f := by
  intro mC mC' mM f e h
  obtain ⟨⟨nc, c1, c2⟩, a, d⟩ := h
  refine ⟨⟨nc, c1, by rw [e _ _ _ (by omega) (by omega) (by omega)]; exact c2⟩, a, fun z => ?_⟩
  obtain ⟨n, q, d1, d2, d3⟩ := d z
  exact ⟨n, q, d1, sC2_of e d2, d3⟩
theorem hc_3 : ∀ mC mC' mM f, lnF mC mC' → Ct3 mC mM f → Ct3 mC' mM f := by
  intro mC mC' mM f e h
  obtain ⟨⟨nc, c1, c2⟩, a, d⟩ := h
  refine ⟨⟨nc, c1, by rw [e _ _ _ (by omega) (by omega) (by omega)]; exact c2⟩, a, fun z => ?_⟩
  obtain ⟨n, q, d1, d2, d3⟩ := d z
  exact ⟨n, q, d1, sC3_of e d2, d3⟩
