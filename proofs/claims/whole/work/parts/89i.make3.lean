/-! MAKE: the model's search -/
theorem m_layRow {w : WS} {n l : Nat} {x1 : Int32} (hn : n ≤ 6) (hl : l ≤ 6) : ∀ k x used t m F, k + t.length = l → k < F → x < 100000 → used < 64 → m 10 0 27 = nI n → (∀ j, j < t.length → m 67 0 (k + j) = nI (t.getD j 0)) →
    (laL n k x used t = none ∧ ∃ m', L_X11_layRow_10 w F m x1 (nI l) (nI x) (nI used) (nI k - 1) = some (0, m') ∧ ∀ c i j, ¬ (c = 67 ∧ i = 0) → m' c i j = m c i j) ∨
    ∃ r m', laL n k x used t = some r ∧ L_X11_layRow_10 w F m x1 (nI l) (nI x) (nI used) (nI k - 1) = some (1, m') ∧ rowM m' 67 r ∧ ∀ c i j, ¬ (c = 67 ∧ i = 0) → m' c i j = m c i j := by
  intro k
  induction k with
  | zero =>
    intro x used t m F hk hF hx hu h27 ht
    obtain ⟨F, rfl⟩ : ∃ G, F = G + 1 := ⟨F - 1, by omega⟩
    refine Or.inr ⟨t, m, rfl, ?_, fun j hj => ?_, fun _ _ _ _ => rfl⟩
    · rw [L_X11_layRow_10, if_pos (by decide)]
    · have := ht j hj
      rw [Nat.zero_add] at this
      exact this
  | succ k ih =>
    intro x used t m F hk hF hx hu h27 ht
    obtain ⟨F, rfl⟩ : ∃ G, F = G + 1 := ⟨F - 1, by omega⟩
    have hd : x % 6 < 6 := Nat.mod_lt _ (by omega)
    rw [nI_pred, L_X11_layRow_10, if_neg (nI_pos (by omega)), i6, nrem (by omega) (by omega) (by omega), laL]
    have fr : ∀ c i j, ¬ (c = 67 ∧ i = 0) → (u3 m 67 0 k (nI (x % 6))) c i j = m c i j := fun c i j h => by rw [u3_n (by omega)]
    rw [ncl (by omega)]
    simp (disch := omega) only [ckJ, lt_e]
    rw [u3_s, u3_n (by omega), h27]
    by_cases h1 : n ≤ x % 6
    · rw [if_pos (show nI n ≤ nI (x % 6) by rw [nle (by omega) (by omega)]; exact h1), if_pos h1]
      exact Or.inl ⟨rfl, _, rfl, fr⟩
    · rw [if_neg (show ¬ nI n ≤ nI (x % 6) by rw [nle (by omega) (by omega)]; exact h1), if_neg h1]
      have tb : (((nI used) >>> (nI (x % 6) &&& 31)) &&& 1 = 1) = (used.testBit (x % 6) = true) := by
        rw [n31 (by omega), nshr (by omega) (by omega), i1, nand, bit1]
      by_cases h2 : used.testBit (x % 6) = true
      · rw [if_pos (tb.mpr h2), if_pos h2]
        exact Or.inl ⟨rfl, _, rfl, fr⟩
      · rw [if_neg (fun q => h2 (tb.mp q)), if_neg h2, ndiv (by omega) (by omega) (by omega), n31 (by omega), i1, nshl _ (by omega), nor, ← i1, nI_dn]
        have hl2 : (x % 6 :: t).length = t.length + 1 := rfl
        rcases ih (x / 6) (used ||| 1 <<< (x % 6)) (x % 6 :: t) (u3 m 67 0 k (nI (x % 6))) F (by omega) (by omega) (by omega) (Nat.or_lt_two_pow (n := 6) hu (bit_lt hd)) (by rw [u3_n (by omega)]; exact h27) (fun j hj => by
          cases j with
          | zero => rw [Nat.add_zero, u3_s]; rfl
          | succ j =>
            rw [u3_n (by omega)]
            have := ht j (by omega)
            rw [show k + (j + 1) = k + 1 + j by omega, this]
            rfl) with ⟨a1, m', a2, a3⟩ | ⟨r, m', a1, a2, a3, a4⟩
        · exact Or.inl ⟨a1, m', a2, fun c i j h => by rw [a3 c i j h]; exact fr c i j h⟩
        · exact Or.inr ⟨r, m', a1, a2, a3, fun c i j h => by rw [a4 c i j h]; exact fr c i j h⟩
/-- one sheet's cells: its colour, or none -/
theorem m_cells {w : WS} {W H k jp : Nat} {co : Nat → Nat} {S left : Nat} {x1 : Int32} {k13 : MI → Int32 → Int32 → Int32 → Option (Int32 × MI)} (b : BW W H) (hk : k < 6) (hjp : jp < 2) (hS : S < 33554432) :
    ∀ r p F m rc, p + r = W * H → r < F → MW m W H → m 10 0 38 = nI jp → (∀ k, k < 25 → co k ≤ 9 ∧ m 57 0 (26 * jp + (1 + k)) = nI (co k)) → clM (coC W co) S p = some rc → rc ≤ 9 → m 68 0 k = nI rc →
      (clM (coC W co) S (W * H) = none ∧ ∃ m', L_X11_makes_42 w k13 F m x1 (nI left) (nI k) (nI S) (nI p) = some (0, m') ∧ ∀ c i j, ¬ (c = 68 ∧ i = 0 ∧ j = k) → m' c i j = m c i j) ∨
      ∃ rc' m', clM (coC W co) S (W * H) = some rc' ∧ rc' ≤ 9 ∧ L_X11_makes_42 w k13 F m x1 (nI left) (nI k) (nI S) (nI p) = (if rc' = 0 then some (0, m') else k13 m' x1 (nI left &&& (nI S ^^^ (-1))) (nI k + (-1))) ∧ m' 68 0 k = nI rc' ∧ ∀ c i j, ¬ (c = 68 ∧ i = 0 ∧ j = k) → m' c i j = m c i j := by
  have hC := cells_le b.1.2 b.2.2
  intro r
  induction r with
  | zero =>
    intro p F m rc hp hF mw h38 h57 hcl h9 h68
    obtain ⟨F, rfl⟩ : ∃ G, F = G + 1 := ⟨F - 1, by omega⟩
    have hp' : p = W * H := by omega
    subst hp'
    refine Or.inr ⟨rc, m, hcl, h9, ?_, h68, fun _ _ _ _ => rfl⟩
    rw [L_X11_makes_42, if_pos (by rw [mw.2.2, nle (by omega) (by omega)]; omega)]
    simp (disch := omega) only [ncl, ckJ]
    rw [h68]
    by_cases e : rc = 0
    · rw [if_pos (by rw [e]; rfl), if_pos e]
    · rw [if_neg (nne0 (by omega) e), if_neg e]
  | succ r ih =>
    intro p F m rc hp hF mw h38 h57 hcl h9 h68
    obtain ⟨F, rfl⟩ : ∃ G, F = G + 1 := ⟨F - 1, by omega⟩
    have tb : (((nI S) >>> (nI p &&& 31)) &&& 1 = 1) = (S.testBit p = true) := by
      rw [n31 (by omega), nshr (by omega) (by omega), i1, nand, bit1]
    have hcol : F_X11_colourOf m w (nI p) = some (nI (coC W co p)) := m_colourOf w b mw hjp h38 h57 (by omega)
    have hpc : 5 * (p / W) + p % W < 25 := by
      obtain ⟨g1, g2, g3, g4, g5⟩ := pic_cells b (show p < W * H by omega)
      omega
    have hc9 : coC W co p ≤ 9 := (h57 _ hpc).1
    have hstep : clM (coC W co) S (p + 1) = if S.testBit p = true then (if coC W co p = 0 then none else if rc ≠ 0 ∧ rc ≠ coC W co p then none else some (coC W co p)) else some rc := by
      rw [clM, hcl, Option.bind_some]
    have stuck : ∀ q, p + 1 ≤ q → clM (coC W co) S (p + 1) = none → clM (coC W co) S q = none := by
      intro q hq hno
      induction q with
      | zero => omega
      | succ q ihq =>
        by_cases e : q = p
        · rw [e]; exact hno
        · rw [clM, ihq (by omega)]; rfl
    have go : ∀ v, clM (coC W co) S (p + 1) = some v → v ≤ 9 → (clM (coC W co) S (W * H) = none ∧ ∃ m', L_X11_makes_42 w k13 F (u3 m 68 0 k (nI v)) x1 (nI left) (nI k) (nI S) (nI p + 1) = some (0, m') ∧ ∀ c i j, ¬ (c = 68 ∧ i = 0 ∧ j = k) → m' c i j = m c i j) ∨
      ∃ rc' m', clM (coC W co) S (W * H) = some rc' ∧ rc' ≤ 9 ∧ L_X11_makes_42 w k13 F (u3 m 68 0 k (nI v)) x1 (nI left) (nI k) (nI S) (nI p + 1) = (if rc' = 0 then some (0, m') else k13 m' x1 (nI left &&& (nI S ^^^ (-1))) (nI k + (-1))) ∧ m' 68 0 k = nI rc' ∧ ∀ c i j, ¬ (c = 68 ∧ i = 0 ∧ j = k) → m' c i j = m c i j := by
      intro v hv hv9
      rw [show nI p + 1 = nI (p + 1) by rw [i1, nadd]]
      rcases ih (p + 1) F (u3 m 68 0 k (nI v)) v (by omega) (by omega) (MW_of mw fun j _ _ => u3_n (by omega)) (by rw [u3_n (by omega)]; exact h38) (fun q hq => by rw [u3_n (by omega)]; exact h57 q hq) hv hv9 u3_s with ⟨a1, m', a2, a3⟩ | ⟨rc', m', a1, a2, a3, a4, a5⟩
      · exact Or.inl ⟨a1, m', a2, fun c i j h => by rw [a3 c i j h, u3_n (by omega)]⟩
      · exact Or.inr ⟨rc', m', a1, a2, a3, a4, fun c i j h => by rw [a5 c i j h, u3_n (by omega)]⟩
    rw [L_X11_makes_42, if_neg (by rw [mw.2.2, nle (by omega) (by omega)]; omega)]
    simp (disch := omega) only [ncl, ckJ, lt_e]
    by_cases hb : S.testBit p = true
    · have hb' := tb.mpr hb
      rw [if_pos hb] at hstep
      simp only [if_pos hb']
      rw [hcol, Option.bind_some, h68]
      by_cases h0 : coC W co p = 0
      · rw [if_pos h0] at hstep
        rw [if_pos (show nI (coC W co p) = 0 by rw [h0]; rfl)]
        exact Or.inl ⟨stuck (W * H) (by omega) hstep, m, rfl, fun _ _ _ _ => rfl⟩
      · rw [if_neg h0] at hstep
        rw [if_neg (nne0 (by omega) h0)]
        by_cases z : rc = 0
        · rw [if_neg (fun q => q.1 z)] at hstep
          rw [if_pos (show nI rc = 0 by rw [z]; rfl)]
          exact go _ hstep hc9
        · rw [if_neg (nne0 (by omega) z)]
          by_cases y : rc = coC W co p
          · rw [if_neg (fun q => q.2 y)] at hstep
            rw [if_pos (show nI rc = nI (coC W co p) by rw [y])]
            exact go _ hstep hc9
          · rw [if_pos ⟨z, y⟩] at hstep
            rw [if_neg (nne (by omega) (by omega) y)]
            exact Or.inl ⟨stuck (W * H) (by omega) hstep, m, rfl, fun _ _ _ _ => rfl⟩
    · have hb' : ¬ (((nI S) >>> (nI p &&& 31)) &&& 1 = 1) := fun q => hb (tb.mp q)
      rw [if_neg hb] at hstep
      simp only [if_neg hb']
      rw [h68]
      exact go rc hstep h9
theorem andn_left {o am cov : Nat} (h : ∀ i, o.testBit i = true → am.testBit i = true) : o &&& andn am cov = andn o cov := eq_tb fun i => by
  rw [Nat.testBit_and, tb_andn, tb_andn]
  cases q : o.testBit i
  · simp
  · rw [h i q]; simp
theorem andn_left2 {o am cov : Nat} : andn (andn am cov) (andn o cov) = andn am (cov ||| o) := eq_tb fun i => by
  rw [tb_andn, tb_andn, tb_andn, tb_andn, Nat.testBit_or]
  cases am.testBit i <;> cases cov.testBit i <;> cases o.testBit i <;> simp
theorem m_169 {m : MI} {w : WS} {W H jp left : Nat} {co : Nat → Nat} {x1 : Int32} (b : BW W H) (mw : MW m W H) (hjp : jp < 2) (h38 : m 10 0 38 = nI jp) (h57 : ∀ k, k < 25 → co k ≤ 9 ∧ m 57 0 (26 * jp + (1 + k)) = nI (co k)) (hl : left < 2 ^ (W * H)) : L_X11_makes_169 w 1000000 m x1 (nI left) 0 = some (bT (decide (andn left (celN W H co 0) = 0)), m) := by
  have hC := cells_le b.1.2 b.2.2
  have hl2 := pw hl hC
  have key : ∀ r F p, p + r = W * H → r < F → (∀ q, q < p → left.testBit q = true → coC W co q = 0) → L_X11_makes_169 w F m x1 (nI left) (nI p) = some (bT (decide (andn left (celN W H co 0) = 0)), m) := by
    intro r
    induction r with
    | zero =>
      intro F p hp hF hall
      obtain ⟨F, rfl⟩ : ∃ G, F = G + 1 := ⟨F - 1, by omega⟩
      rw [L_X11_makes_169, if_pos (by rw [mw.2.2, nle (by omega) (by omega)]; omega), decide_eq_true ((cel_sub hl).mpr fun q hq => hall q (by omega))]
      rfl
    | succ r ih =>
      intro F p hp hF hall
      obtain ⟨F, rfl⟩ : ∃ G, F = G + 1 := ⟨F - 1, by omega⟩
      have tb : (((nI left) >>> (nI p &&& 31)) &&& 1 = 1) = (left.testBit p = true) := by
        rw [n31 (by omega), nshr (by omega) (by omega), i1, nand, bit1]
      have hcol : F_X11_colourOf m w (nI p) = some (nI (coC W co p)) := m_colourOf w b mw hjp h38 h57 (by omega)
      have hpc : 5 * (p / W) + p % W < 25 := by
        obtain ⟨g1, g2, g3, g4, g5⟩ := pic_cells b (show p < W * H by omega)
        omega
      have hc9 : coC W co p ≤ 9 := (h57 _ hpc).1
      have nx : (coC W co p = 0 ∨ left.testBit p ≠ true) → L_X11_makes_169 w F m x1 (nI left) (nI p + 1) = some (bT (decide (andn left (celN W H co 0) = 0)), m) := fun h => by
        rw [show nI p + 1 = nI (p + 1) by rw [i1, nadd]]
        refine ih F (p + 1) (by omega) (by omega) fun q hq hs => ?_
        by_cases e : q = p
        · rw [e] at hs ⊢
          rcases h with h | h
          · exact h
          · exact absurd hs h
        · exact hall q (by omega) hs
      rw [L_X11_makes_169, if_neg (by rw [mw.2.2, nle (by omega) (by omega)]; omega)]
      by_cases hb : left.testBit p = true
      · rw [if_pos (tb.mpr hb), hcol, Option.bind_some]
        by_cases h0 : coC W co p = 0
        · rw [if_pos (show nI (coC W co p) = 0 by rw [h0]; rfl)]
          exact nx (Or.inl h0)
        · rw [if_neg (nne0 (by omega) h0), decide_eq_false (fun z => h0 ((cel_sub hl).mp z p (by omega) hb))]
          rfl
      · rw [if_neg (fun q => hb (tb.mp q))]
        exact nx (Or.inr hb)
  exact key (W * H) 1000000 0 (by omega) (by omega) fun q hq => absurd hq (Nat.not_lt_zero q)
theorem m_makes {m0 : MI} {w : WS} {W H sl n l jp : Nat} {cu we co : Nat → Nat} {row : List Nat} {x1 : Int32} (ok : shOK W H sl n cu we) (mw : MW m0 W H) (h62 : ∀ s, s < 6 → m0 62 0 s = nI (opS W H cu s)) (hjp : jp < 2) (h38 : m0 10 0 38 = nI jp) (h57 : ∀ k, k < 25 → co k ≤ 9 ∧ m0 57 0 (26 * jp + (1 + k)) = nI (co k)) (hl : l ≤ 6) (hr : rowM m0 67 row) (hlen : row.length = l) (hrow : ∀ x, x ∈ row → x < n) :
    ∀ k cov m F, k ≤ l → k < F → cov < 33554432 → (∀ c i j, ¬ (c = 68 ∧ i = 0) → m c i j = m0 c i j) →
      ∃ m', L_X11_makes_13 w F m x1 (nI (andn (aM W H) cov)) (nI k - 1) = some (bT (mkF (opS W H cu) (rF row) W H co k cov), m') ∧ (mkF (opS W H cu) (rF row) W H co k cov = true → ∀ j, j < k → ∃ col, m' 68 0 j = nI col ∧ (cdF (opS W H cu) (rF row) W H co k cov).getD j 0 = 10 * rF row j + col) ∧ (∀ j, k ≤ j → m' 68 0 j = m 68 0 j) ∧ ∀ c i j, ¬ (c = 68 ∧ i = 0) → m' c i j = m0 c i j := by
  have hn := ok.cnt
  have hC := ok.cells
  intro k
  induction k with
  | zero =>
    intro cov m F _ hF hcov fr
    obtain ⟨F, rfl⟩ : ∃ G, F = G + 1 := ⟨F - 1, by omega⟩
    refine ⟨m, ?_, fun _ j hj => absurd hj (Nat.not_lt_zero j), fun _ _ => rfl, fr⟩
    rw [L_X11_makes_13, if_pos (by decide), m_169 ok.bw (MW_of mw fun j _ _ => fr _ _ _ (by omega)) hjp (by rw [fr _ _ _ (by omega)]; exact h38) (fun k hk => by rw [fr _ _ _ (by omega)]; exact h57 k hk) (andn_lt _ (aM_lt W H))]
    rfl
  | succ k ih =>
    intro cov m F hk hF hcov fr
    obtain ⟨F, rfl⟩ : ∃ G, F = G + 1 := ⟨F - 1, by omega⟩
    have hs : rF row k < n := hrow _ (gd_mem row k (by omega))
    have hm : m 67 0 k = nI (rF row k) := by rw [fr _ _ _ (by omega)]; exact hr k (by omega)
    have ho : opS W H cu (rF row k) < 2 ^ (W * H) := ok.op (s := rF row k) (by omega)
    have ho2 := pw ho hC
    have hop : m 62 0 (rF row k) = nI (opS W H cu (rF row k)) := by rw [fr _ _ _ (by omega)]; exact h62 _ (by omega)
    have hS : andn (opS W H cu (rF row k)) cov < 2 ^ (W * H) := andn_lt _ ho
    have hsub : opS W H cu (rF row k) &&& andn (aM W H) cov = andn (opS W H cu (rF row k)) cov := andn_left fun i hi => by
      unfold aM
      rw [Nat.testBit_two_pow_sub_one]
      exact decide_eq_true (lt_tb ho hi)
    rw [nI_pred, L_X11_makes_13, if_neg (nI_pos (by omega)), mkF]
    simp (disch := omega) only [ncl, ckJ, lt_e]
    rw [hm]
    simp (disch := omega) only [ncl, ckJ]
    rw [hop, nand, hsub]
    have hu : ∀ c i j, ¬ (c = 68 ∧ i = 0 ∧ j = k) → (u3 m 68 0 k (0 : Int32)) c i j = m c i j := fun c i j h => by rw [u3_n (by omega)]
    rcases m_cells (w := w) (W := W) (H := H) (k := k) (jp := jp) (co := co) (S := andn (opS W H cu (rF row k)) cov) (left := andn (aM W H) cov) (x1 := x1) (k13 := fun mi x1 x2 x3 => L_X11_makes_13 w F mi x1 x2 x3) ok.bw (by omega) hjp (pw hS hC) (W * H) 0 1000000 (u3 m 68 0 k 0) 0 (by omega) (by omega) (MW_of mw fun j _ _ => by rw [hu _ _ _ (by omega), fr _ _ _ (by omega)]) (by rw [hu _ _ _ (by omega), fr _ _ _ (by omega)]; exact h38) (fun q hq => by rw [hu _ _ _ (by omega), fr _ _ _ (by omega)]; exact h57 q hq) rfl (by omega) u3_s with ⟨a1, m', a2, a3⟩ | ⟨rc', m', a1, a9, a2, a3, a4⟩
    · have z : clS (coC W co) (W * H) (andn (opS W H cu (rF row k)) cov) = 0 := by unfold clS; rw [a1]; rfl
      rw [decide_eq_false (fun q => q z), Bool.false_and]
      exact ⟨m', a2, (fun q => by cases q), fun j hj => by rw [a3 _ _ _ (by omega), hu _ _ _ (by omega)], fun c i j h => by rw [a3 c i j (by omega), hu _ _ _ (by omega)]; exact fr c i j h⟩
    · have z : clS (coC W co) (W * H) (andn (opS W H cu (rF row k)) cov) = rc' := by unfold clS; rw [a1]; rfl
      have fr' : ∀ c i j, ¬ (c = 68 ∧ i = 0) → m' c i j = m0 c i j := fun c i j h => by rw [a4 c i j (by omega), hu _ _ _ (by omega)]; exact fr c i j h
      rw [z]
      by_cases e : rc' = 0
      · rw [if_pos e] at a2
        rw [decide_eq_false (fun q => q e), Bool.false_and]
        exact ⟨m', a2, (fun q => by cases q), fun j hj => by rw [a4 _ _ _ (by omega), hu _ _ _ (by omega)], fr'⟩
      · rw [if_neg e, nandn, andn_left2, nI_dn] at a2
        obtain ⟨m'', c1, c2, c3, c4⟩ := ih (cov ||| opS W H cu (rF row k)) m' F (by omega) (by omega) (or_lt25 hcov ho2) fr'
        rw [decide_eq_true e, Bool.true_and]
        refine ⟨m'', a2.trans c1, fun q j hj => ?_, fun j hj => by rw [c3 j (by omega), a4 _ _ _ (by omega), hu _ _ _ (by omega)], c4⟩
        by_cases ej : j = k
        · exact ⟨rc', by rw [ej, c3 k (Nat.le_refl _), a3], by rw [ej, cd_hi, z]⟩
        · obtain ⟨col, d1, d2⟩ := c2 q j (by omega)
          exact ⟨col, d1, by rw [cd_lo (by omega), d2]⟩
