/-! MAKE: the call -/
theorem m_80 {m0 : MI} {w : WS} {l : Nat} {a : List Nat} {x2 x3 : Int32} (hl : l ≤ 6) (ha : ∀ j, j < l → ∃ u v, m0 67 0 j = nI u ∧ m0 68 0 j = nI v ∧ a.getD j 0 = 10 * u + v) : ∃ m, L_X11_keepFirst_80 w 1000000 m0 (nI l) x2 x3 0 = some m ∧ (∀ j, j < l → m 69 0 j = nI (a.getD j 0)) ∧ ∀ c i j, ¬ (c = 69 ∧ i = 0) → m c i j = m0 c i j := by
  have key := lp_inv (L := fun f m k => L_X11_keepFirst_80 w f m (nI l) x2 x3 (nI k)) (N := l) (post := fun m => some m) (fun k m => (∀ j, j < k → m 69 0 j = nI (a.getD j 0)) ∧ ∀ c i j, ¬ (c = 69 ∧ i = 0) → m c i j = m0 c i j) (fun f m hI => ?_) (fun f k m hk hI => ?_) (F := 1000000) (by omega) m0 ⟨fun j hj => absurd hj (Nat.not_lt_zero j), fun _ _ _ _ => rfl⟩
  · obtain ⟨m, ⟨g1, g2⟩, g3⟩ := key
    exact ⟨m, g3, g1, g2⟩
  · show L_X11_keepFirst_80 w (f + 1) m (nI l) x2 x3 (nI l) = _
    rw [L_X11_keepFirst_80, if_pos (by rw [nle (by omega) (by omega)]; omega)]
  · show ∃ s', L_X11_keepFirst_80 w (f + 1) m (nI l) x2 x3 (nI k) = L_X11_keepFirst_80 w f s' (nI l) x2 x3 (nI (k + 1)) ∧ _
    obtain ⟨u, v, h1, h2, h3⟩ := ha k hk
    have e10 : (10 : Int32) = nI 10 := rfl
    rw [L_X11_keepFirst_80, if_neg (by rw [nle (by omega) (by omega)]; omega)]
    simp (disch := omega) only [ncl, ckJ, lt_e]
    rw [hI.2 67 0 k (by omega), hI.2 68 0 k (by omega), h1, h2, e10, nmul, nadd, ← h3, show nI k + 1 = nI (k + 1) by rw [i1, nadd]]
    refine ⟨_, rfl, fun j hj => ?_, fun c i j h => by rw [u3_n (by omega)]; exact hI.2 c i j h⟩
    by_cases e : j = k
    · rw [e, u3_s]
    · rw [u3_n (by omega)]; exact hI.1 j (by omega)
theorem m_keep {m0 : MI} {w : WS} {l : Nat} {a b : List Nat} (hl : l ≤ 6) (any : Bool) (ha : ∀ j, j < l → ∃ u v, m0 67 0 j = nI u ∧ m0 68 0 j = nI v ∧ a.getD j 0 = 10 * u + v) (ha2 : ∀ j, j < l → a.getD j 0 < 1000) (hb : any = true → ∀ j, j < l → m0 69 0 j = nI (b.getD j 0) ∧ b.getD j 0 < 1000) :
    ∃ m, F_X11_keepFirst m0 w (nI l) (if any = true then 0 else 1) = some m ∧ ((any = false ∨ lsF a b l 0 = true) → ∀ j, j < l → m 69 0 j = nI (a.getD j 0)) ∧ ((any = true ∧ lsF a b l 0 ≠ true) → ∀ j, m 69 0 j = m0 69 0 j) ∧ ∀ c i j, ¬ (c = 69 ∧ i = 0) → m c i j = m0 c i j := by
  have e10 : (10 : Int32) = nI 10 := rfl
  unfold F_X11_keepFirst
  cases any with
  | false =>
    rw [if_neg (by decide)]
    obtain ⟨m, a1, a2, a3⟩ := m_80 (m0 := m0) (w := w) (x2 := 1) (x3 := 0) hl ha
    have L0 : ∀ F, L_X11_keepFirst_2 w (F + 1) m0 (nI l) 1 0 = L_X11_keepFirst_80 w 1000000 m0 (nI l) 1 0 0 := fun F => by
      rw [L_X11_keepFirst_2, if_neg ne10, if_neg ne10]
    exact ⟨m, (L0 999999).trans a1, fun _ => a2, fun q => (by cases q.1), a3⟩
  | true =>
    rw [if_pos rfl]
    have hb := hb rfl
    have code : ∀ j, j < l → ((10 : Int32) * (m0 67 0 j)) + (m0 68 0 j) = nI (a.getD j 0) := fun j hj => by
      obtain ⟨u, v, h1, h2, h3⟩ := ha j hj
      rw [h1, h2, e10, nmul, nadd, h3]
    have key : ∀ r F k, k + r = l → r < F → ∃ m, L_X11_keepFirst_2 w F m0 (nI l) 0 (nI k) = some m ∧ (lsF a b r k = true → ∀ j, j < l → m 69 0 j = nI (a.getD j 0)) ∧ (lsF a b r k ≠ true → ∀ j, m 69 0 j = m0 69 0 j) ∧ ∀ c i j, ¬ (c = 69 ∧ i = 0) → m c i j = m0 c i j := by
      intro r
      induction r with
      | zero =>
        intro F k hk hF
        obtain ⟨F, rfl⟩ : ∃ G, F = G + 1 := ⟨F - 1, by omega⟩
        refine ⟨m0, ?_, fun q => (by cases q), fun _ _ => rfl, fun _ _ _ _ => rfl⟩
        rw [L_X11_keepFirst_2, if_pos rfl, if_pos (by rw [nle (by omega) (by omega)]; omega), if_pos rfl, if_pos (by rw [show k = l by omega])]
      | succ r ih =>
        intro F k hk hF
        obtain ⟨F, rfl⟩ : ∃ G, F = G + 1 := ⟨F - 1, by omega⟩
        obtain ⟨b1, b2'⟩ := hb k (by omega)
        have a2 := ha2 k (by omega)
        have zz : (0 : Int32) = 0 := rfl
        rw [L_X11_keepFirst_2, if_pos zz, if_neg (by rw [nle (by omega) (by omega)]; omega), lsF]
        simp (disch := omega) only [ncl, ckJ]
        rw [code k (by omega), b1]
        by_cases e : a.getD k 0 = b.getD k 0
        · rw [if_pos (show nI (a.getD k 0) = nI (b.getD k 0) by rw [e]), if_pos e, show nI k + 1 = nI (k + 1) by rw [i1, nadd]]
          exact ih F (k + 1) (by omega) (by omega)
        · rw [if_neg (nne (by omega) (by omega) e), if_neg e]
          rw [if_pos trivial, if_neg (nne (by omega) (by omega) (show k ≠ l by omega))]
          by_cases q : a.getD k 0 < b.getD k 0
          · obtain ⟨m, c1, c2, c3⟩ := m_80 (m0 := m0) (w := w) (x2 := 0) (x3 := nI k) hl ha
            rw [if_pos (show nI (a.getD k 0) ≤ nI (b.getD k 0) by rw [nle (by omega) (by omega)]; omega), decide_eq_true q]
            exact ⟨m, c1, fun _ => c2, fun z => absurd rfl z, c3⟩
          · rw [if_neg (show ¬ nI (a.getD k 0) ≤ nI (b.getD k 0) by rw [nle (by omega) (by omega)]; omega), decide_eq_false q]
            exact ⟨m0, rfl, fun z => (by cases z), fun _ _ => rfl, fun _ _ _ _ => rfl⟩
    obtain ⟨m, a1, a2, a3, a4⟩ := key l 1000000 0 (by omega) (by omega)
    exact ⟨m, a1, fun q => a2 (q.resolve_left (by decide)), fun q => a3 q.2, a4⟩
theorem la_good {n : Nat} : ∀ l x used t r, laL n l x used t = some r → (∀ y, y ∈ t → y < n) → r.length = l + t.length ∧ ∀ y, y ∈ r → y < n := by
  intro l
  induction l with
  | zero =>
    intro x used t r h ht
    cases h
    exact ⟨(Nat.zero_add _).symm, ht⟩
  | succ l ih =>
    intro x used t r h ht
    rw [laL] at h
    by_cases h1 : n ≤ x % 6
    · rw [if_pos h1] at h; cases h
    · rw [if_neg h1] at h
      by_cases h2 : used.testBit (x % 6) = true
      · rw [if_pos h2] at h; cases h
      · rw [if_neg h2] at h
        have := ih _ _ _ _ h (fun y hy => by
          rcases List.mem_cons.mp hy with q | q
          · omega
          · exact ht y q)
        exact ⟨by rw [this.1, List.length_cons]; omega, this.2⟩
def mFr (m m0 : MI) : Prop := ∀ c i j, ¬ ((c = 67 ∨ c = 68 ∨ c = 69) ∧ i = 0) → m c i j = m0 c i j
theorem m_sprays {m0 : MI} {w : WS} {W H sl n l jp : Nat} {cu we co : Nat → Nat} {k14 : MI → Int32 → Int32 → Option (Int32 × MI)} (ok : shOK W H sl n cu we) (mw : MW m0 W H) (h27 : m0 10 0 27 = nI n) (h62 : ∀ s, s < 6 → m0 62 0 s = nI (opS W H cu s)) (hjp : jp < 2) (h38 : m0 10 0 38 = nI jp) (h57 : ∀ k, k < 25 → co k ≤ 9 ∧ m0 57 0 (26 * jp + (1 + k)) = nI (co k)) (hl : l ≤ n) (h9 : ∀ q, coC W co q ≤ 9) {m : MI} (fr : mFr m m0) :
    ∃ m', L_X11_fewestSprays_27 w k14 1000000 m (nI (6 ^ l)) (nI l) 1 0 = (if (SK W H n cu co l).1 = true then some (nI l, m') else k14 m' (nI (6 ^ l) * 6) (nI l + 1)) ∧ rowM m' 69 (SK W H n cu co l).2 ∧ okK l (SK W H n cu co l) ∧ mFr m' m0 := by
  have hn := ok.cnt
  have hC := ok.cells
  have h6l : 6 ^ l ≤ 46656 := Nat.le_trans (Nat.pow_le_pow_right (by omega) (show l ≤ 6 by omega)) (by decide)
  have hcd : ∀ row : List Nat, row.length = l → (∀ x, x ∈ row → x < n) → ∀ k, k < l → (cdF (opS W H cu) (rF row) W H co l 0).getD k 0 < 1000 := by
    intro row hlen hrow
    have gen : ∀ k cov, k ≤ l → ∀ j, j < k → (cdF (opS W H cu) (rF row) W H co k cov).getD j 0 < 1000 := by
      intro k
      induction k with
      | zero => intro _ _ j hj; exact absurd hj (Nat.not_lt_zero j)
      | succ k ihk =>
        intro cov hk j hj
        by_cases e : j = k
        · rw [e, cd_hi]
          have h1 : rF row k < n := hrow _ (gd_mem row k (by omega))
          have h2 := cl_le (C := W * H) (S := andn (opS W H cu (rF row k)) cov) h9
          omega
        · rw [cd_lo (by omega)]
          exact ihk _ (by omega) j (by omega)
    exact gen l 0 (Nat.le_refl _)
  have key := lp_inv (L := fun f (σ : MI × Int32) k => L_X11_fewestSprays_27 w k14 f σ.1 (nI (6 ^ l)) (nI l) σ.2 (nI k)) (N := 6 ^ l) (post := fun σ => if σ.2 = 0 then some (nI l, σ.1) else k14 σ.1 (nI (6 ^ l) * 6) (nI l + 1))
    (fun k σ => σ.2 = (if (foldN (fun x s => stOp (stQ (fun row => mkF (opS W H cu) (rF row) W H co l 0) (fun row => cdF (opS W H cu) (rF row) W H co l 0) l) (laL n l x 0 []) s) (false, []) k).1 = true then 0 else 1) ∧ rowM σ.1 69 (foldN (fun x s => stOp (stQ (fun row => mkF (opS W H cu) (rF row) W H co l 0) (fun row => cdF (opS W H cu) (rF row) W H co l 0) l) (laL n l x 0 []) s) (false, []) k).2 ∧ okK l (foldN (fun x s => stOp (stQ (fun row => mkF (opS W H cu) (rF row) W H co l 0) (fun row => cdF (opS W H cu) (rF row) W H co l 0) l) (laL n l x 0 []) s) (false, []) k) ∧ mFr σ.1 m0) (fun f σ hI => ?_) (fun f k σ hk hI => ?_) (F := 1000000) (by omega) (m, 1) ⟨rfl, fun k hk => absurd hk (Nat.not_lt_zero k), fun q => (by cases q), fr⟩
  · obtain ⟨⟨m', v⟩, ⟨g1, g2, g3, g4⟩, g5⟩ := key
    have e : foldN (fun x s => stOp (stQ (fun row => mkF (opS W H cu) (rF row) W H co l 0) (fun row => cdF (opS W H cu) (rF row) W H co l 0) l) (laL n l x 0 []) s) (false, []) (6 ^ l) = SK W H n cu co l := (fold_la n l _ _).symm
    rw [e] at g1 g2 g3
    dsimp only at g1 g2 g4 g5
    refine ⟨m', ?_, g2, g3, g4⟩
    have g5' : L_X11_fewestSprays_27 w k14 1000000 m (nI (6 ^ l)) (nI l) 1 0 = if v = 0 then some (nI l, m') else k14 m' (nI (6 ^ l) * 6) (nI l + 1) := g5
    rw [g5', g1]
    cases (SK W H n cu co l).1 with
    | false => rw [if_neg (show ¬ (if false = true then (0 : Int32) else 1) = 0 from ne10)]; rfl
    | true => rw [if_pos (show (if true = true then (0 : Int32) else 1) = 0 from rfl)]; rfl
  · show L_X11_fewestSprays_27 w k14 (f + 1) σ.1 (nI (6 ^ l)) (nI l) σ.2 (nI (6 ^ l)) = _
    rw [L_X11_fewestSprays_27, if_pos (by rw [nle (by omega) (by omega)]; omega)]
  · show ∃ s' : MI × Int32, L_X11_fewestSprays_27 w k14 (f + 1) σ.1 (nI (6 ^ l)) (nI l) σ.2 (nI k) = L_X11_fewestSprays_27 w k14 f s'.1 (nI (6 ^ l)) (nI l) s'.2 (nI (k + 1)) ∧ _
    obtain ⟨g1, g2, g3, g4⟩ := hI
    have hs1 : ∀ s : Bool × List Nat, foldN (fun x s => stOp (stQ (fun row => mkF (opS W H cu) (rF row) W H co l 0) (fun row => cdF (opS W H cu) (rF row) W H co l 0) l) (laL n l x 0 []) s) (false, []) k = s → foldN (fun x s => stOp (stQ (fun row => mkF (opS W H cu) (rF row) W H co l 0) (fun row => cdF (opS W H cu) (rF row) W H co l 0) l) (laL n l x 0 []) s) (false, []) (k + 1) = stOp (stQ (fun row => mkF (opS W H cu) (rF row) W H co l 0) (fun row => cdF (opS W H cu) (rF row) W H co l 0) l) (laL n l k 0 []) s := fun s h => by rw [← h]; rfl
    generalize foldN (fun x s => stOp (stQ (fun row => mkF (opS W H cu) (rF row) W H co l 0) (fun row => cdF (opS W H cu) (rF row) W H co l 0) l) (laL n l x 0 []) s) (false, []) k = s at *
    rw [hs1 s rfl, L_X11_fewestSprays_27, if_neg (by rw [nle (by omega) (by omega)]; omega), show nI k + 1 = nI (k + 1) by rw [i1, nadd]]
    have i27 : σ.1 10 0 27 = nI n := by rw [g4 _ _ _ (by omega)]; exact h27
    rcases m_layRow (w := w) (x1 := nI k) hn (show l ≤ 6 by omega) l k 0 [] σ.1 1000000 rfl (by omega) (by omega) (by omega) i27 (fun j hj => absurd hj (Nat.not_lt_zero j)) with ⟨a1, m1, a2, a3⟩ | ⟨row, m1, a1, a2, a3, a4⟩
    · have e : F_X11_layRow σ.1 w (nI k) (nI l) = some (0, m1) := a2
      rw [e, Option.bind_some, if_pos rfl, a1]
      exact ⟨(m1, σ.2), rfl, g1, fun j hj => (a3 69 0 j (by omega)).trans (g2 j hj), g3, fun c i j h => (a3 c i j (by omega)).trans (g4 c i j h)⟩
    · have e : F_X11_layRow σ.1 w (nI k) (nI l) = some (1, m1) := a2
      obtain ⟨hlen, hrow⟩ := la_good l k 0 [] row a1 (fun y hy => by cases hy)
      have hlen : row.length = l := hlen
      have f1 : mFr m1 m0 := fun c i j h => by rw [a4 c i j (by omega)]; exact g4 c i j h
      obtain ⟨m2, b1, b2', -, b4⟩ := m_makes (m0 := m1) (w := w) (x1 := nI l) (co := co) ok (MW_of mw fun j _ _ => f1 _ _ _ (by omega)) (fun s hs => by rw [f1 _ _ _ (by omega)]; exact h62 s hs) hjp (by rw [f1 _ _ _ (by omega)]; exact h38) (fun q hq => by rw [f1 _ _ _ (by omega)]; exact h57 q hq) (show l ≤ 6 by omega) a3 hlen hrow l 0 m1 1000000 (Nat.le_refl _) (by omega) (by omega) (fun _ _ _ _ => rfl)
      have ha0 : andn (aM W H) 0 = aM W H := by unfold andn; rw [Nat.and_zero, Nat.xor_zero]
      have hmk : F_X11_makes m1 w (nI l) = some (bT (mkF (opS W H cu) (rF row) W H co l 0), m2) := by
        unfold F_X11_makes
        rw [f1 10 0 26 (by omega), mw.2.2]
        rw [ha0] at b1
        have en := n_all hC
        rw [← i1] at en
        rw [en]
        exact b1
      have f2 : mFr m2 m0 := fun c i j h => by rw [b4 c i j (by omega)]; exact f1 c i j h
      have g2' : rowM m2 69 s.2 := fun j hj => by rw [b4 _ _ _ (by omega), a4 _ _ _ (by omega)]; exact g2 j hj
      rw [e, Option.bind_some, if_neg ne10, a1]
      dsimp only
      rw [hmk, Option.bind_some]
      by_cases q : mkF (opS W H cu) (rF row) W H co l 0 = true
      · have hb : bT (mkF (opS W H cu) (rF row) W H co l 0) = 1 := by rw [q]; rfl
        rw [hb, if_neg ne10]
        obtain ⟨m3, c1, c2, c3, c4⟩ := m_keep (m0 := m2) (w := w) (a := cdF (opS W H cu) (rF row) W H co l 0) (b := s.2) (show l ≤ 6 by omega) s.1 (fun j hj => by
          obtain ⟨col, d1, d2⟩ := b2' q j hj
          exact ⟨rF row j, col, by rw [b4 _ _ _ (by omega)]; exact a3 j (by omega), d1, d2⟩) (hcd row hlen hrow) (fun h j hj => ⟨g2' j (by rw [(g3 h).1]; exact hj), (g3 h).2 j hj⟩)
        have f3 : mFr m3 m0 := fun c i j h => by rw [c4 c i j (by omega)]; exact f2 c i j h
        rw [g1]
        dsimp only
        rw [c1, Option.bind_some]
        refine ⟨(m3, 0), rfl, ?_⟩
        by_cases z : s.1 = false ∨ lsF (cdF (opS W H cu) (rF row) W H co l 0) s.2 l 0 = true
        · have es : stOp (stQ (fun row => mkF (opS W H cu) (rF row) W H co l 0) (fun row => cdF (opS W H cu) (rF row) W H co l 0) l) (some row) s = (true, cdF (opS W H cu) (rF row) W H co l 0) := stQ_y (mk := fun row => mkF (opS W H cu) (rF row) W H co l 0) (cd := fun row => cdF (opS W H cu) (rF row) W H co l 0) (l := l) (s := s) (row := row) q z
          rw [es]
          exact ⟨rfl, fun j hj => c2 z j (by rw [cd_len] at hj; exact hj), fun _ => ⟨cd_len l 0, hcd row hlen hrow⟩, f3⟩
        · have z1 : s.1 ≠ false := fun y => z (Or.inl y)
          have z2 : lsF (cdF (opS W H cu) (rF row) W H co l 0) s.2 l 0 ≠ true := fun y => z (Or.inr y)
          have z3 : s.1 = true := by cases y : s.1; exact absurd y z1; rfl
          have es : stOp (stQ (fun row => mkF (opS W H cu) (rF row) W H co l 0) (fun row => cdF (opS W H cu) (rF row) W H co l 0) l) (some row) s = s := stQ_k (mk := fun row => mkF (opS W H cu) (rF row) W H co l 0) (cd := fun row => cdF (opS W H cu) (rF row) W H co l 0) (l := l) (s := s) (row := row) z1 z2
          rw [es]
          exact ⟨(if_pos z3).symm, fun j hj => (c3 ⟨z3, z2⟩ j).trans (g2' j hj), g3, f3⟩
      · have hb : bT (mkF (opS W H cu) (rF row) W H co l 0) = 0 := if_neg q
        rw [hb, if_pos rfl]
        have es : stOp (stQ (fun row => mkF (opS W H cu) (rF row) W H co l 0) (fun row => cdF (opS W H cu) (rF row) W H co l 0) l) (some row) s = s := stQ_n (mk := fun row => mkF (opS W H cu) (rF row) W H co l 0) (cd := fun row => cdF (opS W H cu) (rF row) W H co l 0) (l := l) (s := s) (row := row) q
        rw [es]
        exact ⟨(m2, σ.2), rfl, g1, g2', g3, f2⟩
theorem m_fewest2 {m0 : MI} {w : WS} {W H sl n jp : Nat} {cu we co : Nat → Nat} (ok : shOK W H sl n cu we) (mw : MW m0 W H) (h27 : m0 10 0 27 = nI n) (h62 : ∀ s, s < 6 → m0 62 0 s = nI (opS W H cu s)) (hjp : jp < 2) (h38 : m0 10 0 38 = nI jp) (h57 : ∀ k, k < 25 → co k ≤ 9 ∧ m0 57 0 (26 * jp + (1 + k)) = nI (co k)) (h9 : ∀ q, coC W co q ≤ 9) :
    ∀ r l m F, l + r = n + 1 → r < F → mFr m m0 →
      (resF (SK W H n cu co) r l = none ∧ ∃ m', L_X11_fewestSprays_14 w F m (nI (6 ^ l)) (nI l) = some (-1, m')) ∨ ∃ l' b m', resF (SK W H n cu co) r l = some (l', b) ∧ L_X11_fewestSprays_14 w F m (nI (6 ^ l)) (nI l) = some (nI l', m') ∧ rowM m' 69 b := by
  have hn := ok.cnt
  intro r
  induction r with
  | zero =>
    intro l m F hl hF fr
    obtain ⟨F, rfl⟩ : ∃ G, F = G + 1 := ⟨F - 1, by omega⟩
    refine Or.inl ⟨rfl, m, ?_⟩
    rw [L_X11_fewestSprays_14, if_pos (by rw [fr 10 0 27 (by omega), h27, nlt (by omega) (by omega)]; omega)]
  | succ r ih =>
    intro l m F hl hF fr
    obtain ⟨F, rfl⟩ : ∃ G, F = G + 1 := ⟨F - 1, by omega⟩
    rw [L_X11_fewestSprays_14, if_neg (by rw [fr 10 0 27 (by omega), h27, nlt (by omega) (by omega)]; omega), resF]
    obtain ⟨m', a1, a2, a3, a4⟩ := m_sprays (m0 := m0) (w := w) (l := l) (co := co) (k14 := fun mi x1 x2 => L_X11_fewestSprays_14 w F mi x1 x2) ok mw h27 h62 hjp h38 h57 (show l ≤ n by omega) h9 fr
    rw [a1]
    by_cases h : (SK W H n cu co l).1 = true
    · rw [if_pos h, if_pos h]
      exact Or.inr ⟨l, _, m', rfl, rfl, a2⟩
    · rw [if_neg h, if_neg h, i6, nmul, show nI l + 1 = nI (l + 1) by rw [i1, nadd], show 6 ^ l * 6 = 6 ^ (l + 1) from (Nat.pow_succ ..).symm]
      exact ih (l + 1) m' F (by omega) (by omega) a4
theorem c_within {m : MI} {w : WS} {i p W H : Nat} {co : Nat → Nat} (b : BW W H) (h5 : m 5 i 0 = nI W ∧ m 5 i 1 = nI H) (h : ∀ k, k < 25 → co k ≤ 9 ∧ m 30 p k = nI (co k)) : ((∃ i, i < 25 ∧ ¬ (i / 5 < H ∧ i % 5 < W) ∧ co i ≠ 0) ∧ F_X4_isWithin m w p i = some 0) ∨ ((¬ ∃ i, i < 25 ∧ ¬ (i / 5 < H ∧ i % 5 < W) ∧ co i ≠ 0) ∧ F_X4_isWithin m w p i = some 1) := by
  obtain ⟨⟨hW, hW5⟩, hH, hH5⟩ := id b
  have inner : ∀ (k2 : Nat → Nat → Int32 → Option Int32) y, y < 5 → ∀ r F x, x + r = 5 → r < F → ((∃ i, 5 * y + x ≤ i ∧ i < 5 * y + 5 ∧ ¬ (i / 5 < H ∧ i % 5 < W) ∧ co i ≠ 0) ∧ L_X4_isWithin_9 m w k2 F p i (nI y) (nI x) = some 0) ∨ ((¬ ∃ i, 5 * y + x ≤ i ∧ i < 5 * y + 5 ∧ ¬ (i / 5 < H ∧ i % 5 < W) ∧ co i ≠ 0) ∧ L_X4_isWithin_9 m w k2 F p i (nI y) (nI x) = k2 p i (nI y + 1)) := by
    intro k2 y hy r
    induction r with
    | zero =>
      intro F x hx hF
      obtain ⟨F, rfl⟩ : ∃ G, F = G + 1 := ⟨F - 1, by omega⟩
      refine Or.inr ⟨fun ⟨i, h1, h2, _⟩ => by omega, ?_⟩
      rw [L_X4_isWithin_9, if_pos (show (5 : Int32) ≤ nI x by rw [i5, nle (by omega) (by omega)]; omega)]
    | succ r ih =>
      intro F x hx hF
      obtain ⟨F, rfl⟩ : ∃ G, F = G + 1 := ⟨F - 1, by omega⟩
      obtain ⟨q1, q2⟩ := h (5 * y + x) (by omega)
      rw [L_X4_isWithin_9, if_neg (show ¬ (5 : Int32) ≤ nI x by rw [i5, nle (by omega) (by omega)]; omega), c_colourAt w (by omega) hy, Option.bind_some, q2, h5.1, h5.2, show nI x + 1 = nI (x + 1) by rw [i1, nadd]]
      have d1 : (5 * y + x) / 5 = y := by omega
      have d2 : (5 * y + x) % 5 = x := by omega
      have nx : (co (5 * y + x) = 0 ∨ (y < H ∧ x < W)) → ((∃ i, 5 * y + x ≤ i ∧ i < 5 * y + 5 ∧ ¬ (i / 5 < H ∧ i % 5 < W) ∧ co i ≠ 0) ∧ L_X4_isWithin_9 m w k2 F p i (nI y) (nI (x + 1)) = some 0) ∨ ((¬ ∃ i, 5 * y + x ≤ i ∧ i < 5 * y + 5 ∧ ¬ (i / 5 < H ∧ i % 5 < W) ∧ co i ≠ 0) ∧ L_X4_isWithin_9 m w k2 F p i (nI y) (nI (x + 1)) = k2 p i (nI y + 1)) := by
        intro hz
        rcases ih F (x + 1) (by omega) (by omega) with ⟨⟨i, h1, h2, h3⟩, e⟩ | ⟨hno, e⟩
        · exact Or.inl ⟨⟨i, by omega, h2, h3⟩, e⟩
        · refine Or.inr ⟨?_, e⟩
          rintro ⟨i, h1, h2, h3, h4⟩
          by_cases ei : i = 5 * y + x
          · rw [ei, d1, d2] at h3
            rw [ei] at h4
            rcases hz with z | z
            · exact h4 z
            · exact h3 z
          · exact hno ⟨i, by omega, h2, h3, h4⟩
      by_cases c0 : co (5 * y + x) = 0
      · rw [if_pos (show nI (co (5 * y + x)) = 0 by rw [c0]; rfl)]
        exact nx (Or.inl c0)
      · rw [if_neg (nne0 (by omega) c0)]
        by_cases z : y < H ∧ x < W
        · rw [if_pos ⟨nI_pos (by omega), by rw [nle (by omega) (by omega)]; omega, nI_pos (by omega), by rw [nle (by omega) (by omega)]; omega⟩]
          exact nx (Or.inr z)
        · rw [if_neg (by rintro ⟨-, z1, -, z2⟩; rw [nle (by omega) (by omega)] at z1 z2; omega)]
          exact Or.inl ⟨⟨5 * y + x, Nat.le_refl _, by omega, by rw [d1, d2]; exact z, c0⟩, rfl⟩
  have key : ∀ r F y, y + r = 5 → r < F → ((∃ i, 5 * y ≤ i ∧ i < 25 ∧ ¬ (i / 5 < H ∧ i % 5 < W) ∧ co i ≠ 0) ∧ L_X4_isWithin_2 m w F p i (nI y) = some 0) ∨ ((¬ ∃ i, 5 * y ≤ i ∧ i < 25 ∧ ¬ (i / 5 < H ∧ i % 5 < W) ∧ co i ≠ 0) ∧ L_X4_isWithin_2 m w F p i (nI y) = some 1) := by
    intro r
    induction r with
    | zero =>
      intro F y hy hF
      obtain ⟨F, rfl⟩ : ∃ G, F = G + 1 := ⟨F - 1, by omega⟩
      refine Or.inr ⟨fun ⟨i, h1, h2, _⟩ => by omega, ?_⟩
      rw [L_X4_isWithin_2, if_pos (show (5 : Int32) ≤ nI y by rw [i5, nle (by omega) (by omega)]; omega)]
    | succ r ih =>
      intro F y hy hF
      obtain ⟨F, rfl⟩ : ∃ G, F = G + 1 := ⟨F - 1, by omega⟩
      rw [L_X4_isWithin_2, if_neg (show ¬ (5 : Int32) ≤ nI y by rw [i5, nle (by omega) (by omega)]; omega)]
      rcases inner (fun i i1 x2 => L_X4_isWithin_2 m w F i i1 x2) y (by omega) 5 1000000 0 (by omega) (by omega) with ⟨⟨i, h1, h2, h3⟩, e⟩ | ⟨hno, e⟩
      · exact Or.inl ⟨⟨i, by omega, by omega, h3⟩, e⟩
      · have e' : L_X4_isWithin_9 m w (fun i i1 x2 => L_X4_isWithin_2 m w F i i1 x2) 1000000 p i (nI y) 0 = L_X4_isWithin_2 m w F p i (nI y + 1) := e
        rw [e', show nI y + 1 = nI (y + 1) by rw [i1, nadd]]
        rcases ih F (y + 1) (by omega) (by omega) with ⟨⟨i, h1, h2, h3⟩, e⟩ | ⟨hno2, e⟩
        · exact Or.inl ⟨⟨i, by omega, h2, h3⟩, e⟩
        · refine Or.inr ⟨?_, e⟩
          rintro ⟨i, h1, h2, h3⟩
          by_cases q : i < 5 * y + 5
          · exact hno ⟨i, by omega, q, h3⟩
          · exact hno2 ⟨i, by omega, h2, h3⟩
  rcases key 5 1000000 0 (by omega) (by omega) with ⟨⟨i, h1, h2, h3⟩, e⟩ | ⟨hno, e⟩
  · exact Or.inl ⟨⟨i, h2, h3⟩, e⟩
  · exact Or.inr ⟨fun ⟨i, h2, h3⟩ => hno ⟨i, by omega, h2, h3⟩, e⟩
