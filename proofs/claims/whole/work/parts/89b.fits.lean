/-! FITS: marks and orders, piece by piece -/
theorem c_topAt {m : MI} {w : WS} {i W H sl n c : Nat} {cu we : Nat → Nat} {row : List Nat} (ok : shOK W H sl n cu we) (hc : ShC m i W H sl n cu we) (h6 : m 2 0 6 = nI n) (hr : rowM m 42 row) (hg : gdR n n row = true) (hcl : c < 32) : F_X3_topAt m w i (nI c) = some (topF (opS W H cu) (rF row) c n) := by
  have hn := ok.cnt
  have key : ∀ k F, k ≤ n → k < F → L_X3_topAt_7 m w F i (nI c) (nI k - 1) = some (topF (opS W H cu) (rF row) c k) := by
    intro k
    induction k with
    | zero =>
      intro F _ hF
      obtain ⟨F, rfl⟩ : ∃ G, F = G + 1 := ⟨F - 1, by omega⟩
      rw [L_X3_topAt_7, if_pos (by decide)]
      rfl
    | succ k ih =>
      intro F hk hF
      obtain ⟨F, rfl⟩ : ∃ G, F = G + 1 := ⟨F - 1, by omega⟩
      have hlen := gdR_len hg
      have hs : rF row k < n := gdR_lt hg _ (gd_mem row k (by omega))
      have hm : m 42 0 k = nI (rF row k) := hr k (by omega)
      rw [nI_pred, L_X3_topAt_7, if_neg (nI_pos (by omega))]
      simp (disch := omega) only [ncl, ckJ]
      rw [hm, c_isOpen w ok hc hs hcl, Option.bind_some, nI_dn, ih F (by omega) (by omega), topF]
      cases hb : (opS W H cu (rF row k)).testBit c
      · rw [b2_neg Bool.false_ne_true, if_pos rfl, if_neg Bool.false_ne_true]
      · rw [b2_pos rfl, if_neg (show ¬ (1 : Int32) = 0 by decide), if_pos rfl]
  unfold F_X3_topAt
  rw [h6]
  exact key n 1000000 (Nat.le_refl _) (by omega)
def fitF (W H n : Nat) (o xs ys : Nat → Nat) (sh : Nat → Int32) (row : List Nat) : Nat → Nat → Bool
  | 0, _ => true
  | r + 1, k => decide (xs k < W) && (decide (ys k < H) && (decide (topF o (rF row) (W * ys k + xs k) n = sh k) && fitF W H n o xs ys sh row r (k + 1)))
def bT (b : Bool) : Int32 := if b = true then 1 else 0
theorem cell_lt2 {W H x y : Nat} (hx : x < W) (hy : y < H) : W * y + x < W * H := by
  have := Nat.mul_le_mul_left W (show y + 1 ≤ H by omega)
  rw [Nat.mul_succ] at this; omega
theorem c_fitsAll {m : MI} {w : WS} {i j W H sl n nm : Nat} {cu we xs ys : Nat → Nat} {row : List Nat} (ok : shOK W H sl n cu we) (hc : ShC m i W H sl n cu we) (h6 : m 2 0 6 = nI n) (hr : rowM m 42 row) (hg : gdR n n row = true) (hnm : nm ≤ 8) (h1 : m 1 j 0 = nI nm) (hx : ∀ k, k < nm → m 31 j k = nI (xs k) ∧ xs k < 5) (hy : ∀ k, k < nm → m 32 j k = nI (ys k) ∧ ys k < 5) :
    F_X3_fitsAll m w i j = some (bT (fitF W H n (opS W H cu) xs ys (m 33 j) row nm 0)) := by
  have hC := ok.cells
  obtain ⟨⟨hW, hW5⟩, hH, hH5⟩ := ok.bw
  have key : ∀ r F k, k + r = nm → r < F → L_X3_fitsAll_2 m w F i j (nI k) = some (bT (fitF W H n (opS W H cu) xs ys (m 33 j) row r k)) := by
    intro r
    induction r with
    | zero =>
      intro F k hk hF
      obtain ⟨F, rfl⟩ : ∃ G, F = G + 1 := ⟨F - 1, by omega⟩
      rw [L_X3_fitsAll_2, if_pos (by rw [h1, nle (by omega) (by omega)]; omega)]
      rfl
    | succ r ih =>
      intro F k hk hF
      obtain ⟨F, rfl⟩ : ∃ G, F = G + 1 := ⟨F - 1, by omega⟩
      obtain ⟨x1, x2⟩ := hx k (by omega)
      obtain ⟨y1, y2⟩ := hy k (by omega)
      rw [L_X3_fitsAll_2, if_neg (by rw [h1, nle (by omega) (by omega)]; omega)]
      simp (disch := omega) only [ncl, ckJ]
      rw [x1, y1, hc.1.1, hc.1.2.1, fitF]
      by_cases hb : xs k < W ∧ ys k < H
      · obtain ⟨b1, b2'⟩ := hb
        have hcl := cell_lt2 b1 b2'
        rw [if_pos ⟨nI_pos (by omega), by rw [nle (by omega) (by omega)]; omega, nI_pos (by omega), by rw [nle (by omega) (by omega)]; omega⟩, nmul, nadd, Nat.mul_comm (ys k) W, c_topAt ok hc h6 hr hg (by omega), Option.bind_some, decide_eq_true b1, decide_eq_true b2', Bool.true_and, Bool.true_and]
        by_cases e : topF (opS W H cu) (rF row) (W * ys k + xs k) n = m 33 j k
        · rw [if_pos e, decide_eq_true e, Bool.true_and, i1, nadd]
          exact ih F (k + 1) (by omega) (by omega)
        · rw [if_neg e, decide_eq_false e, Bool.false_and]
          rfl
      · rw [if_neg (by rintro ⟨-, q1, -, q2⟩; rw [nle (by omega) (by omega)] at q1 q2; omega)]
        by_cases b1 : xs k < W
        · rw [decide_eq_false (show ¬ ys k < H by omega), Bool.false_and, Bool.and_false]; rfl
        · rw [decide_eq_false b1, Bool.false_and]; rfl
  exact key nm 1000000 0 (by omega) (by omega)
theorem m_isSo {m : MI} {w : WS} {j W H sl n nm : Nat} {cu we xs ys : Nat → Nat} {sh : Nat → Int32} {row : List Nat} (ok : shOK W H sl n cu we) (mw : MW m W H) (h27 : m 10 0 27 = nI n) (h62 : ∀ s, s < 6 → m 62 0 s = nI (opS W H cu s)) (hr : rowM m 67 row) (hg : gdR n n row = true) (hj : j < 2) (h44 : m 10 0 44 = nI j) (hnm : nm ≤ 8) (h1 : m 58 0 (33 * j) = nI nm) (hx : ∀ k, k < nm → m 58 0 (33 * j + (1 + (4 * k + 1))) = nI (xs k) ∧ xs k < 5) (hy : ∀ k, k < nm → m 58 0 (33 * j + (1 + (4 * k + 2))) = nI (ys k) ∧ ys k < 5) (hs : ∀ k, k < nm → m 58 0 (33 * j + (1 + (4 * k + 3))) = sh k) :
    F_X11_isSo m w = some (bT (fitF W H n (opS W H cu) xs ys sh row nm 0)) := by
  have hn := ok.cnt
  have hC := ok.cells
  obtain ⟨⟨hW, hW5⟩, hH, hH5⟩ := ok.bw
  have hlen := gdR_len hg
  have hlt : ∀ k, k < n → rF row k < n := fun k hk => gdR_lt hg _ (gd_mem row k (by omega))
  have htop : ∀ c, c < 32 → F_X11_topOf m w (nI c) = some (topF (opS W H cu) (rF row) c n) := fun c hc =>
    m_top w hn h27 (fun s hs => ⟨h62 s hs, ok.op2 hs⟩) (fun k hk => ⟨hr k (by omega), by have := hlt k hk; omega⟩) hc
  have hall : F_X11_allMarks m w = some (nI nm) := by
    unfold F_X11_allMarks
    rw [h44]
    show ck (¬ ((nI 33 * nI j) < 0 ∨ 264 ≤ (nI 33 * nI j).toNatClampNeg)) (some (m 58 0 (nI 33 * nI j).toNatClampNeg)) = _
    rw [nmul, ck_in (by omega) (by omega), ncl (by omega), h1]
  have key : ∀ r F k, k + r = nm → r < F → L_X11_isSo_2 m w F (nI k) = some (bT (fitF W H n (opS W H cu) xs ys sh row r k)) := by
    intro r
    induction r with
    | zero =>
      intro F k hk hF
      obtain ⟨F, rfl⟩ : ∃ G, F = G + 1 := ⟨F - 1, by omega⟩
      rw [L_X11_isSo_2, hall, Option.bind_some, if_pos (by rw [nle (by omega) (by omega)]; omega)]
      rfl
    | succ r ih =>
      intro F k hk hF
      obtain ⟨F, rfl⟩ : ∃ G, F = G + 1 := ⟨F - 1, by omega⟩
      obtain ⟨x1, x2⟩ := hx k (by omega)
      obtain ⟨y1, y2⟩ := hy k (by omega)
      have p1 : F_X11_markOf m w (nI k) 1 = some (nI (xs k)) := by
        have := m_markOf (a := k) (p := 1) w h44 hj (by omega) (by omega)
        rw [x1] at this
        exact this
      have p2 : F_X11_markOf m w (nI k) 2 = some (nI (ys k)) := by
        have := m_markOf (a := k) (p := 2) w h44 hj (by omega) (by omega)
        rw [y1] at this
        exact this
      have p3 : F_X11_markOf m w (nI k) 3 = some (sh k) := by
        have := m_markOf (a := k) (p := 3) w h44 hj (by omega) (by omega)
        rw [hs k (by omega)] at this
        exact this
      rw [L_X11_isSo_2, hall, Option.bind_some, if_neg (by rw [nle (by omega) (by omega)]; omega), p1, Option.bind_some, p2, Option.bind_some, mw.1, mw.2.1, fitF]
      by_cases b1 : xs k < W
      · rw [if_neg (by rw [nle (by omega) (by omega)]; omega), decide_eq_true b1, Bool.true_and]
        by_cases b2' : ys k < H
        · have hcl := cell_lt2 b1 b2'
          rw [if_neg (by rw [nle (by omega) (by omega)]; omega), decide_eq_true b2', Bool.true_and, nmul, nadd, htop _ (by omega), Option.bind_some, p3, Option.bind_some]
          by_cases e : topF (opS W H cu) (rF row) (W * ys k + xs k) n = sh k
          · rw [if_pos e, decide_eq_true e, Bool.true_and, i1, nadd]
            exact ih F (k + 1) (by omega) (by omega)
          · rw [if_neg e, decide_eq_false e, Bool.false_and]
            rfl
        · rw [if_pos (by rw [nle (by omega) (by omega)]; omega), decide_eq_false b2', Bool.false_and]
          rfl
      · rw [if_pos (by rw [nle (by omega) (by omega)]; omega), decide_eq_false b1, Bool.false_and]
        rfl
  exact key nm 1000000 0 (by omega) (by omega)
def codeN (row : List Nat) (n : Nat) : Nat := foldN (fun k a => 10 * a + rF row k) 1 n
theorem c_asNumber {m : MI} {w : WS} {n : Nat} {row : List Nat} (hn : n ≤ 6) (h6 : m 2 0 6 = nI n) (hr : rowM m 42 row) (hg : gdR n n row = true) : F_X3_asNumber m w = some (nI (codeN row n)) := by
  have hlen := gdR_len hg
  have key := lp_up (L := fun f s k => L_X3_asNumber_4 m w f (nI s) (nI k)) (N := n) (f := fun k a => 10 * a + rF row k) (post := fun s => some (nI s)) (fun _ _ => True) (fun f s _ => ?_) (fun f k s hk _ => ⟨?_, trivial⟩) (F := 1000000) (by omega) 1 trivial
  · exact key
  · show L_X3_asNumber_4 m w (f + 1) (nI s) (nI n) = _
    rw [L_X3_asNumber_4, if_pos (by rw [h6, nle (by omega) (by omega)]; omega)]
  · show L_X3_asNumber_4 m w (f + 1) (nI s) (nI k) = L_X3_asNumber_4 m w f (nI (10 * s + rF row k)) (nI (k + 1))
    have hm : m 42 0 k = nI (rF row k) := hr k (by omega)
    have e10 : (10 : Int32) = nI 10 := rfl
    rw [L_X3_asNumber_4, if_neg (by rw [h6, nle (by omega) (by omega)]; omega), ck6 (by omega), ncl (by omega), hm, e10, nmul, nadd, i1, nadd, Nat.mul_comm s 10]
theorem m_code {m : MI} {w : WS} {n : Nat} {row : List Nat} (hn : n ≤ 6) (h27 : m 10 0 27 = nI n) (hr : rowM m 67 row) (hg : gdR n n row = true) : F_X11_orderCode m w = some (nI (codeN row n)) := by
  have hlen := gdR_len hg
  have key := lp_up (L := fun f s k => L_X11_orderCode_4 m w f (nI s) (nI k)) (N := n) (f := fun k a => 10 * a + rF row k) (post := fun s => some (nI s)) (fun _ _ => True) (fun f s _ => ?_) (fun f k s hk _ => ⟨?_, trivial⟩) (F := 1000000) (by omega) 1 trivial
  · exact key
  · show L_X11_orderCode_4 m w (f + 1) (nI s) (nI n) = _
    rw [L_X11_orderCode_4, if_pos (by rw [h27, nle (by omega) (by omega)]; omega)]
  · show L_X11_orderCode_4 m w (f + 1) (nI s) (nI k) = L_X11_orderCode_4 m w f (nI (10 * s + rF row k)) (nI (k + 1))
    have hm : m 67 0 k = nI (rF row k) := hr k (by omega)
    have e10 : (10 : Int32) = nI 10 := rfl
    rw [L_X11_orderCode_4, if_neg (by rw [h27, nle (by omega) (by omega)]; omega), ck6 (by omega), ncl (by omega), hm, e10, nmul, nadd, i1, nadd]
/-- which count a cell's top falls to -/
def tixF (o : Nat → Nat) (row : List Nat) (n c : Nat) : Nat := if tqF o (rF row) c n = 0 then 6 else tqF o (rF row) c n - 1
def topsN (o : Nat → Nat) (row : List Nat) (n C : Nat) (tp : Nat → Nat) (i : Nat) : Nat := if i / 7 < C ∧ i % 7 = tixF o row n (i / 7) then tp i + 1 else tp i
theorem tix_le {o : Nat → Nat} {row : List Nat} {n : Nat} (hn : n ≤ 6) (hg : gdR n n row = true) (c : Nat) : tixF o row n c ≤ 6 ∧ (tqF o (rF row) c n = 0 ∨ tixF o row n c < 6) := by
  unfold tixF
  cases q : tqF o (rF row) c n with
  | zero => rw [if_pos rfl]; exact ⟨Nat.le_refl _, Or.inl rfl⟩
  | succ s =>
    obtain ⟨i, h1, h2, -⟩ := tq_in n q
    have h3 : rF row i < n := gdR_lt hg _ (gd_mem row i (by rw [gdR_len hg]; exact h1))
    rw [if_neg (by omega)]
    exact ⟨by omega, Or.inr (by omega)⟩
theorem tix_top {o : Nat → Nat} {row : List Nat} {n c : Nat} (hn : n ≤ 6) (hg : gdR n n row = true) : (if topF o (rF row) c n = (-1) then (6 : Int32) else topF o (rF row) c n) = nI (tixF o row n c) := by
  have h := tix_le (o := o) hn hg c
  rw [top_tq]
  unfold tixF at h ⊢
  by_cases e : tqF o (rF row) c n = 0
  · rw [if_pos e, if_pos rfl, if_pos e]; rfl
  · rw [if_neg e] at h
    rw [if_neg e, if_neg e, if_neg (m1_ne (by omega))]
theorem tops_step {m : MI} {c k : Nat} {o : Nat → Nat} {row : List Nat} {n : Nat} {tp : Nat → Nat} (hn : n ≤ 6) (hg : gdR n n row = true) (hk : k < 25) (h : ∀ i, i < 175 → m c 0 i = nI (topsN o row n k tp i)) : ∀ i, i < 175 → (u3 m c 0 (7 * k + tixF o row n k) (m c 0 (7 * k + tixF o row n k) + 1)) c 0 i = nI (topsN o row n (k + 1) tp i) := by
  intro i hi
  have ht := (tix_le (o := o) hn hg k).1
  by_cases e : i = 7 * k + tixF o row n k
  · rw [← e, u3_s, h i hi]
    have d1 : i / 7 = k := by omega
    have d2 : i % 7 = tixF o row n (i / 7) := by rw [d1]; omega
    unfold topsN
    rw [if_neg (by omega), if_pos ⟨by omega, d2⟩, i1, nadd]
  · rw [u3_n (by omega), h i hi]
    unfold topsN
    by_cases q : i / 7 < k ∧ i % 7 = tixF o row n (i / 7)
    · rw [if_pos q, if_pos ⟨by omega, q.2⟩]
    · rw [if_neg q, if_neg]
      rintro ⟨q1, q2⟩
      by_cases d1 : i / 7 = k
      · rw [d1] at q2; omega
      · exact q ⟨by omega, q2⟩
