/-! SHOW -/
theorem u2_s {m : MI} {c i k : Nat} {g : Nat → Int32} : u2 m c i g c i k = g k := by simp [u2]
theorem u2_n {m : MI} {c i c' i' k : Nat} {g : Nat → Int32} (h : ¬ (c' = c ∧ i' = i)) : u2 m c i g c' i' k = m c' i' k := by
  unfold u2
  rw [if_neg h]
def shF (o r : Nat → Nat) : Nat → Nat → Nat
  | 0, _ => 0
  | k + 1, cov => (if andn (o (r k)) cov = 0 then 0 else 1) + shF o r k (cov ||| o (r k))
def tsF (o r : Nat → Nat) : Nat → Nat → Nat
  | 0, _ => 0
  | k + 1, cov => (if andn (o (r k)) cov = 0 then 0 else 1 <<< r k) ||| tsF o r k (cov ||| o (r k))
/-- on top of a cell: the sheet and 1, or 0 -/
def tqF (o r : Nat → Nat) (c : Nat) : Nat → Nat
  | 0 => 0
  | k + 1 => if (o (r k)).testBit c = true then r k + 1 else tqF o r c k
theorem top_tq (o r : Nat → Nat) (c : Nat) : ∀ k, topF o r c k = if tqF o r c k = 0 then (-1 : Int32) else nI (tqF o r c k - 1) := by
  intro k
  induction k with
  | zero => rfl
  | succ k ih =>
    rw [topF, tqF]
    by_cases h : (o (r k)).testBit c = true
    · rw [if_pos h, if_pos h, if_neg (by omega)]
      rfl
    · rw [if_neg h, if_neg h, ih]
theorem tq_in {o r : Nat → Nat} {c s : Nat} : ∀ k, tqF o r c k = s + 1 → ∃ i, i < k ∧ r i = s ∧ (o s).testBit c = true := by
  intro k
  induction k with
  | zero => intro h; cases h
  | succ k ih =>
    intro h
    rw [tqF] at h
    split at h
    · rename_i hb
      have : r k = s := by omega
      exact ⟨k, by omega, this, by rw [← this]; exact hb⟩
    · obtain ⟨i, h1, h2⟩ := ih h
      exact ⟨i, by omega, h2⟩
theorem ts_tb {o r : Nat → Nat} {s : Nat} : ∀ k cov, (tsF o r k cov).testBit s = true ↔ ∃ c, cov.testBit c = false ∧ tqF o r c k = s + 1 := by
  intro k
  induction k with
  | zero =>
    intro cov
    constructor
    · intro h; rw [tsF, Nat.zero_testBit] at h; cases h
    · rintro ⟨c, -, h⟩; cases h
  | succ k ih =>
    intro cov
    rw [tsF, Nat.testBit_or, Bool.or_eq_true, ih]
    constructor
    · rintro (h | ⟨c, h1, h2⟩)
      · split at h
        · rw [Nat.zero_testBit] at h; cases h
        · rename_i hne
          rw [one_tb] at h
          have : ∃ c, (andn (o (r k)) cov).testBit c = true := by
            refine Classical.byContradiction fun hno => hne (eq_tb fun i => ?_)
            rw [Nat.zero_testBit]
            exact ⟨fun hi => absurd ⟨i, hi⟩ hno, fun hi => by cases hi⟩
          obtain ⟨c, hc⟩ := this
          rw [tb_andn, Bool.and_eq_true, Bool.not_eq_true'] at hc
          exact ⟨c, hc.2, by rw [tqF, if_pos hc.1, h]⟩
      · rw [Nat.testBit_or, Bool.or_eq_false_iff] at h1
        refine ⟨c, h1.1, ?_⟩
        rw [tqF, if_neg (by rw [h1.2]; decide)]
        exact h2
    · rintro ⟨c, h1, h2⟩
      rw [tqF] at h2
      split at h2
      · rename_i hb
        refine Or.inl ?_
        have hne : ¬ andn (o (r k)) cov = 0 := fun q => by
          have : (andn (o (r k)) cov).testBit c = true := by rw [tb_andn, hb, h1]; rfl
          rw [q, Nat.zero_testBit] at this; cases this
        rw [if_neg hne, one_tb]
        omega
      · rename_i hb
        refine Or.inr ⟨c, ?_, h2⟩
        rw [Nat.testBit_or, h1]
        cases hq : (o (r k)).testBit c
        · rfl
        · exact absurd hq hb
theorem pop_1 {c : Nat} (hc : c < 25) : popN (1 <<< c) = 1 := by
  have := pop_or (y := 0) (c := c) (Nat.two_pow_pos c) hc
  rw [Nat.zero_or, pop_z] at this
  exact this
theorem ts_pop {o r : Nat → Nat} : ∀ k cov, (∀ i, i < k → r i < 25) → (∀ i j, i < j → j < k → r i ≠ r j) → popN (tsF o r k cov) = shF o r k cov := by
  intro k
  induction k with
  | zero => intro cov _ _; exact pop_z
  | succ k ih =>
    intro cov h1 h2
    rw [tsF, shF, ← ih (cov ||| o (r k)) (fun i hi => h1 i (by omega)) (fun i j a b => h2 i j a (by omega))]
    rw [pop_dis]
    · by_cases e : andn (o (r k)) cov = 0
      · rw [if_pos e, if_pos e, pop_z]
      · rw [if_neg e, if_neg e, pop_1 (h1 k (by omega))]
    · refine eq_tb fun i => ?_
      rw [Nat.testBit_and, Bool.and_eq_true, Nat.zero_testBit]
      constructor
      · rintro ⟨a, b⟩
        rw [ts_tb] at b
        obtain ⟨c, -, b⟩ := b
        obtain ⟨i', hi, hr, -⟩ := tq_in k b
        split at a
        · rw [Nat.zero_testBit] at a; cases a
        · rw [one_tb] at a
          exact absurd (hr.trans a.symm) (h2 i' k hi (by omega))
      · intro q; cases q
theorem sh_le (o r : Nat → Nat) : ∀ k cov, shF o r k cov ≤ k := by
  intro k
  induction k with
  | zero => intro _; exact Nat.le_refl _
  | succ k ih =>
    intro cov
    rw [shF]
    have := ih (cov ||| o (r k))
    split <;> omega
def rF (row : List Nat) (k : Nat) : Nat := row.getD k 0
theorem c_shown {m : MI} {w : WS} {i W H sl n : Nat} {cu we : Nat → Nat} {row : List Nat} (ok : shOK W H sl n cu we) (hc : ShC m i W H sl n cu we) (h6 : m 2 0 6 = nI n) (hr : rowM m 42 row) (hg : gdR n n row = true) : F_X3_shownCount m w i = some (nI (shF (opS W H cu) (rF row) n 0)) := by
  have hn := ok.cnt
  have key : ∀ k F cov a, k ≤ n → k < F → cov < 33554432 → L_X3_shownCount_12 m w F i (nI cov) (nI a) (nI k - 1) = some (nI (a + shF (opS W H cu) (rF row) k cov)) := by
    intro k
    induction k with
    | zero =>
      intro F cov a _ hF _
      obtain ⟨F, rfl⟩ : ∃ G, F = G + 1 := ⟨F - 1, by omega⟩
      rw [L_X3_shownCount_12, if_pos (by decide)]
      rfl
    | succ k ih =>
      intro F cov a hk hF hcov
      obtain ⟨F, rfl⟩ : ∃ G, F = G + 1 := ⟨F - 1, by omega⟩
      have hlen := gdR_len hg
      have hs : rF row k < n := gdR_lt hg _ (gd_mem row k (by omega))
      have hm : m 42 0 k = nI (rF row k) := hr k (by omega)
      have ho := ok.op2 (s := rF row k) (by omega)
      have hop : m 28 i (rF row k) = nI (opS W H cu (rF row k)) := hc.op (by omega)
      have ho2 : opS W H cu (rF row k) < 33554432 := ho
      rw [nI_pred, L_X3_shownCount_12, if_neg (nI_pos (by omega))]
      simp (disch := omega) only [ncl, ckJ]
      rw [hm]
      simp (disch := omega) only [ncl, ckJ]
      rw [hop, nandn, nor, nI_dn, shF]
      by_cases e : andn (opS W H cu (rF row k)) cov = 0
      · rw [if_pos (by rw [e]; rfl), if_pos e, ih F _ a (by omega) (by omega) (or_lt25 hcov ho2), Nat.zero_add]
      · rw [if_neg (nne0 (Nat.lt_of_le_of_lt (andn_le _ _) (by omega)) e), if_neg e, i1, nadd]
        have := ih F (cov ||| opS W H cu (rF row k)) (a + 1) (by omega) (by omega) (or_lt25 hcov ho2)
        rw [i1] at this
        rw [this, Nat.add_assoc]
  unfold F_X3_shownCount
  rw [h6]
  have := key n 1000000 0 0 (Nat.le_refl _) (by omega) (by omega)
  rw [Nat.zero_add] at this
  exact this
theorem m_onTop {m : MI} {w : WS} {W H sl n : Nat} {cu we : Nat → Nat} {row : List Nat} (ok : shOK W H sl n cu we) (mw : MW m W H) (h27 : m 10 0 27 = nI n) (h62 : ∀ s, s < 6 → m 62 0 s = nI (opS W H cu s)) (hr : rowM m 67 row) (hg : gdR n n row = true) : F_X11_onTop m w = some (nI (shF (opS W H cu) (rF row) n 0)) := by
  have hn := ok.cnt
  have hC := ok.cells
  have hlen := gdR_len hg
  have hlt : ∀ k, k < n → rF row k < n := fun k hk => gdR_lt hg _ (gd_mem row k (by omega))
  have hop : ∀ s, s < 6 → opS W H cu s < 2 ^ (W * H) := fun s hs => ok.op hs
  have htop : ∀ c, c < 32 → F_X11_topOf m w (nI c) = some (if tqF (opS W H cu) (rF row) c n = 0 then (-1 : Int32) else nI (tqF (opS W H cu) (rF row) c n - 1)) := fun c hc => by
    rw [← top_tq]
    exact m_top w hn h27 (fun s hs => ⟨h62 s hs, ok.op2 hs⟩) (fun k hk => ⟨hr k (by omega), by have := hlt k hk; omega⟩) hc
  have htq : ∀ c, tqF (opS W H cu) (rF row) c n ≤ 6 := fun c => by
    cases q : tqF (opS W H cu) (rF row) c n with
    | zero => omega
    | succ s =>
      obtain ⟨i, h1, h2, -⟩ := tq_in n q
      have := hlt i h1
      omega
  have key := lp_up (L := fun f s k => L_X11_onTop_4 m w f (nI s) (nI k)) (N := W * H) (f := fun c a => a ||| if tqF (opS W H cu) (rF row) c n = 0 then 0 else 1 <<< (tqF (opS W H cu) (rF row) c n - 1)) (post := fun s => (F_X11_ones m w (nI s)).bind fun c329 => some c329) (fun _ _ => True) (fun f s _ => ?_) (fun f k s hk _ => ⟨?_, trivial⟩) (F := 1000000) (by omega) 0 trivial
  · have e : foldN (fun c a => a ||| if tqF (opS W H cu) (rF row) c n = 0 then 0 else 1 <<< (tqF (opS W H cu) (rF row) c n - 1)) 0 (W * H) = tsF (opS W H cu) (rF row) n 0 := by
      show orN (fun c => if tqF (opS W H cu) (rF row) c n = 0 then 0 else 1 <<< (tqF (opS W H cu) (rF row) c n - 1)) (W * H) = _
      refine eq_tb fun s => ?_
      rw [orN_tb, ts_tb]
      constructor
      · rintro ⟨c, -, h⟩
        refine ⟨c, Nat.zero_testBit c, ?_⟩
        split at h
        · rw [Nat.zero_testBit] at h; cases h
        · rw [one_tb] at h; omega
      · rintro ⟨c, -, h⟩
        obtain ⟨i, h1, h2, h3⟩ := tq_in n h
        have h6 : s < 6 := by have := hlt i h1; omega
        exact ⟨c, lt_tb (hop s h6) h3, by rw [if_neg (by omega), one_tb]; omega⟩
    rw [e] at key
    have hp : tsF (opS W H cu) (rF row) n 0 < 33554432 := by
      refine Nat.lt_pow_two_of_testBit (n := 25) _ fun i hi => ?_
      cases q : (tsF (opS W H cu) (rF row) n 0).testBit i
      · rfl
      · rw [ts_tb] at q
        obtain ⟨c, -, q⟩ := q
        have := htq c
        omega
    unfold F_X11_onTop
    have key' : L_X11_onTop_4 m w 1000000 0 0 = _ := key
    rw [key', m_ones m w hp, Option.bind_some, ts_pop (r := rF row) n 0 (fun i hi => by have := hlt i hi; omega) (gdR_ne hg)]
  · show L_X11_onTop_4 m w (f + 1) (nI s) (nI (W * H)) = _
    rw [L_X11_onTop_4, if_pos (by rw [mw.2.2, nle (by omega) (by omega)]; omega)]
  · show L_X11_onTop_4 m w (f + 1) (nI s) (nI k) = L_X11_onTop_4 m w f (nI (s ||| if tqF (opS W H cu) (rF row) k n = 0 then 0 else 1 <<< (tqF (opS W H cu) (rF row) k n - 1))) (nI (k + 1))
    rw [L_X11_onTop_4, if_neg (by rw [mw.2.2, nle (by omega) (by omega)]; omega), htop k (by omega), Option.bind_some]
    have h6 := htq k
    by_cases e : tqF (opS W H cu) (rF row) k n = 0
    · rw [if_pos e, if_pos e, if_pos rfl, i0, nor, i1, nadd]
    · rw [if_neg e, if_neg e, if_neg (m1_ne (by omega)), n31 (by omega), i1, nshl _ (by omega), nor, nadd]
