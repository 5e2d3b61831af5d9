/-! MAKE: what a row makes -/
def coC (W : Nat) (co : Nat → Nat) (p : Nat) : Nat := co (5 * (p / W) + p % W)
/-- the colour that a set of cells has, cell by cell; none: no one colour -/
def clM (f : Nat → Nat) (S : Nat) : Nat → Option Nat
  | 0 => some 0
  | p + 1 => (clM f S p).bind fun rc => if S.testBit p = true then (if f p = 0 then none else if rc ≠ 0 ∧ rc ≠ f p then none else some (f p)) else some rc
def clS (f : Nat → Nat) (C S : Nat) : Nat := (clM f S C).getD 0
theorem clM_some {f : Nat → Nat} {S : Nat} : ∀ p rc, clM f S p = some rc → (rc = 0 ∧ ∀ q, q < p → S.testBit q = false) ∨ (rc ≠ 0 ∧ (∃ q, q < p ∧ S.testBit q = true) ∧ ∀ q, q < p → S.testBit q = true → f q = rc) := by
  intro p
  induction p with
  | zero =>
    intro rc h
    cases h
    exact Or.inl ⟨rfl, fun q hq => absurd hq (Nat.not_lt_zero q)⟩
  | succ p ih =>
    intro rc h
    rw [clM] at h
    cases hc : clM f S p with
    | none => rw [hc] at h; cases h
    | some r0 =>
      rw [hc, Option.bind_some] at h
      have i0' := ih r0 hc
      by_cases hb : S.testBit p = true
      · rw [if_pos hb] at h
        by_cases h0 : f p = 0
        · rw [if_pos h0] at h; cases h
        · rw [if_neg h0] at h
          by_cases h2 : r0 ≠ 0 ∧ r0 ≠ f p
          · rw [if_pos h2] at h; cases h
          · rw [if_neg h2] at h
            cases h
            refine Or.inr ⟨h0, ⟨p, by omega, hb⟩, fun q hq hs => ?_⟩
            by_cases e : q = p
            · rw [e]
            · rcases i0' with ⟨_, g⟩ | ⟨g1, _, g3⟩
              · rw [g q (by omega)] at hs; cases hs
              · rw [g3 q (by omega) hs]
                exact Classical.byContradiction fun z => h2 ⟨g1, z⟩
      · rw [if_neg hb] at h
        cases h
        have hf : S.testBit p = false := by cases z : S.testBit p; rfl; exact absurd z hb
        rcases i0' with ⟨g1, g⟩ | ⟨g1, ⟨q0, g2, g4⟩, g3⟩
        · refine Or.inl ⟨g1, fun q hq => ?_⟩
          by_cases e : q = p
          · rw [e]; exact hf
          · exact g q (by omega)
        · refine Or.inr ⟨g1, ⟨q0, by omega, g4⟩, fun q hq hs => ?_⟩
          by_cases e : q = p
          · rw [e, hf] at hs; cases hs
          · exact g3 q (by omega) hs
theorem clM_none {f : Nat → Nat} {S : Nat} : ∀ p, clM f S p = none → ∀ c, c ≠ 0 → ¬ ∀ q, q < p → S.testBit q = true → f q = c := by
  intro p
  induction p with
  | zero => intro h; cases h
  | succ p ih =>
    intro h c hc0 hall
    rw [clM] at h
    cases hc : clM f S p with
    | none => exact ih hc c hc0 fun q hq => hall q (by omega)
    | some r0 =>
      rw [hc, Option.bind_some] at h
      by_cases hb : S.testBit p = true
      · have hfp := hall p (by omega) hb
        rw [if_pos hb, if_neg (by rw [hfp]; exact hc0)] at h
        by_cases h2 : r0 ≠ 0 ∧ r0 ≠ f p
        · rcases clM_some p r0 hc with ⟨g, _⟩ | ⟨_, ⟨q0, g1, g2⟩, g3⟩
          · exact h2.1 g
          · have a := g3 q0 g1 g2
            have b := hall q0 (by omega) g2
            exact h2.2 (by rw [← a, b, hfp])
        · rw [if_neg h2] at h; cases h
      · rw [if_neg hb] at h; cases h
theorem cl_iff {f : Nat → Nat} {C S c : Nat} (hS : S < 2 ^ C) (h0 : S ≠ 0) (hc : c ≠ 0) : clS f C S = c ↔ ∀ q, q < C → S.testBit q = true → f q = c := by
  unfold clS
  have ex : ∃ q, q < C ∧ S.testBit q = true := by
    refine Classical.byContradiction fun hno => h0 (eq_tb fun i => ?_)
    rw [Nat.zero_testBit]
    exact ⟨fun h => absurd ⟨i, lt_tb hS h, h⟩ hno, fun h => by cases h⟩
  cases h : clM f S C with
  | none =>
    show 0 = c ↔ _
    exact ⟨fun q => absurd q.symm hc, fun q => absurd q (clM_none C h c hc)⟩
  | some rc =>
    show rc = c ↔ _
    obtain ⟨q0, g1, g2⟩ := ex
    rcases clM_some C rc h with ⟨_, b⟩ | ⟨a, _, b⟩
    · rw [b q0 g1] at g2; cases g2
    · constructor
      · intro e; rw [← e]; exact b
      · intro e; rw [← b q0 g1 g2, e q0 g1 g2]
theorem cel_sub {W H S c : Nat} {co : Nat → Nat} (hS : S < 2 ^ (W * H)) : andn S (celN W H co c) = 0 ↔ ∀ q, q < W * H → S.testBit q = true → coC W co q = c := by
  constructor
  · intro h q hq hs
    have := tb_andn S (celN W H co c) q
    rw [h, Nat.zero_testBit, hs, Bool.true_and] at this
    have h2 : (celN W H co c).testBit q = true := by cases z : (celN W H co c).testBit q; rw [z] at this; cases this; rfl
    exact (cel_tb.mp h2).2
  · intro h
    refine eq_tb fun i => ?_
    rw [Nat.zero_testBit, tb_andn]
    constructor
    · intro q
      rw [Bool.and_eq_true, Bool.not_eq_true'] at q
      have := cel_tb.mpr ⟨lt_tb hS q.1, h i (lt_tb hS q.1) q.1⟩
      rw [this] at q; exact absurd q.2 (by decide)
    · intro q; cases q
def mkF (o r : Nat → Nat) (W H : Nat) (co : Nat → Nat) : Nat → Nat → Bool
  | 0, cov => decide (andn (andn (aM W H) cov) (celN W H co 0) = 0)
  | k + 1, cov => decide (clS (coC W co) (W * H) (andn (o (r k)) cov) ≠ 0) && mkF o r W H co k (cov ||| o (r k))
def cdF (o r : Nat → Nat) (W H : Nat) (co : Nat → Nat) : Nat → Nat → List Nat
  | 0, _ => []
  | k + 1, cov => cdF o r W H co k (cov ||| o (r k)) ++ [10 * r k + clS (coC W co) (W * H) (andn (o (r k)) cov)]
theorem cd_len {o r : Nat → Nat} {W H : Nat} {co : Nat → Nat} : ∀ k cov, (cdF o r W H co k cov).length = k := by
  intro k
  induction k with
  | zero => intro _; rfl
  | succ k ih => intro cov; rw [cdF, List.length_append, ih]; rfl
theorem cd_lo {o r : Nat → Nat} {W H : Nat} {co : Nat → Nat} {k cov j : Nat} (h : j < k) : (cdF o r W H co (k + 1) cov).getD j 0 = (cdF o r W H co k (cov ||| o (r k))).getD j 0 := by
  rw [cdF, gd_l _ _ j (by rw [cd_len]; exact h)]
theorem cd_hi {o r : Nat → Nat} {W H : Nat} {co : Nat → Nat} {k cov : Nat} : (cdF o r W H co (k + 1) cov).getD k 0 = 10 * r k + clS (coC W co) (W * H) (andn (o (r k)) cov) := by
  have := gd_r (cdF o r W H co k (cov ||| o (r k))) (10 * r k + clS (coC W co) (W * H) (andn (o (r k)) cov))
  rw [cd_len] at this
  rw [cdF]
  exact this
theorem or_andn (c x : Nat) : c ||| andn x c = c ||| x := eq_tb fun i => by
  rw [Nat.testBit_or, Nat.testBit_or, tb_andn]
  cases c.testBit i <;> cases x.testBit i <;> simp
theorem cl_le {f : Nat → Nat} {C S : Nat} (h9 : ∀ q, f q ≤ 9) : clS f C S ≤ 9 := by
  unfold clS
  cases h : clM f S C with
  | none => exact Nat.zero_le _
  | some rc =>
    rcases clM_some C rc h with ⟨a, _⟩ | ⟨_, ⟨q0, g1, g2⟩, b⟩
    · rw [a]; exact Nat.zero_le _
    · show rc ≤ 9
      rw [← b q0 g1 g2]; exact h9 q0
theorem cl_0 {f : Nat → Nat} {C : Nat} : clS f C 0 = 0 := by
  unfold clS
  cases h : clM f 0 C with
  | none => rfl
  | some rc =>
    rcases clM_some C rc h with ⟨a, _⟩ | ⟨_, ⟨q0, g1, g2⟩, _⟩
    · exact a
    · rw [Nat.zero_testBit] at g2; cases g2
theorem c_col {m : MI} {w : WS} {W H S : Nat} {co : Nat → Nat} (hC : W * H ≤ 25) (h9 : ∀ q, coC W co q ≤ 9) (h45 : ∀ c, c < 10 → m 45 0 c = nI (celN W H co c)) (hS : S < 2 ^ (W * H)) (h0 : S ≠ 0) : F_X3_colourOfAll m w (nI S) = some (if clS (coC W co) (W * H) S = 0 then (-1 : Int32) else nI (clS (coC W co) (W * H) S)) := by
  have hS2 := pw hS hC
  have e10 : (10 : Int32) = nI 10 := rfl
  have key : ∀ r F c, c + r = 10 → r < F → 1 ≤ c → (∀ c', 1 ≤ c' → c' < c → clS (coC W co) (W * H) S ≠ c') → L_X3_colourOfAll_2 m w F (nI S) (nI c) = some (if clS (coC W co) (W * H) S = 0 then (-1 : Int32) else nI (clS (coC W co) (W * H) S)) := by
    intro r
    induction r with
    | zero =>
      intro F c hc hF h1 hno
      obtain ⟨F, rfl⟩ : ∃ G, F = G + 1 := ⟨F - 1, by omega⟩
      have hle := cl_le (C := W * H) (S := S) h9
      have z : clS (coC W co) (W * H) S = 0 := Classical.byContradiction fun q => hno _ (by omega) (by omega) rfl
      rw [L_X3_colourOfAll_2, if_pos (by rw [e10, nle (by omega) (by omega)]; omega), if_pos z]
    | succ r ih =>
      intro F c hc hF h1 hno
      obtain ⟨F, rfl⟩ : ∃ G, F = G + 1 := ⟨F - 1, by omega⟩
      have iff1 : andn S (celN W H co c) = 0 ↔ clS (coC W co) (W * H) S = c := (cel_sub hS).trans (cl_iff hS h0 (by omega)).symm
      have hlt : andn S (celN W H co c) < 33554432 := Nat.lt_of_le_of_lt (andn_le _ _) hS2
      rw [L_X3_colourOfAll_2, if_neg (by rw [e10, nle (by omega) (by omega)]; omega)]
      simp (disch := omega) only [ncl, ckJ]
      rw [h45 c (by omega), nandn]
      by_cases q : andn S (celN W H co c) = 0
      · have e := iff1.mp q
        rw [if_pos (by rw [q]; rfl), e, if_neg (by omega)]
      · rw [if_neg (nne0 (by omega) q), i1, nadd]
        refine ih F (c + 1) (by omega) (by omega) (by omega) fun c' a b => ?_
        by_cases e : c' = c
        · rw [e]; exact fun z => q (iff1.mpr z)
        · exact hno c' a (by omega)
  exact key 9 1000000 1 (by omega) (by omega) (by omega) fun c' a b => by omega
theorem c_col0 {m : MI} {w : WS} : ∃ v, F_X3_colourOfAll m w (nI 0) = some v := by
  have L0 : ∀ F, L_X3_colourOfAll_2 m w (F + 1) (nI 0) (nI 1) = some (nI 1) := fun F => by
    have e10 : (10 : Int32) = nI 10 := rfl
    rw [L_X3_colourOfAll_2, if_neg (by rw [e10, nle (by omega) (by omega)]; omega)]
    simp (disch := omega) only [ncl, ckJ]
    rw [if_pos]
    apply Int32.toBitVec_inj.mp
    show (nI 0).toBitVec &&& _ = (0 : Int32).toBitVec
    exact BitVec.zero_and
  exact ⟨_, L0 999999⟩
theorem c_makes {m0 : MI} {w : WS} {i W H sl n l : Nat} {cu we co : Nat → Nat} {row : List Nat} (ok : shOK W H sl n cu we) (hc : ShC m0 i W H sl n cu we) (hl : l ≤ 6) (h6 : m0 2 0 6 = nI l) (hr : rowM m0 42 row) (hlen : row.length = l) (hrow : ∀ x, x ∈ row → x < n) (h9 : ∀ q, coC W co q ≤ 9) (h45 : ∀ c, c < 10 → m0 45 0 c = nI (celN W H co c)) :
    ∀ k cov m F, k ≤ l → k < F → cov < 33554432 → (∀ c i j, ¬ (c = 44 ∧ i = 0) → m c i j = m0 c i j) →
      ∃ m', L_X3_makesWanted_9 w F m i (nI cov) (nI k - 1) = some (bT (mkF (opS W H cu) (rF row) W H co k cov), m') ∧ (mkF (opS W H cu) (rF row) W H co k cov = true → ∀ j, j < k → m' 44 0 j = nI ((cdF (opS W H cu) (rF row) W H co k cov).getD j 0)) ∧ (∀ j, k ≤ j → m' 44 0 j = m 44 0 j) ∧ ∀ c i j, ¬ (c = 44 ∧ i = 0) → m' c i j = m0 c i j := by
  have hn := ok.cnt
  have hC := ok.cells
  intro k
  induction k with
  | zero =>
    intro cov m F _ hF hcov fr
    obtain ⟨F, rfl⟩ : ∃ G, F = G + 1 := ⟨F - 1, by omega⟩
    have hlt : andn (andn (aM W H) cov) (celN W H co 0) < 33554432 := pw (andn_lt _ (andn_lt _ (aM_lt W H))) hC
    refine ⟨m, ?_, fun _ j hj => absurd hj (Nat.not_lt_zero j), fun _ _ => rfl, fr⟩
    have h7 : m 5 i 7 = nI (aM W H) := by rw [fr _ _ _ (by omega)]; exact hc.2.2.1
    rw [L_X3_makesWanted_9, if_pos (by decide), h7, fr 45 0 0 (by omega), h45 0 (by omega), nandn, nandn]
    refine congrArg some (Prod.ext ?_ rfl)
    show b2 (nI (andn (andn (aM W H) cov) (celN W H co 0)) = 0) = bT (mkF (opS W H cu) (rF row) W H co 0 cov)
    rw [mkF]
    by_cases e : andn (andn (aM W H) cov) (celN W H co 0) = 0
    · rw [decide_eq_true e, b2_pos (by rw [e]; rfl)]; rfl
    · rw [decide_eq_false e, b2_neg (nne0 (by omega) e)]; rfl
  | succ k ih =>
    intro cov m F hk hF hcov fr
    obtain ⟨F, rfl⟩ : ∃ G, F = G + 1 := ⟨F - 1, by omega⟩
    have hs : rF row k < n := hrow _ (gd_mem row k (by omega))
    have hm : m 42 0 k = nI (rF row k) := by rw [fr _ _ _ (by omega)]; exact hr k (by omega)
    have ho : opS W H cu (rF row k) < 2 ^ (W * H) := ok.op (s := rF row k) (by omega)
    have ho2 := pw ho hC
    have hop : m 28 i (rF row k) = nI (opS W H cu (rF row k)) := by rw [fr _ _ _ (by omega)]; exact hc.op (by omega)
    have hS : andn (opS W H cu (rF row k)) cov < 2 ^ (W * H) := andn_lt _ ho
    have hS2 := pw hS hC
    have hm45 : ∀ c, c < 10 → m 45 0 c = nI (celN W H co c) := fun c hc => by rw [fr _ _ _ (by omega)]; exact h45 c hc
    rw [nI_pred, L_X3_makesWanted_9, if_neg (nI_pos (by omega)), mkF]
    simp (disch := omega) only [ncl, ckJ]
    rw [hm]
    simp (disch := omega) only [ncl, ckJ]
    rw [hop, nandn]
    by_cases e : andn (opS W H cu (rF row k)) cov = 0
    · obtain ⟨v, hv⟩ := c_col0 (m := m) (w := w)
      rw [e, hv, Option.bind_some, if_pos (by rfl), cl_0, decide_eq_false (fun q => q rfl), Bool.false_and]
      exact ⟨m, rfl, (fun q => by cases q), fun _ _ => rfl, fr⟩
    · rw [c_col hC h9 hm45 hS e, Option.bind_some, if_neg (nne0 (by omega) e)]
      by_cases z : clS (coC W co) (W * H) (andn (opS W H cu (rF row k)) cov) = 0
      · rw [if_pos z, if_pos rfl, decide_eq_false (fun q => q z), Bool.false_and]
        exact ⟨m, rfl, (fun q => by cases q), fun _ _ => rfl, fr⟩
      · have hle := cl_le (C := W * H) (S := andn (opS W H cu (rF row k)) cov) h9
        have e10 : (10 : Int32) = nI 10 := rfl
        rw [if_neg z, if_neg (m1_ne (by omega)), decide_eq_true z, Bool.true_and, lt_e, e10, nmul, nadd, nor, or_andn, nI_dn]
        obtain ⟨m', a1, a2, a3, a4⟩ := ih (cov ||| opS W H cu (rF row k)) (u3 m 44 0 k (nI (rF row k * 10 + clS (coC W co) (W * H) (andn (opS W H cu (rF row k)) cov)))) F (by omega) (by omega) (or_lt25 hcov ho2) (fun c i j h => by rw [u3_n (by omega)]; exact fr c i j h)
        refine ⟨m', a1, fun q j hj => ?_, fun j hj => by rw [a3 j (by omega), u3_n (by omega)], a4⟩
        by_cases ej : j = k
        · rw [ej, a3 k (Nat.le_refl _), u3_s, cd_hi, Nat.mul_comm]
        · rw [a2 q j (by omega), cd_lo (by omega)]
