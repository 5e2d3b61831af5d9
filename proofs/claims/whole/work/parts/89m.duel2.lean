/-! DUEL: the model -/
def sttF (o : Nat → Nat) (n : Nat) : Nat → Nat → Option (Nat × Nat × Nat)
  | 0, _ => some (0, 0, 0)
  | t + 1, k => (sttF o n t (k / 7)).bind fun s => if 6 ≤ k % 7 then some s else if n ≤ k % 7 then none else if s.1.testBit (k % 7) = true then none else some (s.1 ||| 1 <<< (k % 7), if t % 2 = 0 then (s.2.1 ||| o (k % 7), andn s.2.2 (o (k % 7))) else (andn s.2.1 (o (k % 7)), s.2.2 ||| o (k % 7)))
theorem pop_paint (p q s : Nat) : popN (andn (p ||| q) s) = popN (andn q s) + popN (andn p (s ||| q)) := by
  rw [← pop_dis]
  · congr 1
    refine eq_tb fun i => ?_
    rw [Nat.testBit_or, tb_andn, tb_andn, tb_andn, Nat.testBit_or, Nat.testBit_or]
    cases p.testBit i <;> cases q.testBit i <;> cases s.testBit i <;> decide
  · refine eq_tb fun i => ?_
    rw [Nat.testBit_and, tb_andn, tb_andn, Nat.testBit_or, Nat.zero_testBit]
    cases p.testBit i <;> cases q.testBit i <;> cases s.testBit i <;> decide
theorem andn_or (p q s : Nat) : andn (andn p q) s = andn p (s ||| q) := eq_tb fun i => by
  rw [tb_andn, tb_andn, tb_andn, Nat.testBit_or]
  cases p.testBit i <;> cases q.testBit i <;> cases s.testBit i <;> decide
def endP (o : Nat → Nat) (n t k had seen : Nat) (e : Int) (r : Int32) : Prop := match sttF o n t k with
  | none => r = -99
  | some s => (s.1 &&& had ≠ 0 ∧ r = -99) ∨ (s.1 &&& had = 0 ∧ r.toInt = e + (popN (andn s.2.1 seen) : Int) - (popN (andn s.2.2 seen) : Int))
theorem endP_n {o : Nat → Nat} {n t k had seen : Nat} {e : Int} {r : Int32} (h : sttF o n t k = none) : endP o n t k had seen e r ↔ r = -99 := by
  unfold endP; rw [h]
theorem endP_s {o : Nat → Nat} {n t k had seen : Nat} {e : Int} {r : Int32} {s : Nat × Nat × Nat} (h : sttF o n t k = some s) : endP o n t k had seen e r ↔ (s.1 &&& had ≠ 0 ∧ r = -99) ∨ (s.1 &&& had = 0 ∧ r.toInt = e + (popN (andn s.2.1 seen) : Int) - (popN (andn s.2.2 seen) : Int)) := by
  unfold endP; rw [h]
theorem and0_bit {a b : Nat} : a &&& b = 0 ↔ ∀ i, a.testBit i = true → b.testBit i = true → False := by
  constructor
  · intro h i h1 h2
    have : (a &&& b).testBit i = true := by rw [Nat.testBit_and, h1, h2]; rfl
    rw [h, Nat.zero_testBit] at this; cases this
  · intro h
    refine eq_tb fun i => ?_
    rw [Nat.testBit_and, Bool.and_eq_true, Nat.zero_testBit]
    exact ⟨fun q => (h i q.1 q.2).elim, fun q => by cases q⟩
theorem m_endOf {m : MI} {w : WS} {W H sl n : Nat} {cu we : Nat → Nat} {x1 x2 : Int32} (ok : shOK W H sl n cu we) (h27 : m 10 0 27 = nI n) (h62 : ∀ s, s < 6 → m 62 0 s = nI (opS W H cu s)) :
    ∀ (t F k had seen : Nat) (e : Int32), t < F → k < 1000000 → had < 64 → seen < 33554432 → -500 + 25 * (t : Int) ≤ e.toInt → e.toInt ≤ 500 - 25 * (t : Int) →
      ∃ r, L_X11_endOf_16 m w F x1 x2 (nI k) (nI had) (nI seen) e (nI t - 1) = some r ∧ endP (opS W H cu) n t k had seen e.toInt r := by
  have hn := ok.cnt
  intro t
  induction t with
  | zero =>
    intro F k had seen e hF hk hh hs b1 b2'
    obtain ⟨F, rfl⟩ : ∃ G, F = G + 1 := ⟨F - 1, by omega⟩
    refine ⟨e, by rw [L_X11_endOf_16, if_pos (by decide)], (endP_s (s := (0, 0, 0)) rfl).mpr (Or.inr ⟨Nat.zero_and _, ?_⟩)⟩
    have z : popN (andn 0 seen) = 0 := by
      have : andn 0 seen = 0 := eq_tb fun i => by rw [tb_andn, Nat.zero_testBit, Bool.false_and]
      rw [this, pop_z]
    dsimp only
    rw [z]
    omega
  | succ t ih =>
    intro F k had seen e hF hk hh hs b1 b2'
    obtain ⟨F, rfl⟩ : ∃ G, F = G + 1 := ⟨F - 1, by omega⟩
    have hv : k % 7 < 7 := Nat.mod_lt _ (by omega)
    have i7 : (7 : Int32) = nI 7 := rfl
    have hm : irem (nI k) 7 = nI (k % 7) := by rw [i7, nrem (by omega) (by omega) (by omega)]
    have hd : nI k / 7 = nI (k / 7) := by rw [i7, ndiv (by omega) (by omega) (by omega)]
    rw [nI_pred, L_X11_endOf_16, if_neg (nI_pos (by omega)), hm, hd]
    by_cases h6 : 6 ≤ k % 7
    · have g6 : (6 : Int32) ≤ nI (k % 7) := by rw [i6, nle (by omega) (by omega)]; exact h6
      rw [if_pos g6, if_pos g6, nI_dn]
      obtain ⟨r, r1, r2⟩ := ih F (k / 7) had seen e (by omega) (by omega) hh hs (by omega) (by omega)
      refine ⟨r, r1, ?_⟩
      have es : sttF (opS W H cu) n (t + 1) k = sttF (opS W H cu) n t (k / 7) := by
        rw [sttF]
        cases sttF (opS W H cu) n t (k / 7) with
        | none => rfl
        | some s => exact if_pos h6
      unfold endP
      rw [es]
      exact r2
    · have g6 : ¬ (6 : Int32) ≤ nI (k % 7) := by rw [i6, nle (by omega) (by omega)]; exact h6
      rw [if_neg g6]
      by_cases hnv : n ≤ k % 7
      · rw [if_pos (show m 10 0 27 ≤ nI (k % 7) by rw [h27, nle (by omega) (by omega)]; exact hnv)]
        refine ⟨-99, rfl, (endP_n ?_).mpr rfl⟩
        rw [sttF]
        cases sttF (opS W H cu) n t (k / 7) with
        | none => rfl
        | some s => rw [Option.bind_some, if_neg h6, if_pos hnv]
      · rw [if_neg (show ¬ m 10 0 27 ≤ nI (k % 7) by rw [h27, nle (by omega) (by omega)]; exact hnv)]
        have tb : (((nI had) >>> (nI (k % 7) &&& 31)) &&& 1 = 1) = (had.testBit (k % 7) = true) := by
          rw [n31 (by omega), nshr (by omega) (by omega), i1, nand, bit1]
        have es : sttF (opS W H cu) n (t + 1) k = (sttF (opS W H cu) n t (k / 7)).bind fun s => if s.1.testBit (k % 7) = true then none else some (s.1 ||| 1 <<< (k % 7), if t % 2 = 0 then (s.2.1 ||| (opS W H cu) (k % 7), andn s.2.2 ((opS W H cu) (k % 7))) else (andn s.2.1 ((opS W H cu) (k % 7)), s.2.2 ||| (opS W H cu) (k % 7))) := by
          rw [sttF]
          cases sttF (opS W H cu) n t (k / 7) with
          | none => rfl
          | some s => rw [Option.bind_some, Option.bind_some, if_neg h6, if_neg hnv]
        by_cases hb : had.testBit (k % 7) = true
        · rw [if_pos (tb.mpr hb)]
          refine ⟨-99, rfl, ?_⟩
          cases hst : sttF (opS W H cu) n t (k / 7) with
          | none =>
            rw [hst] at es
            exact (endP_n es).mpr rfl
          | some s =>
            rw [hst, Option.bind_some] at es
            by_cases hu : s.1.testBit (k % 7) = true
            · rw [if_pos hu] at es
              exact (endP_n es).mpr rfl
            · rw [if_neg hu] at es
              refine (endP_s es).mpr (Or.inl ⟨fun z => ?_, rfl⟩)
              exact and0_bit.mp z (k % 7) (by rw [Nat.testBit_or, one_tb.mpr rfl, Bool.or_true]) hb
        · rw [if_neg (fun q => hb (tb.mp q)), if_neg g6]
          have ho : opS W H cu (k % 7) < 33554432 := ok.op2 (s := k % 7) (by omega)
          have hop : m 62 0 (k % 7) = nI (opS W H cu (k % 7)) := h62 _ (by omega)
          have hmo : andn (opS W H cu (k % 7)) seen < 33554432 := Nat.lt_of_le_of_lt (andn_le _ _) ho
          have hp := popN_le (andn (opS W H cu (k % 7)) seen)
          simp (disch := omega) only [ncl, ckJ]
          rw [hop, nandn, m_ones m w hmo, Option.bind_some, nor, n31 (by omega), show (1 : Int32) <<< nI (k % 7) = nI (1 <<< (k % 7)) by rw [i1, nshl _ (by omega)], nor, nI_dn]
          have hev : irem (nI t) 2 = nI (t % 2) := by rw [i2]; exact nrem (d := 2) (by omega) (by omega) (by omega)
          have hpt : (nI (popN (andn (opS W H cu (k % 7)) seen))).toInt = (popN (andn (opS W H cu (k % 7)) seen) : Int) := nI_toInt (by omega)
          obtain ⟨d, hd1, hd2⟩ : ∃ d : Int32, (if irem (nI t) 2 = 0 then nI (popN (andn (opS W H cu (k % 7)) seen)) else -(nI (popN (andn (opS W H cu (k % 7)) seen)))) = d ∧ d.toInt = if t % 2 = 0 then (popN (andn (opS W H cu (k % 7)) seen) : Int) else -(popN (andn (opS W H cu (k % 7)) seen) : Int) := by
            refine ⟨_, rfl, ?_⟩
            rw [hev]
            by_cases z : t % 2 = 0
            · rw [if_pos (show nI (t % 2) = 0 by rw [z]; rfl), if_pos z, hpt]
            · rw [if_neg (nne0 (by omega) z), if_neg z, t_neg (by omega) (by omega), hpt]
          rw [hd1]
          have hde : (e + d).toInt = e.toInt + d.toInt := by
            refine t_add ?_ ?_ <;> (rw [hd2]; split <;> omega)
          obtain ⟨r, r1, r2⟩ := ih F (k / 7) (had ||| 1 <<< (k % 7)) (seen ||| opS W H cu (k % 7)) (e + d) (by omega) (by omega) (Nat.or_lt_two_pow (n := 6) hh (bit_lt (by omega))) (or_lt25 hs ho) (by rw [hde, hd2]; split <;> omega) (by rw [hde, hd2]; split <;> omega)
          refine ⟨r, r1, ?_⟩
          cases hst : sttF (opS W H cu) n t (k / 7) with
          | none =>
            rw [hst] at es
            exact (endP_n es).mpr ((endP_n hst).mp r2)
          | some s =>
            rw [hst, Option.bind_some] at es
            have r3 := (endP_s hst).mp r2
            by_cases hu : s.1.testBit (k % 7) = true
            · rw [if_pos hu] at es
              rcases r3 with ⟨_, q⟩ | ⟨q, _⟩
              · exact (endP_n es).mpr q
              · exact (and0_bit.mp q (k % 7) hu (by rw [Nat.testBit_or, one_tb.mpr rfl, Bool.or_true])).elim
            · rw [if_neg hu] at es
              refine (endP_s es).mpr ?_
              rcases r3 with ⟨q, q2⟩ | ⟨q, q2⟩
              · refine Or.inl ⟨fun z => q (and0_bit.mpr fun i a b => ?_), q2⟩
                rw [Nat.testBit_or, Bool.or_eq_true, one_tb] at b
                rcases b with b | b
                · exact and0_bit.mp z i (by rw [Nat.testBit_or, a]; rfl) b
                · rw [← b] at a; exact hu a
              · refine Or.inr ⟨and0_bit.mpr fun i a b => ?_, ?_⟩
                · rw [Nat.testBit_or, Bool.or_eq_true, one_tb] at a
                  rcases a with a | a
                  · exact and0_bit.mp q i a (by rw [Nat.testBit_or, b]; rfl)
                  · rw [← a] at b; exact hb b
                · rw [q2, hde, hd2]
                  dsimp only
                  by_cases z : t % 2 = 0
                  · rw [if_pos z, if_pos z]
                    dsimp only
                    rw [pop_paint, andn_or]
                    omega
                  · rw [if_neg z, if_neg z]
                    dsimp only
                    rw [pop_paint, andn_or]
                    omega
/-- the value at a row of turns -/
def enP (o : Nat → Nat) (n T t k : Nat) (x : Int32) : Prop := match sttF o n t k with
  | none => x = -99
  | some s => x.toInt = if t % 2 = 0 then gv o n (T - t) s.1 s.2.1 s.2.2 else -(gv o n (T - t) s.1 s.2.2 s.2.1)
theorem enP_n {o : Nat → Nat} {n T t k : Nat} {x : Int32} (h : sttF o n t k = none) : enP o n T t k x ↔ x = -99 := by unfold enP; rw [h]
theorem enP_s {o : Nat → Nat} {n T t k : Nat} {x : Int32} {s : Nat × Nat × Nat} (h : sttF o n t k = some s) : enP o n T t k x ↔ x.toInt = if t % 2 = 0 then gv o n (T - t) s.1 s.2.1 s.2.2 else -(gv o n (T - t) s.1 s.2.2 s.2.1) := by unfold enP; rw [h]
/-- the best of seven, the first of the best -/
def foP (most : Bool) (v : Nat → Int32) (K : Nat) (e wh : Int32) : Prop := ((∀ j, j < K → v j = -99) ∧ e = -99 ∧ wh = -1) ∨ ∃ j0, j0 < K ∧ v j0 ≠ -99 ∧ e = v j0 ∧ wh = nI j0 ∧ ∀ j, j < K → v j ≠ -99 → (if most = true then (v j).toInt ≤ e.toInt else e.toInt ≤ (v j).toInt) ∧ (v j = e → j0 ≤ j)
theorem m_fold {m0 : MI} {w : WS} {a : Nat} (ha : a + 7 ≤ 117649) (most : Bool) : ∃ e m, F_X11_fold m0 w (nI a) (if most = true then 1 else 0) = some (e, m) ∧ foP most (fun j => m0 70 0 (a + j)) 7 e (m 10 0 43) ∧ ∀ c i j, ¬ (c = 10 ∧ i = 0 ∧ j = 43) → m c i j = m0 c i j := by
  have key := lp_inv (L := fun f (σ : MI × Int32) k => L_X11_fold_11 w f σ.1 (nI a) (if most = true then 1 else 0) σ.2 (nI k)) (N := 7) (post := fun σ => some (σ.2, σ.1)) (fun k σ => foP most (fun j => m0 70 0 (a + j)) k σ.2 (σ.1 10 0 43) ∧ ∀ c i j, ¬ (c = 10 ∧ i = 0 ∧ j = 43) → σ.1 c i j = m0 c i j) (fun f σ hI => ?_) (fun f k σ hk hI => ?_) (F := 1000000) (by omega) (u3 m0 10 0 43 (-1), (-99 : Int32)) ⟨Or.inl ⟨fun j hj => absurd hj (Nat.not_lt_zero j), rfl, u3_s (m := m0) (c := 10) (i := 0) (k := 43)⟩, fun c i j h => u3_n (by omega)⟩
  · obtain ⟨⟨m, e⟩, ⟨g1, g2⟩, g3⟩ := key
    exact ⟨e, m, g3, g1, g2⟩
  · show L_X11_fold_11 w (f + 1) σ.1 (nI a) (if most = true then 1 else 0) σ.2 (nI 7) = _
    rw [L_X11_fold_11, if_pos (by decide)]
  · show ∃ s' : MI × Int32, L_X11_fold_11 w (f + 1) σ.1 (nI a) (if most = true then 1 else 0) σ.2 (nI k) = L_X11_fold_11 w f s'.1 (nI a) (if most = true then 1 else 0) s'.2 (nI (k + 1)) ∧ _
    obtain ⟨g1, g2⟩ := hI
    have i7 : (7 : Int32) = nI 7 := rfl
    have hr : σ.1 70 0 (a + k) = m0 70 0 (a + k) := g2 _ _ _ (by omega)
    rw [L_X11_fold_11, if_neg (by rw [i7, nle (by omega) (by omega)]; omega), nadd]
    simp (disch := omega) only [ncl, ckJ]
    rw [hr, show nI k + 1 = nI (k + 1) by rw [i1, nadd]]
    -- the three ways
    have skip : (m0 70 0 (a + k) = -99 ∨ (σ.2 ≠ -99 ∧ m0 70 0 (a + k) ≠ -99 ∧ (if most = true then (m0 70 0 (a + k)).toInt ≤ σ.2.toInt else σ.2.toInt ≤ (m0 70 0 (a + k)).toInt))) → foP most (fun j => m0 70 0 (a + j)) (k + 1) σ.2 (σ.1 10 0 43) := by
      intro h
      rcases g1 with ⟨p1, p2, p3⟩ | ⟨j0, p1, p2, p3, p4, p5⟩
      · rcases h with h | ⟨h, _⟩
        · refine Or.inl ⟨fun j hj => ?_, p2, p3⟩
          by_cases ej : j = k
          · rw [ej]; exact h
          · exact p1 j (by omega)
        · exact absurd p2 h
      · refine Or.inr ⟨j0, by omega, p2, p3, p4, fun j hj hv => ?_⟩
        by_cases ej : j = k
        · rw [ej] at hv ⊢
          rcases h with h | ⟨_, _, h⟩
          · exact absurd h hv
          · exact ⟨h, fun _ => by omega⟩
        · exact p5 j (by omega) hv
    have take : m0 70 0 (a + k) ≠ -99 → (σ.2 = -99 ∨ (if most = true then σ.2.toInt < (m0 70 0 (a + k)).toInt else (m0 70 0 (a + k)).toInt < σ.2.toInt)) → foP most (fun j => m0 70 0 (a + j)) (k + 1) (m0 70 0 (a + k)) ((u3 σ.1 10 0 43 (nI k)) 10 0 43) ∧ ∀ c i j, ¬ (c = 10 ∧ i = 0 ∧ j = 43) → (u3 σ.1 10 0 43 (nI k)) c i j = m0 c i j := by
      intro hv h
      refine ⟨Or.inr ⟨k, by omega, hv, rfl, u3_s, fun j hj hvj => ?_⟩, fun c i j h => by rw [u3_n (by omega)]; exact g2 c i j h⟩
      by_cases ej : j = k
      · rw [ej]
        refine ⟨?_, fun _ => Nat.le_refl _⟩
        split <;> exact Int.le_refl _
      · rcases g1 with ⟨p1, p2, p3⟩ | ⟨j0, p1, p2, p3, p4, p5⟩
        · exact absurd (p1 j (by omega)) hvj
        · have hne : σ.2 ≠ -99 := by rw [p3]; exact p2
          have h := h.resolve_left hne
          obtain ⟨q1, q2⟩ := p5 j (by omega) hvj
          dsimp only at q1 hvj ⊢
          cases most with
          | true =>
            rw [if_pos rfl] at h q1 ⊢
            exact ⟨by omega, fun z => by rw [z] at q1; omega⟩
          | false =>
            rw [if_neg Bool.false_ne_true] at h q1 ⊢
            exact ⟨by omega, fun z => by rw [z] at q1; omega⟩
    by_cases h99 : m0 70 0 (a + k) = -99
    · rw [if_pos h99]
      exact ⟨σ, rfl, skip (Or.inl h99), g2⟩
    · rw [if_neg h99]
      by_cases e99 : σ.2 = -99
      · rw [if_pos e99]
        obtain ⟨t1, t2⟩ := take h99 (Or.inl e99)
        exact ⟨(u3 σ.1 10 0 43 (nI k), m0 70 0 (a + k)), rfl, t1, t2⟩
      · rw [if_neg e99]
        cases most with
        | true =>
          rw [if_neg (show ¬ (if true = true then (1 : Int32) else 0) = 0 from ne10)]
          by_cases q : m0 70 0 (a + k) ≤ σ.2
          · rw [if_pos q]
            exact ⟨σ, rfl, skip (Or.inr ⟨e99, h99, by rw [if_pos rfl]; exact Int32.le_iff_toInt_le.mp q⟩), g2⟩
          · rw [if_neg q]
            have q' : σ.2.toInt < (m0 70 0 (a + k)).toInt := Int.not_le.mp fun z => q (Int32.le_iff_toInt_le.mpr z)
            obtain ⟨t1, t2⟩ := take h99 (Or.inr (by rw [if_pos rfl]; exact q'))
            exact ⟨(u3 σ.1 10 0 43 (nI k), m0 70 0 (a + k)), rfl, t1, t2⟩
        | false =>
          rw [if_pos (show (if false = true then (1 : Int32) else 0) = 0 from rfl)]
          by_cases q : σ.2 ≤ m0 70 0 (a + k)
          · rw [if_pos q]
            exact ⟨σ, rfl, skip (Or.inr ⟨e99, h99, by rw [if_neg Bool.false_ne_true]; exact Int32.le_iff_toInt_le.mp q⟩), g2⟩
          · rw [if_neg q]
            have q' : (m0 70 0 (a + k)).toInt < σ.2.toInt := Int.not_le.mp fun z => q (Int32.le_iff_toInt_le.mpr z)
            obtain ⟨t1, t2⟩ := take h99 (Or.inr (by rw [if_neg Bool.false_ne_true]; exact q'))
            exact ⟨(u3 σ.1 10 0 43 (nI k), m0 70 0 (a + k)), rfl, t1, t2⟩
