/-! DUEL: the class -/
theorem t_add {a b : Int32} (h1 : -1000000 ≤ a.toInt + b.toInt) (h2 : a.toInt + b.toInt ≤ 1000000) : (a + b).toInt = a.toInt + b.toInt := by
  rw [Int32.toInt_add]
  apply Int.bmod_eq_of_le <;> omega
theorem t_sub {a b : Int32} (h1 : -1000000 ≤ a.toInt - b.toInt) (h2 : a.toInt - b.toInt ≤ 1000000) : (a - b).toInt = a.toInt - b.toInt := by
  rw [Int32.toInt_sub]
  apply Int.bmod_eq_of_le <;> omega
theorem t_neg {a : Int32} (h1 : -1000000 ≤ a.toInt) (h2 : a.toInt ≤ 1000000) : (-a).toInt = -a.toInt := by
  rw [Int32.toInt_neg]
  apply Int.bmod_eq_of_le <;> omega
def imx (a b : Int) : Int := if a < b then b else a
theorem imx_l (a b : Int) : a ≤ imx a b := by unfold imx; split <;> omega
theorem imx_r (a b : Int) : b ≤ imx a b := by unfold imx; split <;> omega
theorem imx_or (a b : Int) : imx a b = a ∨ imx a b = b := by unfold imx; split <;> omega
theorem t_imax (a b : Int32) : (imax a b).toInt = imx a.toInt b.toInt := by
  unfold imax imx
  by_cases h : a < b
  · rw [if_pos h, if_pos (Int32.lt_iff_toInt_lt.mp h)]
  · rw [if_neg h, if_neg fun q => h (Int32.lt_iff_toInt_lt.mpr q)]
/-- what it is worth for whose turn it is -/
def gv (o : Nat → Nat) (n : Nat) : Nat → Nat → Nat → Nat → Int
  | 0, _, me, th => (popN me : Int) - popN th
  | r + 1, used, me, th => foldN (fun j a => if used.testBit j = true then a else imx a (-(gv o n r (used ||| 1 <<< j) (andn th (o j)) (me ||| o j)))) (-(gv o n r used th me)) n
theorem gv_le {o : Nat → Nat} {n : Nat} : ∀ r used me th, -25 ≤ gv o n r used me th ∧ gv o n r used me th ≤ 25 := by
  intro r
  induction r with
  | zero =>
    intro used me th
    have h1 := popN_le me
    have h2 := popN_le th
    rw [gv]
    omega
  | succ r ih =>
    intro used me th
    rw [gv]
    have h0 := ih used th me
    refine foldN_inv (P := fun a : Int => -25 ≤ a ∧ a ≤ 25) (by omega) fun j a _ ha => ?_
    split
    · exact ha
    · have := ih (used ||| 1 <<< j) (andn th (o j)) (me ||| o j)
      rcases imx_or a (-(gv o n r (used ||| 1 <<< j) (andn th (o j)) (me ||| o j))) with e | e <;> rw [e] <;> omega
def ABw (g b lo hi : Int) : Prop := (b < hi → g ≤ b) ∧ (lo < b → b ≤ g)
theorem ab_step {G g best b lo hi : Int} (p : ABw G best lo hi) (q : ABw g b (-hi) (-(imx lo best))) : ABw (imx G (-g)) (imx best (-b)) lo hi := by
  obtain ⟨p1, p2⟩ := p
  obtain ⟨q1, q2⟩ := q
  have a1 := imx_l lo best
  have a2 := imx_r lo best
  have a3 := imx_or lo best
  generalize imx lo best = L at *
  constructor
  · intro z
    have b1 := imx_l best (-b)
    have b2 := imx_r best (-b)
    have h1 := p1 (by omega)
    have h2 := q2 (by omega)
    rcases imx_or G (-g) with e | e <;> rw [e] <;> omega
  · intro z
    have c1 := imx_l G (-g)
    have c2 := imx_r G (-g)
    rcases imx_or best (-b) with e | e
    · rw [e] at z ⊢
      have := p2 z
      omega
    · rw [e] at z ⊢
      by_cases y : best < -b
      · have := q1 (by omega)
        omega
      · have hm := imx_l best (-b)
        rw [e] at hm
        have := p2 (by omega)
        omega
theorem c_best {m : MI} {w : WS} {i W H sl n : Nat} {cu we : Nat → Nat} (ok : shOK W H sl n cu we) (hc : ShC m i W H sl n cu we) :
    ∀ r K used me th (lo hi : Int32), r < K → used < 64 → me < 33554432 → th < 33554432 → -99 ≤ lo.toInt → lo.toInt ≤ 99 → -99 ≤ hi.toInt → hi.toInt ≤ 99 → r < 1000 →
      ∃ b, F_X1_bestWorth m w K i (nI r) (nI used) (nI me) (nI th) lo hi = some b ∧ (-25 ≤ b.toInt ∧ b.toInt ≤ 25) ∧ ABw (gv (opS W H cu) n r used me th) b.toInt lo.toInt hi.toInt := by
  have hn := ok.cnt
  intro r
  induction r with
  | zero =>
    intro K used me th lo hi hK hu hme hth _ _ _ _ _
    obtain ⟨K, rfl⟩ : ∃ G, K = G + 1 := ⟨K - 1, by omega⟩
    have h1 := popN_le me
    have h2 := popN_le th
    refine ⟨nI (popN me) - nI (popN th), ?_, ?_, ?_⟩
    · rw [F_X1_bestWorth, if_neg (by decide), c_pop hme, c_pop hth]
    · rw [pk_sub_toInt (by omega) (by omega)]; omega
    · rw [pk_sub_toInt (by omega) (by omega)]
      exact ⟨fun _ => by rw [gv]; exact Int.le_refl _, fun _ => by rw [gv]; exact Int.le_refl _⟩
  | succ r ih =>
    intro K used me th lo hi hK hu hme hth l1 l2 h1 h2 hr
    obtain ⟨K, rfl⟩ : ∃ G, K = G + 1 := ⟨K - 1, by omega⟩
    have nlo : (-lo).toInt = -lo.toInt := t_neg (by omega) (by omega)
    have nhi : (-hi).toInt = -hi.toInt := t_neg (by omega) (by omega)
    have er : nI (r + 1) - 1 = nI r := by rw [i1, nsub (by omega)]; rfl
    obtain ⟨b0, e0, e1, e2⟩ := ih K used th me (-hi) (-lo) (by omega) hu hth hme (by omega) (by omega) (by omega) (by omega) (by omega)
    have nb0 : (-b0).toInt = -b0.toInt := t_neg (by omega) (by omega)
    rw [F_X1_bestWorth, if_pos (by rw [i0, nlt (by omega) (by omega)]; omega), er, e0, Option.bind_some]
    have mono : ∀ s j, foldN (fun j a => if used.testBit j = true then a else imx a (-(gv (opS W H cu) n r (used ||| 1 <<< j) (andn th (opS W H cu j)) (me ||| opS W H cu j)))) (-(gv (opS W H cu) n r used th me)) j ≤ foldN (fun j a => if used.testBit j = true then a else imx a (-(gv (opS W H cu) n r (used ||| 1 <<< j) (andn th (opS W H cu j)) (me ||| opS W H cu j)))) (-(gv (opS W H cu) n r used th me)) (j + s) := by
      intro s j
      induction s with
      | zero => exact Int.le_refl _
      | succ s ihs =>
        refine Int.le_trans ihs ?_
        show _ ≤ (if used.testBit (j + s) = true then _ else imx _ _)
        split
        · exact Int.le_refl _
        · exact imx_l _ _
    have loop : ∀ (s j F : Nat) (best : Int32), j + s = n → s < F → (-25 ≤ best.toInt ∧ best.toInt ≤ 25) → ABw (foldN (fun j a => if used.testBit j = true then a else imx a (-(gv (opS W H cu) n r (used ||| 1 <<< j) (andn th (opS W H cu j)) (me ||| opS W H cu j)))) (-(gv (opS W H cu) n r used th me)) j) best.toInt lo.toInt hi.toInt →
        ∃ b, L_X1_bestWorth_38 m w (F_X1_bestWorth m w K) F i (nI (r + 1)) (nI used) (nI me) (nI th) lo hi best (nI j) = some b ∧ (-25 ≤ b.toInt ∧ b.toInt ≤ 25) ∧ ABw (gv (opS W H cu) n (r + 1) used me th) b.toInt lo.toInt hi.toInt := by
      intro s
      induction s with
      | zero =>
        intro j F best hj hF hb hab
        obtain ⟨F, rfl⟩ : ∃ G, F = G + 1 := ⟨F - 1, by omega⟩
        have hj' : j = n := by omega
        subst hj'
        exact ⟨best, by rw [L_X1_bestWorth_38, if_pos (by rw [hc.cnt, nle (by omega) (by omega)]; omega)], hb, hab⟩
      | succ s ihs =>
        intro j F best hj hF hb hab
        obtain ⟨F, rfl⟩ : ∃ G, F = G + 1 := ⟨F - 1, by omega⟩
        rw [L_X1_bestWorth_38, if_neg (by rw [hc.cnt, nle (by omega) (by omega)]; omega)]
        by_cases hst : hi ≤ best
        · rw [if_pos hst]
          have hst' := Int32.le_iff_toInt_le.mp hst
          have mm := mono (s + 1) j
          rw [hj] at mm
          refine ⟨best, rfl, hb, fun z => absurd z (by omega), fun z => Int.le_trans (hab.2 z) ?_⟩
          rw [gv]
          exact mm
        · rw [if_neg hst, show nI j + 1 = nI (j + 1) by rw [i1, nadd]]
          have bt : (((nI used >>> (nI j &&& 31)) &&& 1) = 0) = (used.testBit j = false) := by
            rw [n31 (by omega), nshr (by omega) (by omega), i1, nand, i0, bit0]
          cases hbit : used.testBit j with
          | true =>
            rw [if_neg (fun z => by rw [bt, hbit] at z; cases z)]
            refine ihs (j + 1) F best (by omega) (by omega) hb ?_
            show ABw (if used.testBit j = true then _ else _) _ _ _
            rw [if_pos hbit]
            exact hab
          | false =>
            have ho : opS W H cu j < 33554432 := ok.op2 (s := j) (by omega)
            have hop : m 28 i j = nI (opS W H cu j) := hc.op (by omega)
            rw [if_pos (bt.mpr hbit)]
            simp (disch := omega) only [ncl, ckJ]
            rw [er, n31 (by omega), show (1 : Int32) <<< nI j = nI (1 <<< j) by rw [i1, nshl _ (by omega)], nor, hop, nandn, nor]
            have hlw : (imax lo best).toInt = imx lo.toInt best.toInt := t_imax lo best
            have lw : -99 ≤ (imax lo best).toInt ∧ (imax lo best).toInt ≤ 99 := by
              rcases imx_or lo.toInt best.toInt with z | z <;> rw [hlw, z] <;> omega
            have nlw : (-(imax lo best)).toInt = -(imax lo best).toInt := t_neg (by omega) (by omega)
            obtain ⟨b, f0, f1, f2⟩ := ih K (used ||| 1 <<< j) (andn th (opS W H cu j)) (me ||| opS W H cu j) (-hi) (-(imax lo best)) (by omega) (Nat.or_lt_two_pow (n := 6) hu (bit_lt (by omega))) (Nat.lt_of_le_of_lt (andn_le _ _) hth) (or_lt25 hme ho) (by omega) (by omega) (by omega) (by omega) (by omega)
            have nb : (-b).toInt = -b.toInt := t_neg (by omega) (by omega)
            rw [f0, Option.bind_some]
            have hmx : (imax best (-b)).toInt = imx best.toInt (-b.toInt) := by rw [t_imax, nb]
            rw [nhi, nlw, hlw] at f2
            refine ihs (j + 1) F (imax best (-b)) (by omega) (by omega) ?_ ?_
            · rcases imx_or best.toInt (-b.toInt) with z | z <;> rw [hmx, z] <;> omega
            · show ABw (if used.testBit j = true then _ else _) _ _ _
              rw [if_neg (by rw [hbit]; decide), hmx]
              exact ab_step hab f2
    refine loop n 0 1000000 (-b0) (by omega) (by omega) (by omega) ?_
    show ABw (-(gv (opS W H cu) n r used th me)) _ _ _
    rw [nb0]
    obtain ⟨q1, q2⟩ := e2
    exact ⟨fun z => by have := q2 (by omega); omega, fun z => by have := q1 (by omega); omega⟩
