theorem m_open {m : MI} (w : WS) {j W H sl n s q a : Nat} {cu we : Nat → Nat} (ok : shOK W H sl n cu we) (hd : HD m j W H sl n cu we) (hs : s < 6) (hq : q < W * H) (ha : a < 5) : F_X11_isOpen m w (nI s) (nI q) (nI a) = some (b2 ((slN W H (openN W H (cu s)) a 0).testBit q = true)) := by
  have hC := ok.cells
  have hx := pw (sl_lt (a := a) (d := 0) ok.1.2 ok.2.1.2 ha (by omega) (ok.op hs)) hC
  unfold F_X11_isOpen
  rw [ck6 hs, ncl (by omega), hd.op hs, show (0 : Int32) = nI 0 from rfl, m_slid w ok.bw hd.mw ha (by omega) (ok.op hs), Option.bind_some, n31 (by omega), nshr (by omega) (by omega), show (1 : Int32) = nI 1 from rfl, nand]
  exact congrArg some (b2_iff (by rw [bit1]))
theorem m_chance {m : MI} (w : WS) {j W H sl n q c : Nat} {cu we : Nat → Nat} (ok : shOK W H sl n cu we) (hd : HD m j W H sl n cu we) (hq : q < W * H) (hc : c ≤ 6) (x1 x4 : Int32) :
    L_X11_chance_49 w 1000000 m x1 (nI q) (nI c) x4 (nI sl) 1 1 0 = some ((if x4 = 0 then nI (if c ≤ n then foldN (pdF (tnN W H sl cu q) c) 1 n else 0) else nI (10 ^ n)) / nI (Nat.gcd (10 ^ n) (if c ≤ n then foldN (pdF (tnN W H sl cu q) c) 1 n else 0)), m) := by
  have hn := ok.cnt
  have hsl : sl ≤ 10 := ok.2.2.1
  have hT : ∀ s, tnN W H sl cu q s ≤ 10 := fun s => tn_le ok.2.2.1
  have hP := pd_le hT c n
  have h6 : 10 ^ n ≤ 1000000 := Nat.pow_le_pow_right (n := 10) (by omega) hn
  have hb : (if c ≤ n then foldN (pdF (tnN W H sl cu q) c) 1 n else 0) ≤ 10 ^ n := by split <;> omega
  have key := lp_up (L := fun f a k => L_X11_chance_49 w f m x1 (nI q) (nI c) x4 (nI sl) (nI (10 ^ k)) (nI a) (nI k)) (N := n) (f := pdF (tnN W H sl cu q) c) (post := fun a => some ((if x4 = 0 then nI (if c ≤ n then a else 0) else nI (10 ^ n)) / nI (Nat.gcd (10 ^ n) (if c ≤ n then a else 0)), m)) (fun k a => a ≤ 10 ^ k) (fun f a ha => ?_) (fun f k a hk ha => ⟨?_, ?_⟩) (F := 1000000) (by omega) 1 (Nat.le_refl _)
  · exact key
  · show L_X11_chance_49 w (f + 1) m x1 (nI q) (nI c) x4 (nI sl) (nI (10 ^ n)) (nI a) (nI n) = _
    have hb : (if c ≤ n then a else 0) ≤ 10 ^ n := by split <;> omega
    have hg : 0 < Nat.gcd (10 ^ n) (if c ≤ n then a else 0) := Nat.gcd_pos_of_pos_left _ (Nat.pow_pos (by omega))
    have hg2 : Nat.gcd (10 ^ n) (if c ≤ n then a else 0) ≤ 10 ^ n := Nat.gcd_le_left _ (Nat.pow_pos (by omega))
    have hi : (if nI c ≤ nI n then nI a else (0 : Int32)) = nI (if c ≤ n then a else 0) := by
      by_cases h : c ≤ n
      · rw [if_pos h, if_pos (by rw [nle (by omega) (by omega)]; exact h)]
      · rw [if_neg h, if_neg (by rw [nle (by omega) (by omega)]; exact h)]; rfl
    have hm : F_X11_common m w (nI (10 ^ n)) (nI (if c ≤ n then a else 0)) = some (nI (Nat.gcd (10 ^ n) (if c ≤ n then a else 0))) := by
      rw [F_X11_common]
      exact m_gcd 26 1000000 _ _ (by omega) (by omega) (by omega) (by omega)
    rw [L_X11_chance_49, hd.cnt, if_pos (show nI n ≤ nI n by rw [nle (by omega) (by omega)]; omega), hi, hm, Option.bind_some, ckT (show ¬ nI (Nat.gcd (10 ^ n) (if c ≤ n then a else 0)) = 0 by rw [show (0 : Int32) = nI 0 from rfl, neq (by omega) (by omega)]; omega)]
  · show L_X11_chance_49 w (f + 1) m x1 (nI q) (nI c) x4 (nI sl) (nI (10 ^ k)) (nI a) (nI k) = L_X11_chance_49 w f m x1 (nI q) (nI c) x4 (nI sl) (nI (10 ^ (k + 1))) (nI (pdF (tnN W H sl cu q) c k a)) (nI (k + 1))
    have o0 := m_open (a := 0) w ok hd (s := k) (by omega) hq (by omega)
    have o1 := m_open (a := 1) w ok hd (s := k) (by omega) hq (by omega)
    have e0 : (if b2 ((slN W H (openN W H (cu k)) 0 0).testBit q = true) = (0 : Int32) then (0 : Int32) else (10 : Int32) - nI sl) = nI ((10 - sl) * btN (openN W H (cu k)) q) := by
      show (if b2 ((openN W H (cu k)).testBit q = true) = (0 : Int32) then (0 : Int32) else (10 : Int32) - nI sl) = _
      unfold btN
      by_cases h : (openN W H (cu k)).testBit q = true
      · rw [b2_pos h, if_neg (by decide), if_pos h, show (10 : Int32) = nI 10 from rfl, nsub hsl, Nat.mul_one]
      · rw [b2_neg h, if_pos rfl, if_neg h]; rfl
    have e1 : (if b2 ((slN W H (openN W H (cu k)) 1 0).testBit q = true) = (0 : Int32) then (0 : Int32) else nI sl) = nI (sl * btN (slN W H (openN W H (cu k)) 1 0) q) := by
      unfold btN
      by_cases h : (slN W H (openN W H (cu k)) 1 0).testBit q = true
      · rw [b2_pos h, if_neg (by decide), if_pos h, Nat.mul_one]
      · rw [b2_neg h, if_pos rfl, if_neg h]; rfl
    have ee : nI ((10 - sl) * btN (openN W H (cu k)) q) + nI (sl * btN (slN W H (openN W H (cu k)) 1 0) q) = nI (tnN W H sl cu q k) := nadd _ _
    have o0' : F_X11_isOpen m w (nI k) (nI q) 0 = _ := o0
    have o1' : F_X11_isOpen m w (nI k) (nI q) 1 = _ := o1
    rw [L_X11_chance_49, hd.cnt, if_neg (by rw [nle (by omega) (by omega)]; omega), o0', Option.bind_some, o1', Option.bind_some, e0, e1, ee, show nI k + 1 = nI (k + 1) from nI_add k 1, show (10 : Int32) = nI 10 from rfl, nmul, nsub (hT k), nmul, nmul, nmul, ← Nat.pow_succ]
    congr 1
    unfold pdF
    by_cases h1 : c ≤ k + 1
    · rw [if_pos h1, if_pos (by rw [nle (by omega) (by omega)]; exact h1)]
      by_cases h2 : k + 1 = c
      · rw [if_pos h2, if_pos (by rw [h2])]
      · rw [if_neg h2, if_neg (by rw [neq (by omega) (by omega)]; exact h2)]
    · rw [if_neg h1, if_neg (by rw [nle (by omega) (by omega)]; exact h1)]
  · show pdF (tnN W H sl cu q) c k a ≤ 10 ^ (k + 1)
    have h10 : ∀ y, y ≤ 10 → a * y ≤ 10 ^ (k + 1) := fun y hy => by rw [Nat.pow_succ]; exact Nat.mul_le_mul ha hy
    unfold pdF
    split
    · split
      · exact h10 _ (hT k)
      · exact h10 _ (by omega)
    · exact h10 _ (by omega)
theorem c_chance {mi : MI} (w : WS) {i W H sl n q c : Nat} {cu we : Nat → Nat} (ok : shOK W H sl n cu we) (hc : ShC mi i W H sl n cu we) (hq : q < W * H) (h6 : c ≤ 6) :
    ∃ a b, F_X1_chanceOver mi w i (nI q) (nI c) = some (nI a) ∧ F_X1_chanceUnder mi w i (nI c) = some (nI b) ∧ 0 < b ∧ a ≤ 1000000 ∧ b ≤ 1000000 ∧ a / Nat.gcd a b = (if c ≤ n then foldN (pdF (tnN W H sl cu q) c) 1 n else 0) / Nat.gcd (10 ^ n) (if c ≤ n then foldN (pdF (tnN W H sl cu q) c) 1 n else 0) ∧ b / Nat.gcd a b = 10 ^ n / Nat.gcd (10 ^ n) (if c ≤ n then foldN (pdF (tnN W H sl cu q) c) 1 n else 0) := by
  have hn := ok.cnt
  have hP := pd_le (T := tnN W H sl cu q) (fun s => tn_le ok.2.2.1) c n
  have h106 : 10 ^ n ≤ 1000000 := Nat.pow_le_pow_right (n := 10) (by omega) hn
  have fin : ∀ u a b, 0 < u → foldN (pdF (tnN W H sl cu q) c) 1 n = u * a → 10 ^ n = u * b → 0 < b ∧ a ≤ 1000000 ∧ b ≤ 1000000 ∧ a / Nat.gcd a b = foldN (pdF (tnN W H sl cu q) c) 1 n / Nat.gcd (10 ^ n) (foldN (pdF (tnN W H sl cu q) c) 1 n) ∧ b / Nat.gcd a b = 10 ^ n / Nat.gcd (10 ^ n) (foldN (pdF (tnN W H sl cu q) c) 1 n) := by
    intro u a b hu ha hb
    have h1 : 0 < 10 ^ n := Nat.pow_pos (by omega)
    have hb0 : 0 < b := by
      rcases Nat.eq_zero_or_pos b with e | e
      · rw [e, Nat.mul_zero] at hb; omega
      · exact e
    have q1 : a ≤ u * a := Nat.le_mul_of_pos_left a hu
    have q2 : b ≤ u * b := Nat.le_mul_of_pos_left b hu
    refine ⟨hb0, by omega, by omega, ?_, ?_⟩
    · rw [hb, ha, Nat.gcd_mul_left, Nat.mul_div_mul_left _ _ hu, Nat.gcd_comm]
    · rw [hb, ha, Nat.gcd_mul_left, Nat.mul_div_mul_left _ _ hu, Nat.gcd_comm]
  by_cases hcn : c ≤ n
  · simp only [if_pos hcn]
    rw [F_X1_chanceOver, hc.cnt, if_pos (by rw [nle (by omega) (by omega)]; exact hcn), F_X1_chanceUnder]
    by_cases h0 : c = 0
    · subst h0
      obtain ⟨y, e1, e2⟩ := c_over (c := 0) w ok hc hq (nI 0) 1 n 1000000 0 1 (by omega) (by omega) rfl (by omega)
      obtain ⟨z, f1, f2⟩ := c_under w ok hc (nI 0) 1 n 1000000 0 1 (by omega) rfl (by omega)
      refine ⟨y, z, ?_, ?_, fin 1 y z (by omega) e2 f2⟩
      · rw [if_pos (by decide)]; exact e1
      · rw [if_pos (by decide)]; exact f1
    · obtain ⟨d, rfl⟩ : ∃ d, c = d + 1 := ⟨c - 1, by omega⟩
      have hn0 : ¬ nI (d + 1) = 0 := by rw [show (0 : Int32) = nI 0 from rfl, neq (by omega) (by omega)]; omega
      have hp : foldN (pdF (tnN W H sl cu q) (d + 1)) 1 (d + 1) = 10 ^ d * tnN W H sl cu q d := by
        show pdF (tnN W H sl cu q) (d + 1) d (foldN (pdF (tnN W H sl cu q) (d + 1)) 1 d) = _
        rw [pd_u d (by omega)]
        unfold pdF
        rw [if_pos (by omega), if_pos rfl]
      obtain ⟨y, e1, e2⟩ := c_over (c := d + 1) w ok hc hq (nI (d + 1)) (10 ^ d) (n - (d + 1)) 1000000 (d + 1) (tnN W H sl cu q d) (by omega) (by omega) hp (by omega)
      obtain ⟨z, f1, f2⟩ := c_under w ok hc (nI (d + 1)) (10 ^ d) (n - (d + 1)) 1000000 (d + 1) 10 (by omega) (Nat.pow_succ ..) (by omega)
      refine ⟨y, z, ?_, ?_, fin (10 ^ d) y z (Nat.pow_pos (by omega)) e2 f2⟩
      · rw [if_neg hn0, show (1 : Int32) = nI 1 from rfl, nsub (by omega), Nat.add_sub_cancel, c_ten w ok hc (by omega) hq, Option.bind_some]; exact e1
      · rw [if_neg hn0]; exact f1
  · simp only [if_neg hcn]
    rw [F_X1_chanceOver, hc.cnt, if_neg (by rw [nle (by omega) (by omega)]; exact hcn), F_X1_chanceUnder]
    have hn0 : ¬ nI c = 0 := by rw [show (0 : Int32) = nI 0 from rfl, neq (by omega) (by omega)]; omega
    have hu : ∀ f, L_X1_chanceUnder_13 mi w (f + 1) i (nI c) 10 (nI c) = some 10 := by
      intro f
      rw [L_X1_chanceUnder_13, hc.cnt]
      exact if_pos (show nI n ≤ nI c by rw [nle (by omega) (by omega)]; omega)
    refine ⟨0, 10, rfl, ?_, by omega, by omega, by omega, ?_, ?_⟩
    · rw [if_neg hn0]; exact hu 999999
    · rw [Nat.zero_div, Nat.zero_div]
    · rw [Nat.gcd_zero_right, Nat.div_self (Nat.pow_pos (by omega)), Nat.gcd_zero_left]
theorem op_chance {mi : MI} {w : WS} (I : Inv mi w) (x1 : Int32) (x2 : Int32) (x3 : Int32) (x4 : Int32) (hb : x4 = 0 ∨ x4 = 1) : ∃ c, F_X10_chance mi w x1 x2 x3 x4 = some c ∧ ∃ e, F_X11_chance mi w x1 x2 x3 x4 = some e ∧ c = e.1 ∧ Inv e.2 w := by
  have key : ∃ c, F_X10_chance mi w x1 x2 x3 x4 = some c ∧ ∃ e, F_X11_chance mi w x1 x2 x3 x4 = some e ∧ c = e.1 := by
    unfold F_X10_chance F_X11_chance
    have h7 : (¬ (x3 < 0) ∧ (¬ (6 < x3))) ↔ ∃ c, c < 7 ∧ x3 = nI c := in_sheet (n := 7) (by omega) x3
    by_cases h3 : ∃ c, c < 7 ∧ x3 = nI c
    · rw [if_pos (h7.mpr h3)]
      obtain ⟨c, hc7, rfl⟩ := h3
      refine shop_op I x1 (-1) rfl (fun m => ⟨_, if_pos rfl⟩) fun j W H sl n cu we m hj ok hc hd K => ?_
      dsimp only [onO]
      have hn := ok.cnt
      have hC := ok.cells
      have hcell : (¬ (x2 < 0) ∧ (¬ ((m 10 0 26 - 1) < x2))) ↔ ∃ q, q < W * H ∧ x2 = nI q := by rw [hd.mw.2.2]; exact in_sheet (by omega) x2
      have hcellC : (¬ (x2 < 0) ∧ (¬ (mi 5 j 0 * mi 5 j 1 ≤ x2))) ↔ ∃ q, q < W * H ∧ x2 = nI q := by rw [hc.1.1, hc.1.2.1, nmul]; exact in_cellC (by omega) x2
      rw [if_neg ne10]
      by_cases h2 : ∃ q, q < W * H ∧ x2 = nI q
      · rw [if_pos (hcellC.mpr h2), if_pos (hcell.mpr h2)]
        obtain ⟨q, hq, rfl⟩ := h2
        obtain ⟨a, b, f1, f2, hb0, ha6, hb6, g1, g2⟩ := c_chance w ok hc hq (c := c) (by omega)
        have hg : 0 < Nat.gcd a b := Nat.gcd_pos_of_pos_right _ hb0
        have hg2 : Nat.gcd a b ≤ b := Nat.gcd_le_right _ hb0
        have f3 : F_X1_greatestDivisor mi w (nI a) (nI b) = some (nI (Nat.gcd a b)) := by
          rw [F_X1_greatestDivisor]
          exact c_gcd 26 1000000 0 a b (by omega) (by omega) (by omega) (by omega) (by omega)
        have f4 : F_X11_of m w 2 = some (nI sl) := by
          have := m_of w hd.2.1.1 hj (a := 2) (by omega)
          rw [hd.2.2.2.2.1.2.2.1] at this
          exact this
        rw [if_neg (show ¬ nI c < 0 from nI_pos (by omega)), if_pos (show nI c ≤ 6 by rw [show (6 : Int32) = nI 6 from rfl, nle (by omega) (by omega)]; omega), f1, Option.bind_some, f2, Option.bind_some, f3, Option.bind_some, if_pos (show (0 : Int32) < nI (Nat.gcd a b) by rw [show (0 : Int32) = nI 0 from rfl, nlt (by omega) (by omega)]; exact hg), ckT (show ¬ nI (Nat.gcd a b) = 0 by rw [show (0 : Int32) = nI 0 from rfl, neq (by omega) (by omega)]; omega), f4, Option.bind_some, m_chance w ok hd hq (by omega)]
        refine ⟨_, m, rfl, ?_⟩
        have h6 : 10 ^ n ≤ 1000000 := Nat.pow_le_pow_right (n := 10) (by omega) hn
        have hP := pd_le (T := tnN W H sl cu q) (fun s => tn_le ok.2.2.1) c n
        have hA : (if c ≤ n then foldN (pdF (tnN W H sl cu q) c) 1 n else 0) ≤ 10 ^ n := by split <;> omega
        have hG : 0 < Nat.gcd (10 ^ n) (if c ≤ n then foldN (pdF (tnN W H sl cu q) c) 1 n else 0) := Nat.gcd_pos_of_pos_left _ (Nat.pow_pos (by omega))
        have hG2 : Nat.gcd (10 ^ n) (if c ≤ n then foldN (pdF (tnN W H sl cu q) c) 1 n else 0) ≤ 10 ^ n := Nat.gcd_le_left _ (Nat.pow_pos (by omega))
        congr 2
        by_cases hx : x4 = 0
        · rw [if_pos hx, if_pos hx, ndiv (by omega) hG (by omega), ndiv (by omega) hg (by omega), g1]
        · rw [if_neg hx, if_neg hx, ndiv (by omega) hG (by omega), ndiv (by omega) hg (by omega), g2]
      · rw [if_neg fun q => h2 (hcellC.mp q), if_neg fun q => h2 (hcell.mp q)]
        exact ⟨_, _, rfl, rfl⟩
    · rw [if_neg fun q => h3 (h7.mp q)]
      have hno : ∀ (A : Prop) [Decidable A] (B : Option Int32), (if A then if x3 < 0 then some (-1 : Int32) else if x3 ≤ 6 then B else some (-1 : Int32) else some (-1 : Int32)) = some (-1 : Int32) := by
        intro A _ B
        by_cases hA : A
        · rw [if_pos hA]
          by_cases h0 : x3 < 0
          · rw [if_pos h0]
          · rw [if_neg h0, if_neg]
            intro h6
            obtain ⟨c, hc, rfl⟩ := nI_of h0
            rw [show (6 : Int32) = nI 6 from rfl, nle hc (by omega)] at h6
            exact h3 ⟨c, by omega, rfl⟩
        · rw [if_neg hA]
      rcases shop_at I x1 with ⟨h1, -⟩ | ⟨j, -, h1, -⟩
      · rw [h1, Option.bind_some]
        exact ⟨_, rfl, _, rfl, rfl⟩
      · rw [h1, Option.bind_some]
        dsimp only [onO]
        rw [hno]
        exact ⟨_, rfl, _, rfl, rfl⟩
  obtain ⟨c, h1, e, h2, h3⟩ := key
  exact ⟨c, h1, e, h2, h3, Inv_m I (kp_X11_chance h2)⟩
