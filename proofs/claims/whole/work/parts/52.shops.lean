/-! CALLS OF A SHOP: shop, unlike -/
theorem shop_op {mi : MI} {w : WS} (I : Inv mi w) (x1 : Int32) {F : Option Nat → Option Int32} {G : Int32 × MI → Option (Int32 × MI)} (bad : Int32) (hF : F none = some bad) (hG : ∀ m, ∃ m', G (0, m) = some (bad, m'))
    (h : ∀ (j W H sl n : Nat) (cu we : Nat → Nat) (m : MI), j < 2 → shOK W H sl n cu we → ShC mi j W H sl n cu we → HD m j W H sl n cu we → Keep mi m → ∃ v m', F (some j) = some v ∧ G (1, m) = some (v, m')) :
    ∃ c, (F_X8_shopAt mi w 0 x1).bind F = some c ∧ ∃ e, (F_X11_hand (u3 mi 10 0 0 0) w x1).bind G = some e ∧ c = e.1 := by
  rcases shop_at I x1 with ⟨h1, h2⟩ | ⟨j, ⟨hj, rfl⟩, h1, W, H, sl, n, cu, we, ok, hc, h2⟩
  · obtain ⟨m', e⟩ := hG (u3 mi 10 0 0 0)
    refine ⟨bad, by rw [h1, Option.bind_some, hF], (bad, m'), by rw [h2 _ w (keep_c mi), Option.bind_some, e], rfl⟩
  · obtain ⟨m, e1, e2, e3⟩ := h2 _ w (keep_c mi)
    obtain ⟨v, m', f1, f2⟩ := h j W H sl n cu we m hj ok hc e2 (keep_trans (keep_c mi) (kp_X11_hand e1))
    exact ⟨v, by rw [h1, Option.bind_some, f1], (v, m'), by rw [e1, Option.bind_some, f2], rfl⟩
theorem HD.mw {m : MI} {j W H sl n : Nat} {cu we : Nat → Nat} (h : HD m j W H sl n cu we) : MW m W H := h.1
theorem HD.cnt {m : MI} {j W H sl n : Nat} {cu we : Nat → Nat} (h : HD m j W H sl n cu we) : m 10 0 27 = nI n := h.2.1.2.1
theorem HD.cut {m : MI} {j W H sl n : Nat} {cu we : Nat → Nat} (h : HD m j W H sl n cu we) {s : Nat} (hs : s < 6) : m 61 0 s = nI (cu s) := (h.2.2.1 s hs).1
theorem HD.op {m : MI} {j W H sl n : Nat} {cu we : Nat → Nat} (h : HD m j W H sl n cu we) {s : Nat} (hs : s < 6) : m 62 0 s = nI (openN W H (cu s)) := (h.2.2.1 s hs).2.1
theorem ShC.cnt {mi : MI} {i W H sl n : Nat} {cu we : Nat → Nat} (h : ShC mi i W H sl n cu we) : mi 5 i 3 = nI n := h.1.2.2.2
theorem ShC.cut {mi : MI} {i W H sl n : Nat} {cu we : Nat → Nat} (h : ShC mi i W H sl n cu we) {s : Nat} (hs : s < 6) : mi 26 i s = nI (cu s) := (h.2.1 s hs).1
theorem ShC.wear {mi : MI} {i W H sl n : Nat} {cu we : Nat → Nat} (h : ShC mi i W H sl n cu we) {s : Nat} (hs : s < 6) : mi 27 i s = nI (we s) := (h.2.1 s hs).2.1
theorem ShC.op {mi : MI} {i W H sl n : Nat} {cu we : Nat → Nat} (h : ShC mi i W H sl n cu we) {s : Nat} (hs : s < 6) : mi 28 i s = nI (openN W H (cu s)) := (h.2.1 s hs).2.2
theorem shOK.cnt {W H sl n : Nat} {cu we : Nat → Nat} (h : shOK W H sl n cu we) : n ≤ 6 := h.2.2.2.1
theorem shOK.cells {W H sl n : Nat} {cu we : Nat → Nat} (h : shOK W H sl n cu we) : W * H ≤ 25 := cells_le h.1.2 h.2.1.2
theorem shOK.cu {W H sl n : Nat} {cu we : Nat → Nat} (h : shOK W H sl n cu we) {s : Nat} (hs : s < 6) : cu s < 2 ^ (W * H) := h.2.2.2.2.1 s hs
theorem shOK.op {W H sl n : Nat} {cu we : Nat → Nat} (h : shOK W H sl n cu we) {s : Nat} (hs : s < 6) : openN W H (cu s) < 2 ^ (W * H) := open_lt (h.cu hs)
theorem shOK.op2 {W H sl n : Nat} {cu we : Nat → Nat} (h : shOK W H sl n cu we) {s : Nat} (hs : s < 6) : openN W H (cu s) < 33554432 := pw (h.op hs) h.cells
theorem HD.sheet {m : MI} {j W H sl n : Nat} {cu we : Nat → Nat} (h : HD m j W H sl n cu we) (ok : shOK W H sl n cu we) (x : Int32) : (¬ (x < 0) ∧ (¬ ((m 10 0 27 - 1) < x))) ↔ ∃ s, s < n ∧ x = nI s := by
  have := ok.cnt
  rw [h.cnt]
  exact in_sheet (by omega) x
theorem ShC.sheet {mi : MI} {i W H sl n : Nat} {cu we : Nat → Nat} (h : ShC mi i W H sl n cu we) (ok : shOK W H sl n cu we) (x : Int32) : (¬ (x < 0) ∧ (¬ ((mi 5 i 3) ≤ x) ∧ (¬ (6 ≤ x)))) ↔ ∃ s, s < n ∧ x = nI s := by
  rw [h.cnt]
  exact in_sheetC ok.cnt x
theorem op_unlike {mi : MI} {w : WS} (I : Inv mi w) (x1 : Int32) (x2 : Int32) (x3 : Int32) : ∃ c, F_X10_unlike mi w x1 x2 x3 = some c ∧ ∃ e, F_X11_unlike mi w x1 x2 x3 = some e ∧ c = e.1 ∧ Inv e.2 w := by
  have key : ∃ c, F_X10_unlike mi w x1 x2 x3 = some c ∧ ∃ e, F_X11_unlike mi w x1 x2 x3 = some e ∧ c = e.1 := by
    unfold F_X10_unlike F_X11_unlike
    refine shop_op I x1 (-1) rfl (fun m => ⟨_, if_pos rfl⟩) fun j W H sl n cu we m hj ok hc hd K => ?_
    dsimp only [onO]
    have hn := ok.cnt
    rw [if_neg ne10]
    by_cases h2 : ∃ s, s < n ∧ x2 = nI s
    · obtain ⟨a, ha, rfl⟩ := h2
      rw [if_pos ((hc.sheet ok _).mpr ⟨a, ha, rfl⟩), if_pos ((hd.sheet ok _).mpr ⟨a, ha, rfl⟩)]
      by_cases h3 : ∃ s, s < n ∧ x3 = nI s
      · obtain ⟨b, hb, rfl⟩ := h3
        rw [if_pos ((hc.sheet ok _).mpr ⟨b, hb, rfl⟩), if_pos ((hd.sheet ok _).mpr ⟨b, hb, rfl⟩)]
        have oa := ok.op2 (s := a) (by omega)
        have ob := ok.op2 (s := b) (by omega)
        rw [ck6 (by omega), ck6 (by omega), ncl (by omega), ncl (by omega), hc.op (by omega), hc.op (by omega), nxor]
        unfold F_X11_unlikeOf
        rw [ck6 (by omega), ck6 (by omega), ncl (by omega), ncl (by omega), hd.op (by omega), hd.op (by omega), nandn, nandn, m_ones m w (Nat.lt_of_le_of_lt (andn_le _ _) oa), Option.bind_some, ckJ (by omega) (by omega), ckJ (by omega) (by omega), m_ones m w (Nat.lt_of_le_of_lt (andn_le _ _) ob), Option.bind_some, Option.bind_some, nadd]
        generalize openN W H (cu a) = A at *
        generalize openN W H (cu b) = B at *
        have hx : A ^^^ B < 33554432 := Nat.xor_lt_two_pow (n := 25) oa ob
        rw [c_pop hx]
        have e : popN (A ^^^ B) = popN (andn A B) + popN (andn B A) := by
          have key : ∀ n, sN (bN (A ^^^ B)) n = sN (bN (andn A B)) n + sN (bN (andn B A)) n := by
            intro n
            induction n with
            | zero => rfl
            | succ n ih =>
              show sN (bN (A ^^^ B)) n + bN (A ^^^ B) n = (sN (bN (andn A B)) n + bN (andn A B) n) + (sN (bN (andn B A)) n + bN (andn B A) n)
              have : bN (A ^^^ B) n = bN (andn A B) n + bN (andn B A) n := by
                unfold bN
                rw [tb_andn, tb_andn, Nat.testBit_xor]
                cases A.testBit n <;> cases B.testBit n <;> rfl
              omega
          exact key 25
        rw [e]
        exact ⟨_, _, rfl, rfl⟩
      · rw [if_neg fun q => h3 ((hc.sheet ok _).mp q), if_neg fun q => h3 ((hd.sheet ok _).mp q)]
        exact ⟨_, _, rfl, rfl⟩
    · rw [if_neg fun q => h2 ((hc.sheet ok _).mp q), if_neg fun q => h2 ((hd.sheet ok _).mp q)]
      exact ⟨_, _, rfl, rfl⟩
  obtain ⟨c, h1, e, h2, h3⟩ := key
  exact ⟨c, h1, e, h2, h3, Inv_m I (kp_X11_unlike h2)⟩
theorem op_shop {mi : MI} {w : WS} (I : Inv mi w) (x1 : Int32) (x2 : Int32) : ∃ c, F_X10_shop mi w x1 x2 = some c ∧ ∃ e, F_X11_shop mi w x1 x2 = some e ∧ c = e.1 ∧ Inv e.2 w := by
  have key : ∃ c, F_X10_shop mi w x1 x2 = some c ∧ ∃ e, F_X11_shop mi w x1 x2 = some e ∧ c = e.1 := by
    unfold F_X10_shop F_X11_shop
    refine shop_op I x1 (-1) rfl (fun m => ⟨_, if_pos rfl⟩) fun j W H sl n cu we m hj ok hc hd K => ?_
    dsimp only [onO]
    have hn := ok.cnt
    have e10 : (10 : Int32) = nI 10 := rfl
    rw [if_neg ne10]
    by_cases h0 : x2 < 0
    · have hx : ∀ k, k < 2147483648 → ¬ x2 = nI k := fun k hk q => by rw [q] at h0; exact nI_pos hk h0
      have h10 : x2 < 10 := by
        rw [e10, Int32.lt_iff_toInt_lt, nI_toInt (by omega)]
        rw [i0, Int32.lt_iff_toInt_lt, nI_toInt (by omega)] at h0
        omega
      have h10' : ¬ (10 : Int32) ≤ x2 := fun q => ge_nl (n := 10) (by omega) q h10
      rw [if_neg (show ¬ x2 = 0 from hx 0 (by omega)), if_neg (show ¬ x2 = 1 from hx 1 (by omega)), if_neg (show ¬ x2 = 2 from hx 2 (by omega)), if_neg (show ¬ x2 = 3 from hx 3 (by omega)), if_neg h10', if_neg (fun q => q.1 h0)]
      unfold F_X6_tellSheet
      rw [if_pos h10]
      exact ⟨_, _, rfl, rfl⟩
    · obtain ⟨a, ha, rfl⟩ := nI_of h0
      have e50 : (50 : Int32) = nI 50 := rfl
      have hnn : ∀ k, k < 2147483648 → a ≠ k → ¬ nI a = nI k := fun k hk q => nne (by omega) hk q
      by_cases a4 : a < 4
      · have g10 : ¬ (10 : Int32) ≤ nI a := by rw [e10, nle (by omega) (by omega)]; omega
        have g3 : ¬ (3 : Int32) < nI a := by rw [i3, nlt (by omega) (by omega)]; omega
        rw [if_neg g10, if_pos (And.intro h0 g3), m_of w hd.2.1.1 hj (by omega), Option.bind_some]
        obtain ⟨f0, f1, f2, f3⟩ := hd.2.2.2.2.1
        obtain ⟨c0, c1, c2, c3⟩ := hc.1
        rcases (by omega : a = 0 ∨ a = 1 ∨ a = 2 ∨ a = 3) with rfl | rfl | rfl | rfl
        · rw [if_pos (show nI 0 = 0 from rfl), c0, Nat.add_zero, f0]
          exact ⟨_, _, rfl, rfl⟩
        · rw [if_neg (show ¬ nI 1 = 0 by decide), if_pos (show nI 1 = 1 from rfl), c1, f1]
          exact ⟨_, _, rfl, rfl⟩
        · rw [if_neg (show ¬ nI 2 = 0 by decide), if_neg (show ¬ nI 2 = 1 by decide), if_pos (show nI 2 = 2 from rfl), c2, f2]
          exact ⟨_, _, rfl, rfl⟩
        · rw [if_neg (show ¬ nI 3 = 0 by decide), if_neg (show ¬ nI 3 = 1 by decide), if_neg (show ¬ nI 3 = 2 by decide), if_pos (show nI 3 = 3 from rfl), c3, f3]
          exact ⟨_, _, rfl, rfl⟩
      · rw [if_neg (show ¬ nI a = 0 from hnn 0 (by omega) (by omega)), if_neg (show ¬ nI a = 1 from hnn 1 (by omega) (by omega)), if_neg (show ¬ nI a = 2 from hnn 2 (by omega) (by omega)), if_neg (show ¬ nI a = 3 from hnn 3 (by omega) (by omega))]
        unfold F_X6_tellSheet
        by_cases a10 : a < 10
        · have g10 : ¬ (10 : Int32) ≤ nI a := by rw [e10, nle (by omega) (by omega)]; omega
          have g3 : (3 : Int32) < nI a := by rw [i3, nlt (by omega) (by omega)]; omega
          rw [if_pos (show nI a < 10 by rw [e10, nlt (by omega) (by omega)]; exact a10), if_neg g10, if_neg (fun q => q.2 g3)]
          exact ⟨_, _, rfl, rfl⟩
        · have g10 : (10 : Int32) ≤ nI a := by rw [e10, nle (by omega) (by omega)]; omega
          rw [if_pos g10, if_neg (show ¬ nI a < 10 by rw [e10, nlt (by omega) (by omega)]; exact a10)]
          have r1 : irem (nI a) 10 = nI (a % 10) := nrem (d := 10) (by omega) (by omega) (by omega)
          have r2 : nI a / 10 = nI (a / 10) := ndiv (d := 10) (by omega) (by omega) (by omega)
          rw [r1, r2]
          have hdv : ∀ k, k < 100 → a / 10 ≠ k → ¬ nI (a / 10) = nI k := fun k hk q => nne (by omega) (by omega) q
          have hde : ∀ k, a / 10 = k → nI (a / 10) = nI k := fun k q => by rw [q]
          by_cases a50 : 50 ≤ a
          · rw [if_pos (show (50 : Int32) ≤ nI a by rw [e50, nle (by omega) (by omega)]; exact a50)]
            by_cases hs : ∃ s, s < n ∧ nI (a % 10) = nI s
            · rw [if_pos ((hd.sheet ok _).mpr hs), if_neg (show ¬ nI (a / 10) = 1 from hdv 1 (by omega) (by omega)), if_neg (show ¬ nI (a / 10) = 2 from hdv 2 (by omega) (by omega)), if_neg (show ¬ nI (a / 10) = 3 from hdv 3 (by omega) (by omega)), if_neg (show ¬ nI (a / 10) = 4 from hdv 4 (by omega) (by omega))]
              exact ⟨_, _, rfl, rfl⟩
            · rw [if_neg fun q => hs ((hd.sheet ok _).mp q)]
              exact ⟨_, _, rfl, rfl⟩
          · rw [if_neg (show ¬ (50 : Int32) ≤ nI a by rw [e50, nle (by omega) (by omega)]; exact a50)]
            by_cases hs : ∃ s, s < n ∧ nI (a % 10) = nI s
            · rw [if_pos ((hd.sheet ok _).mpr hs), if_pos ((hc.sheet ok _).mpr hs)]
              obtain ⟨s, hs, e⟩ := hs
              rw [e]
              rcases (by omega : a / 10 = 1 ∨ a / 10 = 2 ∨ a / 10 = 3 ∨ a / 10 = 4) with q | q | q | q
              · rw [if_pos (show nI (a / 10) = 1 from hde 1 q), if_pos (show nI (a / 10) = 1 from hde 1 q), ck6 (by omega), ck6 (by omega), ncl (by omega), hc.cut (by omega), hd.cut (by omega)]
                exact ⟨_, _, rfl, rfl⟩
              · rw [if_neg (show ¬ nI (a / 10) = 1 from hdv 1 (by omega) (by omega)), if_pos (show nI (a / 10) = 2 from hde 2 q), if_neg (show ¬ nI (a / 10) = 1 from hdv 1 (by omega) (by omega)), if_pos (show nI (a / 10) = 2 from hde 2 q), ck6 (by omega), ck6 (by omega), ncl (by omega), hc.cut (by omega), hd.cut (by omega), c_fall ok.bw hc.cw, m_fallsBy w ok.bw hd.mw]
                exact ⟨_, _, rfl, rfl⟩
              · rw [if_neg (show ¬ nI (a / 10) = 1 from hdv 1 (by omega) (by omega)), if_neg (show ¬ nI (a / 10) = 2 from hdv 2 (by omega) (by omega)), if_pos (show nI (a / 10) = 3 from hde 3 q), if_neg (show ¬ nI (a / 10) = 1 from hdv 1 (by omega) (by omega)), if_neg (show ¬ nI (a / 10) = 2 from hdv 2 (by omega) (by omega)), if_pos (show nI (a / 10) = 3 from hde 3 q), ck6 (by omega), ck6 (by omega), ncl (by omega), hc.op (by omega), hd.op (by omega)]
                exact ⟨_, _, rfl, rfl⟩
              · rw [if_neg (show ¬ nI (a / 10) = 1 from hdv 1 (by omega) (by omega)), if_neg (show ¬ nI (a / 10) = 2 from hdv 2 (by omega) (by omega)), if_neg (show ¬ nI (a / 10) = 3 from hdv 3 (by omega) (by omega)), if_neg (show ¬ nI (a / 10) = 1 from hdv 1 (by omega) (by omega)), if_neg (show ¬ nI (a / 10) = 2 from hdv 2 (by omega) (by omega)), if_neg (show ¬ nI (a / 10) = 3 from hdv 3 (by omega) (by omega)), if_pos (show nI (a / 10) = 4 from hde 4 q), ck6 (by omega), ncl (by omega), hc.wear (by omega)]
                show ∃ v m', _ = some v ∧ (F_X11_of m w (nI 34 + nI s)).bind _ = some (v, m')
                rw [nadd, m_of w hd.2.1.1 hj (by omega), hd.2.2.2.2.2 s (by omega)]
                exact ⟨_, _, rfl, rfl⟩
            · rw [if_neg fun q => hs ((hd.sheet ok _).mp q), if_neg fun q => hs ((hc.sheet ok _).mp q)]
              exact ⟨_, _, rfl, rfl⟩
  obtain ⟨c, h1, e, h2, h3⟩ := key
  exact ⟨c, h1, e, h2, h3, Inv_m I (kp_X11_shop h2)⟩
