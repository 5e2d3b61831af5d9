theorem sub_lt {L X N : Nat} (hX : X < 2 ^ N) (h : ∀ i, L.testBit i = true → X.testBit i = true) : L < 2 ^ N := by
  have : L &&& X = L := sub_of h
  rw [← this]; exact and_lt_r hX
theorem tail_N {f : Nat → Nat → Nat} {N : Nat} (h : ∀ k, N ≤ k → ∀ a, f k a = a) (a : Nat) : ∀ r, foldN f a (N + r) = foldN f a N := by
  intro r
  induction r with
  | zero => rfl
  | succ r ih =>
    show f (N + r) (foldN f a (N + r)) = _
    rw [h (N + r) (by omega), ih]
theorem mo_le (W H X : Nat) : ∀ n, foldN (moL W H X) 0 n ≤ 25 := by
  intro n
  induction n with
  | zero => exact Nat.zero_le _
  | succ n ih =>
    show moL W H X n (foldN (moL W H X) 0 n) ≤ 25
    have := popN_le (cpN W H X n)
    rw [mo_e]
    split
    · split <;> omega
    · omega
theorem c_holeCount {mi : MI} (w : WS) {i W H X : Nat} (b : BW W H) (c : CW mi i W H) (hX : X < 2 ^ (W * H)) : F_X1_holeCount mi w i (nI X) = some (nI (sN (hcF W H X) (W * H))) := by
  have hC := cells_le b.1.2 b.2.2
  have hW : W < 6 := by have := b.1.2; omega
  have hH : H < 6 := by have := b.2.2; omega
  have hX2 : X < 2 ^ 25 := pw hX hC
  have loop : ∀ r f k L, k + r = 25 → r < f → LI W H X k L → L_X1_holeCount_7 mi w f i (nI X) (nI (sN (hcF W H X) k)) (nI L) (nI k) = some (nI (sN (hcF W H X) 25)) := by
    intro r
    induction r with
    | zero =>
      intro f k L hk hf h
      obtain ⟨f, rfl⟩ : ∃ m, f = m + 1 := ⟨f - 1, by omega⟩
      have : k = 25 := by omega
      subst this
      rw [L_X1_holeCount_7, if_pos (by decide)]
    | succ r ih =>
      intro f k L hk hf h
      obtain ⟨f, rfl⟩ : ∃ m, f = m + 1 := ⟨f - 1, by omega⟩
      have hL := sub_lt hX h.1
      have hL2 := pw hL hC
      have e0 : (((nI L >>> (nI k &&& 31)) &&& 1) = 0) = (L.testBit k = false) := by
        rw [n31 (by omega), nshr (by omega) (by omega), show (1 : Int32) = nI 1 from rfl, nand, show (0 : Int32) = nI 0 from rfl, bit0]
      have hfs := LI_fs h
      rw [L_X1_holeCount_7, if_neg (show ¬ (25 : Int32) ≤ nI k by rw [show (25 : Int32) = nI 25 from rfl, nle (by omega) (by omega)]; omega), show nI k + 1 = nI (k + 1) from nI_add k 1]
      cases hb : L.testBit k
      · have nx := ih f (k + 1) L (by omega) (by omega) (LI_no hW hH hX hC h hb)
        rw [sN_s, show hcF W H X k = 0 from if_neg (fun q => by rw [hfs.mpr q] at hb; cases hb)] at nx
        rw [if_pos (by rw [e0]; exact hb)]
        exact nx
      · have nx := ih f (k + 1) _ (by omega) (by omega) (LI_yes hW hH hX hC h hb)
        rw [sN_s, show hcF W H X k = 1 from if_pos (hfs.mp hb)] at nx
        rw [if_neg (by rw [e0, hb]; decide), shc (by omega), c_gr b c hL 25 (1 <<< k) (bit_lt (lt_tb hL hb)), nandn, show nI (sN (hcF W H X) k) + 1 = nI (sN (hcF W H X) k + 1) from nI_add _ 1]
        rw [show grN W H L 25 (1 <<< k) = cpN W H X k from cp_left hX2 h.1 hL2 h.2.1 hb]
        exact nx
  have ht : sN (hcF W H X) 25 = sN (hcF W H X) (W * H) := by
    have := tail_N (f := fun k a => a + hcF W H X k) (N := W * H) (fun k hk a => by
      have : X.testBit k = false := Nat.testBit_lt_two_pow (Nat.lt_of_lt_of_le hX (Nat.pow_le_pow_right (by omega) hk))
      rw [show hcF W H X k = 0 from if_neg (fun q => by rw [this] at q; cases q.1)]; rfl) 0 (25 - W * H)
    rw [show W * H + (25 - W * H) = 25 by omega] at this
    exact this
  rw [F_X1_holeCount, ← ht]
  exact loop 25 1000000 0 X (by omega) (by omega) LI_0
theorem c_largestHole {mi : MI} (w : WS) {i W H X : Nat} (b : BW W H) (c : CW mi i W H) (hX : X < 2 ^ (W * H)) : F_X1_largestHole mi w i (nI X) = some (nI (foldN (moL W H X) 0 (W * H))) := by
  have hC := cells_le b.1.2 b.2.2
  have hW : W < 6 := by have := b.1.2; omega
  have hH : H < 6 := by have := b.2.2; omega
  have hX2 : X < 2 ^ 25 := pw hX hC
  have loop : ∀ r f k L, k + r = 25 → r < f → LI W H X k L → L_X1_largestHole_7 mi w f i (nI X) (nI (foldN (lgF W H X) 0 k)) (nI L) (nI k) = some (nI (foldN (lgF W H X) 0 25)) := by
    intro r
    induction r with
    | zero =>
      intro f k L hk hf h
      obtain ⟨f, rfl⟩ : ∃ m, f = m + 1 := ⟨f - 1, by omega⟩
      have : k = 25 := by omega
      subst this
      rw [L_X1_largestHole_7, if_pos (by decide)]
    | succ r ih =>
      intro f k L hk hf h
      obtain ⟨f, rfl⟩ : ∃ m, f = m + 1 := ⟨f - 1, by omega⟩
      have hL := sub_lt hX h.1
      have hL2 := pw hL hC
      have e0 : (((nI L >>> (nI k &&& 31)) &&& 1) = 0) = (L.testBit k = false) := by
        rw [n31 (by omega), nshr (by omega) (by omega), show (1 : Int32) = nI 1 from rfl, nand, show (0 : Int32) = nI 0 from rfl, bit0]
      have hfs := LI_fs h
      rw [L_X1_largestHole_7, if_neg (show ¬ (25 : Int32) ≤ nI k by rw [show (25 : Int32) = nI 25 from rfl, nle (by omega) (by omega)]; omega), show nI k + 1 = nI (k + 1) from nI_add k 1]
      have hs : foldN (lgF W H X) 0 (k + 1) = lgF W H X k (foldN (lgF W H X) 0 k) := rfl
      cases hb : L.testBit k
      · have nx := ih f (k + 1) L (by omega) (by omega) (LI_no hW hH hX hC h hb)
        rw [hs, lg_e, if_neg (fun q => by rw [hfs.mpr q] at hb; cases hb)] at nx
        rw [if_pos (by rw [e0]; exact hb)]
        exact nx
      · have nx := ih f (k + 1) _ (by omega) (by omega) (LI_yes hW hH hX hC h hb)
        have hcp : grN W H L 25 (1 <<< k) = cpN W H X k := cp_left hX2 h.1 hL2 h.2.1 hb
        have hcl : cpN W H X k < 33554432 := sub_lt (N := 25) hX2 (cp_sub hX2 (h.1 k hb))
        have hm := mo_le W H X k
        rw [← (lg_mo hW hH hX hC k).1] at hm
        have hp := popN_le (cpN W H X k)
        have him : imax (nI (foldN (lgF W H X) 0 k)) (nI (popN (cpN W H X k))) = nI (foldN (lgF W H X) 0 (k + 1)) := by
          rw [hs, lg_e, if_pos (hfs.mp hb)]
          show (if nI (foldN (lgF W H X) 0 k) < nI (popN (cpN W H X k)) then nI (popN (cpN W H X k)) else nI (foldN (lgF W H X) 0 k)) = _
          by_cases q : foldN (lgF W H X) 0 k < popN (cpN W H X k)
          · rw [if_pos q, if_pos (show nI _ < nI _ by rw [nlt (by omega) (by omega)]; exact q)]
          · rw [if_neg q, if_neg (show ¬ nI _ < nI _ by rw [nlt (by omega) (by omega)]; exact q)]
        rw [if_neg (by rw [e0, hb]; decide), shc (by omega), c_gr b c hL 25 (1 <<< k) (bit_lt (lt_tb hL hb)), nandn, hcp, c_pop hcl, him]
        exact nx
  have ht : foldN (lgF W H X) 0 25 = foldN (moL W H X) 0 (W * H) := by
    have := tail_N (f := lgF W H X) (N := W * H) (fun k hk a => by
      have : X.testBit k = false := Nat.testBit_lt_two_pow (Nat.lt_of_lt_of_le hX (Nat.pow_le_pow_right (by omega) hk))
      rw [lg_e, if_neg (fun q => by rw [this] at q; cases q.1)]) 0 (25 - W * H)
    rw [show W * H + (25 - W * H) = 25 by omega] at this
    rw [this]
    exact (lg_mo hW hH hX hC (W * H)).1
  rw [F_X1_largestHole, ← ht]
  exact loop 25 1000000 0 X (by omega) (by omega) LI_0
theorem m_holesOf {m : MI} (w : WS) {W H X : Nat} (b : BW W H) (mw : MW m W H) (hX : X < 2 ^ (W * H)) (x2 : Int32) : F_X11_holesOf m w (nI X) x2 = some (if x2 = 0 then nI (sN (hcF W H X) (W * H)) else nI (foldN (moL W H X) 0 (W * H))) := by
  have hC := cells_le b.1.2 b.2.2
  have hX2 : X < 2 ^ 25 := pw hX hC
  have loop : ∀ r f k, k + r = W * H → r < f → L_X11_holesOf_8 m w f (nI X) x2 (nI (sN (hcF W H X) k)) (nI (foldN (moL W H X) 0 k)) (nI k) = some (if x2 = 0 then nI (sN (hcF W H X) (W * H)) else nI (foldN (moL W H X) 0 (W * H))) := by
    intro r
    induction r with
    | zero =>
      intro f k hk hf
      obtain ⟨f, rfl⟩ : ∃ m, f = m + 1 := ⟨f - 1, by omega⟩
      have : k = W * H := by omega
      subst this
      rw [L_X11_holesOf_8, mw.2.2, if_pos (show nI (W * H) ≤ nI (W * H) by rw [nle (by omega) (by omega)]; omega)]
    | succ r ih =>
      intro f k hk hf
      obtain ⟨f, rfl⟩ : ∃ m, f = m + 1 := ⟨f - 1, by omega⟩
      have nx := ih f (k + 1) (by omega) (by omega)
      have e1 : (((nI X >>> (nI k &&& 31)) &&& 1) = 1) = (X.testBit k = true) := by
        rw [n31 (by omega), nshr (by omega) (by omega), show (1 : Int32) = nI 1 from rfl, nand, bit1]
      have hs : foldN (moL W H X) 0 (k + 1) = moL W H X k (foldN (moL W H X) 0 k) := rfl
      have hm := mo_le W H X k
      have hp := popN_le (cpN W H X k)
      rw [L_X11_holesOf_8, if_neg (show ¬ m 10 0 26 ≤ nI k by rw [mw.2.2, nle (by omega) (by omega)]; omega), show nI k + 1 = nI (k + 1) from nI_add k 1]
      by_cases hb : X.testBit k = true
      · have hcl : cpN W H X k < 33554432 := sub_lt (N := 25) hX2 (cp_sub hX2 hb)
        have hg : f_X11_greater m (nI (foldN (moL W H X) 0 k)) (nI (popN (cpN W H X k))) = nI (foldN (moL W H X) 0 (k + 1)) := by
          rw [hs, mo_e, if_pos hb]
          show (if nI (foldN (moL W H X) 0 k) ≤ nI (popN (cpN W H X k)) then nI (popN (cpN W H X k)) else nI (foldN (moL W H X) 0 k)) = _
          by_cases q : foldN (moL W H X) 0 k ≤ popN (cpN W H X k)
          · rw [if_pos q, if_pos (show nI _ ≤ nI _ by rw [nle (by omega) (by omega)]; exact q)]
          · rw [if_neg q, if_neg (show ¬ nI _ ≤ nI _ by rw [nle (by omega) (by omega)]; exact q)]
        have hk2 : nI (1 <<< k) - 1 = nI (2 ^ k - 1) := by
          have := Nat.two_pow_pos k
          rw [Nat.one_shiftLeft, show (1 : Int32) = nI 1 from rfl, nsub (by omega)]
        have hcl2 : cpN W H X k &&& (2 ^ k - 1) < 33554432 := Nat.lt_of_le_of_lt Nat.and_le_left hcl
        rw [if_pos (by rw [e1]; exact hb), m_joined w b mw hX (by omega) hb, Option.bind_some, if_pos (by rw [e1]; exact hb), shc (by omega), hk2, nand, m_ones m w hcl, Option.bind_some, Option.bind_some, hg]
        by_cases hz : cpN W H X k &&& (2 ^ k - 1) = 0
        · rw [if_pos (show nI (cpN W H X k &&& (2 ^ k - 1)) = 0 by rw [hz]; rfl), show nI (sN (hcF W H X) k) + 1 = nI (sN (hcF W H X) k + 1) from nI_add _ 1]
          rw [sN_s, show hcF W H X k = 1 from if_pos ⟨hb, hz⟩] at nx
          exact nx
        · rw [if_neg (nne0 (by omega) hz), show nI (sN (hcF W H X) k) + 0 = nI (sN (hcF W H X) k + 0) from nI_add _ 0]
          rw [sN_s, show hcF W H X k = 0 from if_neg (fun q => hz q.2)] at nx
          exact nx
      · have ho : F_X11_ones m w 0 = some (nI 0) := by
          have := m_ones m w (x := 0) (by omega)
          rw [pop_z] at this
          exact this
        have hg : f_X11_greater m (nI (foldN (moL W H X) 0 k)) (nI 0) = nI (foldN (moL W H X) 0 (k + 1)) := by
          rw [hs, mo_e, if_neg hb]
          show (if nI (foldN (moL W H X) 0 k) ≤ nI 0 then nI 0 else nI (foldN (moL W H X) 0 k)) = _
          by_cases q : foldN (moL W H X) 0 k ≤ 0
          · rw [if_pos (show nI _ ≤ nI 0 by rw [nle (by omega) (by omega)]; exact q), show foldN (moL W H X) 0 k = 0 by omega]
          · rw [if_neg (show ¬ nI _ ≤ nI 0 by rw [nle (by omega) (by omega)]; exact q)]
        rw [if_neg (by rw [e1]; exact hb), if_neg (by rw [e1]; exact hb), ho, Option.bind_some, hg, show nI (sN (hcF W H X) k) + 0 = nI (sN (hcF W H X) k + 0) from nI_add _ 0]
        rw [sN_s, show hcF W H X k = 0 from if_neg (fun q => hb q.1)] at nx
        exact nx
  rw [F_X11_holesOf]
  exact loop (W * H) 1000000 0 (by omega) (by omega)
theorem op_holes {mi : MI} {w : WS} (I : Inv mi w) (x1 : Int32) (x2 : Int32) (x3 : Int32) : ∃ c, F_X10_holes mi w x1 x2 x3 = some c ∧ ∃ e, F_X11_holes mi w x1 x2 x3 = some e ∧ c = e.1 ∧ Inv e.2 w := by
  have key : ∃ c, F_X10_holes mi w x1 x2 x3 = some c ∧ ∃ e, F_X11_holes mi w x1 x2 x3 = some e ∧ c = e.1 := by
    unfold F_X10_holes F_X11_holes
    refine shop_op I x1 (-1) rfl (fun m => ⟨_, if_pos rfl⟩) fun j W H sl n cu we m hj ok hc hd K => ?_
    dsimp only [onO]
    have hn := ok.cnt
    have hC := ok.cells
    rw [if_neg ne10]
    by_cases h2 : ∃ s, s < n ∧ x2 = nI s
    · rw [if_pos ((hc.sheet ok _).mpr h2), if_pos ((hd.sheet ok _).mpr h2)]
      obtain ⟨s, hs, rfl⟩ := h2
      have hX := ok.op (s := s) (by omega)
      have hX2 := ok.op2 (s := s) (by omega)
      have b := ok.bw
      have cw := hc.cw
      have mw := hd.mw
      rw [ck6 (by omega), ncl (by omega), hc.op (by omega), hd.op (by omega)]
      by_cases e0 : x3 = 0
      · subst e0
        rw [if_pos rfl, if_pos rfl, ckJ (by omega) (by omega), c_holeCount w b cw hX, Option.bind_some, m_holesOf w b mw hX, Option.bind_some, b2_neg (by decide), if_pos rfl]
        exact ⟨_, m, rfl, rfl⟩
      rw [if_neg e0, if_neg e0]
      by_cases e1 : x3 = 1
      · subst e1
        rw [if_pos rfl, if_pos rfl, ckJ (by omega) (by omega), c_largestHole w b cw hX, Option.bind_some, m_holesOf w b mw hX, Option.bind_some, b2_pos rfl, if_neg (by decide)]
        exact ⟨_, m, rfl, rfl⟩
      rw [if_neg e1, if_neg e1]
      by_cases e2 : x3 = 2
      · subst e2
        rw [if_pos rfl, if_pos rfl, ckJ (by omega) (by omega), c_edge w b cw hX2, Option.bind_some, m_edge w b mw hX2, Option.bind_some]
        exact ⟨_, m, rfl, rfl⟩
      rw [if_neg e2, if_neg e2]
      by_cases e3 : x3 = 3
      · subst e3
        rw [if_pos rfl, if_pos rfl, ckJ (by omega) (by omega), c_strokeCount w b cw hX2, Option.bind_some, m_strokes w b mw hX2, Option.bind_some, b2_neg (by decide), if_pos rfl]
        exact ⟨_, m, rfl, rfl⟩
      rw [if_neg e3, if_neg e3]
      by_cases e4 : x3 = 4
      · subst e4
        rw [if_pos rfl, if_pos rfl, ckJ (by omega) (by omega), c_longestStroke w b cw hX2, Option.bind_some, m_strokes w b mw hX2, Option.bind_some, b2_pos rfl, if_neg (by decide)]
        exact ⟨_, m, rfl, rfl⟩
      rw [if_neg e4, if_neg e4]
      exact ⟨_, m, rfl, rfl⟩
    · rw [if_neg fun q => h2 ((hc.sheet ok _).mp q), if_neg fun q => h2 ((hd.sheet ok _).mp q)]
      exact ⟨_, _, rfl, rfl⟩
  obtain ⟨c, h1, e, h2, h3⟩ := key
  exact ⟨c, h1, e, h2, h3, Inv_m I (kp_X11_holes h2)⟩
