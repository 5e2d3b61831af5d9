/-! FITS: what is counted, what is told of it -/
theorem topsN_0 {o : Nat → Nat} {row : List Nat} {n : Nat} {tp : Nat → Nat} (i : Nat) : topsN o row n 0 tp i = tp i := if_neg (by omega)
theorem c_countTops {m0 : MI} {w : WS} {i W H sl n : Nat} {cu we : Nat → Nat} {row : List Nat} {tp : Nat → Nat} (ok : shOK W H sl n cu we) (hc : ShC m0 i W H sl n cu we) (h6 : m0 2 0 6 = nI n) (hr : rowM m0 42 row) (hg : gdR n n row = true) (ht : ∀ i, i < 175 → m0 46 0 i = nI (tp i)) :
    ∃ m, F_X3_countTops m0 w i = some m ∧ (∀ i, i < 175 → m 46 0 i = nI (topsN (opS W H cu) row n (W * H) tp i)) ∧ ∀ c i j, ¬ (c = 46 ∧ i = 0) → m c i j = m0 c i j := by
  have hn := ok.cnt
  have hC := ok.cells
  have key := lp_inv (L := fun f m k => L_X3_countTops_12 w f m i (nI (W * H)) (nI k)) (N := W * H) (post := fun m => some m) (fun k m => (∀ i, i < 175 → m 46 0 i = nI (topsN (opS W H cu) row n k tp i)) ∧ ∀ c i j, ¬ (c = 46 ∧ i = 0) → m c i j = m0 c i j) (fun f m hI => ?_) (fun f k m hk hI => ?_) (F := 1000000) (by omega) m0 ⟨fun i hi => by rw [topsN_0]; exact ht i hi, fun _ _ _ _ => rfl⟩
  · obtain ⟨m, ⟨g1, g2⟩, g3⟩ := key
    refine ⟨m, ?_, g1, g2⟩
    unfold F_X3_countTops
    rw [hc.1.1, hc.1.2.1, nmul]
    exact g3
  · show L_X3_countTops_12 w (f + 1) m i (nI (W * H)) (nI (W * H)) = _
    rw [L_X3_countTops_12, if_pos (by rw [nle (by omega) (by omega)]; omega)]
  · show ∃ s', L_X3_countTops_12 w (f + 1) m i (nI (W * H)) (nI k) = L_X3_countTops_12 w f s' i (nI (W * H)) (nI (k + 1)) ∧ _
    obtain ⟨g1, g2⟩ := hI
    have hcm : ShC m i W H sl n cu we := ShC_of (fun k => g2 _ _ _ (by omega)) (fun k => g2 _ _ _ (by omega)) (fun k => g2 _ _ _ (by omega)) (fun k => g2 _ _ _ (by omega)) hc
    have ht := (tix_le (o := opS W H cu) hn hg k).1
    have i7 : (7 : Int32) = nI 7 := rfl
    rw [L_X3_countTops_12, if_neg (by rw [nle (by omega) (by omega)]; omega), c_topAt ok hcm (by rw [g2 _ _ _ (by omega)]; exact h6) (fun k hk => by rw [g2 _ _ _ (by omega)]; exact hr k hk) hg (by omega), Option.bind_some, tix_top hn hg, i7, nmul, nadd, Nat.mul_comm k 7]
    simp (disch := omega) only [ncl, ckJ, lt_e]
    rw [show nI k + 1 = nI (k + 1) by rw [i1, nadd]]
    exact ⟨_, rfl, tops_step hn hg (by omega) g1, fun c i j h => by rw [u3_n (by omega)]; exact g2 c i j h⟩
theorem m_123 {m0 : MI} {w : WS} {W H sl n : Nat} {cu we : Nat → Nat} {row : List Nat} {tp : Nat → Nat} {k44 : MI → Int32 → Int32 → Option MI} {x1 x2 : Int32} (ok : shOK W H sl n cu we) (mw : MW m0 W H) (h27 : m0 10 0 27 = nI n) (h62 : ∀ s, s < 6 → m0 62 0 s = nI (opS W H cu s)) (hr : rowM m0 67 row) (hg : gdR n n row = true) (ht : ∀ i, i < 175 → m0 71 0 i = nI (tp i)) :
    ∃ m, L_X11_findOrders_123 w k44 1000000 m0 x1 x2 0 = ((F_X11_nextOrder m w).bind fun c265 => k44 c265.2 x1 c265.1) ∧ (∀ i, i < 175 → m 71 0 i = nI (topsN (opS W H cu) row n (W * H) tp i)) ∧ ∀ c i j, ¬ (c = 71 ∧ i = 0) → m c i j = m0 c i j := by
  have hn := ok.cnt
  have hC := ok.cells
  have hlen := gdR_len hg
  have hlt : ∀ k, k < n → rF row k < n := fun k hk => gdR_lt hg _ (gd_mem row k (by omega))
  have key := lp_inv (L := fun f m k => L_X11_findOrders_123 w k44 f m x1 x2 (nI k)) (N := W * H) (post := fun m => (F_X11_nextOrder m w).bind fun c265 => k44 c265.2 x1 c265.1) (fun k m => (∀ i, i < 175 → m 71 0 i = nI (topsN (opS W H cu) row n k tp i)) ∧ ∀ c i j, ¬ (c = 71 ∧ i = 0) → m c i j = m0 c i j) (fun f m hI => ?_) (fun f k m hk hI => ?_) (F := 1000000) (by omega) m0 ⟨fun i hi => by rw [topsN_0]; exact ht i hi, fun _ _ _ _ => rfl⟩
  · obtain ⟨m, ⟨g1, g2⟩, g3⟩ := key
    exact ⟨m, g3, g1, g2⟩
  · show L_X11_findOrders_123 w k44 (f + 1) m x1 x2 (nI (W * H)) = _
    rw [L_X11_findOrders_123, if_pos (by rw [hI.2 _ _ _ (by omega), mw.2.2, nle (by omega) (by omega)]; omega)]
  · show ∃ s', L_X11_findOrders_123 w k44 (f + 1) m x1 x2 (nI k) = L_X11_findOrders_123 w k44 f s' x1 x2 (nI (k + 1)) ∧ _
    obtain ⟨g1, g2⟩ := hI
    have ht := (tix_le (o := opS W H cu) hn hg k).1
    have i7 : (7 : Int32) = nI 7 := rfl
    have htop : F_X11_topOf m w (nI k) = some (topF (opS W H cu) (rF row) k n) :=
      m_top w hn (by rw [g2 _ _ _ (by omega)]; exact h27) (fun s hs => ⟨by rw [g2 _ _ _ (by omega)]; exact h62 s hs, ok.op2 hs⟩) (fun k hk => ⟨by rw [g2 _ _ _ (by omega)]; exact hr k (by omega), by have := hlt k hk; omega⟩) (by omega)
    rw [L_X11_findOrders_123, if_neg (by rw [g2 _ _ _ (by omega), mw.2.2, nle (by omega) (by omega)]; omega), htop, Option.bind_some, tix_top hn hg, i7, nmul, nadd]
    simp (disch := omega) only [ncl, ckJ, lt_e]
    rw [show nI k + 1 = nI (k + 1) by rw [i1, nadd]]
    exact ⟨_, rfl, tops_step hn hg (by omega) g1, fun c i j h => by rw [u3_n (by omega)]; exact g2 c i j h⟩
/-- the greatest count at a cell -/
def gtN (tp : Nat → Nat) (c : Nat) : Nat := foldN (fun t a => if a < tp (7 * c + t) then tp (7 * c + t) else a) 0 7
def akN (g : Nat → Nat) (C : Nat) : Int32 × Nat := foldN (fun c s => if s.2 ≤ g c then s else (nI c, g c)) ((-1 : Int32), 721) C
theorem gt_le {tp : Nat → Nat} {N : Nat} (h : ∀ i, tp i ≤ N) (c : Nat) : gtN tp c ≤ N := by
  refine foldN_inv (P := fun a => a ≤ N) (Nat.zero_le _) fun k a _ ha => ?_
  split
  · exact h _
  · exact ha
theorem c_ask {m : MI} {w : WS} {i W H sl n : Nat} {cu we : Nat → Nat} {tp : Nat → Nat} (ok : shOK W H sl n cu we) (hc : ShC m i W H sl n cu we) (hb : ∀ i, tp i ≤ 720) (ht : ∀ i, i < 175 → m 46 0 i = nI (tp i)) : F_X3_cellToAsk m w i = some (akN (gtN tp) (W * H)).1 := by
  have hC := ok.cells
  have hg := gt_le hb
  have inner : ∀ (k20 : Nat → Int32 → Int32 → Int32 → Int32 → Option Int32) (x2 x3 x4 : Int32) c, c < W * H → L_X3_cellToAsk_33 m w k20 1000000 i x2 x3 x4 (nI c) 0 0 = if x3 ≤ nI (gtN tp c) then k20 i x2 x3 x4 (nI c + 1) else k20 i (nI c) (nI (gtN tp c)) x4 (nI c + 1) := by
    intro k20 x2 x3 x4 c hcl
    have key := lp_up (L := fun f s k => L_X3_cellToAsk_33 m w k20 f i x2 x3 x4 (nI c) (nI s) (nI k)) (N := 7) (f := fun t a => if a < tp (7 * c + t) then tp (7 * c + t) else a) (post := fun s => if x3 ≤ nI s then k20 i x2 x3 x4 (nI c + 1) else k20 i (nI c) (nI s) x4 (nI c + 1)) (fun _ s => s ≤ 720) (fun f s _ => ?_) (fun f k s hk hI => ⟨?_, ?_⟩) (F := 1000000) (by omega) 0 (by omega)
    · exact key
    · show L_X3_cellToAsk_33 m w k20 (f + 1) i x2 x3 x4 (nI c) (nI s) (nI 7) = _
      rw [L_X3_cellToAsk_33, if_pos (by decide)]
    · show L_X3_cellToAsk_33 m w k20 (f + 1) i x2 x3 x4 (nI c) (nI s) (nI k) = L_X3_cellToAsk_33 m w k20 f i x2 x3 x4 (nI c) (nI (if s < tp (7 * c + k) then tp (7 * c + k) else s)) (nI (k + 1))
      have i7 : (7 : Int32) = nI 7 := rfl
      have hbk := hb (7 * c + k)
      rw [L_X3_cellToAsk_33, if_neg (by rw [i7, nle (by omega) (by omega)]; omega), i7, nmul, nadd, Nat.mul_comm c 7]
      simp (disch := omega) only [ncl, ckJ]
      rw [ht _ (by omega), i1, nadd]
      unfold imax
      by_cases q : s < tp (7 * c + k)
      · rw [if_pos (by rw [nlt (by omega) (by omega)]; exact q), if_pos q]
      · rw [if_neg (by rw [nlt (by omega) (by omega)]; exact q), if_neg q]
    · show (if s < tp (7 * c + k) then tp (7 * c + k) else s) ≤ 720
      have hbk := hb (7 * c + k)
      split
      · exact hbk
      · exact hI
  have key := lp_up (L := fun f (s : Int32 × Nat) k => L_X3_cellToAsk_20 m w f i s.1 (nI s.2) (nI (W * H)) (nI k)) (N := W * H) (f := fun c s => if s.2 ≤ gtN tp c then s else (nI c, gtN tp c)) (post := fun s => some s.1) (fun _ s => s.2 ≤ 721) (fun f s _ => ?_) (fun f k s hk hI => ⟨?_, ?_⟩) (F := 1000000) (by omega) ((-1 : Int32), 721) (Nat.le_refl 721)
  · unfold F_X3_cellToAsk
    rw [hc.1.1, hc.1.2.1, nmul]
    exact key
  · show L_X3_cellToAsk_20 m w (f + 1) i s.1 (nI s.2) (nI (W * H)) (nI (W * H)) = _
    rw [L_X3_cellToAsk_20, if_pos (by rw [nle (by omega) (by omega)]; omega)]
  · show L_X3_cellToAsk_20 m w (f + 1) i s.1 (nI s.2) (nI (W * H)) (nI k) = L_X3_cellToAsk_20 m w f i (if s.2 ≤ gtN tp k then s else (nI k, gtN tp k)).1 (nI (if s.2 ≤ gtN tp k then s else (nI k, gtN tp k)).2) (nI (W * H)) (nI (k + 1))
    have := hg k
    rw [L_X3_cellToAsk_20, if_neg (by rw [nle (by omega) (by omega)]; omega), inner _ _ _ _ k hk, i1, nadd]
    by_cases q : s.2 ≤ gtN tp k
    · rw [if_pos (by rw [nle (by omega) (by omega)]; exact q), if_pos q]
    · rw [if_neg (by rw [nle (by omega) (by omega)]; exact q), if_neg q]
  · show (if s.2 ≤ gtN tp k then s else (nI k, gtN tp k)).2 ≤ 721
    have := hg k
    split
    · exact hI
    · show gtN tp k ≤ 721
      omega
theorem m_alike {m : MI} {w : WS} {tp : Nat → Nat} {c : Nat} (hb : ∀ i, tp i ≤ 720) (ht : ∀ i, i < 175 → m 71 0 i = nI (tp i)) (hc : c < 25) : F_X11_alike m w (nI c) = some (nI (gtN tp c)) := by
  have key := lp_up (L := fun f s k => L_X11_alike_4 m w f (nI c) (nI s) (nI k)) (N := 7) (f := fun t a => if a < tp (7 * c + t) then tp (7 * c + t) else a) (post := fun s => some (nI s)) (fun _ s => s ≤ 720) (fun f s _ => ?_) (fun f k s hk hI => ⟨?_, ?_⟩) (F := 1000000) (by omega) 0 (by omega)
  · exact key
  · show L_X11_alike_4 m w (f + 1) (nI c) (nI s) (nI 7) = _
    rw [L_X11_alike_4, if_pos (by decide)]
  · show L_X11_alike_4 m w (f + 1) (nI c) (nI s) (nI k) = L_X11_alike_4 m w f (nI c) (nI (if s < tp (7 * c + k) then tp (7 * c + k) else s)) (nI (k + 1))
    have i7 : (7 : Int32) = nI 7 := rfl
    have hbk := hb (7 * c + k)
    rw [L_X11_alike_4, if_neg (by rw [i7, nle (by omega) (by omega)]; omega), i7, nmul, nadd]
    simp (disch := omega) only [ncl, ckJ]
    rw [ht _ (by omega), i1, nadd]
    unfold f_X11_greater
    by_cases q : s < tp (7 * c + k)
    · rw [if_pos (by rw [nle (by omega) (by omega)]; omega), if_pos q]
    · rw [if_neg q]
      by_cases q2 : s = tp (7 * c + k)
      · rw [if_pos (by rw [nle (by omega) (by omega)]; omega), ← q2]
      · rw [if_neg (by rw [nle (by omega) (by omega)]; omega)]
  · show (if s < tp (7 * c + k) then tp (7 * c + k) else s) ≤ 720
    have hbk := hb (7 * c + k)
    split
    · exact hbk
    · exact hI
theorem m_ask {m : MI} {w : WS} {W H fd : Nat} {tp : Nat → Nat} (b : BW W H) (mw : MW m W H) (hfd : fd < 1000) (h45 : m 10 0 45 = nI fd) (hb : ∀ i, tp i ≤ 720) (ht : ∀ i, i < 175 → m 71 0 i = nI (tp i)) : F_X11_askWhere m w = some (if fd = 0 then (-1 : Int32) else (akN (gtN tp) (W * H)).1) := by
  have hC := cells_le b.1.2 b.2.2
  have hg := gt_le hb
  have hp : 1 ≤ W * H := Nat.le_trans b.1.1 (W_le b.2.1)
  by_cases e : fd = 0
  · rw [if_pos e]
    have L0 : ∀ F, L_X11_askWhere_4 m w (F + 1) (-1) (nI 0) = some (-1) := fun F => by
      rw [L_X11_askWhere_4, if_neg (by rw [mw.2.2, nle (by omega) (by omega)]; omega), if_pos (by rw [h45, e]; decide)]
    exact L0 999999
  · rw [if_neg e]
    have key := lp_up (L := fun f (s : Int32 × Nat) k => L_X11_askWhere_4 m w f s.1 (nI k)) (N := W * H) (f := fun c s => if s.2 ≤ gtN tp c then s else (nI c, gtN tp c)) (post := fun s => some s.1) (fun _ s => s = ((-1 : Int32), 721) ∨ ∃ t, t < 25 ∧ s = (nI t, gtN tp t)) (fun f s _ => ?_) (fun f k s hk hI => ⟨?_, ?_⟩) (F := 1000000) (by omega) ((-1 : Int32), 721) (Or.inl rfl)
    · exact key
    · show L_X11_askWhere_4 m w (f + 1) s.1 (nI (W * H)) = _
      rw [L_X11_askWhere_4, if_pos (by rw [mw.2.2, nle (by omega) (by omega)]; omega)]
    · show L_X11_askWhere_4 m w (f + 1) s.1 (nI k) = L_X11_askWhere_4 m w f (if s.2 ≤ gtN tp k then s else (nI k, gtN tp k)).1 (nI (k + 1))
      have hk' := hg k
      rw [L_X11_askWhere_4, if_neg (by rw [mw.2.2, nle (by omega) (by omega)]; omega), if_neg (by rw [h45, i0, nle (by omega) (by omega)]; omega)]
      rcases hI with rfl | ⟨t, t6, rfl⟩
      · rw [if_pos (show ((-1 : Int32), (721 : Nat)).1 = -1 from rfl), if_neg (show ¬ ((-1 : Int32), (721 : Nat)).2 ≤ gtN tp k by show ¬ 721 ≤ gtN tp k; omega), i1, nadd]
      · have ht' := hg t
        rw [if_neg (show ¬ (nI t, gtN tp t).1 = -1 from m1_ne (by omega)), m_alike hb ht (by omega), Option.bind_some]
        dsimp only
        rw [m_alike hb ht t6, Option.bind_some, i1, nadd]
        by_cases q : gtN tp t ≤ gtN tp k
        · rw [if_pos (by rw [nle (by omega) (by omega)]; exact q), if_pos q]
        · rw [if_neg (by rw [nle (by omega) (by omega)]; exact q), if_neg q]
    · show (if s.2 ≤ gtN tp k then s else (nI k, gtN tp k)) = _ ∨ _
      split
      · exact hI
      · exact Or.inr ⟨k, by omega, rfl⟩
/-- the sheet sprayed last, if it is one in all -/
def suP (n fd last : Nat) (x : Int32) : Prop := (fd = 0 ∧ x = -1 ∧ last = 0) ∨ (fd ≠ 0 ∧ ((n = 0 ∧ x = -1 ∧ last = 0) ∨ (∃ s, s < n ∧ x = nI s ∧ last = 1 <<< s) ∨ (x = -1 ∧ ∃ s t, s ≠ t ∧ s < n ∧ last.testBit s = true ∧ last.testBit t = true)))
theorem m_sure {m : MI} {w : WS} {n fd last : Nat} {x : Int32} (hn : n ≤ 6) (h27 : m 10 0 27 = nI n) (h47 : m 10 0 47 = nI last) (hl : last < 64) (h : suP n fd last x) : F_X11_sure m w = some x := by
  have bits : ∀ k, k < 6 → (m 10 0 47 = ((1 : Int32) <<< (nI k &&& 31))) = (last = 1 <<< k) := fun k hk => by
    have hb := bit_lt hk
    rw [h47, n31 (by omega), i1, nshl _ (by omega), neq (by omega) (by omega)]
  have key := lp_inv (L := fun f (s : Int32) k => L_X11_sure_4 m w f s (nI k)) (N := n) (post := fun s => some s) (fun k s => ((∃ t, t < k ∧ last = 1 <<< t ∧ s = nI t) ∨ ((∀ t, t < k → last ≠ 1 <<< t) ∧ s = -1))) (fun f s _ => ?_) (fun f k s hk hI => ?_) (F := 1000000) (by omega) (-1) (Or.inr ⟨fun t ht => absurd ht (Nat.not_lt_zero t), rfl⟩)
  · obtain ⟨s, g1, g2⟩ := key
    have e : F_X11_sure m w = some s := g2
    rw [e]
    refine congrArg some ?_
    have inj : ∀ a b : Nat, 1 <<< a = 1 <<< b → a = b := fun a b q => by
      have := one_tb (c := a) (i := b)
      rw [q] at this
      exact this.mp (one_tb.mpr rfl)
    have no0 : ∀ t : Nat, (0 : Nat) ≠ 1 <<< t := fun t q => by
      have := one_tb (c := t) (i := t)
      rw [← q, Nat.zero_testBit] at this
      exact absurd (this.mpr rfl) (by decide)
    rcases h with ⟨-, h2, h3⟩ | ⟨-, ⟨-, h2, h3⟩ | ⟨s', h1, h2, h3⟩ | ⟨h2, s', t', h3, hs', h4, h5⟩⟩
    · rcases g1 with ⟨t, _, q, _⟩ | ⟨_, q⟩
      · rw [h3] at q; exact absurd q (no0 t)
      · rw [q, h2]
    · rcases g1 with ⟨t, _, q, _⟩ | ⟨_, q⟩
      · rw [h3] at q; exact absurd q (no0 t)
      · rw [q, h2]
    · rcases g1 with ⟨t, _, q, q2⟩ | ⟨q, _⟩
      · rw [q2, h2, inj s' t (by rw [← h3, q])]
      · exact absurd h3 (q s' h1)
    · rcases g1 with ⟨t, _, q, q2⟩ | ⟨_, q⟩
      · rw [q, one_tb] at h4 h5
        exact absurd (h4.symm.trans h5) h3
      · rw [q, h2]
  · show L_X11_sure_4 m w (f + 1) s (nI n) = _
    rw [L_X11_sure_4, if_pos (by rw [h27, nle (by omega) (by omega)]; omega)]
  · show ∃ s', L_X11_sure_4 m w (f + 1) s (nI k) = L_X11_sure_4 m w f s' (nI (k + 1)) ∧ _
    rw [L_X11_sure_4, if_neg (by rw [h27, nle (by omega) (by omega)]; omega)]
    by_cases q : last = 1 <<< k
    · refine ⟨nI k, ?_, Or.inl ⟨k, by omega, q, rfl⟩⟩
      rw [if_pos (by rw [bits k (by omega)]; exact q), i1, nadd]
    · refine ⟨s, ?_, ?_⟩
      · rw [if_neg (by rw [bits k (by omega)]; exact q), i1, nadd]
      · rcases hI with ⟨t, h1, h2⟩ | ⟨h1, h2⟩
        · exact Or.inl ⟨t, by omega, h2⟩
        · refine Or.inr ⟨fun t ht => ?_, h2⟩
          by_cases e : t = k
          · rw [e]; exact q
          · exact h1 t (by omega)
theorem su_step {n fd last t : Nat} {x : Int32} (ht : t < n) (hn : n ≤ 6) (h : suP n fd last x) : suP n (fd + 1) (last ||| 1 <<< t) (if fd = 0 then nI t else if x = nI t then nI t else -1) := by
  refine Or.inr ⟨by omega, ?_⟩
  rcases h with ⟨h1, h2, h3⟩ | ⟨h0, ⟨h1, -⟩ | ⟨s', h1, h2, h3⟩ | ⟨h2, s', t', h3, hs', h4, h5⟩⟩
  · rw [if_pos h1, h3]
    exact Or.inr (Or.inl ⟨t, ht, rfl, Nat.zero_or _⟩)
  · omega
  · rw [if_neg h0, h2, h3]
    by_cases e : s' = t
    · rw [if_pos (by rw [e]), e]
      exact Or.inr (Or.inl ⟨t, ht, rfl, Nat.or_self _⟩)
    · rw [if_neg (nne (by omega) (by omega) e)]
      refine Or.inr (Or.inr ⟨rfl, s', t, e, h1, ?_, ?_⟩)
      · rw [Nat.testBit_or, one_tb.mpr rfl]; rfl
      · rw [Nat.testBit_or, one_tb.mpr rfl, Bool.or_true]
  · rw [if_neg h0, h2, if_neg (fun q => m1_ne (k := t) (by omega) q.symm)]
    refine Or.inr (Or.inr ⟨rfl, s', t', h3, hs', ?_, ?_⟩)
    · rw [Nat.testBit_or, h4]; rfl
    · rw [Nat.testBit_or, h5]; rfl
