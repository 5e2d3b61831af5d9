/-! WHAT LIES ON TOP: seen, hidden -/
theorem m_first (m0 : MI) (w : WS) : ∃ m, F_X11_firstOrder m0 w = some m ∧ (∀ c, c < 6 → m 67 0 c = nI c) ∧ ∀ c i j, c ≠ 67 → m c i j = m0 c i j := by
  have key := lp_inv (L := fun n s k => L_X11_firstOrder_2 w n s (nI k)) (N := 6) (post := fun a => some a) (fun k m => (∀ c, c < k → m 67 0 c = nI c) ∧ ∀ c i j, c ≠ 67 → m c i j = m0 c i j) (fun n s _ => ?_) (fun n k s hk hI => ?_) (F := 1000000) (by omega) m0 ⟨fun c hc => absurd hc (by omega), fun _ _ _ _ => rfl⟩
  · obtain ⟨m, h1, h2⟩ := key
    exact ⟨m, h2, h1⟩
  · exact if_pos (by decide)
  · refine ⟨u3 s 67 0 k (nI k), ?_, fun c hc => ?_, fun c i j hc => ?_⟩
    · show L_X11_firstOrder_2 w (n + 1) s (nI k) = _
      rw [L_X11_firstOrder_2, if_neg (by rw [i6, nle (by omega) (by omega)]; omega), ck6 hk, lt_e, ncl (by omega), i1, nadd]
    · by_cases e : c = k
      · rw [e, u3_s]
      · rw [u3_n (by omega)]; exact hI.1 c (by omega)
    · rw [u3_n (by omega)]; exact hI.2 c i j hc
/-- on top of a cell by the first k of a row -/
def topF (o r : Nat → Nat) (c : Nat) : Nat → Int32
  | 0 => -1
  | k + 1 => if (o (r k)).testBit c then nI (r k) else topF o r c k
theorem nI_dn (k : Nat) : nI k + (-1) = nI k - 1 := (Int32.sub_eq_add_neg (nI k) 1).symm
theorem m_top {m : MI} (w : WS) {W H n c : Nat} {cu r : Nat → Nat} (hn : n ≤ 6) (h27 : m 10 0 27 = nI n) (h62 : ∀ s, s < 6 → m 62 0 s = nI (opS W H cu s) ∧ opS W H cu s < 33554432) (h67 : ∀ k, k < n → m 67 0 k = nI (r k) ∧ r k < 6) (hc : c < 32) : F_X11_topOf m w (nI c) = some (topF (opS W H cu) r c n) := by
  have key : ∀ k F, k ≤ n → k < F → L_X11_topOf_7 m w F (nI c) (nI k - 1) = some (topF (opS W H cu) r c k) := by
    intro k
    induction k with
    | zero =>
      intro F _ hF
      obtain ⟨F, rfl⟩ : ∃ G, F = G + 1 := ⟨F - 1, by omega⟩
      rw [L_X11_topOf_7, if_pos (by decide)]
      rfl
    | succ k ih =>
      intro F hk hF
      obtain ⟨F, rfl⟩ : ∃ G, F = G + 1 := ⟨F - 1, by omega⟩
      obtain ⟨g1, g2⟩ := h67 k (by omega)
      obtain ⟨g3, g4⟩ := h62 (r k) g2
      rw [nI_pred, L_X11_topOf_7, if_neg (nI_pos (by omega)), ck6 (by omega), ncl (by omega), g1, ck6 g2, ncl (by omega), g3, n31 hc, nshr (by omega) hc, ckJ (by omega) (by omega), nI_dn, ih F (by omega) (by omega), topF, i1, nand]
      cases hb : (opS W H cu (r k)).testBit c
      · rw [if_neg (by rw [bit1, hb]; simp), if_neg Bool.false_ne_true]
      · rw [if_pos (by rw [bit1, hb]), if_pos rfl]
  unfold F_X11_topOf
  rw [h27]
  exact key n 1000000 (Nat.le_refl _) (by omega)
/-- the one on top, of sheets by numbers -/
theorem top_id {o : Nat → Nat} {c s : Nat} (hs : s < 2147483648) : ∀ n, n < 2147483648 → (topF o id c n = nI s ↔ s < n ∧ (o s).testBit c = true ∧ ∀ t, s < t → t < n → (o t).testBit c = false) := by
  intro n
  induction n with
  | zero =>
    intro _
    constructor
    · intro h; exact absurd h.symm (not_m1 hs)
    · rintro ⟨h, -⟩; omega
  | succ n ih =>
    intro hn
    show (if (o n).testBit c then nI n else topF o id c n) = nI s ↔ _
    cases hb : (o n).testBit c
    · rw [if_neg Bool.false_ne_true, ih (by omega)]
      constructor
      · rintro ⟨h1, h2, h3⟩
        refine ⟨by omega, h2, fun t h4 h5 => ?_⟩
        by_cases e : t = n
        · rw [e]; exact hb
        · exact h3 t h4 (by omega)
      · rintro ⟨h1, h2, h3⟩
        by_cases e : s = n
        · rw [e, hb] at h2; cases h2
        · exact ⟨by omega, h2, fun t h4 h5 => h3 t h4 (by omega)⟩
    · rw [if_pos rfl, nI_eq (by omega) hs]
      constructor
      · rintro rfl
        exact ⟨by omega, hb, fun t h4 h5 => by omega⟩
      · rintro ⟨h1, h2, h3⟩
        refine Decidable.byContradiction fun e => ?_
        have := h3 n (by omega) (by omega)
        rw [hb] at this
        cases this
/-- cells at which a sheet lies on top, sheets by numbers -/
def onN (o : Nat → Nat) (n s : Nat) : Nat := andn (o s) (unN o n (andn (2 ^ n - 1) (2 ^ (s + 1) - 1)))
theorem on_tb {o : Nat → Nat} {n s c : Nat} (hs : s < n) : (onN o n s).testBit c = true ↔ (o s).testBit c = true ∧ ∀ t, s < t → t < n → (o t).testBit c = false := by
  unfold onN
  rw [tb_andn, Bool.and_eq_true, Bool.not_eq_true']
  have hu : ∀ set, (unN o n set).testBit c = true ↔ ∃ t, t < n ∧ set.testBit t = true ∧ (o t).testBit c = true := fun set => by
    unfold unN
    rw [orN_tb]
    constructor
    · rintro ⟨k, h1, h2⟩
      split at h2
      · exact ⟨k, h1, by assumption, h2⟩
      · simp at h2
    · rintro ⟨k, h1, h2, h3⟩
      exact ⟨k, h1, by rw [if_pos h2]; exact h3⟩
  have hs2 : ∀ t, (andn (2 ^ n - 1) (2 ^ (s + 1) - 1)).testBit t = true ↔ s < t ∧ t < n := fun t => by
    rw [tb_andn, Nat.testBit_two_pow_sub_one, Nat.testBit_two_pow_sub_one]
    simp
    omega
  constructor
  · rintro ⟨h1, h2⟩
    refine ⟨h1, fun t h3 h4 => ?_⟩
    cases hb : (o t).testBit c
    · rfl
    · have : (unN o n (andn (2 ^ n - 1) (2 ^ (s + 1) - 1))).testBit c = true := (hu _).mpr ⟨t, h4, (hs2 t).mpr ⟨h3, h4⟩, hb⟩
      rw [h2] at this
      cases this
  · rintro ⟨h1, h2⟩
    refine ⟨h1, ?_⟩
    cases hb : (unN o n (andn (2 ^ n - 1) (2 ^ (s + 1) - 1))).testBit c
    · rfl
    · obtain ⟨t, h3, h4, h5⟩ := (hu _).mp hb
      obtain ⟨h6, h7⟩ := (hs2 t).mp h4
      rw [h2 t h6 h7] at h5
      cases h5
theorem sN_0 {f : Nat → Nat} {n : Nat} (h : ∀ k, k < n → f k = 0) : sN f n = 0 := by
  induction n with
  | zero => rfl
  | succ n ih =>
    show sN f n + f n = 0
    rw [ih fun k hk => h k (by omega), h n (by omega)]
/-- a set within the first C cells: as many as are among these -/
theorem popC {x C : Nat} (hx : x < 2 ^ C) (hC : C ≤ 25) : popN x = sN (bN x) C := by
  unfold popN
  rw [show 25 = C + (25 - C) by omega, sN_app, sN_0 (n := 25 - C) fun k _ => ?_, Nat.add_zero]
  unfold bN
  rw [Nat.testBit_lt_two_pow (Nat.lt_of_lt_of_le hx (Nat.pow_le_pow_right (by omega) (by omega)))]
  rfl
theorem pop_0 {x : Nat} (hx : x < 2 ^ 25) : popN x = 0 ↔ x = 0 := by
  constructor
  · intro h
    refine Decidable.byContradiction fun hn => ?_
    have := popN_lt (x := 0) (y := x) (Nat.zero_and x) (fun e => hn e.symm) hx
    omega
  · rintro rfl; rfl
theorem c_onTop {mi : MI} (w : WS) {i W H sl n s : Nat} {cu we : Nat → Nat} (ok : shOK W H sl n cu we) (hc : ShC mi i W H sl n cu we) (hs : s < n) : F_X1_onTop mi w i (nI s) = some (nI (onN (opS W H cu) n s)) := by
  have hn := ok.cnt
  unfold F_X1_onTop
  have h2 : (2 : Int32) <<< (nI s &&& 31) - 1 = nI (2 ^ (s + 1) - 1) := by
    have := Nat.two_pow_pos s
    rw [n31 (by omega), i2, nshl _ (by omega), Nat.shiftLeft_eq, i1, nsub (by omega), Nat.pow_succ, Nat.mul_comm]
  have hp : 2 ^ n ≤ 64 := Nat.pow_le_pow_right (n := 2) (by omega) hn
  have := andn_le (2 ^ n - 1) (2 ^ (s + 1) - 1)
  rw [ck6 (by omega), h2, c_every hc.cnt hn, nandn, c_union w ok hc (by omega), Option.bind_some, ncl (by omega), hc.op (by omega), nandn]
  rfl
theorem on_lt {W H sl n s : Nat} {cu we : Nat → Nat} (ok : shOK W H sl n cu we) (hs : s < n) : onN (opS W H cu) n s < 2 ^ (W * H) := by
  have hn := ok.cnt
  exact andn_lt _ (ok.op (by omega))
theorem m_seenOf {m : MI} (w : WS) {W H sl n s : Nat} {cu we : Nat → Nat} (ok : shOK W H sl n cu we) (mw : MW m W H) (h27 : m 10 0 27 = nI n) (h62 : ∀ s, s < 6 → m 62 0 s = nI (opS W H cu s)) (h67 : ∀ k, k < 6 → m 67 0 k = nI k) (hs : s < n) : F_X11_seenOf m w (nI s) = some (nI (popN (onN (opS W H cu) n s))) := by
  have hn := ok.cnt
  have hC := ok.cells
  rw [popC (on_lt ok hs) hC]
  unfold F_X11_seenOf
  refine lp_up (L := fun f a k => L_X11_seenOf_4 m w f (nI s) (nI a) (nI k)) (N := W * H) (f := fun k a => a + bN (onN (opS W H cu) n s) k) (post := fun a => some (nI a)) (fun _ _ => True) (fun f a _ => ?_) (fun f k a hk _ => ⟨?_, trivial⟩) (F := 1000000) (by omega) 0 trivial
  · show L_X11_seenOf_4 m w (f + 1) (nI s) (nI a) (nI (W * H)) = _
    rw [L_X11_seenOf_4, if_pos (by rw [mw.2.2, nle (by omega) (by omega)]; omega)]
  · show L_X11_seenOf_4 m w (f + 1) (nI s) (nI a) (nI k) = L_X11_seenOf_4 m w f (nI s) (nI (a + bN (onN (opS W H cu) n s) k)) (nI (k + 1))
    rw [L_X11_seenOf_4, if_neg (by rw [mw.2.2, nle (by omega) (by omega)]; omega), m_top w hn h27 (fun s hs => ⟨h62 s hs, ok.op2 hs⟩) (fun k hk => ⟨h67 k (by omega), by show k < 6; omega⟩) (by omega), Option.bind_some, b2n, nadd, i1, nadd]
    have e : (if topF (opS W H cu) (fun k => k) k n = nI s then 1 else 0) = bN (onN (opS W H cu) n s) k := by
      have q := top_id (o := opS W H cu) (c := k) (s := s) (by omega) n (by omega)
      have q2 := on_tb (o := opS W H cu) (c := k) hs
      unfold bN
      by_cases z : topF (opS W H cu) (fun k => k) k n = nI s
      · rw [if_pos z, if_pos (q2.mpr (q.mp z).2)]
      · rw [if_neg z, if_neg fun y => z (q.mpr ⟨hs, q2.mp y⟩)]
    rw [e]
theorem op_seen {mi : MI} {w : WS} (I : Inv mi w) (x1 : Int32) (x2 : Int32) : ∃ c, F_X10_seen mi w x1 x2 = some c ∧ ∃ e, F_X11_seen mi w x1 x2 = some e ∧ c = e.1 ∧ Inv e.2 w := by
  have key : ∃ c, F_X10_seen mi w x1 x2 = some c ∧ ∃ e, F_X11_seen mi w x1 x2 = some e ∧ c = e.1 := by
    unfold F_X10_seen F_X11_seen
    refine shop_op I x1 (-1) rfl (fun m => ⟨_, if_pos rfl⟩) fun j W H sl n cu we m hj ok hc hd K => ?_
    dsimp only [onO]
    have hn := ok.cnt
    have hC := ok.cells
    rw [if_neg ne10]
    by_cases h2 : ∃ s, s < n ∧ x2 = nI s
    · obtain ⟨a, ha, rfl⟩ := h2
      rw [if_pos ((hc.sheet ok _).mpr ⟨a, ha, rfl⟩), if_pos ((hd.sheet ok _).mpr ⟨a, ha, rfl⟩), c_onTop w ok hc ha, Option.bind_some]
      obtain ⟨m', e1, e2, e3⟩ := m_first m w
      rw [e1, Option.bind_some, m_seenOf w ok ⟨by rw [e3 _ _ _ (by omega)]; exact hd.mw.1, by rw [e3 _ _ _ (by omega)]; exact hd.mw.2.1, by rw [e3 _ _ _ (by omega)]; exact hd.mw.2.2⟩ (by rw [e3 _ _ _ (by omega)]; exact hd.cnt) (fun s hs => by rw [e3 _ _ _ (by omega)]; exact hd.op hs) e2 ha, c_pop (pw (on_lt ok ha) hC)]
      exact ⟨_, _, rfl, rfl⟩
    · rw [if_neg fun q => h2 ((hc.sheet ok _).mp q), if_neg fun q => h2 ((hd.sheet ok _).mp q)]
      exact ⟨_, _, rfl, rfl⟩
  obtain ⟨c, h1, e, h2, h3⟩ := key
  exact ⟨c, h1, e, h2, h3, Inv_m I (kp_X11_seen h2)⟩
