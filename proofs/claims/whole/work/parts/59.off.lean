/-! OFF, PLAIN -/
def tpN (o : Nat → Nat) (c : Nat) : Nat → Nat
  | 0 => 0
  | k + 1 => if (o k).testBit c then k + 1 else tpN o c k
theorem tpN_top {o : Nat → Nat} {c : Nat} : ∀ n, topF o id c n + 1 = nI (tpN o c n) := by
  intro n
  induction n with
  | zero => show (-1 : Int32) + 1 = nI 0; decide
  | succ n ih =>
    show (if (o n).testBit c then nI n else topF o id c n) + 1 = nI (if (o n).testBit c then n + 1 else tpN o c n)
    cases (o n).testBit c
    · rw [if_neg Bool.false_ne_true, if_neg Bool.false_ne_true, ih]
    · rw [if_pos rfl, if_pos rfl, nI_1]
theorem tpN_le (o : Nat → Nat) (c : Nat) : ∀ n, tpN o c n ≤ n := by
  intro n
  induction n with
  | zero => exact Nat.le_refl _
  | succ n ih => unfold tpN; split <;> omega
theorem tpN_0 {o : Nat → Nat} {c : Nat} : ∀ {n}, tpN o c n = 0 ↔ ∀ t, t < n → (o t).testBit c = false := by
  intro n
  induction n with
  | zero => exact ⟨fun _ t ht => absurd ht (by omega), fun _ => rfl⟩
  | succ n ih =>
    unfold tpN
    cases hb : (o n).testBit c
    · rw [if_neg Bool.false_ne_true, ih]
      exact ⟨fun h t ht => by by_cases e : t = n; (rw [e]; exact hb); exact h t (by omega), fun h t ht => h t (by omega)⟩
    · rw [if_pos rfl]
      exact ⟨fun h => absurd h (by omega), fun h => by rw [h n (by omega)] at hb; cases hb⟩
theorem tpN_s {o : Nat → Nat} {c s n : Nat} (hn : n < 100) (hs : s < n) : tpN o c n = s + 1 ↔ (onN o n s).testBit c = true := by
  have h := tpN_top (o := o) (c := c) n
  have hl := tpN_le o c n
  rw [on_tb hs]
  have q := top_id (o := o) (c := c) (s := s) (by omega) n (by omega)
  constructor
  · intro e
    rw [e, ← nI_1] at h
    have h2 : topF o id c n = nI s := by
      have := congrArg (fun z : Int32 => z - 1) h
      simpa [Int32.add_sub_cancel] using this
    exact (q.mp h2).2
  · intro e
    have h2 := q.mpr ⟨hs, e⟩
    rw [h2, nI_1, nI_eq (by omega) (by omega)] at h
    exact h.symm
def alN (o : Nat → Nat) (W H n : Nat) (co : Nat → Nat) : Nat := foldN (fun s a => a ||| (onN o n s &&& celN W H co (s + 1))) (andn (aM W H) (unN o n (2 ^ n - 1)) &&& celN W H co 0) n
theorem un_tb {o : Nat → Nat} {n set c : Nat} : (unN o n set).testBit c = true ↔ ∃ t, t < n ∧ set.testBit t = true ∧ (o t).testBit c = true := by
  unfold unN
  rw [orN_tb]
  constructor
  · rintro ⟨k, h1, h2⟩
    split at h2
    · exact ⟨k, h1, by assumption, h2⟩
    · simp at h2
  · rintro ⟨k, h1, h2, h3⟩
    exact ⟨k, h1, by rw [if_pos h2]; exact h3⟩
theorem al_tb {o : Nat → Nat} {W H n i : Nat} {co : Nat → Nat} (hn : n < 100) (hi : i < W * H) : (alN o W H n co).testBit i = true ↔ tpN o i n = co (5 * (i / W) + i % W) := by
  unfold alN
  rw [orN_from, Nat.testBit_or, Bool.or_eq_true, Nat.testBit_and, Bool.and_eq_true, cel_tb, orN_tb, tb_andn, Bool.and_eq_true, Bool.not_eq_true']
  have ha : (aM W H).testBit i = true := by unfold aM; rw [Nat.testBit_two_pow_sub_one]; simpa using hi
  constructor
  · rintro (⟨⟨-, h1⟩, -, h2⟩ | ⟨s, hs, h⟩)
    · rw [h2, tpN_0]
      intro t ht
      cases hb : (o t).testBit i
      · rfl
      · have : (unN o n (2 ^ n - 1)).testBit i = true := un_tb.mpr ⟨t, ht, by rw [Nat.testBit_two_pow_sub_one]; simpa using ht, hb⟩
        rw [h1] at this; cases this
    · rw [Nat.testBit_and, Bool.and_eq_true, cel_tb] at h
      rw [h.2.2, tpN_s hn hs]
      exact h.1
  · intro h
    rcases Nat.eq_zero_or_pos (tpN o i n) with z | z
    · refine Or.inl ⟨⟨ha, ?_⟩, hi, by rw [← h, z]⟩
      rw [tpN_0] at z
      cases hb : (unN o n (2 ^ n - 1)).testBit i
      · rfl
      · obtain ⟨t, h1, -, h3⟩ := un_tb.mp hb
        rw [z t h1] at h3; cases h3
    · have hl := tpN_le o i n
      refine Or.inr ⟨tpN o i n - 1, by omega, ?_⟩
      rw [Nat.testBit_and, Bool.and_eq_true, cel_tb]
      refine ⟨(tpN_s hn (by omega)).mp (by omega), hi, by rw [← h]; omega⟩
theorem op_off {mi : MI} {w : WS} (I : Inv mi w) (x1 : Int32) (x2 : Int32) : ∃ c, F_X10_off mi w x1 x2 = some c ∧ ∃ e, F_X11_off mi w x1 x2 = some e ∧ c = e.1 ∧ Inv e.2 w := by
  have key : ∃ c, F_X10_off mi w x1 x2 = some c ∧ ∃ e, F_X11_off mi w x1 x2 = some e ∧ c = e.1 := by
    unfold F_X10_off F_X11_off
    refine ps_op I x1 x2 (-1) (fun _ => rfl) (fun m => ⟨_, if_pos rfl⟩) fun j p W H sl n cu we co m hj hp ok hc hd h38 q1 q2 => ?_
    dsimp only [onO]
    have hn := ok.cnt
    have hC := ok.cells
    have hpw : 2 ^ n ≤ 64 := Nat.pow_le_pow_right (n := 2) (by omega) hn
    rw [if_neg ne10]
    have f1 : F_X1_offCount mi w j p = some (nI (popN (andn (aM W H) (alN (opS W H cu) W H n co)))) := by
      unfold F_X1_offCount
      have c0 : F_X4_cellsOf mi w p j 0 = some (nI (celN W H co 0)) := c_cells (c := 0) w ok.bw hc.cw (by decide) q1
      rw [c_every hc.cnt hn, c_union w ok hc (by omega), Option.bind_some, c0, Option.bind_some, hc.2.2.1, nandn, nand]
      refine lp_up (L := fun f a k => L_X1_offCount_25 mi w f j p (nI a) (nI k)) (N := n) (f := fun s a => a ||| (onN (opS W H cu) n s &&& celN W H co (s + 1))) (post := fun a => some (nI (popN (andn (aM W H) a)))) (fun _ _ => True) (fun f a _ => ?_) (fun f s a hs _ => ⟨?_, trivial⟩) (F := 1000000) (by omega) _ trivial
      · have ha := pw (andn_lt a (aM_lt W H)) hC
        show L_X1_offCount_25 mi w (f + 1) j p (nI a) (nI n) = _
        rw [L_X1_offCount_25, if_pos (by rw [hc.cnt, nle (by omega) (by omega)]; omega), hc.2.2.1, nandn, c_pop ha]
      · show L_X1_offCount_25 mi w (f + 1) j p (nI a) (nI s) = _
        rw [L_X1_offCount_25, if_neg (by rw [hc.cnt, nle (by omega) (by omega)]; omega), c_onTop w ok hc hs, Option.bind_some, i1, nadd, c_cells w ok.bw hc.cw (by omega) q1, Option.bind_some, nand, nor]
    obtain ⟨m', e1, e2, e3⟩ := m_first m w
    have mw' : MW m' W H := ⟨by rw [e3 _ _ _ (by omega)]; exact hd.mw.1, by rw [e3 _ _ _ (by omega)]; exact hd.mw.2.1, by rw [e3 _ _ _ (by omega)]; exact hd.mw.2.2⟩
    have h27 : m' 10 0 27 = nI n := by rw [e3 _ _ _ (by omega)]; exact hd.cnt
    have q3 : ∀ k, k < 25 → co k ≤ 9 ∧ m' 57 0 (26 * p + (1 + k)) = nI (co k) := fun k hk => by rw [e3 _ _ _ (by omega)]; exact q2 k hk
    have f2 : L_X11_off_32 w 1000000 m' x1 x2 0 0 = some (nI (sN (fun i => if tpN (opS W H cu) i n = co (5 * (i / W) + i % W) then 0 else 1) (W * H)), m') := by
      refine lp_up (L := fun f a k => L_X11_off_32 w f m' x1 x2 (nI a) (nI k)) (N := W * H) (f := fun i a => a + if tpN (opS W H cu) i n = co (5 * (i / W) + i % W) then 0 else 1) (post := fun a => some (nI a, m')) (fun _ _ => True) (fun f a _ => ?_) (fun f i a hi _ => ⟨?_, trivial⟩) (F := 1000000) (by omega) 0 trivial
      · show L_X11_off_32 w (f + 1) m' x1 x2 (nI a) (nI (W * H)) = _
        rw [L_X11_off_32, if_pos (by rw [mw'.2.2, nle (by omega) (by omega)]; omega)]
      · obtain ⟨g1, g2, g3, g4, g5⟩ := pic_cells ok.bw hi
        have hco := (q1 (5 * (i / W) + i % W) (by omega)).1
        have hl := tpN_le (opS W H cu) i n
        show L_X11_off_32 w (f + 1) m' x1 x2 (nI a) (nI i) = L_X11_off_32 w f m' x1 x2 (nI (a + if tpN (opS W H cu) i n = co (5 * (i / W) + i % W) then 0 else 1)) (nI (i + 1))
        rw [L_X11_off_32, if_neg (by rw [mw'.2.2, nle (by omega) (by omega)]; omega), m_top w (r := id) hn h27 (fun s hs => ⟨by rw [e3 _ _ _ (by omega)]; exact hd.op hs, ok.op2 hs⟩) (fun k hk => ⟨e2 k (by omega), by show k < 6; omega⟩) (by omega), Option.bind_some, m_colourOf w ok.bw mw' hp (by rw [e3 _ _ _ (by omega)]; exact h38) q3 hi, Option.bind_some, tpN_top, b2n, nadd, i1, nadd]
        by_cases e : tpN (opS W H cu) i n = co (5 * (i / W) + i % W)
        · rw [if_neg (show ¬ ¬ nI (tpN (opS W H cu) i n) = nI (co (5 * (i / W) + i % W)) from fun z => z (by rw [e])), if_pos e]
        · rw [if_pos (show ¬ nI (tpN (opS W H cu) i n) = nI (co (5 * (i / W) + i % W)) from nne (by omega) (by omega) e), if_neg e]
    rw [f1, Option.bind_some, e1, Option.bind_some, f2]
    have eq : popN (andn (aM W H) (alN (opS W H cu) W H n co)) = sN (fun i => if tpN (opS W H cu) i n = co (5 * (i / W) + i % W) then 0 else 1) (W * H) := by
      rw [popC (andn_lt _ (aM_lt W H)) hC]
      refine sN_congr fun i hi => ?_
      have ha : (aM W H).testBit i = true := by unfold aM; rw [Nat.testBit_two_pow_sub_one]; simpa using hi
      have q := al_tb (o := opS W H cu) (n := n) (co := co) (by omega) hi
      unfold bN
      rw [tb_andn, ha]
      by_cases e : tpN (opS W H cu) i n = co (5 * (i / W) + i % W)
      · rw [if_pos e, q.mpr e]; rfl
      · rw [if_neg e]
        cases hb : (alN (opS W H cu) W H n co).testBit i
        · rfl
        · exact absurd (q.mp hb) e
    rw [eq]
    exact ⟨_, _, rfl, rfl⟩
  obtain ⟨c, h1, e, h2, h3⟩ := key
  exact ⟨c, h1, e, h2, h3, Inv_m I (kp_X11_off h2)⟩
/-- a sum over rows -/
theorem sN_rows (f : Nat → Nat) (W : Nat) : ∀ H, sN f (W * H) = sN (fun y => sN (fun x => f (y * W + x)) W) H := by
  intro H
  induction H with
  | zero => rfl
  | succ H ih =>
    rw [Nat.mul_succ, sN_app, ih, Nat.mul_comm W H]
    rfl
theorem sN_part {f : Nat → Nat} {m n : Nat} (h : m ≤ n) : sN f m = sN (fun k => if k < m then f k else 0) n := by
  obtain ⟨d, rfl⟩ : ∃ d, n = m + d := ⟨n - m, by omega⟩
  rw [sN_app, sN_congr (f := fun k => if k < m then f k else 0) (g := f) fun k hk => if_pos hk, sN_0 (f := fun k => if m + k < m then f (m + k) else 0) fun k _ => if_neg (by omega), Nat.add_zero]
theorem sN_split (f : Nat → Nat → Nat) : sN (fun y => sN (fun x => f y x) 5) 5 = sN (fun i => f (i / 5) (i % 5)) 25 := by
  rw [show 25 = 5 * 5 from rfl, sN_rows]
  refine sN_congr fun y hy => sN_congr fun x hx => ?_
  obtain ⟨h1, h2⟩ := row_div (y := y) hx
  rw [h1, h2]
/-- as many cells of a colour as are places of it that are cells -/
theorem cel_pop {W H : Nat} (b : BW W H) (co : Nat → Nat) (c : Nat) : popN (celN W H co c) = sN (fun i => if i / 5 < H ∧ i % 5 < W then (if co i = c then 1 else 0) else 0) 25 := by
  have hC := cells_le b.1.2 b.2.2
  rw [popC (cel_lt W H co c) hC, sN_rows]
  have e1 : sN (fun y => sN (fun x => bN (celN W H co c) (y * W + x)) W) H = sN (fun y => sN (fun x => if co (5 * y + x) = c then 1 else 0) W) H := by
    refine sN_congr fun y hy => sN_congr fun x hx => ?_
    obtain ⟨q1, q2⟩ := row_div (y := y) hx
    have hyW : y * W + x < W * H := by
      have := Nat.mul_le_mul_left W (show y + 1 ≤ H by omega)
      rw [Nat.mul_succ, Nat.mul_comm W y] at this
      omega
    have q := cel_tb (W := W) (H := H) (co := co) (c := c) (i := y * W + x)
    rw [q1, q2] at q
    unfold bN
    by_cases e : co (5 * y + x) = c
    · rw [if_pos (q.mpr ⟨hyW, e⟩), if_pos e]
    · rw [if_neg fun z => e (q.mp z).2, if_neg e]
  have e2 : sN (fun y => sN (fun x => if co (5 * y + x) = c then 1 else 0) W) H = sN (fun y => sN (fun x => if y < H ∧ x < W then (if co (5 * y + x) = c then 1 else 0) else 0) 5) 5 := by
    rw [sN_part b.2.2]
    refine sN_congr fun y hy => ?_
    by_cases h : y < H
    · rw [if_pos h, sN_part b.1.2]
      refine sN_congr fun x hx => ?_
      by_cases h2 : x < W
      · rw [if_pos h2, if_pos (show y < H ∧ x < W from ⟨h, h2⟩)]
      · rw [if_neg h2, if_neg fun q => h2 q.2]
    · rw [if_neg h, sN_0 fun x _ => if_neg fun q => h q.1]
  rw [e1, e2, sN_split fun y x => if y < H ∧ x < W then (if co (5 * y + x) = c then 1 else 0) else 0]
  refine sN_congr fun i hi => ?_
  rw [show 5 * (i / 5) + i % 5 = i by omega]
/-- a place of the colour that is no cell -/
def beyN (W H : Nat) (co : Nat → Nat) (c : Nat) : Prop := ∃ i, i < 25 ∧ ¬ (i / 5 < H ∧ i % 5 < W) ∧ co i = c
theorem bey_iff {W H : Nat} (b : BW W H) (co : Nat → Nat) (c : Nat) : plN co c ≤ popN (celN W H co c) ↔ ¬ beyN W H co c := by
  rw [cel_pop b]
  have hle : ∀ i, i < 25 → (if i / 5 < H ∧ i % 5 < W then (if co i = c then 1 else 0) else 0) ≤ (if co i = c then 1 else 0) := fun i _ => by
    by_cases h : i / 5 < H ∧ i % 5 < W
    · rw [if_pos h]; exact Nat.le_refl _
    · rw [if_neg h]; exact Nat.zero_le _
  constructor
  · rintro h ⟨i, hi, h1, h2⟩
    have := sN_lt hle hi (by rw [if_neg h1, if_pos h2]; omega)
    unfold plN at h
    omega
  · intro h
    unfold plN
    refine sN_le fun i hi => ?_
    by_cases h1 : i / 5 < H ∧ i % 5 < W
    · rw [if_pos h1]; exact Nat.le_refl _
    · rw [if_neg h1, if_neg fun q => h ⟨i, hi, h1, q⟩]
      exact Nat.zero_le _
theorem m_beyond {m : MI} (w : WS) {j W H c : Nat} {co : Nat → Nat} (b : BW W H) (mw : MW m W H) (hj : j < 2) (h38 : m 10 0 38 = nI j) (h : ∀ k, k < 25 → co k ≤ 9 ∧ m 57 0 (26 * j + (1 + k)) = nI (co k)) (hc : c < 100) : (∃ i, i < 25 ∧ ¬ (i / 5 < H ∧ i % 5 < W) ∧ co i ≠ 0 ∧ (c = 0 ∨ co i = c)) ∧ F_X11_goesBeyond m w (nI c) = some 1 ∨ (¬ ∃ i, i < 25 ∧ ¬ (i / 5 < H ∧ i % 5 < W) ∧ co i ≠ 0 ∧ (c = 0 ∨ co i = c)) ∧ F_X11_goesBeyond m w (nI c) = some 0 := by
  have e25 : (25 : Int32) = nI 25 := rfl
  have e5 : (5 : Int32) = nI 5 := rfl
  have hW := b.1.2
  have hH := b.2.2
  have key : ∀ r k F, k + r = 25 → r < F → (∀ i, i < k → ¬ (¬ (i / 5 < H ∧ i % 5 < W) ∧ co i ≠ 0 ∧ (c = 0 ∨ co i = c))) → (∃ i, i < 25 ∧ ¬ (i / 5 < H ∧ i % 5 < W) ∧ co i ≠ 0 ∧ (c = 0 ∨ co i = c)) ∧ L_X11_goesBeyond_2 m w F (nI c) (nI k) = some 1 ∨ (¬ ∃ i, i < 25 ∧ ¬ (i / 5 < H ∧ i % 5 < W) ∧ co i ≠ 0 ∧ (c = 0 ∨ co i = c)) ∧ L_X11_goesBeyond_2 m w F (nI c) (nI k) = some 0 := by
    intro r
    induction r with
    | zero =>
      intro k F hk hF hno
      obtain ⟨F, rfl⟩ : ∃ G, F = G + 1 := ⟨F - 1, by omega⟩
      refine Or.inr ⟨fun ⟨i, hi, h1⟩ => hno i (by omega) h1, ?_⟩
      rw [L_X11_goesBeyond_2, if_pos (by rw [e25, nle (by omega) (by omega)]; omega)]
    | succ r ih =>
      intro k F hk hF hno
      obtain ⟨F, rfl⟩ : ∃ G, F = G + 1 := ⟨F - 1, by omega⟩
      obtain ⟨h1, h2⟩ := h k (by omega)
      have next : ¬ (¬ (k / 5 < H ∧ k % 5 < W) ∧ co k ≠ 0 ∧ (c = 0 ∨ co k = c)) → L_X11_goesBeyond_2 m w (F + 1) (nI c) (nI k) = L_X11_goesBeyond_2 m w F (nI c) (nI (k + 1)) → (∃ i, i < 25 ∧ ¬ (i / 5 < H ∧ i % 5 < W) ∧ co i ≠ 0 ∧ (c = 0 ∨ co i = c)) ∧ L_X11_goesBeyond_2 m w (F + 1) (nI c) (nI k) = some 1 ∨ (¬ ∃ i, i < 25 ∧ ¬ (i / 5 < H ∧ i % 5 < W) ∧ co i ≠ 0 ∧ (c = 0 ∨ co i = c)) ∧ L_X11_goesBeyond_2 m w (F + 1) (nI c) (nI k) = some 0 := fun q e => by
        rw [e]
        refine ih (k + 1) F (by omega) (by omega) fun i hi => ?_
        by_cases e2 : i = k
        · rw [e2]; exact q
        · exact hno i (by omega)
      have tail : ¬ (k / 5 < H ∧ k % 5 < W) → ∀ X : Option Int32, X = (if (0 : Int32) = 0 then if nI (co k) = 0 then L_X11_goesBeyond_2 m w F (nI c) (nI (k + 1)) else if nI c = 0 then some 1 else if nI (co k) = nI c then some 1 else L_X11_goesBeyond_2 m w F (nI c) (nI (k + 1)) else L_X11_goesBeyond_2 m w F (nI c) (nI (k + 1))) → (co k ≠ 0 ∧ (c = 0 ∨ co k = c) → X = some 1) ∧ (¬ (co k ≠ 0 ∧ (c = 0 ∨ co k = c)) → X = L_X11_goesBeyond_2 m w F (nI c) (nI (k + 1))) := fun _ X hX => by
        rw [hX, if_pos rfl]
        by_cases z : co k = 0
        · rw [if_pos (by rw [z]; rfl)]
          exact ⟨fun q => absurd z q.1, fun _ => rfl⟩
        · rw [if_neg (nne0 (by omega) z)]
          by_cases z1 : c = 0
          · rw [if_pos (by rw [z1]; rfl)]
            exact ⟨fun _ => rfl, fun q => absurd ⟨z, Or.inl z1⟩ q⟩
          · rw [if_neg (nne0 (by omega) z1)]
            by_cases z2 : co k = c
            · rw [if_pos (by rw [z2])]
              exact ⟨fun _ => rfl, fun q => absurd ⟨z, Or.inr z2⟩ q⟩
            · rw [if_neg (nne (by omega) (by omega) z2)]
              exact ⟨fun q => absurd q.2 (fun y => y.elim z1 z2), fun _ => rfl⟩
      have hcol : F_X11_colourAt m w (nI (k % 5)) (nI (k / 5)) = some (nI (co k)) := by
        rw [m_colourAt w h38 hj (by omega) (by omega), show 5 * (k / 5) + k % 5 = k by omega, h2]
      have hL : L_X11_goesBeyond_2 m w (F + 1) (nI c) (nI k) = (if nI W ≤ nI (k % 5) then (if (0 : Int32) = 0 then if nI (co k) = 0 then L_X11_goesBeyond_2 m w F (nI c) (nI (k + 1)) else if nI c = 0 then some 1 else if nI (co k) = nI c then some 1 else L_X11_goesBeyond_2 m w F (nI c) (nI (k + 1)) else L_X11_goesBeyond_2 m w F (nI c) (nI (k + 1))) else if nI H ≤ nI (k / 5) then (if (0 : Int32) = 0 then if nI (co k) = 0 then L_X11_goesBeyond_2 m w F (nI c) (nI (k + 1)) else if nI c = 0 then some 1 else if nI (co k) = nI c then some 1 else L_X11_goesBeyond_2 m w F (nI c) (nI (k + 1)) else L_X11_goesBeyond_2 m w F (nI c) (nI (k + 1))) else (if (1 : Int32) = 0 then if nI (co k) = 0 then L_X11_goesBeyond_2 m w F (nI c) (nI (k + 1)) else if nI c = 0 then some 1 else if nI (co k) = nI c then some 1 else L_X11_goesBeyond_2 m w F (nI c) (nI (k + 1)) else L_X11_goesBeyond_2 m w F (nI c) (nI (k + 1)))) := by
        have r1 : irem (nI k) 5 = nI (k % 5) := nrem (d := 5) (by omega) (by omega) (by omega)
        have r2 : nI k / 5 = nI (k / 5) := ndiv (d := 5) (by omega) (by omega) (by omega)
        have r3 : nI k + 1 = nI (k + 1) := nI_1 k
        rw [L_X11_goesBeyond_2, if_neg (by rw [e25, nle (by omega) (by omega)]; omega), mw.1, mw.2.1, r1, r2, r3, hcol, Option.bind_some, Option.bind_some]
      by_cases a1 : W ≤ k % 5
      · have hn : ¬ (k / 5 < H ∧ k % 5 < W) := by omega
        rw [if_pos (by rw [nle (by omega) (by omega)]; exact a1)] at hL
        obtain ⟨t1, t2⟩ := tail hn _ hL
        by_cases q : co k ≠ 0 ∧ (c = 0 ∨ co k = c)
        · exact Or.inl ⟨⟨k, by omega, hn, q⟩, t1 q⟩
        · exact next (fun z => q z.2) (t2 q)
      · rw [if_neg (by rw [nle (by omega) (by omega)]; exact a1)] at hL
        by_cases a2 : H ≤ k / 5
        · have hn : ¬ (k / 5 < H ∧ k % 5 < W) := by omega
          rw [if_pos (by rw [nle (by omega) (by omega)]; exact a2)] at hL
          obtain ⟨t1, t2⟩ := tail hn _ hL
          by_cases q : co k ≠ 0 ∧ (c = 0 ∨ co k = c)
          · exact Or.inl ⟨⟨k, by omega, hn, q⟩, t1 q⟩
          · exact next (fun z => q z.2) (t2 q)
        · rw [if_neg (by rw [nle (by omega) (by omega)]; exact a2), if_neg ne10] at hL
          exact next (fun z => z.1 (by omega)) hL
  exact key 25 0 1000000 (by omega) (by omega) fun i hi => absurd hi (by omega)
theorem op_plain {mi : MI} {w : WS} (I : Inv mi w) (x1 : Int32) (x2 : Int32) (x3 : Int32) : ∃ c, F_X10_plain mi w x1 x2 x3 = some c ∧ ∃ e, F_X11_plain mi w x1 x2 x3 = some e ∧ c = e.1 ∧ Inv e.2 w := by
  have key : ∃ c, F_X10_plain mi w x1 x2 x3 = some c ∧ ∃ e, F_X11_plain mi w x1 x2 x3 = some e ∧ c = e.1 := by
    have e10 : (10 : Int32) = nI 10 := rfl
    have e9 : (9 : Int32) = nI 9 := rfl
    by_cases hx : ∃ c, 1 ≤ c ∧ c ≤ 9 ∧ x3 = nI c
    · obtain ⟨c, c1, c9, rfl⟩ := hx
      have a1 : ¬ nI c < 1 := by rw [i1, nlt (by omega) (by omega)]; omega
      have a9 : ¬ (9 : Int32) < nI c := by rw [e9, nlt (by omega) (by omega)]; omega
      have a10 : nI c < 10 := by rw [e10, nlt (by omega) (by omega)]; omega
      unfold F_X10_plain F_X11_plain
      rw [if_pos (And.intro a1 a9)]
      refine ps_op I x1 x2 (-1) (fun _ => rfl) (fun m => ⟨_, if_pos rfl⟩) fun j p W H sl n cu we co m hj hp ok hc hd h38 q1 q2 => ?_
      dsimp only [onO]
      have hC := ok.cells
      have hcel := pw (cel_lt W H co c) hC
      have hfl := pw (fall_lt W H (celN W H co c)) hC
      have hpl := plN_le co c
      have hpp := popN_le (celN W H co c)
      rw [if_neg ne10, if_neg a1, if_pos a10, c_cells w ok.bw hc.cw (by omega) q1, Option.bind_some, c_places w (by omega) q1, Option.bind_some, c_pop hcel, c_fall ok.bw hc.cw, c_pop hfl]
      rcases m_beyond w ok.bw hd.mw hp h38 q2 (c := c) (by omega) with ⟨hb, e⟩ | ⟨hb, e⟩
      · rw [e, Option.bind_some, if_neg ne10, if_neg]
        · exact ⟨_, _, rfl, rfl⟩
        · rw [nle (by omega) (by omega), bey_iff ok.bw]
          obtain ⟨i, h1, h2, h3, h4⟩ := hb
          exact fun z => z ⟨i, h1, h2, by omega⟩
      · rw [e, Option.bind_some, if_pos rfl, if_pos]
        · have f : L_X11_plain_47 w 1000000 m x1 x2 (nI c) 0 0 = (fun a => (F_X11_fallsBy m w (nI a)).bind fun c344 => (F_X11_ones m w c344).bind fun c345 => some (c345, m)) (celN W H co c) := by
            refine lp_up (L := fun f a k => L_X11_plain_47 w f m x1 x2 (nI c) (nI a) (nI k)) (N := W * H) (f := fun k a => a ||| if co (5 * (k / W) + k % W) = c then 1 <<< k else 0) (post := fun a => (F_X11_fallsBy m w (nI a)).bind fun c344 => (F_X11_ones m w c344).bind fun c345 => some (c345, m)) (fun _ _ => True) (fun f a _ => ?_) (fun f k a hk _ => ⟨?_, trivial⟩) (F := 1000000) (by omega) 0 trivial
            · show L_X11_plain_47 w (f + 1) m x1 x2 (nI c) (nI a) (nI (W * H)) = _
              rw [L_X11_plain_47, if_pos (by rw [hd.mw.2.2, nle (by omega) (by omega)]; omega)]
            · obtain ⟨g1, g2, g3, g4, g5⟩ := pic_cells ok.bw hk
              have hco := (q1 (5 * (k / W) + k % W) (by omega)).1
              show L_X11_plain_47 w (f + 1) m x1 x2 (nI c) (nI a) (nI k) = L_X11_plain_47 w f m x1 x2 (nI c) (nI (a ||| if co (5 * (k / W) + k % W) = c then 1 <<< k else 0)) (nI (k + 1))
              rw [L_X11_plain_47, if_neg (by rw [hd.mw.2.2, nle (by omega) (by omega)]; omega), m_colourOf w ok.bw hd.mw hp h38 q2 hk, Option.bind_some, n31 (by omega), i1, nshl _ (by omega), nadd]
              by_cases q : co (5 * (k / W) + k % W) = c
              · rw [if_pos (show nI (co (5 * (k / W) + k % W)) = nI c by rw [q]), if_pos q, nor]
              · rw [if_neg (show ¬ nI (co (5 * (k / W) + k % W)) = nI c from nne (by omega) (by omega) q), if_neg q, i0, nor]
          rw [f]
          dsimp only
          rw [m_fallsBy w ok.bw hd.mw, Option.bind_some, m_ones m w hfl]
          exact ⟨_, _, rfl, rfl⟩
        · rw [nle (by omega) (by omega), bey_iff ok.bw]
          rintro ⟨i, h1, h2, h3⟩
          exact hb ⟨i, h1, h2, by omega, Or.inr h3⟩
    · have hr : ¬ (¬ x3 < 1 ∧ ¬ 9 < x3) := by
        rintro ⟨h1, h2⟩
        have h0 : ¬ x3 < 0 := fun q => h1 (by
          rw [i0, Int32.lt_iff_toInt_lt, nI_toInt (by omega)] at q
          rw [i1, Int32.lt_iff_toInt_lt, nI_toInt (by omega)]
          omega)
        obtain ⟨c, hc, rfl⟩ := nI_of h0
        rw [i1, nlt (by omega) (by omega)] at h1
        rw [e9, nlt (by omega) (by omega)] at h2
        exact hx ⟨c, by omega, by omega, rfl⟩
      have hcl : x3 < 1 ∨ ¬ x3 < 10 := by
        by_cases h1 : x3 < 1
        · exact Or.inl h1
        · refine Or.inr fun h2 => hr ⟨h1, ?_⟩
          rw [e9, Int32.lt_iff_toInt_lt, nI_toInt (by omega)]
          rw [e10, Int32.lt_iff_toInt_lt, nI_toInt (by omega)] at h2
          omega
      unfold F_X10_plain F_X11_plain
      rw [if_neg hr]
      rcases shop_at I x1 with ⟨h1, -⟩ | ⟨j, -, h1, -⟩
      · rcases pic_at I x2 with ⟨p1, -⟩ | ⟨p, -, p1, -⟩
        · rw [h1, Option.bind_some, onO_n, p1, Option.bind_some, onO_n]; exact ⟨_, rfl, _, rfl, rfl⟩
        · rw [h1, Option.bind_some, onO_n, p1, Option.bind_some, onO_s]; exact ⟨_, rfl, _, rfl, rfl⟩
      · rcases pic_at I x2 with ⟨p1, -⟩ | ⟨p, -, p1, -⟩
        · rw [h1, Option.bind_some, onO_s, p1, Option.bind_some, onO_n]; exact ⟨_, rfl, _, rfl, rfl⟩
        · rw [h1, Option.bind_some, onO_s, p1, Option.bind_some, onO_s]
          rcases hcl with q | q
          · rw [if_pos q]; exact ⟨_, rfl, _, rfl, rfl⟩
          · by_cases q1 : x3 < 1
            · rw [if_pos q1]; exact ⟨_, rfl, _, rfl, rfl⟩
            · rw [if_neg q1, if_neg q]; exact ⟨_, rfl, _, rfl, rfl⟩
  obtain ⟨c, h1, e, h2, h3⟩ := key
  exact ⟨c, h1, e, h2, h3, Inv_m I (kp_X11_plain h2)⟩
