/-! GROWING within a set, on either side -/
def sN (f : Nat → Nat) (n : Nat) : Nat := foldN (fun k a => a + f k) 0 n
def bN (x k : Nat) : Nat := if x.testBit k then 1 else 0
def popN (x : Nat) : Nat := sN (bN x) 25
theorem sN_le {f g : Nat → Nat} {n : Nat} (h : ∀ k, k < n → f k ≤ g k) : sN f n ≤ sN g n := by
  induction n with
  | zero => exact Nat.le_refl _
  | succ n ih => exact Nat.add_le_add (ih fun k hk => h k (by omega)) (h n (by omega))
theorem sN_lt {f g : Nat → Nat} {n : Nat} (h : ∀ k, k < n → f k ≤ g k) {j : Nat} (hj : j < n) (hl : f j < g j) : sN f n < sN g n := by
  induction n with
  | zero => omega
  | succ n ih =>
    show sN f n + f n < sN g n + g n
    by_cases e : j = n
    · subst e
      have := sN_le (f := f) (g := g) (n := j) fun k hk => h k (by omega)
      omega
    · have h1 := ih (fun k hk => h k (by omega)) (by omega)
      have h2 := h n (by omega)
      omega
theorem bN_le (x k : Nat) : bN x k ≤ 1 := by unfold bN; split <;> omega
theorem sN_bnd {f : Nat → Nat} {n c : Nat} (h : ∀ k, k < n → f k ≤ c) : sN f n ≤ c * n := by
  induction n with
  | zero => exact Nat.le_refl _
  | succ n ih =>
    have h1 := ih fun k hk => h k (by omega)
    have h2 := h n (by omega)
    show sN f n + f n ≤ c * (n + 1)
    rw [Nat.mul_succ]
    omega
theorem popN_le (x : Nat) : popN x ≤ 25 := by
  have := sN_bnd (f := bN x) (n := 25) (c := 1) fun k _ => bN_le x k
  unfold popN
  omega
theorem sub_tb {x y : Nat} (h : x &&& y = x) (i : Nat) (hx : x.testBit i = true) : y.testBit i = true := by
  rw [← h, Nat.testBit_and] at hx
  simp at hx
  exact hx.2
theorem popN_lt {x y : Nat} (h : x &&& y = x) (hne : x ≠ y) (hy : y < 2 ^ 25) : popN x < popN y := by
  have hb : ∃ j, j < 25 ∧ x.testBit j = false ∧ y.testBit j = true := by
    refine Decidable.byContradiction fun hn => hne ?_
    apply Nat.eq_of_testBit_eq
    intro i
    by_cases hi : i < 25
    · cases hx : x.testBit i
      · cases hyy : y.testBit i
        · rfl
        · exact absurd ⟨i, hi, hx, hyy⟩ hn
      · exact (sub_tb h i hx).symm
    · have hyy : y.testBit i = false := Nat.testBit_lt_two_pow (Nat.lt_of_lt_of_le hy (Nat.pow_le_pow_right (by omega) (by omega)))
      rw [hyy]
      cases hx : x.testBit i
      · rfl
      · rw [sub_tb h i hx] at hyy; cases hyy
  obtain ⟨j, hj, h1, h2⟩ := hb
  refine sN_lt (fun k _ => ?_) hj ?_
  · unfold bN
    cases hx : x.testBit k
    · simp
    · rw [sub_tb h k hx]; simp
  · unfold bN
    rw [h1, h2]
    decide
theorem gs {h b l : Nat} (hs : h &&& l = h) : h ||| andn (b &&& l) h = (h ||| b) &&& l := by
  apply Nat.eq_of_testBit_eq
  intro i
  have := congrArg (fun z => z.testBit i) hs
  simp only [Nat.testBit_and] at this
  simp only [Nat.testBit_or, tb_andn, Nat.testBit_and]
  revert this
  cases h.testBit i <;> cases b.testBit i <;> cases l.testBit i <;> simp
theorem gm {h b l : Nat} (hs : h &&& l = h) : andn (b &&& l) h = 0 ↔ (h ||| b) &&& l = h := by
  rw [← gs hs]
  constructor
  · intro e; rw [e, Nat.or_zero]
  · intro e
    apply Nat.eq_of_testBit_eq
    intro i
    have := congrArg (fun z => z.testBit i) e
    simp only [Nat.testBit_or, tb_andn, Nat.testBit_and] at this
    simp only [tb_andn, Nat.testBit_and, Nat.zero_testBit]
    revert this
    cases h.testBit i <;> cases b.testBit i <;> cases l.testBit i <;> simp
theorem gsub (h b l : Nat) : ((h ||| b) &&& l) &&& l = (h ||| b) &&& l := by
  rw [Nat.and_assoc, Nat.and_self]
theorem gup {h b l : Nat} (hs : h &&& l = h) : h &&& ((h ||| b) &&& l) = h := by
  apply Nat.eq_of_testBit_eq
  intro i
  have := congrArg (fun z => z.testBit i) hs
  simp only [Nat.testBit_and] at this
  simp only [Nat.testBit_or, Nat.testBit_and]
  revert this
  cases h.testBit i <;> cases b.testBit i <;> cases l.testBit i <;> simp
theorem bes_0 (W H : Nat) : besN W H 0 = 0 := lin_bes.1
theorem grN_0 (W H l : Nat) : ∀ n, grN W H l n 0 = 0 := by
  intro n
  cases n with
  | zero => rfl
  | succ n => unfold grN; rw [bes_0]; simp
theorem nne {a b : Nat} (ha : a < 2147483648) (hb : b < 2147483648) (h : a ≠ b) : ¬ nI a = nI b := fun q => h ((nI_eq ha hb).mp q)
def BW (W H : Nat) : Prop := (1 ≤ W ∧ W ≤ 5) ∧ 1 ≤ H ∧ H ≤ 5
/-- the sizes in the model -/
def MW (mi : MI) (W H : Nat) : Prop := mi 10 0 24 = nI W ∧ mi 10 0 25 = nI H ∧ mi 10 0 26 = nI (W * H)
/-- a set's rounds in the model: what comes to it till nothing does -/
theorem grow_m {mi : MI} (w : WS) {W H : Nat} (b : BW W H) (m : MW mi W H) (l x : Nat) (hl : l < 2 ^ (W * H)) : ∀ (n h F : Nat), 25 ≤ popN h + n → h &&& l = h → h ≠ 0 → ∀ more, more ≠ 0 → more < 2 ^ (W * H) → n + 2 ≤ F → L_X11_fallsBy_65 mi w F (nI x) (nI l) (nI h) (nI more) = some (nI (andn l (grN W H l n h))) := by
  obtain ⟨⟨hW, hW5⟩, hH, hH5⟩ := b
  obtain ⟨h24, -, h26⟩ := m
  have hC := cells_le hW5 hH5
  have hl2 := pw hl hC
  intro n
  induction n with
  | zero =>
    intro h F hp hs h0 more hm hmlt hF
    obtain ⟨F, rfl⟩ : ∃ G, F = G + 2 := ⟨F - 2, by omega⟩
    have hh : h < 2 ^ (W * H) := by rw [← hs]; exact and_lt_r hl
    have hm2 := pw hmlt hC
    have hst : (h ||| besN W H h) &&& l = h := by
      refine Decidable.byContradiction fun hne => ?_
      have := popN_lt (gup (b := besN W H h) hs) (fun e => hne e.symm) (Nat.lt_of_lt_of_le (and_lt_r hl) (Nat.pow_le_pow_right (by omega) hC))
      have := popN_le ((h ||| besN W H h) &&& l)
      omega
    have e := (gm (b := besN W H h) hs).mpr hst
    rw [L_X11_fallsBy_65, i0, if_neg (nne (by omega) (by omega) hm), m_besides w hW hW5 hH hH5 h24 h26 hh]
    show L_X11_fallsBy_65 mi w (F + 1) (nI x) (nI l) (nI h ||| ((nI (besN W H h) &&& nI l) &&& (nI h ^^^ -1))) ((nI (besN W H h) &&& nI l) &&& (nI h ^^^ -1)) = _
    rw [nand, nandn, nor, e, L_X11_fallsBy_65, i0, if_pos rfl, nandn, Nat.or_zero]
    rfl
  | succ n ih =>
    intro h F hp hs h0 more hm hmlt hF
    obtain ⟨F, rfl⟩ : ∃ G, F = G + 2 := ⟨F - 2, by omega⟩
    have hh : h < 2 ^ (W * H) := by rw [← hs]; exact and_lt_r hl
    have hm2 := pw hmlt hC
    rw [L_X11_fallsBy_65, i0, if_neg (nne (by omega) (by omega) hm), m_besides w hW hW5 hH hH5 h24 h26 hh]
    show L_X11_fallsBy_65 mi w (F + 1) (nI x) (nI l) (nI h ||| ((nI (besN W H h) &&& nI l) &&& (nI h ^^^ -1))) ((nI (besN W H h) &&& nI l) &&& (nI h ^^^ -1)) = _
    rw [nand, nandn, nor, gs hs, grN]
    by_cases hst : (h ||| besN W H h) &&& l = h
    · have e := (gm (b := besN W H h) hs).mpr hst
      rw [if_pos hst, hst, e, L_X11_fallsBy_65, i0, if_pos rfl, nandn]
    · rw [if_neg hst]
      have hne : andn (besN W H h &&& l) h ≠ 0 := fun e => hst ((gm hs).mp e)
      have hp2 := popN_lt (gup (b := besN W H h) hs) (fun e => hst e.symm) (Nat.lt_of_lt_of_le (and_lt_r hl) (Nat.pow_le_pow_right (by omega) hC))
      refine ih _ (F + 1) (by omega) (gsub _ _ _) (fun e => ?_) _ hne (andn_lt _ (and_lt_r hl)) (by omega)
      have := gup (b := besN W H h) hs
      rw [e, Nat.and_zero] at this
      exact h0 this.symm
/-- the rim's test in the model -/
def rimB (W H k : Nat) : Bool := k % W == 0 || (k % W == W - 1 || (k / W == 0 || k / W == H - 1))
theorem m_isRim {mi : MI} (w : WS) {W H k : Nat} (b : BW W H) (m : MW mi W H) (hk : k < W * H) : F_X11_isRim mi w (nI k) = some (nI (if rimB W H k then 1 else 0)) := by
  obtain ⟨⟨hW, hW5⟩, hH, hH5⟩ := b
  obtain ⟨h24, h25, h26⟩ := m
  have hC := cells_le hW5 hH5
  have hm : k % W < W := Nat.mod_lt k hW
  have hd : k / W ≤ k := Nat.div_le_self k W
  have eb : ∀ (p : Prop) [Decidable p], b2 p = nI (if p then 1 else 0) := fun p _ => by unfold b2; split <;> rfl
  unfold rimB
  by_cases h1 : k % W = 0
  · simp (disch := omega) only [F_X11_isRim, h24, h25, i0, i1, neq, nrem, ndiv, nsub, ckT, if_pos, h1]
    simp
  · by_cases h2 : k % W = W - 1
    · simp (disch := omega) only [F_X11_isRim, h24, h25, i0, i1, neq, nrem, ndiv, nsub, ckT, if_pos, if_neg]
      simp [h2]
    · by_cases h3 : k / W = 0
      · simp (disch := omega) only [F_X11_isRim, h24, h25, i0, i1, neq, nrem, ndiv, nsub, ckT, if_pos, if_neg]
        simp [h3]
      · by_cases h4 : k / W = H - 1
        · simp (disch := omega) only [F_X11_isRim, h24, h25, i0, i1, neq, nrem, ndiv, nsub, ckT, if_pos, if_neg, eb]
          simp [h4]
        · simp (disch := omega) only [F_X11_isRim, h24, h25, i0, i1, neq, nrem, ndiv, nsub, ckT, if_pos, if_neg, eb]
          simp [h1, h2, h3, h4]
theorem rim_tab : ∀ W, W < 6 → ∀ H, H < 6 → ∀ k, k < W * H → (1 <<< k) &&& eM W H = orN (fun c => if (1 <<< k).testBit c then (if rimB W H c then 1 <<< c else 0) else 0) (W * H) := by decide +kernel
theorem rim_eq {W H x : Nat} (hW : W ≤ 5) (hH : H ≤ 5) (hx : x < 2 ^ (W * H)) : x &&& eM W H = orN (fun c => if x.testBit c then (if rimB W H c then 1 <<< c else 0) else 0) (W * H) :=
  lin_ext (lin_and _ lin_id) (lin_orN (fun c => lin_sel c _ lin_id) _) (W * H) (fun k hk => rim_tab W (by omega) H (by omega) k hk) x hx
theorem n_all {C : Nat} (hC : C ≤ 25) : nI 1 <<< (nI C &&& 31) - 1 = nI (2 ^ C - 1) := by
  have := Nat.two_pow_pos C
  rw [n31 (by omega), nshl _ (by omega), Nat.one_shiftLeft, i1, nsub (by omega)]
theorem fall_lt (W H c : Nat) : fallN W H c < 2 ^ (W * H) := andn_lt _ (andn_lt _ (aM_lt W H))
theorem m_fallsBy {mi : MI} (w : WS) {W H x : Nat} (b : BW W H) (m : MW mi W H) : F_X11_fallsBy mi w (nI x) = some (nI (fallN W H x)) := by
  obtain ⟨⟨hW, hW5⟩, hH, hH5⟩ := id b
  obtain ⟨h24, h25, h26⟩ := id m
  have hC := cells_le hW5 hH5
  have hl : andn (aM W H) x < 2 ^ (W * H) := andn_lt _ (aM_lt W H)
  have hl2 := pw hl hC
  have e1 : ((((1 : Int32) <<< ((mi 10 0 26) &&& 31)) - 1) &&& ((nI x) ^^^ (-1))) = nI (andn (aM W H) x) := by
    rw [h26]
    show (nI 1 <<< (nI (W * H) &&& 31) - 1) &&& ((nI x) ^^^ (-1)) = _
    rw [n_all hC, nandn]
    rfl
  unfold F_X11_fallsBy
  rw [e1]
  unfold fallN
  generalize andn (aM W H) x = l at *
  have key := lp_up (L := fun n s k => L_X11_fallsBy_18 mi w n (nI x) (nI l) (nI s) (nI k)) (N := W * H) (f := fun k a => a ||| if l.testBit k then (if rimB W H k then 1 <<< k else 0) else 0) (post := fun a => L_X11_fallsBy_65 mi w 1000000 (nI x) (nI l) (nI a) (nI a)) (fun _ _ => True) (fun n s _ => ?_) (fun n k s hk _ => ⟨?_, trivial⟩) (F := 1000000) (by omega) 0 trivial
  · refine key.trans ?_
    show L_X11_fallsBy_65 mi w 1000000 (nI x) (nI l) (nI (orN (fun c => if l.testBit c then (if rimB W H c then 1 <<< c else 0) else 0) (W * H))) (nI (orN (fun c => if l.testBit c then (if rimB W H c then 1 <<< c else 0) else 0) (W * H))) = _
    rw [← rim_eq hW5 hH5 hl]
    by_cases h0 : l &&& eM W H = 0
    · rw [h0, grN_0]
      rw [show (1000000 : Nat) = 999999 + 1 from rfl, L_X11_fallsBy_65, i0, if_pos rfl, nandn]
    · have hle : l &&& eM W H < 2 ^ (W * H) := Nat.lt_of_le_of_lt Nat.and_le_left hl
      refine grow_m w b m l x hl 25 _ _ (by omega) ?_ h0 _ h0 hle (by omega)
      rw [Nat.and_comm l, Nat.and_assoc, Nat.and_self]
  · simp (disch := omega) only [L_X11_fallsBy_18, h26, nle, if_pos]
  · show L_X11_fallsBy_18 mi w (n + 1) (nI x) (nI l) (nI s) (nI k) = L_X11_fallsBy_18 mi w n (nI x) (nI l) (nI (s ||| if l.testBit k then (if rimB W H k then 1 <<< k else 0) else 0)) (nI (k + 1))
    cases hb : l.testBit k
    · simp (disch := omega) only [L_X11_fallsBy_18, h26, i0, i1, nle, nadd, n31, nshr, nor, nand, bit1, if_neg, hb]
      simp
    · cases hr : rimB W H k <;> simp (disch := omega) only [L_X11_fallsBy_18, h26, i0, i1, nle, nadd, n31, nshl, nshr, nor, nand, bit1, if_neg, hb, m_isRim w b m hk, hr, Option.bind] <;> simp [neq]
theorem m_openBy {mi : MI} (w : WS) {W H x : Nat} (b : BW W H) (m : MW mi W H) : F_X11_openBy mi w (nI x) = some (nI (openN W H x)) := by
  unfold F_X11_openBy
  rw [m_fallsBy w b m]
  show some (nI x ||| nI (fallN W H x)) = _
  rw [nor]
  rfl
/-- the sizes in a shop of the class -/
def CW (mi : MI) (i W H : Nat) : Prop := (mi 5 i 0 = nI W ∧ mi 5 i 1 = nI H) ∧ mi 5 i 7 = nI (aM W H) ∧ mi 5 i 8 = nI (lM W H) ∧ mi 5 i 9 = nI (rM W H) ∧ mi 5 i 10 = nI (eM W H)
theorem nush {a k : Nat} (ha : a < 2147483648) (hk : k < 32) : ushr (nI a) (nI k) = nI (a >>> k) := by
  unfold ushr
  have e : ∀ k, k < 32 → (((nI k).toUInt32 &&& Int32.toUInt32 31).toBitVec % 32).toNat = k := by decide +kernel
  rw [pk_ushrN (by omega) (nI k) k (e k hk), Nat.shiftRight_eq_div_pow]
theorem andn_le (a b : Nat) : andn a b ≤ a := by
  have h : andn a b = a &&& andn a b := by
    apply Nat.eq_of_testBit_eq
    intro i
    rw [Nat.testBit_and, tb_andn]
    cases a.testBit i <;> cases b.testBit i <;> rfl
  rw [h]
  exact Nat.and_le_left
theorem c_ri {mi : MI} {i W H x : Nat} (c : CW mi i W H) : (nI x &&& (mi 5 i 9 ^^^ -1)) <<< ((1 : Int32) &&& 31) = nI (riN W H x) := by
  unfold riN
  rw [c.2.2.2.1, nandn, i1, n31 (by omega), nshl _ (by omega)]
theorem c_bes {mi : MI} {i W H x : Nat} (b : BW W H) (c : CW mi i W H) (hx : x < 2 ^ (W * H)) : f_X6_beside mi i (nI x) = nI (besN W H x) := by
  obtain ⟨⟨hW, hW5⟩, hH, hH5⟩ := id b
  have hx2 := pw hx (cells_le hW5 hH5)
  have hy := andn_le x (lM W H)
  unfold f_X6_beside besN
  rw [c_ri c, c.2.2.1, c.1.1, c.2.1, nandn, i1, nush (by omega) (by omega), n31 (by omega), nshl _ (by omega), nush (by omega) (by omega), nor, nor, nor, nand]
theorem c_gr {mi : MI} {i W H am : Nat} (b : BW W H) (c : CW mi i W H) (ha : am < 2 ^ (W * H)) : ∀ n h, h < 2 ^ (W * H) → fGrown mi i (nI am) n (nI h) = nI (grN W H am n h) := by
  obtain ⟨⟨hW, hW5⟩, hH, hH5⟩ := id b
  have hC := cells_le hW5 hH5
  intro n
  induction n with
  | zero => intro h _; rfl
  | succ n ih =>
    intro h hh
    have h1 := pw hh hC
    have h3 : (h ||| besN W H h) &&& am < 2 ^ (W * H) := and_lt_r ha
    have h2 := pw h3 hC
    unfold fGrown grN
    rw [c_bes b c hh, nor, nand, ih _ h3]
    by_cases hst : (h ||| besN W H h) &&& am = h
    · rw [if_pos hst, hst, if_pos rfl]
    · rw [if_neg hst, if_neg (nne (by omega) (by omega) hst)]
/-- all that is not held (the class's way to what is open) -/
theorem c_open0 {mi : MI} {i W H x : Nat} (b : BW W H) (c : CW mi i W H) : f_X6_opened mi i (nI x) = nI (andn (aM W H) (grN W H (andn (aM W H) x) 25 (andn (aM W H) x &&& eM W H))) := by
  unfold f_X6_opened
  rw [c.2.1, c.2.2.2.2, nandn, nand, c_gr b c (andn_lt _ (aM_lt W H)) _ _ (Nat.lt_of_le_of_lt Nat.and_le_left (andn_lt _ (aM_lt W H))), nandn]
theorem andn_sw (a b c : Nat) : andn (andn a b) c = andn (andn a c) b := by
  apply Nat.eq_of_testBit_eq
  intro i
  rw [tb_andn, tb_andn, tb_andn, tb_andn]
  cases a.testBit i <;> cases b.testBit i <;> cases c.testBit i <;> rfl
theorem c_fall {mi : MI} {i W H x : Nat} (b : BW W H) (c : CW mi i W H) : f_X6_falling mi i (nI x) = nI (fallN W H x) := by
  unfold f_X6_falling
  rw [c_open0 b c, nandn, andn_sw]
  rfl
theorem gr_sub {W H am : Nat} : ∀ n h, h &&& am = h → grN W H am n h &&& am = grN W H am n h := by
  intro n
  induction n with
  | zero => intro h hh; exact hh
  | succ n ih =>
    intro h hh
    unfold grN
    split
    · exact hh
    · exact ih _ (by rw [Nat.and_assoc, Nat.and_self])
theorem tb_ge {a n i : Nat} (ha : a < 2 ^ n) (hi : n ≤ i) : a.testBit i = false := Nat.testBit_lt_two_pow (Nat.lt_of_lt_of_le ha (Nat.pow_le_pow_right (by omega) hi))
theorem aM_tb : ∀ W, W < 6 → ∀ H, H < 6 → ∀ k, k < W * H → (aM W H).testBit k = true := by decide +kernel
theorem open_eq {W H x : Nat} (hW : W ≤ 5) (hH : H ≤ 5) (hx : x < 2 ^ (W * H)) : andn (aM W H) (grN W H (andn (aM W H) x) 25 (andn (aM W H) x &&& eM W H)) = openN W H x := by
  have hsub := gr_sub (W := W) (H := H) (am := andn (aM W H) x) 25 (andn (aM W H) x &&& eM W H) (by rw [Nat.and_assoc, Nat.and_comm (eM W H), ← Nat.and_assoc, Nat.and_self])
  show _ = x ||| andn (andn (aM W H) x) (grN W H (andn (aM W H) x) 25 (andn (aM W H) x &&& eM W H))
  generalize grN W H (andn (aM W H) x) 25 (andn (aM W H) x &&& eM W H) = g at *
  apply Nat.eq_of_testBit_eq
  intro i
  have h1 : (g &&& andn (aM W H) x).testBit i = g.testBit i := by rw [hsub]
  rw [Nat.testBit_and, tb_andn] at h1
  rw [Nat.testBit_or, tb_andn, tb_andn, tb_andn]
  by_cases hi : i < W * H
  · have h2 := aM_tb W (by omega) H (by omega) i hi
    rw [h2] at h1 ⊢
    revert h1
    cases x.testBit i <;> cases g.testBit i <;> decide
  · have h2 : (aM W H).testBit i = false := tb_ge (aM_lt W H) (by omega)
    have h3 : x.testBit i = false := tb_ge hx (by omega)
    rw [h2, h3]
    rfl
theorem c_open {mi : MI} {i W H x : Nat} (b : BW W H) (c : CW mi i W H) (hx : x < 2 ^ (W * H)) : f_X6_opened mi i (nI x) = nI (openN W H x) := by
  rw [c_open0 b c, open_eq b.1.2 b.2.2 hx]
