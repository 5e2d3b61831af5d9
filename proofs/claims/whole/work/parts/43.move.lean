/-! SLIDES, FLIPS, TURNS on either side -/
theorem orN_from {g : Nat → Nat} (a : Nat) : ∀ n, foldN (fun k a => a ||| g k) a n = a ||| orN g n := by
  intro n
  induction n with
  | zero => exact (Nat.or_zero a).symm
  | succ n ih =>
    show foldN (fun k a => a ||| g k) a n ||| g n = a ||| (orN g n ||| g n)
    rw [ih, Nat.or_assoc]
theorem orN_lt {g : Nat → Nat} {m : Nat} : ∀ {n : Nat}, (∀ k, k < n → g k < 2 ^ m) → orN g n < 2 ^ m := by
  intro n
  induction n with
  | zero => intro _; exact Nat.two_pow_pos m
  | succ n ih => intro h; exact Nat.or_lt_two_pow (ih fun k hk => h k (by omega)) (h n (by omega))
theorem orN_congr {g h : Nat → Nat} {n : Nat} (e : ∀ k, k < n → g k = h k) : orN g n = orN h n := by
  induction n with
  | zero => rfl
  | succ n ih =>
    show orN g n ||| g n = orN h n ||| h n
    rw [ih fun k hk => e k (by omega), e n (by omega)]
theorem lin_fold {f : Nat → Nat} (h : Lin f) : ∀ n, Lin fun x => foldN (fun _ y => f y) x n := by
  intro n
  induction n with
  | zero => exact lin_id
  | succ n ih => exact lin_comp h ih
/-- slid to the right and down -/
def slN (W H x a d : Nat) : Nat := foldN (fun _ y => (y <<< W) &&& aM W H) (foldN (fun _ y => riN W H y) x a) d
theorem lin_sl (W H a d : Nat) : Lin fun x => slN W H x a d := lin_comp (f := fun y => foldN (fun _ y => (y <<< W) &&& aM W H) y d) (lin_fold (lin_and _ (lin_shl W lin_id)) d) (lin_fold lin_ri a)
theorem c_slid {mi : MI} (w : WS) {i W H x a d : Nat} (b : BW W H) (c : CW mi i W H) (ha : a < 5) (hd : d < 5) : F_X6_slid mi w i (nI x) (nI a) (nI d) = some (nI (slN W H x a d)) := by
  obtain ⟨⟨hW, hW5⟩, hH, hH5⟩ := id b
  unfold F_X6_slid slN
  have k2 : ∀ y, L_X6_slid_40 mi w 1000000 i (nI x) (nI a) (nI d) (nI y) (nI 0) = some (nI (foldN (fun _ y => (y <<< W) &&& aM W H) y d)) := fun y => by
    refine lp_up (L := fun n s k => L_X6_slid_40 mi w n i (nI x) (nI a) (nI d) (nI s) (nI k)) (N := d) (f := fun _ y => (y <<< W) &&& aM W H) (post := fun a => some (nI a)) (fun _ _ => True) (fun n s _ => ?_) (fun n k s hk _ => ⟨?_, trivial⟩) (F := 1000000) (by omega) y trivial
    · simp (disch := omega) only [L_X6_slid_40, nle, if_pos]
    · simp (disch := omega) only [L_X6_slid_40, i1, i5, c.1.1, c.2.1, nle, n31, nshl, nand, nadd, if_neg]
  refine (lp_up (L := fun n s k => L_X6_slid_6 mi w n i (nI x) (nI a) (nI d) (nI s) (nI k)) (N := a) (f := fun _ y => riN W H y) (post := fun y => some (nI (foldN (fun _ y => (y <<< W) &&& aM W H) y d))) (fun _ _ => True) (fun n s _ => ?_) (fun n k s hk _ => ⟨?_, trivial⟩) (F := 1000000) (by omega) x trivial)
  · simp (disch := omega) only [L_X6_slid_6, nle, if_pos]
    exact k2 s
  · show L_X6_slid_6 mi w (n + 1) i (nI x) (nI a) (nI d) (nI s) (nI k) = L_X6_slid_6 mi w n i (nI x) (nI a) (nI d) (nI (riN W H s)) (nI (k + 1))
    rw [L_X6_slid_6, if_neg (show ¬ nI a ≤ nI k by rw [nle (by omega) (by omega)]; omega), if_neg (show ¬ (5 : Int32) ≤ nI k by rw [i5, nle (by omega) (by omega)]; omega), c_ri c, i1, nadd]
def slB (W x a d c : Nat) : Nat := if a ≤ c % W ∧ d ≤ c / W then (if x.testBit (c - a - W * d) then 1 <<< c else 0) else 0
theorem sl_tab : ∀ W, W < 6 → ∀ H, H < 6 → ∀ a, a < 5 → ∀ d, d < 5 → ∀ k, k < W * H → slN W H (1 <<< k) a d = orN (slB W (1 <<< k) a d) (W * H) := by decide +kernel
theorem sl_eq {W H x a d : Nat} (hW : W ≤ 5) (hH : H ≤ 5) (ha : a < 5) (hd : d < 5) (hx : x < 2 ^ (W * H)) : slN W H x a d = orN (slB W x a d) (W * H) :=
  lin_ext (lin_sl W H a d) (lin_orN (g := fun c x => slB W x a d c) (fun c => lin_if _ (lin_sel _ _ lin_id)) _) (W * H) (fun k hk => sl_tab W (by omega) H (by omega) a ha d hd k hk) x hx
theorem bit_lt {c n : Nat} (h : c < n) : 1 <<< c < 2 ^ n := by
  rw [Nat.one_shiftLeft]
  exact Nat.pow_lt_pow_right (by omega) h
theorem sl_lt {W H x a d : Nat} (hW : W ≤ 5) (hH : H ≤ 5) (ha : a < 5) (hd : d < 5) (hx : x < 2 ^ (W * H)) : slN W H x a d < 2 ^ (W * H) := by
  rw [sl_eq hW hH ha hd hx]
  refine orN_lt fun k hk => ?_
  have := bit_lt hk
  have := Nat.two_pow_pos (W * H)
  unfold slB
  split
  · split <;> omega
  · omega
theorem m_slid {mi : MI} (w : WS) {W H x a d : Nat} (b : BW W H) (m : MW mi W H) (ha : a < 5) (hd : d < 5) (hx : x < 2 ^ (W * H)) : F_X11_slid mi w (nI x) (nI a) (nI d) = some (nI (slN W H x a d)) := by
  obtain ⟨⟨hW, hW5⟩, hH, hH5⟩ := id b
  obtain ⟨h24, h25, h26⟩ := id m
  have hC := cells_le hW5 hH5
  have hx2 := pw hx hC
  rw [sl_eq hW5 hH5 ha hd hx]
  unfold F_X11_slid
  refine lp_up (L := fun n s k => L_X11_slid_6 mi w n (nI x) (nI a) (nI d) (nI s) (nI k)) (N := W * H) (f := fun k y => y ||| slB W x a d k) (post := fun a => some (nI a)) (fun _ _ => True) (fun n s _ => ?_) (fun n k s hk _ => ⟨?_, trivial⟩) (F := 1000000) (by omega) 0 trivial
  · simp (disch := omega) only [L_X11_slid_6, h26, nle, if_pos]
  · have hm : k % W < W := Nat.mod_lt k hW
    have hdv : k / W ≤ k := Nat.div_le_self k W
    unfold slB
    by_cases h1 : k % W < a
    · simp (disch := omega) only [L_X11_slid_6, h24, h26, i0, i1, nle, nlt, neq, nrem, ndiv, n31, nshl, nor, nadd, ckT, if_neg, if_pos]
    · by_cases h2 : k / W < d
      · simp (disch := omega) only [L_X11_slid_6, h24, h26, i0, i1, nle, nlt, neq, nrem, ndiv, n31, nshl, nor, nadd, ckT, if_neg, if_pos]
      · have hk2 : a + W * d ≤ k := by
          have h3 := Nat.div_add_mod k W
          have h4 := Nat.mul_le_mul_left W (show d ≤ k / W by omega)
          omega
        rw [if_pos (by omega)]
        cases hb : x.testBit (k - a - W * d)
        · simp (disch := omega) only [L_X11_slid_6, h24, h26, i0, i1, nle, nlt, neq, nrem, ndiv, nsub, nmul, n31, nshl, nshr, nor, nand, nadd, ckT, if_neg, if_pos, bit1, hb]
          simp
        · simp (disch := omega) only [L_X11_slid_6, h24, h26, i0, i1, nle, nlt, neq, nrem, ndiv, nsub, nmul, n31, nshl, nshr, nor, nand, nadd, ckT, if_neg, if_pos, bit1, hb]
/-- flipped, turned -/
def flN (W H x : Nat) : Nat := orN (fun r => orN (fun q => (x >>> (r * W + q) &&& 1) <<< (r * W + W - 1 - q)) W) H
def tuN (W H x : Nat) : Nat := orN (fun c => (x >>> c &&& 1) <<< (W * H - 1 - c)) (W * H)
theorem lin_fl (W H : Nat) : Lin (flN W H) := lin_orN (fun r => lin_orN (fun q => lin_shl _ (lin_and _ (lin_shr _ lin_id))) _) _
theorem lin_tu (W H : Nat) : Lin (tuN W H) := lin_orN (fun r => lin_shl _ (lin_and _ (lin_shr _ lin_id))) _
theorem fl_tab : ∀ W, W < 6 → ∀ H, H < 6 → ∀ k, k < W * H → flN W H (1 <<< k) = orN (fun c => if (1 <<< k).testBit c then 1 <<< (c - c % W + W - 1 - c % W) else 0) (W * H) := by decide +kernel
theorem tu_tab : ∀ W, W < 6 → ∀ H, H < 6 → ∀ k, k < W * H → tuN W H (1 <<< k) = orN (fun c => if (1 <<< k).testBit c then 1 <<< (W * H - 1 - c) else 0) (W * H) := by decide +kernel
theorem fl_to : ∀ W, W < 6 → ∀ H, H < 6 → ∀ c, c < W * H → c - c % W + W - 1 - c % W < W * H := by decide +kernel
theorem fl_eq {W H x : Nat} (hW : W ≤ 5) (hH : H ≤ 5) (hx : x < 2 ^ (W * H)) : flN W H x = orN (fun c => if x.testBit c then 1 <<< (c - c % W + W - 1 - c % W) else 0) (W * H) :=
  lin_ext (lin_fl W H) (lin_orN (fun c => lin_sel c _ lin_id) _) (W * H) (fun k hk => fl_tab W (by omega) H (by omega) k hk) x hx
theorem tu_eq {W H x : Nat} (hW : W ≤ 5) (hH : H ≤ 5) (hx : x < 2 ^ (W * H)) : tuN W H x = orN (fun c => if x.testBit c then 1 <<< (W * H - 1 - c) else 0) (W * H) :=
  lin_ext (lin_tu W H) (lin_orN (fun c => lin_sel c _ lin_id) _) (W * H) (fun k hk => tu_tab W (by omega) H (by omega) k hk) x hx
theorem fl_lt {W H x : Nat} (hW : W ≤ 5) (hH : H ≤ 5) (hx : x < 2 ^ (W * H)) : flN W H x < 2 ^ (W * H) := by
  rw [fl_eq hW hH hx]
  refine orN_lt fun k hk => ?_
  have := bit_lt (fl_to W (by omega) H (by omega) k hk)
  have := Nat.two_pow_pos (W * H)
  split <;> omega
theorem tu_lt {W H x : Nat} (hW : W ≤ 5) (hH : H ≤ 5) (hx : x < 2 ^ (W * H)) : tuN W H x < 2 ^ (W * H) := by
  rw [tu_eq hW hH hx]
  refine orN_lt fun k hk => ?_
  have := bit_lt (show W * H - 1 - k < W * H by omega)
  have := Nat.two_pow_pos (W * H)
  split <;> omega
theorem m_turn {mi : MI} (w : WS) {W H x : Nat} (b : BW W H) (m : MW mi W H) (hx : x < 2 ^ (W * H)) : F_X11_turnedBy mi w (nI x) 1 = some (nI (tuN W H x)) := by
  obtain ⟨⟨hW, hW5⟩, hH, hH5⟩ := id b
  obtain ⟨h24, h25, h26⟩ := id m
  have hC := cells_le hW5 hH5
  have hx2 := pw hx hC
  rw [tu_eq hW5 hH5 hx]
  unfold F_X11_turnedBy
  refine lp_up (L := fun n s k => L_X11_turnedBy_5 mi w n (nI x) 1 (nI s) (nI k)) (N := W * H) (f := fun k y => y ||| if x.testBit k then 1 <<< (W * H - 1 - k) else 0) (post := fun a => some (nI a)) (fun _ _ => True) (fun n s _ => ?_) (fun n k s hk _ => ⟨?_, trivial⟩) (F := 1000000) (by omega) 0 trivial
  · simp (disch := omega) only [L_X11_turnedBy_5, h26, nle, if_pos]
  · cases hb : x.testBit k
    · simp (disch := omega) only [L_X11_turnedBy_5, h24, h26, i0, i1, nle, neq, nsub, n31, nshl, nshr, nor, nand, nadd, ckT, if_neg, if_pos, bit1, hb]
      simp [nor]
    · simp (disch := omega) only [L_X11_turnedBy_5, h24, h26, i0, i1, nle, neq, nsub, n31, nshl, nshr, nor, nand, nadd, ckT, if_neg, if_pos, bit1, hb]
theorem m_flip {mi : MI} (w : WS) {W H x : Nat} (b : BW W H) (m : MW mi W H) (hx : x < 2 ^ (W * H)) : F_X11_turnedBy mi w (nI x) 0 = some (nI (flN W H x)) := by
  obtain ⟨⟨hW, hW5⟩, hH, hH5⟩ := id b
  obtain ⟨h24, h25, h26⟩ := id m
  have hC := cells_le hW5 hH5
  have hx2 := pw hx hC
  rw [fl_eq hW5 hH5 hx]
  unfold F_X11_turnedBy
  refine lp_up (L := fun n s k => L_X11_turnedBy_5 mi w n (nI x) 0 (nI s) (nI k)) (N := W * H) (f := fun k y => y ||| if x.testBit k then 1 <<< (k - k % W + W - 1 - k % W) else 0) (post := fun a => some (nI a)) (fun _ _ => True) (fun n s _ => ?_) (fun n k s hk _ => ⟨?_, trivial⟩) (F := 1000000) (by omega) 0 trivial
  · simp (disch := omega) only [L_X11_turnedBy_5, h26, nle, if_pos]
  · have hm : k % W < W := Nat.mod_lt k hW
    have hm2 : k % W ≤ k := Nat.mod_le k W
    cases hb : x.testBit k
    · simp (disch := omega) only [L_X11_turnedBy_5, h24, h26, i0, i1, nle, neq, nsub, nrem, n31, nshl, nshr, nor, nand, nadd, ckT, if_neg, if_pos, bit1, hb]
      simp [nor]
    · simp (disch := omega) only [L_X11_turnedBy_5, h24, h26, i0, i1, nle, neq, nsub, nrem, n31, nshl, nshr, nor, nand, nadd, ckT, if_neg, if_pos, bit1, hb]
theorem c_turn {mi : MI} (w : WS) {i W H x : Nat} (b : BW W H) (c : CW mi i W H) (hx : x < 2 ^ (W * H)) : F_X6_turned mi w i (nI x) = some (nI (tuN W H x)) := by
  obtain ⟨⟨hW, hW5⟩, hH, hH5⟩ := id b
  have hC := cells_le hW5 hH5
  have hx2 := pw hx hC
  have hWC := W_le (W := W) hH
  unfold F_X6_turned
  rw [c.1.1, c.1.2, nmul, i1, nsub (by omega)]
  refine lp_up (L := fun n s k => L_X6_turned_17 mi w n i (nI x) (nI (W * H - 1)) (nI s) (nI k)) (N := W * H) (f := fun k y => y ||| (x >>> k &&& 1) <<< (W * H - 1 - k)) (post := fun a => some (nI a)) (fun _ _ => True) (fun n s _ => ?_) (fun n k s hk _ => ⟨?_, trivial⟩) (F := 1000000) (by omega) 0 trivial
  · simp (disch := omega) only [L_X6_turned_17, nlt, if_pos]
  · simp (disch := omega) only [L_X6_turned_17, i1, nlt, nsub, n31, nshl, nshr, nor, nand, nadd, if_neg]
theorem c_flip {mi : MI} (w : WS) {i W H x : Nat} (b : BW W H) (c : CW mi i W H) (hx : x < 2 ^ (W * H)) : F_X6_flipped mi w i (nI x) = some (nI (flN W H x)) := by
  obtain ⟨⟨hW, hW5⟩, hH, hH5⟩ := id b
  have hC := cells_le hW5 hH5
  have hx2 := pw hx hC
  unfold F_X6_flipped
  refine lp_up (L := fun n s k => L_X6_flipped_4 mi w n i (nI x) (nI s) (nI k)) (N := H) (f := fun r y => y ||| orN (fun q => (x >>> (r * W + q) &&& 1) <<< (r * W + W - 1 - q)) W) (post := fun a => some (nI a)) (fun _ _ => True) (fun n s _ => ?_) (fun n r s hk _ => ⟨?_, trivial⟩) (F := 1000000) (by omega) 0 trivial
  · simp (disch := omega) only [L_X6_flipped_4, c.1.2, nle, if_pos]
  · have hr : r * W + W ≤ W * H := by
      have := Nat.mul_le_mul_left W (show r + 1 ≤ H by omega)
      rw [Nat.mul_comm r W]
      rw [Nat.mul_succ] at this
      exact this
    simp (disch := omega) only [L_X6_flipped_4, c.1.2, nle, if_neg]
    refine (lp_up (L := fun n' s k => L_X6_flipped_15 mi w (fun i x1 x2 x3 => L_X6_flipped_4 mi w n i x1 x2 x3) n' i (nI x) (nI s) (nI r) (nI k)) (N := W) (f := fun q y => y ||| (x >>> (r * W + q) &&& 1) <<< (r * W + W - 1 - q)) (post := fun a => L_X6_flipped_4 mi w n i (nI x) (nI a) (nI (r + 1))) (fun _ _ => True) (fun n' s _ => ?_) (fun n' k s hk _ => ⟨?_, trivial⟩) (F := 1000000) (by omega) s trivial).trans ?_
    · simp (disch := omega) only [L_X6_flipped_15, c.1.1, i1, nle, nadd, if_pos]
    · simp (disch := omega) only [L_X6_flipped_15, c.1.1, i1, nle, nadd, nsub, nmul, n31, nshl, nshr, nor, nand, if_neg]
    · rw [orN_from]
