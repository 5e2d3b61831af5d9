/-! EDGE -/
theorem sN_add (f g : Nat → Nat) : ∀ n, sN (fun k => f k + g k) n = sN f n + sN g n := by
  intro n
  induction n with
  | zero => rfl
  | succ n ih => rw [sN_s, sN_s, sN_s, ih]; omega
theorem pop_dis {A B : Nat} (h : A &&& B = 0) : popN (A ||| B) = popN A + popN B := by
  unfold popN
  rw [← sN_add]
  refine sN_congr fun k _ => ?_
  have := congrArg (fun z => Nat.testBit z k) h
  simp only [Nat.testBit_and, Nat.zero_testBit] at this
  unfold bN
  rw [Nat.testBit_or]
  cases a : A.testBit k <;> cases b : B.testBit k <;> simp [a, b] at this ⊢
theorem pop_z : popN 0 = 0 := (pop_0 (by omega)).mpr rfl
theorem pop_one {c X : Nat} (hc : c < 25) : popN (1 <<< c &&& X) = if X.testBit c then 1 else 0 := by
  cases q : X.testBit c
  · have : 1 <<< c &&& X = 0 := eq_tb fun i => by
      rw [Nat.testBit_and, one_tb2, Nat.zero_testBit]
      by_cases e : c = i
      · subst e; simp [q]
      · simp [e]
    rw [this, pop_z]; rfl
  · have : 1 <<< c &&& X = 0 ||| 1 <<< c := eq_tb fun i => by
      rw [Nat.testBit_and, Nat.zero_or, one_tb2]
      by_cases e : c = i
      · subst e; simp [q]
      · simp [e]
    rw [this, pop_or (Nat.two_pow_pos c) hc, pop_z]; rfl
def sA (W x y : Nat) : Nat := if 1 ≤ x then 1 <<< (y * W + (x - 1)) else 0
def sB (W x y : Nat) : Nat := if x + 1 < W then 1 <<< (y * W + (x + 1)) else 0
def sC (W x y : Nat) : Nat := if 1 ≤ y then 1 <<< ((y - 1) * W + x) else 0
def sD (W H x y : Nat) : Nat := if y + 1 < H then 1 <<< ((y + 1) * W + x) else 0
def besB (W H x y : Nat) : Bool := Nat.beq (besN W H (1 <<< (y * W + x))) (((sA W x y ||| sB W x y) ||| sC W x y) ||| sD W H x y) && Nat.beq (sA W x y &&& sB W x y) 0 && Nat.beq ((sA W x y ||| sB W x y) &&& sC W x y) 0 && Nat.beq (((sA W x y ||| sB W x y) ||| sC W x y) &&& sD W H x y) 0
theorem besB_all : ((List.range 6).all fun W => (List.range 6).all fun H => (List.range W).all fun x => (List.range H).all fun y => besB W H x y) = true := by decide +kernel
theorem bes_one (W : Nat) (hW : W < 6) (H : Nat) (hH : H < 6) (x : Nat) (hx : x < W) (y : Nat) (hy : y < H) : besN W H (1 <<< (y * W + x)) = ((sA W x y ||| sB W x y) ||| sC W x y) ||| sD W H x y ∧ sA W x y &&& sB W x y = 0 ∧ (sA W x y ||| sB W x y) &&& sC W x y = 0 ∧ ((sA W x y ||| sB W x y) ||| sC W x y) &&& sD W H x y = 0 := by
  have h := List.all_eq_true.mp (List.all_eq_true.mp (List.all_eq_true.mp (List.all_eq_true.mp besB_all W (List.mem_range.mpr hW)) H (List.mem_range.mpr hH)) x (List.mem_range.mpr hx)) y (List.mem_range.mpr hy)
  unfold besB at h
  rw [Bool.and_eq_true, Bool.and_eq_true, Bool.and_eq_true] at h
  exact ⟨Nat.eq_of_beq_eq_true h.1.1.1, Nat.eq_of_beq_eq_true h.1.1.2, Nat.eq_of_beq_eq_true h.1.2, Nat.eq_of_beq_eq_true h.2⟩
theorem and_0 {A B X : Nat} (h : A &&& B = 0) : (A &&& X) &&& (B &&& X) = 0 := eq_tb fun i => by
  have := congrArg (fun z => Nat.testBit z i) h
  simp only [Nat.testBit_and, Nat.zero_testBit] at this
  rw [Nat.testBit_and, Nat.testBit_and, Nat.testBit_and, Nat.zero_testBit]
  cases a : A.testBit i <;> cases b : B.testBit i <;> simp [a, b] at this ⊢
theorem or_and (A B X : Nat) : (A ||| B) &&& X = (A &&& X) ||| (B &&& X) := eq_tb fun i => by
  rw [Nat.testBit_and, Nat.testBit_or, Nat.testBit_or, Nat.testBit_and, Nat.testBit_and]
  cases A.testBit i <;> cases B.testBit i <;> cases X.testBit i <;> decide
theorem bes_pop {W H x y X : Nat} (hW : W < 6) (hH : H < 6) (hx : x < W) (hy : y < H) : popN (besN W H (1 <<< (y * W + x)) &&& X) = popN (sA W x y &&& X) + popN (sB W x y &&& X) + popN (sC W x y &&& X) + popN (sD W H x y &&& X) := by
  obtain ⟨e, e1, e2, e3⟩ := bes_one W hW H hH x hx y hy
  rw [e, or_and, pop_dis (and_0 e3), or_and _ (sC W x y), pop_dis (and_0 e2), or_and, pop_dis (and_0 e1)]
theorem side_A {W X x y : Nat} (h : y * W + x < 25) : popN (sA W x y &&& X) ≤ 1 ∧ (popN (sA W x y &&& X) = 1 ↔ 1 ≤ x ∧ X.testBit (y * W + (x - 1)) = true) := by
  unfold sA
  by_cases q : 1 ≤ x
  · rw [if_pos q, pop_one (by omega)]
    cases X.testBit (y * W + (x - 1)) <;> simp [q]
  · rw [if_neg q, Nat.zero_and, pop_z]
    simp [q]
theorem side_B {W X x y : Nat} (h : x + 1 < W → y * W + (x + 1) < 25) : popN (sB W x y &&& X) ≤ 1 ∧ (popN (sB W x y &&& X) = 1 ↔ x + 1 < W ∧ X.testBit (y * W + (x + 1)) = true) := by
  unfold sB
  by_cases q : x + 1 < W
  · rw [if_pos q, pop_one (h q)]
    cases X.testBit (y * W + (x + 1)) <;> simp [q]
  · rw [if_neg q, Nat.zero_and, pop_z]
    simp [q]
theorem side_C {W X x y : Nat} (h : (y - 1) * W + x < 25) : popN (sC W x y &&& X) ≤ 1 ∧ (popN (sC W x y &&& X) = 1 ↔ 1 ≤ y ∧ X.testBit ((y - 1) * W + x) = true) := by
  unfold sC
  by_cases q : 1 ≤ y
  · rw [if_pos q, pop_one (by omega)]
    cases X.testBit ((y - 1) * W + x) <;> simp [q]
  · rw [if_neg q, Nat.zero_and, pop_z]
    simp [q]
theorem side_D {W H X x y : Nat} (h : y + 1 < H → (y + 1) * W + x < 25) : popN (sD W H x y &&& X) ≤ 1 ∧ (popN (sD W H x y &&& X) = 1 ↔ y + 1 < H ∧ X.testBit ((y + 1) * W + x) = true) := by
  unfold sD
  by_cases q : y + 1 < H
  · rw [if_pos q, pop_one (h q)]
    cases X.testBit ((y + 1) * W + x) <;> simp [q]
  · rw [if_neg q, Nat.zero_and, pop_z]
    simp [q]
def edN (W H X i : Nat) : Nat := if X.testBit i then 4 - popN (besN W H (1 <<< i) &&& X) else 0
theorem m_edge {m : MI} (w : WS) {W H X : Nat} (b : BW W H) (mw : MW m W H) (hX : X < 33554432) : F_X11_edge m w (nI X) = some (nI (sN (edN W H X) (W * H))) := by
  have hC := cells_le b.1.2 b.2.2
  rw [F_X11_edge]
  refine lp_up (L := fun f a k => L_X11_edge_4 m w f (nI X) (nI a) (nI k)) (N := W * H) (f := fun k a => a + edN W H X k) (post := fun a => some (nI a)) (fun _ _ => True) (fun f a _ => ?_) (fun f k a hk _ => ⟨?_, trivial⟩) (F := 1000000) (by omega) 0 trivial
  · show L_X11_edge_4 m w (f + 1) (nI X) (nI a) (nI (W * H)) = _
    rw [L_X11_edge_4, mw.2.2, if_pos (show nI (W * H) ≤ nI (W * H) by rw [nle (by omega) (by omega)]; omega)]
  · show L_X11_edge_4 m w (f + 1) (nI X) (nI a) (nI k) = L_X11_edge_4 m w f (nI X) (nI (a + edN W H X k)) (nI (k + 1))
    have e1 : (((nI X >>> (nI k &&& 31)) &&& 1) = 1) = (X.testBit k = true) := by
      rw [n31 (by omega), nshr (by omega) (by omega), show (1 : Int32) = nI 1 from rfl, nand, bit1]
    rw [L_X11_edge_4, if_neg (show ¬ m 10 0 26 ≤ nI k by rw [mw.2.2, nle (by omega) (by omega)]; omega), show nI k + 1 = nI (k + 1) from nI_add k 1]
    by_cases hb : X.testBit k = true
    · have hbs := bes_pop (W := W) (H := H) (x := k % W) (y := k / W) (X := X) (by have := b.1.2; omega) (by have := b.2.2; omega) (Nat.mod_lt _ b.1.1) (by rw [Nat.div_lt_iff_lt_mul b.1.1, Nat.mul_comm]; exact hk)
      rw [show k / W * W + k % W = k by rw [Nat.mul_comm]; exact Nat.div_add_mod k W] at hbs
      have hl : k / W * W + k % W = k := by rw [Nat.mul_comm]; exact Nat.div_add_mod k W
      have hxm := Nat.mod_lt k b.1.1
      have hym : k / W < H := by rw [Nat.div_lt_iff_lt_mul b.1.1, Nat.mul_comm]; exact hk
      have p1 := (side_A (X := X) (W := W) (x := k % W) (y := k / W) (by omega)).1
      have p2 := (side_B (X := X) (W := W) (x := k % W) (y := k / W) (fun h => by have := cell_lt h hym; omega)).1
      have p3 := (side_C (X := X) (W := W) (x := k % W) (y := k / W) (by have : (k / W - 1) * W ≤ k / W * W := Nat.mul_le_mul_right W (Nat.sub_le _ _); omega)).1
      have p5 := (side_D (X := X) (W := W) (H := H) (x := k % W) (y := k / W) (fun h => by have := cell_lt hxm h; omega)).1
      have p4 : popN (besN W H (1 <<< k) &&& X) ≤ 4 := by
        rw [hbs]
        omega
      have hbx := pw (show besN W H (1 <<< k) &&& X < 2 ^ (W * H) from Nat.lt_of_le_of_lt Nat.and_le_left (bes_lt W H _)) hC
      have hx2 : besN W H (1 <<< k) &&& X < 33554432 := hbx
      rw [if_pos (by rw [e1]; exact hb), shc (by omega), m_besides w b.1.1 b.1.2 b.2.1 b.2.2 mw.1 mw.2.2 (bit_lt hk), Option.bind_some, nand, m_ones m w hx2, Option.bind_some, show (4 : Int32) = nI 4 from rfl, nsub p4, nadd]
      rw [show edN W H X k = 4 - popN (besN W H (1 <<< k) &&& X) from if_pos hb]
    · rw [if_neg (by rw [e1]; exact hb), show edN W H X k = 0 from if_neg hb]
      rfl
theorem b2not {T : Prop} [Decidable T] {a : Nat} (h1 : a ≤ 1) (h : T ↔ a = 1) : b2 (¬ T) = nI (1 - a) := by
  by_cases q : T
  · rw [b2_neg (fun z => z q), h.mp q]; rfl
  · rw [b2_pos q, show a = 0 by have z : ¬ a = 1 := fun z => q (h.mpr z); omega]; rfl
theorem c_edge {mi : MI} (w : WS) {i W H X : Nat} (b : BW W H) (c : CW mi i W H) (hX : X < 33554432) : F_X1_edge mi w i (nI X) = some (nI (sN (edN W H X) (W * H))) := by
  have hC := cells_le b.1.2 b.2.2
  have hW5 := b.1.2
  have hH5 := b.2.2
  have inner : ∀ (k4 : Nat → Int32 → Int32 → Int32 → Option Int32) y, y < H → ∀ r f x, x + r = W → r < f → L_X1_edge_15 mi w k4 f i (nI X) (nI (sN (edN W H X) (y * W + x))) (nI y) (nI x) = k4 i (nI X) (nI (sN (edN W H X) ((y + 1) * W))) (nI (y + 1)) := by
    intro k4 y hy r
    induction r with
    | zero =>
      intro f x hx hf
      obtain ⟨f, rfl⟩ : ∃ m, f = m + 1 := ⟨f - 1, by omega⟩
      have : x = W := by omega
      subst this
      rw [L_X1_edge_15, if_pos (show mi 5 i 0 ≤ nI x by rw [c.1.1, nle (by omega) (by omega)]; omega), show nI y + 1 = nI (y + 1) from nI_add y 1, Nat.add_mul, Nat.one_mul]
    | succ r ih =>
      intro f x hx hf
      obtain ⟨f, rfl⟩ : ∃ m, f = m + 1 := ⟨f - 1, by omega⟩
      have hxW : x < W := by omega
      have hin := at_in b c hX hxW hy
      have hl := cell_lt hxW hy
      have nx := ih f (x + 1) (by omega) (by omega)
      rw [show y * W + (x + 1) = y * W + x + 1 from rfl, sN_s] at nx
      have hc1 : (y - 1) * W ≤ y * W := Nat.mul_le_mul_right W (Nat.sub_le _ _)
      have p1 := side_A (X := X) (W := W) (x := x) (y := y) (by omega)
      have p2 := side_B (X := X) (W := W) (x := x) (y := y) (fun h => by have := cell_lt h hy; omega)
      have p3 := side_C (X := X) (W := W) (x := x) (y := y) (by omega)
      have p4 := side_D (X := X) (W := W) (H := H) (x := x) (y := y) (fun h => by have := cell_lt hxW h; omega)
      have t1 : aT mi i X (nI x - 1) (nI y) ↔ popN (sA W x y &&& X) = 1 := by
        rw [p1.2]
        rcases x with _ | z
        · exact ⟨fun q => absurd q at_lo, fun q => absurd q.1 (by omega)⟩
        · rw [m1z, at_in b c hX (show z < W by omega) hy]
          exact ⟨fun q => ⟨by omega, q⟩, fun q => q.2⟩
      have t2 : aT mi i X (nI (x + 1)) (nI y) ↔ popN (sB W x y &&& X) = 1 := by
        rw [p2.2]
        by_cases q : x + 1 < W
        · rw [at_in b c hX q hy]
          exact ⟨fun z => ⟨q, z⟩, fun z => z.2⟩
        · rw [show x + 1 = W by omega]
          exact ⟨fun z => absurd z (at_hi b c), fun z => absurd z.1 (by omega)⟩
      have t3 : aT mi i X (nI x) (nI y - 1) ↔ popN (sC W x y &&& X) = 1 := by
        rw [p3.2]
        rcases y with _ | z
        · exact ⟨fun q => absurd q at_lo2, fun q => absurd q.1 (by omega)⟩
        · rw [m1z, at_in b c hX hxW (show z < H by omega)]
          exact ⟨fun q => ⟨by omega, q⟩, fun q => q.2⟩
      have t4 : aT mi i X (nI x) (nI (y + 1)) ↔ popN (sD W H x y &&& X) = 1 := by
        rw [p4.2]
        by_cases q : y + 1 < H
        · rw [at_in b c hX hxW q]
          exact ⟨fun z => ⟨q, z⟩, fun z => z.2⟩
        · rw [show y + 1 = H by omega]
          exact ⟨fun z => absurd z (at_hi2 b c), fun z => absurd z.1 (by omega)⟩
      have b1 := b2not p1.1 t1
      have b2' := b2not p2.1 t2
      have b3 := b2not p3.1 t3
      have b4 := b2not p4.1 t4
      have ed : X.testBit (y * W + x) = true → edN W H X (y * W + x) = (1 - popN (sA W x y &&& X)) + (1 - popN (sB W x y &&& X)) + (1 - popN (sC W x y &&& X)) + (1 - popN (sD W H x y &&& X)) := by
        intro hb
        rw [show edN W H X (y * W + x) = 4 - popN (besN W H (1 <<< (y * W + x)) &&& X) from if_pos hb, bes_pop (by omega) (by omega) hxW hy]
        have := p1.1
        have := p2.1
        have := p3.1
        have := p4.1
        omega
      rw [L_X1_edge_15, if_neg (show ¬ mi 5 i 0 ≤ nI x by rw [c.1.1, nle (by omega) (by omega)]; omega), show nI x + 1 = nI (x + 1) from nI_add x 1, show nI y + 1 = nI (y + 1) from nI_add y 1]
      by_cases hb : X.testBit (y * W + x) = true
      · rw [if_pos (show aT mi i X (nI x) (nI y) from hin.mpr hb)]
        rw [ed hb] at nx
        have e0 : ((((nI (sN (edN W H X) (y * W + x)) + b2 (¬ aT mi i X (nI x - 1) (nI y))) + b2 (¬ aT mi i X (nI (x + 1)) (nI y))) + b2 (¬ aT mi i X (nI x) (nI y - 1))) + b2 (¬ aT mi i X (nI x) (nI (y + 1)))) = nI (sN (edN W H X) (y * W + x) + ((1 - popN (sA W x y &&& X)) + (1 - popN (sB W x y &&& X)) + (1 - popN (sC W x y &&& X)) + (1 - popN (sD W H x y &&& X)))) := by
          rw [b1, b2', b3, b4, nadd, nadd, nadd, nadd]
          congr 1
          omega
        rw [← e0] at nx
        exact nx
      · rw [if_neg (show ¬ aT mi i X (nI x) (nI y) from fun q => hb (hin.mp q))]
        rw [show edN W H X (y * W + x) = 0 from if_neg hb] at nx
        exact nx
  have outer : ∀ r f y, y + r = H → r < f → L_X1_edge_4 mi w f i (nI X) (nI (sN (edN W H X) (y * W))) (nI y) = some (nI (sN (edN W H X) (W * H))) := by
    intro r
    induction r with
    | zero =>
      intro f y hy hf
      obtain ⟨f, rfl⟩ : ∃ m, f = m + 1 := ⟨f - 1, by omega⟩
      have : y = H := by omega
      subst this
      rw [L_X1_edge_4, if_pos (show mi 5 i 1 ≤ nI y by rw [c.1.2, nle (by omega) (by omega)]; omega), Nat.mul_comm]
    | succ r ih =>
      intro f y hy hf
      obtain ⟨f, rfl⟩ : ∃ m, f = m + 1 := ⟨f - 1, by omega⟩
      rw [L_X1_edge_4, if_neg (show ¬ mi 5 i 1 ≤ nI y by rw [c.1.2, nle (by omega) (by omega)]; omega)]
      exact (inner (fun i0 x1 x2 x3 => L_X1_edge_4 mi w f i0 x1 x2 x3) y (by omega) W 1000000 0 (by omega) (by omega)).trans (ih f (y + 1) (by omega) (by omega))
  rw [F_X1_edge]
  have := outer H 1000000 0 (by omega) (by omega)
  rw [Nat.zero_mul] at this
  exact this
