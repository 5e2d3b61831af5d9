/-! FEED -/
def ftF (m : MI) (n : Nat) (f : Nat → Int32) (k : Nat) : MI := fun c i p => if c = 7 ∧ i = 0 ∧ p = 1 then nI (n + k) else if c = 20 ∧ i = 0 ∧ n ≤ p ∧ p < n + k then f (p - n) else m c i p
def fmF (m : MI) (n : Nat) (f : Nat → Int32) (k : Nat) : MI := fun c i p => if c = 51 ∧ i = 0 ∧ p = 0 then nI (n + k) else if c = 50 ∧ i = 0 ∧ n ≤ p ∧ p < n + k then f (p - n) else m c i p
theorem ft_0 {m : MI} {n : Nat} {f : Nat → Int32} (h : m 7 0 1 = nI n) : ftF m n f 0 = m := by
  funext c i p
  unfold ftF
  by_cases e : c = 7 ∧ i = 0 ∧ p = 1
  · obtain ⟨rfl, rfl, rfl⟩ := e
    rw [if_pos ⟨rfl, rfl, rfl⟩, h]; rfl
  · rw [if_neg e, if_neg (by omega)]
theorem fm_0 {m : MI} {n : Nat} {f : Nat → Int32} (h : m 51 0 0 = nI n) : fmF m n f 0 = m := by
  funext c i p
  unfold fmF
  by_cases e : c = 51 ∧ i = 0 ∧ p = 0
  · obtain ⟨rfl, rfl, rfl⟩ := e
    rw [if_pos ⟨rfl, rfl, rfl⟩, h]; rfl
  · rw [if_neg e, if_neg (by omega)]
theorem ft_u {m : MI} {n k : Nat} {f : Nat → Int32} : u3 (u3 (ftF m n f k) 20 0 (n + k) (f k)) 7 0 1 (nI (n + k + 1)) = ftF m n f (k + 1) := by
  funext c i p
  unfold u3 ftF
  by_cases e : c = 7 ∧ i = 0 ∧ p = 1
  · rw [if_pos e, if_pos e]; rfl
  · rw [if_neg e, if_neg e, if_neg e]
    by_cases e1 : c = 20 ∧ i = 0 ∧ p = n + k
    · rw [if_pos e1, if_pos (by omega), e1.2.2, Nat.add_sub_cancel_left]
    · rw [if_neg e1]
      by_cases e2 : c = 20 ∧ i = 0 ∧ n ≤ p ∧ p < n + k
      · rw [if_pos e2, if_pos (by omega)]
      · rw [if_neg e2, if_neg (by omega)]
theorem fm_u {m : MI} {n k : Nat} {f : Nat → Int32} : u3 (u3 (fmF m n f k) 50 0 (n + k) (f k)) 51 0 0 (nI (n + k + 1)) = fmF m n f (k + 1) := by
  funext c i p
  unfold u3 fmF
  by_cases e : c = 51 ∧ i = 0 ∧ p = 0
  · rw [if_pos e, if_pos e]; rfl
  · rw [if_neg e, if_neg e, if_neg e]
    by_cases e1 : c = 50 ∧ i = 0 ∧ p = n + k
    · rw [if_pos e1, if_pos (by omega), e1.2.2, Nat.add_sub_cancel_left]
    · rw [if_neg e1]
      by_cases e2 : c = 50 ∧ i = 0 ∧ n ≤ p ∧ p < n + k
      · rw [if_pos e2, if_pos (by omega)]
      · rw [if_neg e2, if_neg (by omega)]
theorem ft_7 {m : MI} {n k : Nat} {f : Nat → Int32} : ftF m n f k 7 0 1 = nI (n + k) := if_pos ⟨rfl, rfl, rfl⟩
theorem fm_51 {m : MI} {n k : Nat} {f : Nat → Int32} : fmF m n f k 51 0 0 = nI (n + k) := if_pos ⟨rfl, rfl, rfl⟩
theorem ft_1 {w : WS} {m : MI} {n k : Nat} {f : Nat → Int32} {x y : Int32} (hn : n + k < 600) (hy : ¬ y < 0) (hf : f k = ushr x y &&& 255) (z : Nat) : L_X8_append_3 w (z + 1) (ftF m n f k) 0 x y = L_X8_append_3 w z (ftF m n f (k + 1)) 0 x (y + (-8)) := by
  rw [L_X8_append_3, if_neg hy, ft_7, show (600 : Int32) = nI 600 from rfl]
  simp only [nle (show 600 < 2147483648 by omega) (show n + k < 2147483648 by omega)]
  rw [if_neg (by omega), ck_in (by omega) (by omega), ncl (by omega), lt_e, ← hf, u3_n (by omega), ft_7, show nI (n + k) + 1 = nI (n + k + 1) from nI_add _ 1, ft_u]
theorem fm_1 {w : WS} {m : MI} {n k : Nat} {f : Nat → Int32} {x y : Int32} (hn : n + k < 600) (hy : ¬ y < 0) (hf : f k = vp_nar .byte ((x >>> (y &&& 31)).toInt8.toInt32)) (z : Nat) : L_X11_four_3 w (z + 1) (fmF m n f k) x y = L_X11_four_3 w z (fmF m n f (k + 1)) x (y + (-8)) := by
  rw [L_X11_four_3, if_neg hy, fm_51, ck_in (show n + k < 2400 by omega) (by omega), ncl (by omega), lt_e, lt_e, ← hf, u3_n (by omega), fm_51, show nI (n + k) + 1 = nI (n + k + 1) from nI_add _ 1, fm_u]
def sh (b : Nat) : Int32 := if b = 0 then 24 else if b = 1 then 16 else if b = 2 then 8 else 0
theorem ft_4 {w : WS} {m : MI} {n k : Nat} {f : Nat → Int32} {x : Int32} (hn : n + k + 4 ≤ 600) (hf : ∀ b, b < 4 → f (k + b) = ushr x (sh b) &&& 255) : F_X8_append (ftF m n f k) w 0 x = some (ftF m n f (k + 4)) := by
  have key : ∀ z, L_X8_append_3 w (z + 5) (ftF m n f k) 0 x 24 = some (ftF m n f (k + 4)) := by
    intro z
    have s0 : L_X8_append_3 w (z + 5) (ftF m n f k) 0 x 24 = L_X8_append_3 w (z + 4) (ftF m n f (k + 1)) 0 x 16 := by
      have := ft_1 (w := w) (m := m) (n := n) (k := k) (f := f) (x := x) (y := 24) (by omega) (by decide) (hf 0 (by omega)) (z + 4)
      rwa [show (24 : Int32) + (-8) = 16 by decide] at this
    have s1 : L_X8_append_3 w (z + 4) (ftF m n f (k + 1)) 0 x 16 = L_X8_append_3 w (z + 3) (ftF m n f (k + 2)) 0 x 8 := by
      have := ft_1 (w := w) (m := m) (n := n) (k := (k + 1)) (f := f) (x := x) (y := 16) (by omega) (by decide) (hf 1 (by omega)) (z + 3)
      rwa [show (16 : Int32) + (-8) = 8 by decide] at this
    have s2 : L_X8_append_3 w (z + 3) (ftF m n f (k + 2)) 0 x 8 = L_X8_append_3 w (z + 2) (ftF m n f (k + 3)) 0 x 0 := by
      have := ft_1 (w := w) (m := m) (n := n) (k := (k + 2)) (f := f) (x := x) (y := 8) (by omega) (by decide) (hf 2 (by omega)) (z + 2)
      rwa [show (8 : Int32) + (-8) = 0 by decide] at this
    have s3 : L_X8_append_3 w (z + 2) (ftF m n f (k + 3)) 0 x 0 = L_X8_append_3 w (z + 1) (ftF m n f (k + 4)) 0 x (-8) := by
      have := ft_1 (w := w) (m := m) (n := n) (k := (k + 3)) (f := f) (x := x) (y := 0) (by omega) (by decide) (hf 3 (by omega)) (z + 1)
      rwa [show (0 : Int32) + (-8) = (-8) by decide] at this
    rw [s0, s1, s2, s3, L_X8_append_3, if_pos (by decide)]
  rw [F_X8_append]
  exact key 999995
theorem fm_4 {w : WS} {m : MI} {n k : Nat} {f : Nat → Int32} {x : Int32} (hn : n + k + 4 ≤ 600) (hf : ∀ b, b < 4 → f (k + b) = vp_nar .byte ((x >>> (sh b &&& 31)).toInt8.toInt32)) : F_X11_four (fmF m n f k) w x = some (fmF m n f (k + 4)) := by
  have key : ∀ z, L_X11_four_3 w (z + 5) (fmF m n f k) x 24 = some (fmF m n f (k + 4)) := by
    intro z
    have s0 : L_X11_four_3 w (z + 5) (fmF m n f k) x 24 = L_X11_four_3 w (z + 4) (fmF m n f (k + 1)) x 16 := by
      have := fm_1 (w := w) (m := m) (n := n) (k := k) (f := f) (x := x) (y := 24) (by omega) (by decide) (hf 0 (by omega)) (z + 4)
      rwa [show (24 : Int32) + (-8) = 16 by decide] at this
    have s1 : L_X11_four_3 w (z + 4) (fmF m n f (k + 1)) x 16 = L_X11_four_3 w (z + 3) (fmF m n f (k + 2)) x 8 := by
      have := fm_1 (w := w) (m := m) (n := n) (k := (k + 1)) (f := f) (x := x) (y := 16) (by omega) (by decide) (hf 1 (by omega)) (z + 3)
      rwa [show (16 : Int32) + (-8) = 8 by decide] at this
    have s2 : L_X11_four_3 w (z + 3) (fmF m n f (k + 2)) x 8 = L_X11_four_3 w (z + 2) (fmF m n f (k + 3)) x 0 := by
      have := fm_1 (w := w) (m := m) (n := n) (k := (k + 2)) (f := f) (x := x) (y := 8) (by omega) (by decide) (hf 2 (by omega)) (z + 2)
      rwa [show (8 : Int32) + (-8) = 0 by decide] at this
    have s3 : L_X11_four_3 w (z + 2) (fmF m n f (k + 3)) x 0 = L_X11_four_3 w (z + 1) (fmF m n f (k + 4)) x (-8) := by
      have := fm_1 (w := w) (m := m) (n := n) (k := (k + 3)) (f := f) (x := x) (y := 0) (by omega) (by decide) (hf 3 (by omega)) (z + 1)
      rwa [show (0 : Int32) + (-8) = (-8) by decide] at this
    rw [s0, s1, s2, s3, L_X11_four_3, if_pos (by decide)]
  rw [F_X11_four]
  exact key 999995
theorem sh_255 (x : Int32) {b : Nat} (hb : b < 4) : ushr x (sh b) &&& 255 = vp_nar .byte ((x >>> (sh b &&& 31)).toInt8.toInt32) &&& 255 := by
  rw [nb_255, ← vp_nar_byte, nb_255]
  have g : ∀ t : Nat, t ≤ 24 → (x.toBitVec >>> t) &&& 255#32 = (x.toBitVec.sshiftRight t) &&& 255#32 := by
    intro t ht
    apply BitVec.eq_of_getLsbD_eq
    intro i hi
    rw [BitVec.getLsbD_and, BitVec.getLsbD_and]
    have h8 : ∀ i, i < 32 → 8 ≤ i → (255#32).getLsbD i = false := by decide
    by_cases h : i < 8
    · rw [BitVec.getLsbD_ushiftRight, BitVec.getLsbD_sshiftRight]
      simp [show ¬ 32 ≤ i by omega, show t + i < 32 by omega]
    · rw [h8 i hi (by omega), Bool.and_false, Bool.and_false]
  apply Int32.toBitVec_inj.mp
  rcases (by omega : b = 0 ∨ b = 1 ∨ b = 2 ∨ b = 3) with rfl | rfl | rfl | rfl
  · exact g 24 (by omega)
  · exact g 16 (by omega)
  · exact g 8 (by omega)
  · exact g 0 (by omega)
def wdF (x1 x2 x3 x4 x5 : Int32) (k : Nat) : Int32 := if k < 4 then x1 else if k < 8 then x2 else if k < 12 then x3 else if k < 16 then x4 else x5
theorem op_feed {mi : MI} {w : WS} (I : Inv mi w) (x1 : Int32) (x2 : Int32) (x3 : Int32) (x4 : Int32) (x5 : Int32) : ∃ c, F_X10_feed mi w x1 x2 x3 x4 x5 = some c ∧ ∃ e, F_X11_feed c.2 w x1 x2 x3 x4 x5 = some e ∧ c.1 = e.1 ∧ Inv e.2 w := by
  obtain ⟨⟨⟨n, h1, h2, h3, h4⟩, h5, cn, h7⟩, h8⟩ := I
  have I : Inv mi w := ⟨⟨⟨n, h1, h2, h3, h4⟩, h5, cn, h7⟩, h8⟩
  by_cases hn : n + 20 ≤ 600
  · obtain ⟨f, ef⟩ : ∃ f : Nat → Int32, f = fun q => ushr (wdF x1 x2 x3 x4 x5 q) (sh (q % 4)) &&& 255 := ⟨_, rfl⟩
    obtain ⟨g, eg⟩ : ∃ g : Nat → Int32, g = fun q => vp_nar .byte (((wdF x1 x2 x3 x4 x5 q) >>> (sh (q % 4) &&& 31)).toInt8.toInt32) := ⟨_, rfl⟩
    have fg : ∀ q, f q = g q &&& 255 := fun q => by rw [ef, eg]; exact sh_255 _ (Nat.mod_lt _ (by omega))
    have f0 : ∀ b, b < 4 → f (0 + b) = ushr x1 (sh b) &&& 255 := fun b hb => by
      rw [ef]
      rcases (by omega : b = 0 ∨ b = 1 ∨ b = 2 ∨ b = 3) with rfl | rfl | rfl | rfl <;> rfl
    have g0 : ∀ b, b < 4 → g (0 + b) = vp_nar .byte ((x1 >>> (sh b &&& 31)).toInt8.toInt32) := fun b hb => by
      rw [eg]
      rcases (by omega : b = 0 ∨ b = 1 ∨ b = 2 ∨ b = 3) with rfl | rfl | rfl | rfl <;> rfl
    have f1 : ∀ b, b < 4 → f (4 + b) = ushr x2 (sh b) &&& 255 := fun b hb => by
      rw [ef]
      rcases (by omega : b = 0 ∨ b = 1 ∨ b = 2 ∨ b = 3) with rfl | rfl | rfl | rfl <;> rfl
    have g1 : ∀ b, b < 4 → g (4 + b) = vp_nar .byte ((x2 >>> (sh b &&& 31)).toInt8.toInt32) := fun b hb => by
      rw [eg]
      rcases (by omega : b = 0 ∨ b = 1 ∨ b = 2 ∨ b = 3) with rfl | rfl | rfl | rfl <;> rfl
    have f2 : ∀ b, b < 4 → f (8 + b) = ushr x3 (sh b) &&& 255 := fun b hb => by
      rw [ef]
      rcases (by omega : b = 0 ∨ b = 1 ∨ b = 2 ∨ b = 3) with rfl | rfl | rfl | rfl <;> rfl
    have g2 : ∀ b, b < 4 → g (8 + b) = vp_nar .byte ((x3 >>> (sh b &&& 31)).toInt8.toInt32) := fun b hb => by
      rw [eg]
      rcases (by omega : b = 0 ∨ b = 1 ∨ b = 2 ∨ b = 3) with rfl | rfl | rfl | rfl <;> rfl
    have f3 : ∀ b, b < 4 → f (12 + b) = ushr x4 (sh b) &&& 255 := fun b hb => by
      rw [ef]
      rcases (by omega : b = 0 ∨ b = 1 ∨ b = 2 ∨ b = 3) with rfl | rfl | rfl | rfl <;> rfl
    have g3 : ∀ b, b < 4 → g (12 + b) = vp_nar .byte ((x4 >>> (sh b &&& 31)).toInt8.toInt32) := fun b hb => by
      rw [eg]
      rcases (by omega : b = 0 ∨ b = 1 ∨ b = 2 ∨ b = 3) with rfl | rfl | rfl | rfl <;> rfl
    have f4 : ∀ b, b < 4 → f (16 + b) = ushr x5 (sh b) &&& 255 := fun b hb => by
      rw [ef]
      rcases (by omega : b = 0 ∨ b = 1 ∨ b = 2 ∨ b = 3) with rfl | rfl | rfl | rfl <;> rfl
    have g4 : ∀ b, b < 4 → g (16 + b) = vp_nar .byte ((x5 >>> (sh b &&& 31)).toInt8.toInt32) := fun b hb => by
      rw [eg]
      rcases (by omega : b = 0 ∨ b = 1 ∨ b = 2 ∨ b = 3) with rfl | rfl | rfl | rfl <;> rfl
    have c1 : mi 7 0 1 + 20 ≤ 600 := by
      rw [h2, show (20 : Int32) = nI 20 from rfl, show (600 : Int32) = nI 600 from rfl, nadd, nle (by omega) (by omega)]; exact hn
    have a0 : F_X8_append mi w 0 x1 = some (ftF mi n f 4) := by
      have := ft_4 (w := w) (m := mi) (n := n) (k := 0) (f := f) (x := x1) (by omega) f0
      rwa [ft_0 h2] at this
    have a1 := ft_4 (w := w) (m := mi) (n := n) (k := 4) (f := f) (x := x2) (by omega) f1
    have a2 := ft_4 (w := w) (m := mi) (n := n) (k := 8) (f := f) (x := x3) (by omega) f2
    have a3 := ft_4 (w := w) (m := mi) (n := n) (k := 12) (f := f) (x := x4) (by omega) f3
    have a4 := ft_4 (w := w) (m := mi) (n := n) (k := 16) (f := f) (x := x5) (by omega) f4
    refine ⟨(nI (n + 20), ftF mi n f 20), ?_, ?_⟩
    · rw [F_X10_feed, if_pos c1, a0, Option.bind_some, a1, Option.bind_some, a2, Option.bind_some, a3, Option.bind_some, a4, Option.bind_some, ft_7]
    · obtain ⟨m, em⟩ : ∃ m, m = u3 (ftF mi n f 20) 10 0 0 0 := ⟨_, rfl⟩
      have mo : ∀ c i p, c ≠ 10 → m c i p = ftF mi n f 20 c i p := fun c i p hc => by rw [em]; exact u3_n (by omega)
      have m51 : m 51 0 0 = nI n := by rw [mo _ _ _ (by omega)]; exact h3
      have c2 : m 51 0 0 + 20 ≤ 600 := by
        rw [m51, show (20 : Int32) = nI 20 from rfl, show (600 : Int32) = nI 600 from rfl, nadd, nle (by omega) (by omega)]; exact hn
      have b0 : F_X11_four m w x1 = some (fmF m n g 4) := by
        have := fm_4 (w := w) (m := m) (n := n) (k := 0) (f := g) (x := x1) (by omega) g0
        rwa [fm_0 m51] at this
      have b1 := fm_4 (w := w) (m := m) (n := n) (k := 4) (f := g) (x := x2) (by omega) g1
      have b2 := fm_4 (w := w) (m := m) (n := n) (k := 8) (f := g) (x := x3) (by omega) g2
      have b3 := fm_4 (w := w) (m := m) (n := n) (k := 12) (f := g) (x := x4) (by omega) g3
      have b4 := fm_4 (w := w) (m := m) (n := n) (k := 16) (f := g) (x := x5) (by omega) g4
      refine ⟨(nI (n + 20), fmF m n g 20), ?_, rfl, ?_⟩
      · show F_X11_feed (ftF mi n f 20) w x1 x2 x3 x4 x5 = _
        rw [F_X11_feed, ← em, if_pos c2, b0, Option.bind_some, b1, Option.bind_some, b2, Option.bind_some, b3, Option.bind_some, b4, Option.bind_some, fm_51]
      · show Inv (fmF m n g 20) w
        have far : ∀ c i p, c ≠ 10 → ¬ (c = 51 ∧ i = 0 ∧ p = 0) → ¬ (c = 50 ∧ i = 0 ∧ p < 600) → ¬ (c = 7 ∧ i = 0 ∧ p = 1) → ¬ (c = 20 ∧ i = 0) → fmF m n g 20 c i p = mi c i p := by
          intro c i p q1 q2 q3 q4 q5
          unfold fmF
          rw [if_neg q2, if_neg (fun q => q3 ⟨q.1, q.2.1, by omega⟩), mo c i p q1]
          unfold ftF
          rw [if_neg q4, if_neg (fun q => q5 ⟨q.1, q.2.1⟩)]
        obtain ⟨e, ee⟩ : ∃ e, e = fmF m n g 20 := ⟨_, rfl⟩
        rw [← ee] at far ⊢
        have c2 : ∀ s, s < 4 → ∀ j, j < cn s → j < 2 := fun s hs j hj => by have := (h7.1 s hs).1; omega
        have e7 : e 7 0 1 = nI (n + 20) := by
          rw [ee]
          show (if (7 = 51 ∧ 0 = 0 ∧ 1 = 0) then _ else if (7 = 50 ∧ 0 = 0 ∧ n ≤ 1 ∧ 1 < n + 20) then _ else m 7 0 1) = _
          rw [if_neg (by omega), if_neg (by omega), mo _ _ _ (by omega), ft_7]
        have e51 : e 51 0 0 = nI (n + 20) := by rw [ee]; exact fm_51
        refine Inv_0 (mi := mi) (fun c i p v1 v3 => ?_) (fun j _ => far _ _ _ (by omega) (by omega) (by omega) (by omega) (by omega)) rfl I ⟨⟨n + 20, hn, e7, e51, fun k hk => ?_⟩, ⟨?_, ?_⟩, cn, fun s hs => ?_, fun j hj => ?_, fun j hj => ?_, fun j hj => ?_, fun j hj => ?_⟩
        · have w10 := ver_99 (c := c) (i := i) (k := p)
          have w51 := ver_51 (c := c) (i := i) (k := p)
          have w50 := ver_50 (i := i) (k := p)
          have w7 := ver_t (c := c) (i := i) (k := p)
          refine far c i p (fun q => ?_) (fun q => ?_) (fun q => ?_) (fun q => ?_) (fun q => ?_)
          · rw [w10 (Or.inl q)] at v3; omega
          · obtain ⟨rfl, rfl, rfl⟩ := q
            have := w51 (by omega)
            omega
          · obtain ⟨rfl, rfl, hp⟩ := q; omega
          · have := w7 (Or.inl q.1); omega
          · have := w7 (Or.inr (Or.inl q.1)); omega
        · by_cases hk2 : k < n
          · have q20 : e 20 0 k = mi 20 0 k := by
              rw [ee]
              show (if (20 = 51 ∧ 0 = 0 ∧ k = 0) then _ else if (20 = 50 ∧ 0 = 0 ∧ n ≤ k ∧ k < n + 20) then _ else m 20 0 k) = _
              rw [if_neg (by omega), if_neg (by omega), mo _ _ _ (by omega)]
              show (if (20 = 7 ∧ 0 = 0 ∧ k = 1) then _ else if (20 = 20 ∧ 0 = 0 ∧ n ≤ k ∧ k < n + 20) then _ else mi 20 0 k) = _
              rw [if_neg (by omega), if_neg (by omega)]
            have q50 : e 50 0 (600 * 0 + k) = mi 50 0 (600 * 0 + k) := by
              rw [ee]
              show (if (50 = 51 ∧ 0 = 0 ∧ 600 * 0 + k = 0) then _ else if (50 = 50 ∧ 0 = 0 ∧ n ≤ 600 * 0 + k ∧ 600 * 0 + k < n + 20) then _ else m 50 0 (600 * 0 + k)) = _
              rw [if_neg (by omega), if_neg (by omega), mo _ _ _ (by omega)]
              show (if (50 = 7 ∧ 0 = 0 ∧ 600 * 0 + k = 1) then _ else if (50 = 20 ∧ 0 = 0 ∧ n ≤ 600 * 0 + k ∧ 600 * 0 + k < n + 20) then _ else mi 50 0 (600 * 0 + k)) = _
              rw [if_neg (by omega), if_neg (by omega)]
            rw [q20, q50]
            exact h4 k hk2
          · have q20 : e 20 0 k = f (k - n) := by
              rw [ee]
              show (if (20 = 51 ∧ 0 = 0 ∧ k = 0) then _ else if (20 = 50 ∧ 0 = 0 ∧ n ≤ k ∧ k < n + 20) then _ else m 20 0 k) = _
              rw [if_neg (by omega), if_neg (by omega), mo _ _ _ (by omega)]
              show (if (20 = 7 ∧ 0 = 0 ∧ k = 1) then _ else if (20 = 20 ∧ 0 = 0 ∧ n ≤ k ∧ k < n + 20) then _ else mi 20 0 k) = _
              rw [if_neg (by omega), if_pos (by omega)]
            have q50 : e 50 0 (600 * 0 + k) = g (k - n) := by
              rw [ee]
              show (if (50 = 51 ∧ 0 = 0 ∧ 600 * 0 + k = 0) then _ else if (50 = 50 ∧ 0 = 0 ∧ n ≤ 600 * 0 + k ∧ 600 * 0 + k < n + 20) then g (600 * 0 + k - n) else m 50 0 (600 * 0 + k)) = _
              rw [if_neg (by omega), if_pos (by omega)]
              congr 1
              omega
            rw [q20, q50]
            exact fg _
        · rw [far _ _ _ (by omega) (by omega) (by omega) (by omega) (by omega), far _ _ _ (by omega) (by omega) (by omega) (by omega) (by omega)]; exact h5.1
        · rw [far _ _ _ (by omega) (by omega) (by omega) (by omega) (by omega), far _ _ _ (by omega) (by omega) (by omega) (by omega) (by omega)]; exact h5.2
        · rw [far _ _ _ (by omega) (by omega) (by omega) (by omega) (by omega), far _ _ _ (by omega) (by omega) (by omega) (by omega) (by omega)]; exact h7.1 s hs
        · exact ShR_of (fun k => far _ _ _ (by omega) (by omega) (by omega) (by omega) (by omega)) (fun k _ => far _ _ _ (by omega) (by omega) (by omega) (by omega) (by omega)) (fun k _ => far _ _ _ (by omega) (by omega) (by omega) (by omega) (by omega)) (fun k _ => far _ _ _ (by omega) (by omega) (by omega) (by omega) (by omega)) (fun k _ => far _ _ _ (by omega) (by omega) (by omega) (by omega) (by omega)) (h7.2.1 j hj)
        · exact DayR_of (far _ _ _ (by omega) (by omega) (by omega) (by omega) (by omega)) (fun k _ => far _ _ _ (by omega) (by omega) (by omega) (by omega) (by omega)) (fun k _ => far _ _ _ (by omega) (by omega) (by omega) (by omega) (by omega)) (h7.2.2.1 j hj)
        · exact PicR_of (fun k _ => far _ _ _ (by omega) (by omega) (by omega) (by omega) (by omega)) (fun k _ => far _ _ _ (by omega) (by omega) (by omega) (by omega) (by omega)) (h7.2.2.2.1 j hj)
        · exact MarkR_of (far _ _ _ (by omega) (by omega) (by omega) (by omega) (by omega)) (fun k _ => far _ _ _ (by omega) (by omega) (by omega) (by omega) (by omega)) (fun k _ => far _ _ _ (by omega) (by omega) (by omega) (by omega) (by omega)) (fun k _ => far _ _ _ (by omega) (by omega) (by omega) (by omega) (by omega)) (fun k _ => far _ _ _ (by omega) (by omega) (by omega) (by omega) (by omega)) (h7.2.2.2.2 j hj)
  · have c1 : ¬ (mi 7 0 1 + 20 ≤ 600) := by
      rw [h2, show (20 : Int32) = nI 20 from rfl, show (600 : Int32) = nI 600 from rfl, nadd, nle (by omega) (by omega)]; exact hn
    have c2 : ¬ (u3 mi 10 0 0 0 51 0 0 + 20 ≤ 600) := by
      rw [u3_n (by omega), h3, show (20 : Int32) = nI 20 from rfl, show (600 : Int32) = nI 600 from rfl, nadd, nle (by omega) (by omega)]; exact hn
    rw [F_X10_feed, if_neg c1]
    refine ⟨_, rfl, ?_⟩
    show ∃ e, F_X11_feed mi w x1 x2 x3 x4 x5 = some e ∧ _
    rw [F_X11_feed, if_neg c2]
    exact ⟨_, rfl, rfl, Inv_m I (keep_u3 rfl (keep_refl _))⟩
