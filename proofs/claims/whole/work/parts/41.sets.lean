/-! SETS OF CELLS: functions that go cell by cell are known by what they do to one cell -/
def Lin (f : Nat → Nat) : Prop := f 0 = 0 ∧ ∀ a b, f (a ||| b) = f a ||| f b
def orN (g : Nat → Nat) (n : Nat) : Nat := foldN (fun k a => a ||| g k) 0 n
theorem or_swap (a b c d : Nat) : (a ||| b) ||| (c ||| d) = (a ||| c) ||| (b ||| d) := by
  apply Nat.eq_of_testBit_eq
  intro i
  simp only [Nat.testBit_or]
  cases a.testBit i <;> cases b.testBit i <;> cases c.testBit i <;> cases d.testBit i <;> rfl
theorem tb_andn (a b i : Nat) : (andn a b).testBit i = (a.testBit i && !b.testBit i) := by
  unfold andn
  rw [Nat.testBit_xor, Nat.testBit_and]
  cases a.testBit i <;> cases b.testBit i <;> rfl
theorem andn_lt {a n : Nat} (b : Nat) (h : a < 2 ^ n) : andn a b < 2 ^ n := by
  refine Nat.lt_pow_two_of_testBit _ fun i hi => ?_
  rw [tb_andn, Nat.testBit_lt_two_pow (Nat.lt_of_lt_of_le h (Nat.pow_le_pow_right (by omega) hi))]
  rfl
theorem lin_id : Lin fun x => x := ⟨rfl, fun _ _ => rfl⟩
theorem lin_0 : Lin fun _ => 0 := ⟨rfl, fun _ _ => (Nat.or_zero 0).symm⟩
theorem lin_or {f g : Nat → Nat} (hf : Lin f) (hg : Lin g) : Lin fun x => f x ||| g x := by
  refine ⟨by show f 0 ||| g 0 = 0; rw [hf.1, hg.1]; rfl, fun a b => ?_⟩
  show f (a ||| b) ||| g (a ||| b) = (f a ||| g a) ||| (f b ||| g b)
  rw [hf.2, hg.2, or_swap]
theorem lin_and {f : Nat → Nat} (m : Nat) (hf : Lin f) : Lin fun x => f x &&& m := by
  refine ⟨by show f 0 &&& m = 0; rw [hf.1, Nat.zero_and], fun a b => ?_⟩
  show f (a ||| b) &&& m = (f a &&& m) ||| (f b &&& m)
  rw [hf.2]
  apply Nat.eq_of_testBit_eq
  intro i
  simp only [Nat.testBit_or, Nat.testBit_and]
  cases (f a).testBit i <;> cases (f b).testBit i <;> cases m.testBit i <;> rfl
theorem lin_andn {f : Nat → Nat} (m : Nat) (hf : Lin f) : Lin fun x => andn (f x) m := by
  refine ⟨by show andn (f 0) m = 0; rw [hf.1]; unfold andn; rw [Nat.zero_and]; rfl, fun a b => ?_⟩
  show andn (f (a ||| b)) m = andn (f a) m ||| andn (f b) m
  rw [hf.2]
  apply Nat.eq_of_testBit_eq
  intro i
  simp only [Nat.testBit_or, tb_andn]
  cases (f a).testBit i <;> cases (f b).testBit i <;> cases m.testBit i <;> rfl
theorem lin_shl {f : Nat → Nat} (k : Nat) (hf : Lin f) : Lin fun x => f x <<< k := by
  refine ⟨by show f 0 <<< k = 0; rw [hf.1, Nat.zero_shiftLeft], fun a b => ?_⟩
  show f (a ||| b) <<< k = f a <<< k ||| f b <<< k
  rw [hf.2]
  apply Nat.eq_of_testBit_eq
  intro i
  simp only [Nat.testBit_or, Nat.testBit_shiftLeft]
  cases decide (i ≥ k) <;> simp
theorem lin_shr {f : Nat → Nat} (k : Nat) (hf : Lin f) : Lin fun x => f x >>> k := by
  refine ⟨by show f 0 >>> k = 0; rw [hf.1, Nat.zero_shiftRight], fun a b => ?_⟩
  show f (a ||| b) >>> k = f a >>> k ||| f b >>> k
  rw [hf.2]
  apply Nat.eq_of_testBit_eq
  intro i
  simp only [Nat.testBit_or, Nat.testBit_shiftRight]
theorem lin_sel {f : Nat → Nat} (s m : Nat) (hf : Lin f) : Lin fun x => if (f x).testBit s then m else 0 := by
  refine ⟨by show (if (f 0).testBit s then m else 0) = 0; rw [hf.1]; simp, fun a b => ?_⟩
  show (if (f (a ||| b)).testBit s then m else 0) = (if (f a).testBit s then m else 0) ||| (if (f b).testBit s then m else 0)
  rw [hf.2, Nat.testBit_or]
  cases (f a).testBit s <;> cases (f b).testBit s <;> simp
theorem lin_if {f : Nat → Nat} (p : Prop) [Decidable p] (hf : Lin f) : Lin fun x => if p then f x else 0 := by
  by_cases h : p
  · simpa only [if_pos h] using hf
  · simpa only [if_neg h] using lin_0
theorem lin_comp {f g : Nat → Nat} (hf : Lin f) (hg : Lin g) : Lin fun x => f (g x) := by
  refine ⟨by show f (g 0) = 0; rw [hg.1, hf.1], fun a b => ?_⟩
  show f (g (a ||| b)) = _
  rw [hg.2, hf.2]
theorem lin_orN {g : Nat → Nat → Nat} (h : ∀ k, Lin (g k)) (n : Nat) : Lin fun x => orN (fun k => g k x) n := by
  induction n with
  | zero => exact lin_0
  | succ n ih => exact lin_or ih (h n)
theorem top_bit {n x : Nat} (h : x < 2 ^ (n + 1)) : x = (x % 2 ^ n) ||| (if x.testBit n then 1 <<< n else 0) := by
  apply Nat.eq_of_testBit_eq
  intro i
  rw [Nat.testBit_or, Nat.testBit_mod_two_pow]
  by_cases h1 : i < n
  · have : (if x.testBit n then 1 <<< n else 0).testBit i = false := by
      split
      · rw [Nat.one_shiftLeft, Nat.testBit_two_pow]; simp; omega
      · simp
    simp [h1, this]
  · by_cases h2 : i = n
    · subst h2
      cases hb : x.testBit i
      · simp
      · simp [Nat.one_shiftLeft, Nat.testBit_two_pow]
    · have hx : x.testBit i = false := Nat.testBit_lt_two_pow (Nat.lt_of_lt_of_le h (Nat.pow_le_pow_right (by omega) (by omega)))
      rw [hx]
      have : (if x.testBit n then 1 <<< n else 0).testBit i = false := by
        split
        · rw [Nat.one_shiftLeft, Nat.testBit_two_pow]; simp; omega
        · simp
      simp [h1, this]
theorem lin_ext {f g : Nat → Nat} (hf : Lin f) (hg : Lin g) : ∀ n, (∀ k, k < n → f (1 <<< k) = g (1 <<< k)) → ∀ x, x < 2 ^ n → f x = g x := by
  intro n
  induction n with
  | zero =>
    intro _ x hx
    have : x = 0 := by simpa using hx
    rw [this, hf.1, hg.1]
  | succ n ih =>
    intro h x hx
    rw [top_bit hx, hf.2, hg.2, ih (fun k hk => h k (by omega)) (x % 2 ^ n) (Nat.mod_lt _ (Nat.two_pow_pos n))]
    split
    · rw [h n (by omega)]
    · rw [hf.1, hg.1]
theorem cells_le {W H : Nat} (hW : W ≤ 5) (hH : H ≤ 5) : W * H ≤ 25 := Nat.mul_le_mul hW hH
theorem pw {x C : Nat} (h : x < 2 ^ C) (hC : C ≤ 25) : x < 33554432 := Nat.lt_of_lt_of_le h (Nat.pow_le_pow_right (n := 2) (by omega) hC)
theorem W_le {W H : Nat} (hH : 1 ≤ H) : W ≤ W * H := Nat.le_mul_of_pos_right W hH
theorem lin_ri {W H : Nat} : Lin (riN W H) := lin_shl 1 (lin_andn _ lin_id)
theorem lin_bes {W H : Nat} : Lin (besN W H) := lin_and _ (lin_or (lin_or (lin_or lin_ri (lin_shr 1 (lin_andn _ lin_id))) (lin_shl W lin_id)) (lin_shr W lin_id))
theorem bes_tab : ∀ W, W < 6 → ∀ H, H < 6 → ∀ k, k < W * H → besN W H (1 <<< k) = orN (fun c => if (1 <<< k).testBit c then bbN W (W * H) c else 0) (W * H) := by decide +kernel
theorem bes_eq {W H x : Nat} (hW : W ≤ 5) (hH : H ≤ 5) (hx : x < 2 ^ (W * H)) : besN W H x = orN (fun c => if x.testBit c then bbN W (W * H) c else 0) (W * H) :=
  lin_ext lin_bes (lin_orN (fun c => lin_sel c _ lin_id) _) (W * H) (fun k hk => bes_tab W (by omega) H (by omega) k hk) x hx
theorem and_lt_r {a b n : Nat} (h : b < 2 ^ n) : a &&& b < 2 ^ n := Nat.lt_of_le_of_lt Nat.and_le_right h
theorem aM_lt (W H : Nat) : aM W H < 2 ^ (W * H) := by
  have := Nat.two_pow_pos (W * H)
  unfold aM
  omega
theorem bes_lt (W H x : Nat) : besN W H x < 2 ^ (W * H) := and_lt_r (aM_lt W H)
theorem m_besides {mi : MI} (w : WS) {W H x : Nat} (hW : 1 ≤ W) (hW5 : W ≤ 5) (hH : 1 ≤ H) (hH5 : H ≤ 5) (h24 : mi 10 0 24 = nI W) (h26 : mi 10 0 26 = nI (W * H)) (hx : x < 2 ^ (W * H)) : F_X11_besides mi w (nI x) = some (nI (besN W H x)) := by
  have hC := cells_le hW5 hH5
  have hWC : W ≤ W * H := W_le hH
  have hx2 := pw hx hC
  rw [bes_eq hW5 hH5 hx]
  generalize W * H = C at *
  refine lp_up (L := fun n s k => L_X11_besides_4 mi w n (nI x) (nI s) (nI k)) (N := C) (f := fun k a => a ||| if x.testBit k then bbN W C k else 0) (post := fun a => some (nI a)) (fun _ _ => True) (fun n s _ => ?_) (fun n k s hk _ => ⟨?_, trivial⟩) (F := 1000000) (by omega) 0 trivial
  · simp (disch := omega) only [L_X11_besides_4, h26, nle, if_pos]
  · show L_X11_besides_4 mi w (n + 1) (nI x) (nI s) (nI k) = _
    rw [besides_step hW hW5 hC hWC h24 h26 (by omega) hk]
    congr 2
    split <;> simp
