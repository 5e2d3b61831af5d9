/-! HOW MANY CELLS a set has, on either side -/
theorem and_by {a b m n : Nat} (ha : a < 256) (hm : m < 256) : (a + 256 * b) &&& (m + 256 * n) = (a &&& m) + 256 * (b &&& n) := by
  have h1 : ((a + 256 * b) &&& (m + 256 * n)) % 2 ^ 8 = a &&& m := by
    rw [Nat.and_mod_two_pow]
    congr 1 <;> omega
  have h2 : ((a + 256 * b) &&& (m + 256 * n)) / 2 ^ 8 = b &&& n := by
    rw [Nat.and_div_two_pow]
    congr 1 <;> omega
  omega
theorem and_lo {b m n : Nat} (hb : b < 16777216) : b &&& (m + 16777216 * n) = b &&& (m % 16777216) := by
  have h0 : b &&& (m + 16777216 * n) < 16777216 := Nat.lt_of_le_of_lt Nat.and_le_left hb
  have h1 : (b &&& (m + 16777216 * n)) % 2 ^ 24 = b &&& (m % 16777216) := by
    rw [Nat.and_mod_two_pow]
    congr 1 <;> omega
  omega
def M1 : Nat := 1431655765
def M2 : Nat := 858993459
def M3 : Nat := 252645135
def q1 (x : Nat) : Nat := x - (x / 2 &&& M1)
def q2 (x : Nat) : Nat := (x &&& M2) + (x / 4 &&& M2)
theorem m_split (M m : Nat) (e : M = m * 16843009) {a b : Nat} (hm : m < 256) (ha : a < 256) (hb : b < 16777216) : (a + 256 * b) &&& M = (a &&& m) + 256 * (b &&& M) := by
  have e1 : M = m + 256 * (m * 65793) := by omega
  have e2 : b &&& M = b &&& (m * 65793) := by
    have e3 : M = m * 65793 + 16777216 * m := by rw [e, Nat.mul_comm 16777216 m, ← Nat.mul_add]
    rw [e3, and_lo hb, Nat.mod_eq_of_lt (by omega)]
  rw [e2, e1, and_by ha hm]
theorem q1_a : ∀ a, a < 256 → ∀ t, t < 2 → (a / 2 + 128 * t) &&& 85 = a / 2 &&& M1 := by decide +kernel
theorem q2_a : ∀ a, a < 256 → ∀ t, t < 4 → (a / 4 + 64 * t) &&& 51 = a / 4 &&& M2 ∧ a &&& 51 = a &&& M2 := by decide +kernel
theorem q1_by {a b : Nat} (ha : a < 256) (hb : b < 131072) : q1 (a + 256 * b) = q1 a + 256 * q1 b := by
  unfold q1
  have e : (a + 256 * b) / 2 = (a / 2 + 128 * (b % 2)) + 256 * (b / 2) := by omega
  rw [e, m_split M1 85 rfl (by omega) (by omega) (by omega), q1_a a ha (b % 2) (by omega)]
  have h1 : (a / 2 &&& M1) ≤ a / 2 := Nat.and_le_left
  have h2 : (b / 2 &&& M1) ≤ b / 2 := Nat.and_le_left
  omega
theorem q2_by {a b : Nat} (ha : a < 256) (hb : b < 16777216) : q2 (a + 256 * b) = q2 a + 256 * q2 b := by
  unfold q2
  have e : (a + 256 * b) / 4 = (a / 4 + 64 * (b % 4)) + 256 * (b / 4) := by omega
  rw [e, m_split M2 51 rfl (by omega) (by omega) (by omega), m_split M2 51 rfl (by omega) (by omega) (by omega), (q2_a a ha (b % 4) (by omega)).1, (q2_a a ha (b % 4) (by omega)).2]
  omega
theorem q1_le {b n : Nat} (h : b < n) : q1 b < n := Nat.lt_of_le_of_lt (Nat.sub_le _ _) h
theorem p_tab : ∀ a, a < 256 → q2 (q1 a) % 16 ≤ 4 ∧ q2 (q1 a) / 16 ≤ 4 ∧ q2 (q1 a) % 16 + q2 (q1 a) / 16 = sN (bN a) 8 := by decide +kernel
theorem q1_t : ∀ a, a < 256 → q1 a < 256 := fun a h => q1_le h
theorem sN_app (f : Nat → Nat) (m : Nat) : ∀ n, sN f (m + n) = sN f m + sN (fun k => f (m + k)) n := by
  intro n
  induction n with
  | zero => exact (Nat.add_zero _).symm
  | succ n ih =>
    show sN f (m + n) + f (m + n) = sN f m + (sN (fun k => f (m + k)) n + f (m + n))
    rw [ih]
    omega
theorem sN_congr {f g : Nat → Nat} {n : Nat} (h : ∀ k, k < n → f k = g k) : sN f n = sN g n := by
  induction n with
  | zero => rfl
  | succ n ih =>
    show sN f n + f n = sN g n + g n
    rw [ih fun k hk => h k (by omega), h n (by omega)]
theorem bN_lo {a b k : Nat} (ha : a < 256) (hk : k < 8) : bN (a + 256 * b) k = bN a k := by
  unfold bN
  have : (a + 256 * b).testBit k = a.testBit k := by
    rw [show a + 256 * b = 2 ^ 8 * b + a by omega, Nat.testBit_two_pow_mul_add _ (by omega)]
    simp [hk]
  rw [this]
theorem bN_hi {a b k : Nat} (ha : a < 256) : bN (a + 256 * b) (8 + k) = bN b k := by
  unfold bN
  have : (a + 256 * b).testBit (8 + k) = b.testBit k := by
    rw [show a + 256 * b = 2 ^ 8 * b + a by omega, Nat.testBit_two_pow_mul_add _ (by omega), if_neg (by omega), Nat.add_sub_cancel_left]
  rw [this]
theorem sN_by {a b n : Nat} (ha : a < 256) : sN (bN (a + 256 * b)) (8 + n) = sN (bN a) 8 + sN (bN b) n := by
  rw [sN_app, sN_congr fun k hk => bN_lo ha hk, sN_congr (f := fun k => bN (a + 256 * b) (8 + k)) fun k _ => bN_hi ha]
theorem one_by : ∀ d, d < 2 → q2 (q1 d) = d ∧ sN (bN d) 1 = d := by decide +kernel
theorem and15 {s t : Nat} (hs : s < 16) (ht : t < 16) : (s + 16 * t) &&& 15 = s := by
  rw [show (15 : Nat) = 2 ^ 4 - 1 from rfl, Nat.and_two_pow_sub_one_eq_mod]
  omega
theorem pop_fin {p q r d : Nat} (hp : p ≤ 8) (hq : q ≤ 8) (hr : r ≤ 8) (hd : d < 2) : ((p + 256 * (q + 256 * (r + 256 * d))) + (p + 256 * (q + 256 * (r + 256 * d))) / 256 + ((p + 256 * (q + 256 * (r + 256 * d))) + (p + 256 * (q + 256 * (r + 256 * d))) / 256) / 65536) % 64 = p + (q + (r + d)) := by
  have e1 : (p + 256 * (q + 256 * (r + 256 * d))) / 256 = q + 256 * (r + 256 * d) := by omega
  rw [e1]
  have e2 : (p + 256 * (q + 256 * (r + 256 * d)) + (q + 256 * (r + 256 * d))) / 65536 = r + 257 * d := by omega
  rw [e2]
  omega
theorem pop_nat {x : Nat} (hx : x < 33554432) : ∃ y, q2 (q1 x) = y ∧ y < 1073741824 ∧ ((y + y / 16 &&& M3) + (y + y / 16 &&& M3) / 256 + ((y + y / 16 &&& M3) + (y + y / 16 &&& M3) / 256) / 65536) % 64 = popN x := by
  obtain ⟨a, b, c, d, rfl, ha, hb, hc, hd⟩ : ∃ a b c d, x = a + 256 * (b + 256 * (c + 256 * d)) ∧ a < 256 ∧ b < 256 ∧ c < 256 ∧ d < 2 := ⟨x % 256, x / 256 % 256, x / 65536 % 256, x / 16777216, by omega, by omega, by omega, by omega, by omega⟩
  have e : q2 (q1 (a + 256 * (b + 256 * (c + 256 * d)))) = q2 (q1 a) + 256 * (q2 (q1 b) + 256 * (q2 (q1 c) + 256 * q2 (q1 d))) := by
    have t1 := q1_t a ha
    have t2 := q1_t b hb
    have t3 := q1_t c hc
    have t4 : q1 d < 2 := q1_le hd
    rw [q1_by ha (by omega), q1_by hb (by omega), q1_by hc (by omega), q2_by t1 (by omega), q2_by t2 (by omega), q2_by t3 (by omega)]
  have p : popN (a + 256 * (b + 256 * (c + 256 * d))) = sN (bN a) 8 + (sN (bN b) 8 + (sN (bN c) 8 + sN (bN d) 1)) := by
    unfold popN
    rw [show (25 : Nat) = 8 + (8 + (8 + 1)) from rfl, sN_by ha, sN_by hb, sN_by hc]
  obtain ⟨a1, a2, a3⟩ := p_tab a ha
  obtain ⟨b1, b2, b3⟩ := p_tab b hb
  obtain ⟨c1, c2, c3⟩ := p_tab c hc
  obtain ⟨d1, d2⟩ := one_by d hd
  rw [p, d2, ← a3, ← b3, ← c3, e, d1]
  generalize q2 (q1 a) = A at *
  generalize q2 (q1 b) = B at *
  generalize q2 (q1 c) = C at *
  refine ⟨_, rfl, by omega, ?_⟩
  have e2 : (A + 256 * (B + 256 * (C + 256 * d))) + (A + 256 * (B + 256 * (C + 256 * d))) / 16 = ((A % 16 + A / 16) + 16 * (A / 16 + B % 16)) + 256 * (((B % 16 + B / 16) + 16 * (B / 16 + C % 16)) + 256 * (((C % 16 + C / 16) + 16 * (C / 16 + d)) + 256 * d)) := by omega
  rw [e2, m_split M3 15 rfl (by omega) (by omega) (by omega), m_split M3 15 rfl (by omega) (by omega) (by omega), m_split M3 15 rfl (by omega) (by omega) (by omega), and15 (by omega) (by omega), and15 (by omega) (by omega), and15 (by omega) (by omega)]
  have e3 : d &&& M3 = d := by
    rcases (by omega : d = 0 ∨ d = 1) with rfl | rfl <;> decide
  rw [e3]
  exact pop_fin (by omega) (by omega) (by omega) hd
theorem c_pop {x : Nat} (hx : x < 33554432) : pop32 (nI x) = nI (popN x) := by
  obtain ⟨y, hy, hlt, e⟩ := pop_nat hx
  have s1 : x >>> 1 = x / 2 := Nat.shiftRight_eq_div_pow x 1
  have h1 : (x / 2 &&& M1) ≤ x / 2 := Nat.and_le_left
  have f1 : pc1 (nI x) = nI (q1 x) := by
    unfold pc1 q1
    rw [i1, nush (by omega) (by omega), s1]
    show nI x - (nI (x / 2) &&& nI M1) = _
    rw [nand, nsub (by omega)]
  have hq : q1 x < 33554432 := q1_le hx
  have f2 : pc2 (nI (q1 x)) = nI y := by
    unfold pc2
    rw [i2, nush (by omega) (by omega)]
    show (nI (q1 x) &&& nI M2) + (nI (q1 x >>> 2) &&& nI M2) = _
    rw [nand, nand, nadd, Nat.shiftRight_eq_div_pow, ← hy]
    rfl
  have f3 : pc3 (nI y) = nI (y + y / 16 &&& M3) := by
    unfold pc3
    rw [i4, nush (by omega) (by omega)]
    show (nI y + nI (y >>> 4)) &&& nI M3 = _
    rw [nadd, nand, Nat.shiftRight_eq_div_pow]
  have h3 : (y + y / 16 &&& M3) ≤ M3 := Nat.and_le_right
  have h4 : M3 = 252645135 := rfl
  generalize (y + y / 16 &&& M3) = z at *
  have f4 : pc4 (nI z) = nI (z + z / 256) := by
    unfold pc4
    rw [i8, nush (by omega) (by omega), nadd, Nat.shiftRight_eq_div_pow]
  have f5 : pc5 (nI (z + z / 256)) = nI (z + z / 256 + (z + z / 256) / 65536) := by
    unfold pc5
    rw [show (16 : Int32) = nI 16 from rfl, nush (by omega) (by omega), nadd, Nat.shiftRight_eq_div_pow]
  unfold pop32
  rw [f1, f2, f3, f4, f5, pk_andN (m := 63) (by omega) 6 (by decide)]
  exact congrArg nI e
theorem b2n (p : Prop) [Decidable p] : b2 p = nI (if p then 1 else 0) := by unfold b2; split <;> rfl
theorem m_ones (mi : MI) (w : WS) {x : Nat} (hx : x < 33554432) : F_X11_ones mi w (nI x) = some (nI (popN x)) := by
  unfold F_X11_ones
  refine lp_up (L := fun n s k => L_X11_ones_4 mi w n (nI x) (nI s) (nI k)) (N := 25) (f := fun k a => a + bN x k) (post := fun a => some (nI a)) (fun _ _ => True) (fun n s _ => ?_) (fun n k s hk _ => ⟨?_, trivial⟩) (F := 1000000) (by omega) 0 trivial
  · show L_X11_ones_4 mi w (n + 1) (nI x) (nI s) (nI 25) = _
    rw [L_X11_ones_4]
    exact if_pos (by decide)
  · show L_X11_ones_4 mi w (n + 1) (nI x) (nI s) (nI k) = _
    have e25 : (25 : Int32) = nI 25 := rfl
    cases hb : x.testBit k
    · simp (disch := omega) only [L_X11_ones_4, e25, i0, i1, nle, nadd, n31, nshr, nand, bit1, if_neg, b2n, hb, bN]
    · simp (disch := omega) only [L_X11_ones_4, e25, i0, i1, nle, nadd, n31, nshr, nand, bit1, if_neg, b2n, hb, bN]
