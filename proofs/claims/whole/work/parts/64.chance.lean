/-! CHANCE -/
def btN (x c : Nat) : Nat := if x.testBit c then 1 else 0
/-- a sheet's tenths at a cell -/
def tnN (W H sl : Nat) (cu : Nat → Nat) (c s : Nat) : Nat := (10 - sl) * btN (openN W H (cu s)) c + sl * btN (slN W H (openN W H (cu s)) 1 0) c
theorem bt_le (x c : Nat) : btN x c ≤ 1 := by unfold btN; split <;> omega
theorem tn_le {W H sl : Nat} {cu : Nat → Nat} {c s : Nat} (h : sl ≤ 10) : tnN W H sl cu c s ≤ 10 := by
  unfold tnN
  have h1 := Nat.mul_le_mul_left (10 - sl) (bt_le (openN W H (cu s)) c)
  have h2 := Nat.mul_le_mul_left sl (bt_le (slN W H (openN W H (cu s)) 1 0) c)
  omega
theorem c_ten {mi : MI} (w : WS) {i W H sl n s c : Nat} {cu we : Nat → Nat} (ok : shOK W H sl n cu we) (hc : ShC mi i W H sl n cu we) (hs : s < 6) (hq : c < W * H) : F_X1_openTenths mi w i (nI s) (nI c) = some (nI (tnN W H sl cu c s)) := by
  have hC := ok.cells
  have h5 : mi 5 i 2 = nI sl := hc.1.2.2.1
  have hsl : sl ≤ 10 := ok.2.2.1
  have hx := pw (sl_lt (a := 1) (d := 0) ok.1.2 ok.2.1.2 (by omega) (by omega) (ok.op hs)) hC
  unfold F_X1_openTenths
  rw [ck6 hs, ncl (by omega), hc.op hs]
  rw [show (1 : Int32) = nI 1 from rfl, show (0 : Int32) = nI 0 from rfl, c_slid w ok.bw hc.cw (by omega) (by omega), Option.bind_some, h5, n31 (by omega), nshr (by have := ok.op2 hs; omega) (by omega), nshr (by omega) (by omega), nand, nand, tb_eq, tb_eq, show (10 : Int32) = nI 10 from rfl, nsub hsl, nmul, nmul, nadd]
  rfl
/-- the product over the first k sheets -/
def pdF (T : Nat → Nat) (c k a : Nat) : Nat := if c ≤ k + 1 then if k + 1 = c then a * T k else a * (10 - T k) else a * 10
theorem pd_le {T : Nat → Nat} (hT : ∀ s, T s ≤ 10) (c : Nat) : ∀ n, foldN (pdF T c) 1 n ≤ 10 ^ n := by
  intro n
  induction n with
  | zero => exact Nat.le_refl _
  | succ n ih =>
    show pdF T c n (foldN (pdF T c) 1 n) ≤ _
    have h10 : ∀ y, y ≤ 10 → foldN (pdF T c) 1 n * y ≤ 10 ^ (n + 1) := fun y hy => by rw [Nat.pow_succ]; exact Nat.mul_le_mul ih hy
    unfold pdF
    split
    · split
      · exact h10 _ (hT n)
      · exact h10 _ (by omega)
    · exact h10 _ (by omega)
theorem pd_u {T : Nat → Nat} {c : Nat} : ∀ n, n < c → foldN (pdF T c) 1 n = 10 ^ n := by
  intro n
  induction n with
  | zero => intro _; rfl
  | succ n ih =>
    intro h
    by_cases e : n + 1 < c
    · show pdF T c n (foldN (pdF T c) 1 n) = _
      rw [ih (by omega)]
      unfold pdF
      rw [if_neg (by omega), Nat.pow_succ]
    · omega
theorem c_over {mi : MI} (w : WS) {i W H sl n q c : Nat} {cu we : Nat → Nat} (ok : shOK W H sl n cu we) (hc : ShC mi i W H sl n cu we) (hq : q < W * H) (z : Int32) (u : Nat) :
    ∀ r f k x, k + r = n → c ≤ k → foldN (pdF (tnN W H sl cu q) c) 1 k = u * x → r < f → ∃ y, L_X1_chanceOver_30 mi w f i (nI q) z (nI x) (nI k) = some (nI y) ∧ foldN (pdF (tnN W H sl cu q) c) 1 n = u * y := by
  intro r
  have hn := ok.cnt
  have hT : ∀ s, tnN W H sl cu q s ≤ 10 := fun s => tn_le ok.2.2.1
  induction r with
  | zero =>
    intro f k x hk hck hp hf
    obtain ⟨f, rfl⟩ : ∃ n, f = n + 1 := ⟨f - 1, by omega⟩
    have : k = n := by omega
    subst this
    refine ⟨x, ?_, hp⟩
    rw [L_X1_chanceOver_30, hc.cnt]
    exact if_pos (show nI k ≤ nI k by rw [nle (by omega) (by omega)]; omega)
  | succ r ih =>
    intro f k x hk hck hp hf
    obtain ⟨f, rfl⟩ : ∃ n, f = n + 1 := ⟨f - 1, by omega⟩
    have hp2 : foldN (pdF (tnN W H sl cu q) c) 1 (k + 1) = u * (x * (10 - tnN W H sl cu q k)) := by
      show pdF (tnN W H sl cu q) c k (foldN (pdF (tnN W H sl cu q) c) 1 k) = _
      rw [hp]
      unfold pdF
      rw [if_pos (by omega), if_neg (by omega), Nat.mul_assoc]
    obtain ⟨y, e1, e2⟩ := ih f (k + 1) _ (by omega) (by omega) hp2 (by omega)
    refine ⟨y, ?_, e2⟩
    rw [L_X1_chanceOver_30, hc.cnt, if_neg (by rw [nle (by omega) (by omega)]; omega), c_ten w ok hc (by omega) hq, Option.bind_some, show (10 : Int32) = nI 10 from rfl, nsub (hT k), nmul, show nI k + 1 = nI (k + 1) from nI_add k 1]
    exact e1
theorem c_under {mi : MI} (w : WS) {i W H sl n : Nat} {cu we : Nat → Nat} (ok : shOK W H sl n cu we) (hc : ShC mi i W H sl n cu we) (z : Int32) (u : Nat) :
    ∀ r f k x, k + r = n → 10 ^ k = u * x → r < f → ∃ y, L_X1_chanceUnder_13 mi w f i z (nI x) (nI k) = some (nI y) ∧ 10 ^ n = u * y := by
  intro r
  have hn := ok.cnt
  induction r with
  | zero =>
    intro f k x hk hp hf
    obtain ⟨f, rfl⟩ : ∃ n, f = n + 1 := ⟨f - 1, by omega⟩
    have : k = n := by omega
    subst this
    refine ⟨x, ?_, hp⟩
    rw [L_X1_chanceUnder_13, hc.cnt]
    exact if_pos (show nI k ≤ nI k by rw [nle (by omega) (by omega)]; omega)
  | succ r ih =>
    intro f k x hk hp hf
    obtain ⟨f, rfl⟩ : ∃ n, f = n + 1 := ⟨f - 1, by omega⟩
    obtain ⟨y, e1, e2⟩ := ih f (k + 1) (x * 10) (by omega) (by rw [Nat.pow_succ, hp, Nat.mul_assoc]) (by omega)
    refine ⟨y, ?_, e2⟩
    rw [L_X1_chanceUnder_13, hc.cnt, if_neg (by rw [nle (by omega) (by omega)]; omega), show (10 : Int32) = nI 10 from rfl, nmul, show nI k + 1 = nI (k + 1) from nI_add k 1]
    exact e1
theorem half {a b m : Nat} (h : b < 2 ^ (m + 1)) (h0 : a % b ≠ 0) (hb : 0 < b) : b % (a % b) < 2 ^ m := by
  have h1 := Nat.mod_lt a hb
  have h2 := Nat.mod_lt b (show 0 < a % b by omega)
  have h3 := Nat.div_add_mod b (a % b)
  have h4 : 1 ≤ b / (a % b) := Nat.div_pos (by omega) (by omega)
  have h5 := Nat.mul_le_mul_left (a % b) h4
  rw [Nat.pow_succ] at h
  omega
theorem gcd_st (a b : Nat) : Nat.gcd a b = Nat.gcd b (a % b) := by rw [Nat.gcd_comm a b, Nat.gcd_rec b a, Nat.gcd_comm]
theorem c_gcd {mi : MI} {w : WS} {z1 z2 : Int32} : ∀ m f t a b, b < 2 ^ m → m ≤ 26 → a < 2147483648 → t + 2 * m ≤ 60 → 2 * m < f → L_X1_greatestDivisor_7 mi w f z1 z2 (nI a) (nI b) (nI t) = some (nI (Nat.gcd a b)) := by
  intro m
  induction m with
  | zero =>
    intro f t a b hb hm ha ht hf
    obtain ⟨f, rfl⟩ : ∃ n, f = n + 1 := ⟨f - 1, by omega⟩
    have : b = 0 := by simp at hb; exact hb
    subst this
    rw [L_X1_greatestDivisor_7, show (64 : Int32) = nI 64 from rfl, if_neg (by rw [nle (by omega) (by omega)]; omega), if_pos (by decide), Nat.gcd_zero_right]
  | succ m ih =>
    intro f t a b hb hm ha ht hf
    obtain ⟨f, rfl⟩ : ∃ n, f = n + 2 := ⟨f - 2, by omega⟩
    have hp : 2 ^ (m + 1) ≤ 2 ^ 26 := Nat.pow_le_pow_right (by omega) hm
    have hb2 : b < 2147483648 := by omega
    have hz : ∀ b : Nat, b < 2147483648 → (nI b ≤ (0 : Int32)) = (b ≤ 0) := fun b h => by rw [show (0 : Int32) = nI 0 from rfl, nle h (by omega)]
    rw [L_X1_greatestDivisor_7, show (64 : Int32) = nI 64 from rfl, if_neg (by rw [nle (by omega) (by omega)]; omega)]
    by_cases h0 : b = 0
    · subst h0
      rw [if_pos (by decide), Nat.gcd_zero_right]
    · have h1 := Nat.mod_lt a (show 0 < b by omega)
      rw [if_neg (by rw [hz b hb2]; omega), ckT (show ¬ nI b = 0 by rw [show (0 : Int32) = nI 0 from rfl, neq hb2 (by omega)]; exact h0), nrem ha (by omega) hb2, show nI t + 1 = nI (t + 1) from nI_add t 1, gcd_st a b]
      rw [L_X1_greatestDivisor_7, show (64 : Int32) = nI 64 from rfl, if_neg (by rw [nle (by omega) (by omega)]; omega)]
      by_cases h2 : a % b = 0
      · rw [h2, if_pos (by decide), Nat.gcd_zero_right]
      · rw [if_neg (by rw [hz _ (by omega)]; omega), ckT (show ¬ nI (a % b) = 0 by rw [show (0 : Int32) = nI 0 from rfl, neq (by omega) (by omega)]; exact h2), nrem hb2 (by omega) (by omega), show nI (t + 1) + 1 = nI (t + 1 + 1) from nI_add _ 1, gcd_st b (a % b)]
        exact ih f (t + 1 + 1) (a % b) (b % (a % b)) (half hb h2 (by omega)) (by omega) (by omega) (by omega) (by omega)
theorem m_gcd {mi : MI} {w : WS} {z1 z2 : Int32} : ∀ m f a b, b < 2 ^ m → m ≤ 26 → a < 2147483648 → 2 * m < f → L_X11_common_4 mi w f z1 z2 (nI a) (nI b) = some (nI (Nat.gcd a b)) := by
  intro m
  induction m with
  | zero =>
    intro f a b hb hm ha hf
    obtain ⟨f, rfl⟩ : ∃ n, f = n + 1 := ⟨f - 1, by omega⟩
    have : b = 0 := by simp at hb; exact hb
    subst this
    rw [L_X11_common_4, if_pos (by decide), Nat.gcd_zero_right]
  | succ m ih =>
    intro f a b hb hm ha hf
    obtain ⟨f, rfl⟩ : ∃ n, f = n + 2 := ⟨f - 2, by omega⟩
    have hp : 2 ^ (m + 1) ≤ 2 ^ 26 := Nat.pow_le_pow_right (by omega) hm
    have hb2 : b < 2147483648 := by omega
    have hz : ∀ b : Nat, b < 2147483648 → (nI b = (0 : Int32)) = (b = 0) := fun b h => by rw [show (0 : Int32) = nI 0 from rfl, neq h (by omega)]
    rw [L_X11_common_4]
    by_cases h0 : b = 0
    · subst h0
      rw [if_pos (by decide), Nat.gcd_zero_right]
    · have h1 := Nat.mod_lt a (show 0 < b by omega)
      rw [if_neg (by rw [hz b hb2]; exact h0), ckT (show ¬ nI b = 0 by rw [hz b hb2]; exact h0), nrem ha (by omega) hb2, gcd_st a b]
      rw [L_X11_common_4]
      by_cases h2 : a % b = 0
      · rw [h2, if_pos (by decide), Nat.gcd_zero_right]
      · rw [if_neg (by rw [hz _ (by omega)]; exact h2), ckT (show ¬ nI (a % b) = 0 by rw [hz _ (by omega)]; exact h2), nrem hb2 (by omega) (by omega), gcd_st b (a % b)]
        exact ih f (a % b) (b % (a % b)) (half hb h2 (by omega)) (by omega) (by omega) (by omega)
theorem in_cellC {n : Nat} (hn : n ≤ 1000) (x : Int32) : (¬ (x < 0) ∧ ¬ (nI n ≤ x)) ↔ ∃ s, s < n ∧ x = nI s := by
  constructor
  · rintro ⟨h0, h1⟩
    obtain ⟨j, hj, rfl⟩ := nI_of h0
    rw [nle (by omega) (by omega)] at h1
    exact ⟨j, by omega, rfl⟩
  · rintro ⟨j, hj, rfl⟩
    rw [nle (by omega) (by omega)]
    exact ⟨nI_pos (by omega), by omega⟩
