/-! SMALL NUMBERS IN JAVA'S INTS: rules that turn them into natural numbers -/
theorem i0 : (0 : Int32) = nI 0 := rfl
theorem i1 : (1 : Int32) = nI 1 := rfl
theorem i2 : (2 : Int32) = nI 2 := rfl
theorem i3 : (3 : Int32) = nI 3 := rfl
theorem i4 : (4 : Int32) = nI 4 := rfl
theorem i5 : (5 : Int32) = nI 5 := rfl
theorem i6 : (6 : Int32) = nI 6 := rfl
theorem i7 : (7 : Int32) = nI 7 := rfl
theorem i8 : (8 : Int32) = nI 8 := rfl
theorem i9 : (9 : Int32) = nI 9 := rfl
theorem i10 : (10 : Int32) = nI 10 := rfl
theorem nle {a b : Nat} (ha : a < 2147483648) (hb : b < 2147483648) : (nI a ≤ nI b) = (a ≤ b) := propext (nI_leI ha hb)
theorem nlt {a b : Nat} (ha : a < 2147483648) (hb : b < 2147483648) : (nI a < nI b) = (a < b) := propext (nI_ltI ha hb)
theorem neq {a b : Nat} (ha : a < 2147483648) (hb : b < 2147483648) : (nI a = nI b) = (a = b) := propext (nI_eq ha hb)
theorem nadd (a b : Nat) : nI a + nI b = nI (a + b) := nI_add a b
theorem nsub {a b : Nat} (h : b ≤ a) : nI a - nI b = nI (a - b) := pk_sub h
theorem nmul (a b : Nat) : nI a * nI b = nI (a * b) := pk_mul a b
theorem ndiv {a d : Nat} (ha : a < 2147483648) (h0 : 0 < d) (hd : d < 2147483648) : nI a / nI d = nI (a / d) := pk_div ha h0 hd
theorem nrem {a d : Nat} (ha : a < 2147483648) (h0 : 0 < d) (hd : d < 2147483648) : irem (nI a) (nI d) = nI (a % d) := pk_rem ha h0 hd
theorem ncl {a : Nat} (ha : a < 2147483648) : (nI a).toNatClampNeg = a := nI_clamp ha
theorem n31 {k : Nat} (h : k < 32) : nI k &&& 31 = nI k := by
  rw [pk_andN (m := 31) (by omega) 5 (by decide), Nat.mod_eq_of_lt (by simpa using h)]
theorem nand (a b : Nat) : nI a &&& nI b = nI (a &&& b) := by
  apply Int32.toBitVec_inj.mp
  exact (BitVec.ofNat_and).symm
theorem nor (a b : Nat) : nI a ||| nI b = nI (a ||| b) := by
  apply Int32.toBitVec_inj.mp
  exact (BitVec.ofNat_or).symm
theorem nxor (a b : Nat) : nI a ^^^ nI b = nI (a ^^^ b) := by
  apply Int32.toBitVec_inj.mp
  exact (BitVec.ofNat_xor).symm
theorem nandn (a b : Nat) : nI a &&& (nI b ^^^ (-1)) = nI (andn a b) := by
  unfold andn
  rw [← nxor, ← nand]
  apply Int32.toBitVec_inj.mp
  show (nI a).toBitVec &&& ((nI b).toBitVec ^^^ (-1 : Int32).toBitVec) = (nI a).toBitVec ^^^ ((nI a).toBitVec &&& (nI b).toBitVec)
  have e : (-1 : Int32).toBitVec = BitVec.allOnes 32 := by decide
  rw [e]
  ext i hi
  simp only [BitVec.getElem_and, BitVec.getElem_xor, BitVec.getElem_allOnes]
  cases (nI a).toBitVec[i] <;> cases (nI b).toBitVec[i] <;> rfl
theorem nshl {k : Nat} (a : Nat) (hk : k < 32) : nI a <<< nI k = nI (a <<< k) := by
  apply Int32.toBitVec_inj.mp
  show BitVec.ofNat 32 a <<< ((nI k).toBitVec.smod 32) = BitVec.ofNat 32 (a <<< k)
  have e : ∀ k, k < 32 → (nI k).toBitVec.smod 32 = BitVec.ofNat 32 k := by decide +kernel
  rw [e k hk]
  apply BitVec.eq_of_toNat_eq
  rw [BitVec.shiftLeft_eq', BitVec.toNat_shiftLeft]
  simp only [BitVec.toNat_ofNat]
  rw [Nat.mod_eq_of_lt (show k < 2 ^ 32 by omega), Nat.shiftLeft_eq, Nat.shiftLeft_eq, Nat.mod_mul_mod]
theorem nshr {a k : Nat} (ha : a < 2147483648) (hk : k < 32) : nI a >>> nI k = nI (a >>> k) := by
  have e : ∀ k, k < 32 → ((nI k).toBitVec.smod 32).toNat = k := by decide +kernel
  rw [pk_shrN ha (nI k) k (e k hk), Nat.shiftRight_eq_div_pow]
theorem tb_eq (x k : Nat) : x >>> k &&& 1 = if x.testBit k then 1 else 0 := by
  rw [Nat.testBit, Nat.and_comm]
  have : (1 &&& x >>> k) < 2 := Nat.lt_of_le_of_lt Nat.and_le_left (by omega)
  rcases (by omega : (1 &&& x >>> k) = 0 ∨ (1 &&& x >>> k) = 1) with h | h <;> simp [h]
theorem bit1 (x k : Nat) : (nI (x >>> k &&& 1) = nI 1) = (x.testBit k = true) := by
  rw [tb_eq]
  cases x.testBit k <;> simp <;> decide
theorem bit0 (x k : Nat) : (nI (x >>> k &&& 1) = nI 0) = (x.testBit k = false) := by
  rw [tb_eq]
  cases x.testBit k <;> simp <;> decide
theorem ckN {α : Type} {a N : Nat} {x : Option α} (h : ¬ N ≤ a) : ck (¬ N ≤ a) x = x := if_pos h
theorem ckT {α : Type} {c : Prop} [Decidable c] {x : Option α} (h : c) : ck c x = x := if_pos h
/-- a loop that counts up -/
theorem lp_up {σ ρ : Type} {L : Nat → σ → Nat → Option ρ} {N : Nat} {f : Nat → σ → σ} {post : σ → Option ρ} (I : Nat → σ → Prop) (h0 : ∀ n s, I N s → L (n + 1) s N = post s) (h1 : ∀ n k s, k < N → I k s → L (n + 1) s k = L n (f k s) (k + 1) ∧ I (k + 1) (f k s)) {F : Nat} (hF : N < F) (s : σ) (hI : I 0 s) : L F s 0 = post (foldN f s N) := by
  have key : ∀ r k F, k + r = N → r < F → I k (foldN f s k) → L F (foldN f s k) k = post (foldN f s N) := by
    intro r
    induction r with
    | zero =>
      intro k F hk hF hI
      obtain ⟨n, rfl⟩ : ∃ n, F = n + 1 := ⟨F - 1, by omega⟩
      have : k = N := by omega
      subst this
      exact h0 n _ hI
    | succ r ih =>
      intro k F hk hF hI
      obtain ⟨n, rfl⟩ : ∃ n, F = n + 1 := ⟨F - 1, by omega⟩
      obtain ⟨e, hI'⟩ := h1 n k _ (by omega) hI
      rw [e]
      exact ih (k + 1) n (by omega) (by omega) hI'
  exact key N 0 F (by omega) hF hI
/-- beside a cell, by the model -/
def bbN (W C k : Nat) : Nat := (if k % W ≤ 0 then 0 else 1 <<< (k - 1)) ||| (if W - 1 ≤ k % W then 0 else 1 <<< (k + 1)) ||| (if k < W then 0 else 1 <<< (k - W)) ||| (if C - W ≤ k then 0 else 1 <<< (k + W))
theorem ite_nI {c : Prop} [Decidable c] (a b : Nat) : (if c then nI a else nI b) = nI (if c then a else b) := by split <;> rfl
theorem besides_step {mi : MI} {w : WS} {W C x a k n : Nat} (hW : 1 ≤ W) (hW5 : W ≤ 5) (hC : C ≤ 25) (hWC : W ≤ C) (h24 : mi 10 0 24 = nI W) (h26 : mi 10 0 26 = nI C) (hx : x < 2147483648) (hk : k < C) :
    L_X11_besides_4 mi w (n + 1) (nI x) (nI a) (nI k) = L_X11_besides_4 mi w n (nI x) (nI (if x.testBit k then a ||| bbN W C k else a)) (nI (k + 1)) := by
  have hm : k % W < W := Nat.mod_lt k hW
  have hm2 : k % W ≤ k := Nat.mod_le k W
  have e : ∀ p q r t : Nat, ((((nI a ||| nI p) ||| nI q) ||| nI r) ||| nI t) = nI (a ||| (p ||| q ||| r ||| t)) := fun p q r t => by
    simp only [nor, Nat.or_assoc]
  unfold bbN
  by_cases h1 : k % W ≤ 0 <;> by_cases h2 : W - 1 ≤ k % W <;> by_cases h3 : k < W <;> by_cases h4 : C - W ≤ k <;>
  simp (disch := omega) only [L_X11_besides_4, h24, h26, i0, i1, nle, nlt, neq, nadd, nsub, nrem, n31, nshl, nshr, nand, ckN, ckT, if_neg, if_pos, bit1, e] <;>
  · split <;> rfl
