/-! THE REFERENCES of the standing world: the wall's shop, whether the tokens have the tape, which images are there -/
abbrev WS : Type := Nat × Bool × (Nat → Bool) × Int64
def RS (w : WS) : MR := fun c i k => match c with
  | 0 => (match k with | 1 => aR 29 i | _ => aN)
  | 1 => (match k with | 1 => aR 31 i | 2 => aR 32 i | 3 => aR 33 i | _ => aN)
  | 2 => (match k with | 0 => aR 42 0 | 1 => aR 43 0 | 2 => aR 44 0 | 3 => aR 45 0 | 4 => aR 46 0 | _ => aN)
  | 3 => (match k with | 0 => aR 30 i | _ => aN)
  | 4 => (match k with | 0 => aR 5 8 | 1 => aR 0 8 | 2 => aR 3 8 | 3 => aR 1 8 | 6 => aR 6 0 | 7 => aR 34 0 | 8 => aR 35 0 | _ => aN)
  | 5 => (match k with | 4 => aR 26 i | 5 => aR 27 i | 6 => aR 28 i | _ => aN)
  | 6 => (match k with | 0 => (match i with | 0 => (match w.2.1 with | true => aR 20 0 | false => aR 36 0) | _ => aN) | _ => aN)
  | 7 => (match k with | 0 => aR 20 i | 4 => aR 21 i | 5 => aR 22 i | 6 => aR 23 i | 7 => aR 24 i | 8 => aR 25 i | _ => aN)
  | 8 => (match k with | 0 => (match i with | 0 => aR 5 w.1 | _ => aN) | 1 => aR 37 0 | 2 => aR 38 0 | 3 => aR 39 0 | 4 => aR 40 0 | 5 => aR 41 0 | _ => aN)
  | 9 => (match k with | 0 => aR 7 0 | 1 => aR 47 0 | 2 => aR 4 0 | 3 => aR 8 0 | 4 => aR 2 0 | _ => aN)
  | 10 => (match k with
    | 1 => aR 50 0 | 2 => aR 51 0 | 3 => aR 52 0 | 4 => aR 53 0 | 5 => aR 54 0 | 6 => aR 55 0 | 7 => aR 56 0 | 8 => aR 57 0 | 9 => aR 58 0 | 15 => (match i with | 0 => aL w.2.2.2 | _ => aN) | 19 => aR 59 0 | 20 => aR 60 0
    | 29 => aR 61 0 | 30 => aR 62 0 | 31 => aR 63 0 | 32 => aR 64 0 | 33 => aR 65 0 | 34 => aR 66 0 | 39 => aR 67 0 | 40 => aR 68 0 | 41 => aR 69 0 | 42 => aR 70 0 | 48 => aR 71 0 | 50 => aR 72 0 | _ => aN)
  | 22 => aR 5 (2 * i + k)
  | 23 => aR 0 (2 * i + k)
  | 24 => aR 3 (2 * i + k)
  | 25 => aR 1 (2 * i + k)
  | 47 => (match i with | 0 => (match w.2.2.1 k with | true => aR 7 (k + 1) | false => aN) | _ => aN)
  | _ => aN
/-- a truth as a number -/
def b2 (p : Prop) [Decidable p] : Int32 := if p then 1 else 0
theorem nb_b2 {p : Prop} [Decidable p] : narrow .boolean (.int (b2 p)) = .int (b2 p) := by unfold b2; split <;> rfl
theorem pf_bool {p : Prop} [Decidable p] : narrow .boolean (.int (b2 p)) = .int (b2 p) ∧ fits .boolean (.int (b2 p)) = true := by unfold b2; split <;> exact ⟨rfl, rfl⟩
theorem b2_0 {p : Prop} [Decidable p] (h : b2 p = 0) : ¬ p := by unfold b2 at h; split at h <;> first | (exact absurd h (by decide)) | assumption
theorem b2_n {p : Prop} [Decidable p] (h : ¬ b2 p = 0) : p := by unfold b2 at h; split at h <;> first | assumption | (exact absurd rfl h)
theorem ite_t {α : Type} {c : Prop} [Decidable c] {a b : α} (P : α → Prop) (q : c) (h : P (if c then a else b)) : P a := by rw [if_pos q] at h; exact h
theorem ite_f {α : Type} {c : Prop} [Decidable c] {a b : α} (P : α → Prop) (q : ¬ c) (h : P (if c then a else b)) : P b := by rw [if_neg q] at h; exact h
def irem (x y : Int32) : Int32 := x - x / y * y
def ushr (x y : Int32) : Int32 := (x.toUInt32 >>> (y.toUInt32 &&& Int32.toUInt32 31)).toInt32
def imax (x y : Int32) : Int32 := if x < y then y else x
def imin (x y : Int32) : Int32 := if y < x then y else x
theorem onI_imp {f g : Int32 → MM → Prop} (m : ∀ x M, f x M → g x M) : ∀ v M, onI f v M → onI g v M := by
  intro v M h
  unfold onI at h ⊢
  split at h
  · exact m _ _ h
  · exact h.elim
def STA12 : List Int32 := [0, 4, 10, 11, 13]
def STA13 : List Int32 := [2, 1, -1, 2, 2, 1, 1, 3, 3, 1, -1, 3, 2]
def STA14 : List Int32 := [1, 1, 0, 0, 0, 0, 0, 0, 0, 0, 1, 0, 0, 1, 0, 0, 0, 0, 0, 0, 0, 0, 0, 0, 0, 0, 0, 1, 0, 0, 0, 0, 0, 0, 0, 0, 0, 0, 0]
def STA15 : List Int32 := [5, 5, 0, 10, 0, 0, 31, 0, 0, 5, 9, 0, 5, 9, 0, 5, 0, 0, 5, 0, 0, 5, 4, 4, 5, 4, 4, 9, 0, 0, 9, 0, 0, 4, 4, 5, 4, 4, 0]
def STA18 : List Int32 := [0, 0, 0, 0, 1, 2, 3, 3, 4, 5]
theorem mv9 {α : Type} (P : α → Prop) {v a : α} (e : v = a) (h : P v) : P a := e ▸ h
theorem b2_t {c : Prop} [Decidable c] (q : c) : b2 c = 1 := if_pos q
theorem b2_f {c : Prop} [Decidable c] (q : ¬ c) : b2 c = 0 := if_neg q
theorem b2n_t {c : Prop} [Decidable c] (q : c) : b2 (¬ c) = 0 := if_neg fun z => z q
theorem b2n_f {c : Prop} [Decidable c] (q : ¬ c) : b2 (¬ c) = 1 := if_pos q
theorem b2a_t {c p : Prop} [Decidable c] [Decidable p] (q : c) : b2 (c ∧ p) = b2 p := by simp [b2, q]
theorem b2a_f {c p : Prop} [Decidable c] [Decidable p] (q : ¬ c) : b2 (c ∧ p) = 0 := by simp [b2, q]
theorem b2na_t {c p : Prop} [Decidable c] [Decidable p] (q : c) : b2 (¬ c ∧ p) = 0 := by simp [b2, q]
theorem b2na_f {c p : Prop} [Decidable c] [Decidable p] (q : ¬ c) : b2 (¬ c ∧ p) = b2 p := by simp [b2, q]
theorem b2o_t {c p : Prop} [Decidable c] [Decidable p] (q : c) : b2 (c ∨ p) = 1 := by simp [b2, q]
theorem b2o_f {c p : Prop} [Decidable c] [Decidable p] (q : ¬ c) : b2 (c ∨ p) = b2 p := by simp [b2, q]
theorem b2no_t {c p : Prop} [Decidable c] [Decidable p] (q : c) : b2 (¬ c ∨ p) = b2 p := by simp [b2, q]
theorem b2no_f {c p : Prop} [Decidable c] [Decidable p] (q : ¬ c) : b2 (¬ c ∨ p) = 1 := by simp [b2, q]

theorem u3_eq {α : Type} {f g : Nat → Nat → Nat → α} {c i k : Nat} {v : α} (h1 : g c i k = v) (h2 : ∀ c' i' k', ¬ (c' = c ∧ i' = i ∧ k' = k) → f c' i' k' = g c' i' k') : u3 f c i k v = g := by
  funext c' i' k'
  by_cases h : c' = c ∧ i' = i ∧ k' = k
  · obtain ⟨rfl, rfl, rfl⟩ := h
    rw [h1]; simp [u3]
  · rw [← h2 c' i' k' h]
    simp only [u3, if_neg h]
theorem rs_shop {w : WS} {j : Nat} : u3 (RS w) 8 0 0 (aR 5 j) = RS (j, w.2) := by
  refine u3_eq ?_ ?_
  · rfl
  intro c i k h
  unfold RS
  split <;> try rfl
  split <;> try rfl
  cases i <;> try rfl
  exact absurd ⟨rfl, rfl, rfl⟩ h
theorem rs_tape {w : WS} : u3 (RS w) 6 0 0 (aR 20 0) = RS (w.1, true, w.2.2) := by
  refine u3_eq ?_ ?_
  · rfl
  intro c i k h
  unfold RS
  split <;> try rfl
  split <;> try rfl
  cases i <;> try rfl
  exact absurd ⟨rfl, rfl, rfl⟩ h
theorem rs_word {w : WS} {v : Int64} : u3 (RS w) 10 0 15 (aL v) = RS (w.1, w.2.1, w.2.2.1, v) := by
  refine u3_eq ?_ ?_
  · rfl
  intro c i k h
  unfold RS
  split <;> try rfl
  split <;> try rfl
  cases i <;> try rfl
  exact absurd ⟨rfl, rfl, rfl⟩ h
theorem rs_image {w : WS} {n : Nat} : u3 (RS w) 47 0 n (aR 7 (n + 1)) = RS (w.1, w.2.1, (fun k => if k = n then true else w.2.2.1 k), w.2.2.2) := by
  apply u3_eq
  · simp [RS]
  intro c i k h
  unfold RS
  split <;> try rfl
  split <;> try rfl
  by_cases e : k = n
  · subst e; exact absurd ⟨rfl, rfl, rfl⟩ h
  · simp [e]
