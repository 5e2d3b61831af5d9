/-! A DAY: its state as plain numbers, what a deed does to it; the class's side -/
abbrev DS : Type := ((Nat → Nat) × (Nat → Nat) × (Nat → Nat) × (Nat → Nat)) × (Nat → Nat) × Nat × Nat × Nat × Int32
def updN (f : Nat → Nat) (s v : Nat) : Nat → Nat := fun k => if k = s then v else f k
theorem updN_s {f : Nat → Nat} {s v : Nat} : updN f s v s = v := if_pos rfl
theorem updN_n {f : Nat → Nat} {s v k : Nat} (h : k ≠ s) : updN f s v k = f k := if_neg h
def colN (wa : Nat → Nat) (C c : Nat) : Nat := orN (fun k => if wa k = c then 1 <<< k else 0) C
/-- where a sheet is open by now -/
def nowN (W H : Nat) (D : DS) (s : Nat) : Nat := slN W H (openN W H (D.1.1 s)) (D.1.2.2.1 s) (D.1.2.2.2 s)
/-- how many cells that had another colour, k at most, get colour c -/
def hitB (wa : Nat → Nat) (A c k p : Nat) : Nat := if A.testBit p && (decide (wa p ≠ 0) && (decide (wa p ≤ k) && decide (wa p ≠ c))) then 1 else 0
def hitN (C : Nat) (wa : Nat → Nat) (A c k : Nat) : Nat := sN (hitB wa A c k) C
def sprD (W H : Nat) (t : Int32) (D : DS) (s c : Nat) : DS :=
  ((D.1.1, updN D.1.2.1 s (D.1.2.1 s + 1), D.1.2.2), (fun p => if (nowN W H D s).testBit p then c else D.2.1 p), D.2.2.1 + 1, D.2.2.2.1 + hitN (W * H) D.2.1 (nowN W H D s) c 9, D.2.2.2.2.1, if D.2.2.2.2.2 = -1 ∧ hitN (W * H) D.2.1 (nowN W H D s) c 9 ≠ 0 then t else D.2.2.2.2.2)
def cutD (D : DS) (s x : Nat) : DS := ((updN D.1.1 s x, D.1.2), D.2)
def sldD (D : DS) (s x y : Nat) : DS := ((D.1.1, D.1.2.1, updN D.1.2.2.1 s x, updN D.1.2.2.2 s y), D.2)
def wshD (C : Nat) (D : DS) (c : Nat) : DS := (D.1, (fun p => if D.2.1 p = c then 0 else D.2.1 p), D.2.2.1, D.2.2.2.1, D.2.2.2.2.1 + popN (colN D.2.1 C c), D.2.2.2.2.2)
def doD (W H n : Nat) (we : Nat → Nat) (t : Int32) (D : DS) (q0 q1 q2 q3 : Int32) : Option DS :=
  if q0 = 5 then (if colN D.2.1 (W * H) q1.toNatClampNeg = 0 then none else some (wshD (W * H) D q1.toNatClampNeg))
  else if n ≤ q1.toNatClampNeg then none
  else if q0 = 0 then (if we q1.toNatClampNeg ≤ D.1.2.1 q1.toNatClampNeg then none else some (sprD W H t D q1.toNatClampNeg q2.toNatClampNeg))
  else if q0 = 1 then some (cutD D q1.toNatClampNeg (flN W H (D.1.1 q1.toNatClampNeg)))
  else if q0 = 2 then some (cutD D q1.toNatClampNeg (tuN W H (D.1.1 q1.toNatClampNeg)))
  else if q0 = 3 then (if D.1.2.2.1 q1.toNatClampNeg = q2.toNatClampNeg ∧ D.1.2.2.2 q1.toNatClampNeg = q3.toNatClampNeg then none else some (sldD D q1.toNatClampNeg q2.toNatClampNeg q3.toNatClampNeg))
  else if q2.toNatClampNeg < W ∧ q3.toNatClampNeg < H ∧ (D.1.1 q1.toNatClampNeg).testBit (W * q3.toNatClampNeg + q2.toNatClampNeg) = true then some (cutD D q1.toNatClampNeg (andn (D.1.1 q1.toNatClampNeg) (1 <<< (W * q3.toNatClampNeg + q2.toNatClampNeg)))) else none
def DOK (W H : Nat) (we : Nat → Nat) (D : DS) : Prop := (∀ s, s < 6 → D.1.1 s < 2 ^ (W * H) ∧ D.1.2.1 s ≤ we s ∧ D.1.2.2.1 s < 5 ∧ D.1.2.2.2 s < 5) ∧ (∀ c, D.2.1 c ≤ 9) ∧ (D.2.2.2.2.2 = -1 ↔ D.2.2.2.1 = 0)
/-- the class's memory holds a state -/
def DC (mi : MI) (W H : Nat) (D : DS) : Prop := (∀ s, s < 6 → mi 38 0 s = nI (D.1.1 s) ∧ mi 39 0 s = nI (D.1.2.1 s) ∧ mi 40 0 s = nI (D.1.2.2.1 s) ∧ mi 41 0 s = nI (D.1.2.2.2 s)) ∧ (∀ c, 1 ≤ c → c < 10 → mi 37 0 c = nI (colN D.2.1 (W * H) c)) ∧ mi 8 0 7 = nI D.2.2.1 ∧ mi 8 0 10 = nI D.2.2.2.1 ∧ mi 8 0 11 = nI D.2.2.2.2.1 ∧ mi 8 0 9 = D.2.2.2.2.2
theorem ShC_keep {mi mi' : MI} (K : Keep mi mi') {i W H sl n : Nat} {cu we : Nat → Nat} (hi : i < 8) (h : ShC mi i W H sl n cu we) : ShC mi' i W H sl n cu we := ShC_of (fun k => K 5 i k (st_c (by omega) hi)) (fun k => K 26 i k (st_c (by omega) hi)) (fun k => K 27 i k (st_c (by omega) hi)) (fun k => K 28 i k (st_c (by omega) hi)) h
theorem col_tb {wa : Nat → Nat} {C c p : Nat} : (colN wa C c).testBit p = true ↔ p < C ∧ wa p = c := by
  unfold colN
  rw [orN_tb]
  constructor
  · rintro ⟨k, hk, h⟩
    split at h
    · rename_i e
      rw [one_tb] at h
      subst h
      exact ⟨hk, e⟩
    · simp at h
  · rintro ⟨h1, h2⟩
    exact ⟨p, h1, by rw [if_pos h2]; exact one_tb.mpr rfl⟩
theorem col_tb2 {wa : Nat → Nat} {C c p : Nat} (hp : p < C) : (colN wa C c).testBit p = decide (wa p = c) := by
  cases h : decide (wa p = c)
  · cases h2 : (colN wa C c).testBit p
    · rfl
    · exact absurd (col_tb.mp h2).2 (of_decide_eq_false h)
  · exact col_tb.mpr ⟨hp, of_decide_eq_true h⟩
theorem col_lt (wa : Nat → Nat) (C c : Nat) : colN wa C c < 2 ^ C := by
  refine orN_lt fun k hk => ?_
  have := bit_lt hk
  have := Nat.two_pow_pos C
  split <;> omega
theorem hit_0 (C : Nat) (wa : Nat → Nat) (A c : Nat) : hitN C wa A c 0 = 0 := by
  refine sN_0 fun k _ => if_neg ?_
  intro h
  simp only [Bool.and_eq_true, decide_eq_true_eq] at h
  omega
theorem hit_succ {C : Nat} (hC : C ≤ 25) (wa : Nat → Nat) {A : Nat} (c k : Nat) : hitN C wa A c (k + 1) = hitN C wa A c k + (if k + 1 = c then 0 else popN (colN wa C (k + 1) &&& A)) := by
  by_cases e : k + 1 = c
  · rw [if_pos e, Nat.add_zero]
    refine sN_congr fun p _ => ?_
    have : (decide (wa p ≤ k + 1) && decide (wa p ≠ c)) = (decide (wa p ≤ k) && decide (wa p ≠ c)) := by
      rw [← Bool.decide_and, ← Bool.decide_and]
      exact decide_eq_decide.mpr (by omega)
    unfold hitB
    rw [this]
  · rw [if_neg e, popC (Nat.lt_of_le_of_lt Nat.and_le_left (col_lt wa C (k + 1))) hC]
    unfold hitN
    rw [← sN_add]
    refine sN_congr fun p hp => ?_
    unfold bN hitB
    rw [Nat.testBit_and, col_tb2 hp]
    cases A.testBit p
    · rw [Bool.and_false, Bool.false_and, Bool.false_and]
      rfl
    · by_cases h : wa p = k + 1
      · rw [h, decide_eq_true (show k + 1 ≠ 0 by omega), decide_eq_true (show k + 1 ≤ k + 1 by omega), decide_eq_true (show k + 1 ≠ c from e), decide_eq_false (show ¬ k + 1 ≤ k by omega), decide_eq_true (show k + 1 = k + 1 from rfl)]
        rfl
      · have : (decide (wa p ≤ k + 1)) = decide (wa p ≤ k) := decide_eq_decide.mpr (by omega)
        rw [this, decide_eq_false h, Bool.false_and]
        rfl
theorem hit_le (C : Nat) (hC : C ≤ 25) (wa : Nat → Nat) (A c k : Nat) : hitN C wa A c k ≤ 25 := by
  have h := sN_bnd (f := hitB wa A c k) (n := C) (c := 1) (fun p _ => by unfold hitB; split <;> omega)
  unfold hitN
  omega
theorem now_lt {W H s : Nat} {we : Nat → Nat} {D : DS} (b : BW W H) (hD : DOK W H we D) (hs : s < 6) : nowN W H D s < 2 ^ (W * H) :=
  sl_lt b.1.2 b.2.2 (hD.1 s hs).2.2.1 (hD.1 s hs).2.2.2 (open_lt (hD.1 s hs).1)
theorem c_now {mi : MI} {w : WS} {W H s : Nat} {we : Nat → Nat} {D : DS} (b : BW W H) (cw : CW mi w.1 W H) (hD : DOK W H we D) (hd : DC mi W H D) (hs : s < 6) : F_X9_openNow mi w (nI s) = some (nI (nowN W H D s)) := by
  obtain ⟨h1, -, h3, h4⟩ := hd.1 s hs
  unfold F_X9_openNow
  rw [ck6 hs, ck6 hs, ck6 hs, ncl (by omega), h1, h3, h4, c_open b cw (hD.1 s hs).1, c_slid w b cw (hD.1 s hs).2.2.1 (hD.1 s hs).2.2.2, Option.bind_some]
  rfl
theorem nand0 {X A : Nat} (hX : X < 33554432) : (nI X &&& nI A = 0) = (X &&& A = 0) := by
  have h1 : X &&& A < 33554432 := Nat.lt_of_le_of_lt Nat.and_le_left hX
  rw [nand, i0, neq (by omega) (by omega)]
theorem c_overlay {m : MI} {w : WS} {o A X : Nat} (ho : o < 10) (h : m 37 0 o = nI X) (hX : X < 33554432) : ∃ m', F_X9_overlay m w (nI o) (nI A) = some m' ∧ m' 37 0 o = nI (andn X A) ∧ m' 8 0 10 = m 8 0 10 + nI (popN (X &&& A)) ∧ m' 8 0 9 = (if m 8 0 9 = -1 ∧ popN (X &&& A) ≠ 0 then m 8 0 6 else m 8 0 9) ∧ ∀ c i j, ¬ (c = 37 ∧ i = 0 ∧ j = o) → ¬ (c = 8 ∧ i = 0 ∧ (j = 9 ∨ j = 10)) → m' c i j = m c i j := by
  have h1 : X &&& A < 33554432 := Nat.lt_of_le_of_lt Nat.and_le_left hX
  have hp : popN (X &&& A) = 0 ↔ X &&& A = 0 := pop_0 h1
  unfold F_X9_overlay
  simp (disch := omega) only [ncl, ckJ, lt_e]
  rw [h, nand, c_pop h1]
  by_cases e : X &&& A = 0
  · rw [if_pos (by rw [e]; rfl), u3_n (by omega), h, nandn]
    refine ⟨_, rfl, u3_s, ?_, ?_, fun c i j q1 q2 => ?_⟩
    · rw [u3_n (by omega), u3_s]
    · rw [u3_n (by omega), u3_n (by omega), if_neg fun q => q.2 (hp.mpr e)]
    · rw [u3_n (by omega), u3_n (by omega)]
  · rw [if_neg (nne0 (by omega) e)]
    by_cases f : m 8 0 9 = -1
    · rw [if_pos f, u3_n (c := 8) (c' := 37) (by omega), u3_n (c := 8) (c' := 37) (by omega), h, nandn]
      refine ⟨_, rfl, u3_s, ?_, ?_, fun c i j q1 q2 => ?_⟩
      · rw [u3_n (by omega), u3_s, u3_n (by omega)]
      · rw [u3_n (by omega), u3_n (by omega), u3_s, if_pos ⟨f, fun q => e (hp.mp q)⟩]
      · rw [u3_n (by omega), u3_n (by omega), u3_n (by omega)]
    · rw [if_neg f, u3_n (by omega), h, nandn]
      refine ⟨_, rfl, u3_s, ?_, ?_, fun c i j q1 q2 => ?_⟩
      · rw [u3_n (by omega), u3_s]
      · rw [u3_n (by omega), u3_n (by omega), if_neg fun q => f q.1]
      · rw [u3_n (by omega), u3_n (by omega)]
