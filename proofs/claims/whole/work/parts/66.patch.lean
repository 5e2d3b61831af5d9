/-! BRIDGES: the class -/
theorem sN_one {f g : Nat → Nat} {c : Nat} : ∀ {n}, c < n → (∀ k, k < n → k ≠ c → f k = g k) → f c = g c + 1 → sN f n = sN g n + 1 := by
  intro n
  induction n with
  | zero => intro h; omega
  | succ n ih =>
    intro hc h1 h2
    show sN f n + f n = sN g n + g n + 1
    by_cases e : c = n
    · subst e
      rw [h2, sN_congr (fun k hk => h1 k (by omega) (by omega))]
      omega
    · rw [ih (by omega) (fun k hk => h1 k (by omega)) h2, h1 n (by omega) (by omega)]
      omega
theorem or_add {y c : Nat} (hy : y < 2 ^ c) : y ||| 1 <<< c = y + 2 ^ c := by
  rw [Nat.shiftLeft_eq, Nat.one_mul, Nat.or_comm, Nat.add_comm]
  have := Nat.two_pow_add_eq_or_of_lt hy 1
  rw [Nat.mul_one] at this
  exact this.symm
theorem one_tb2 {c i : Nat} : (1 <<< c).testBit i = decide (c = i) := by
  cases h : decide (c = i)
  · cases h2 : (1 <<< c).testBit i
    · rfl
    · exact absurd (one_tb.mp h2) (of_decide_eq_false h)
  · exact one_tb.mpr (of_decide_eq_true h)
theorem lt_tb {y c i : Nat} (hy : y < 2 ^ c) (h : y.testBit i = true) : i < c := by
  by_cases q : i < c
  · exact q
  · rw [Nat.testBit_lt_two_pow (Nat.lt_of_lt_of_le hy (Nat.pow_le_pow_right (by omega) (by omega)))] at h
    cases h
theorem pop_or {y c : Nat} (hy : y < 2 ^ c) (hc : c < 25) : popN (y ||| 1 <<< c) = popN y + 1 := by
  have hf : y.testBit c = false := Nat.testBit_lt_two_pow hy
  refine sN_one hc (fun k _ hk => ?_) ?_
  · unfold bN
    rw [Nat.testBit_or, one_tb2, decide_eq_false (Ne.symm hk), Bool.or_false]
  · unfold bN
    rw [Nat.testBit_or, one_tb2, decide_eq_true rfl, Bool.or_true, hf]
    rfl
/-- a set's highest cell c taken off -/
theorem top_off {X c : Nat} (h : X < 2 ^ (c + 1)) (hb : X.testBit c = true) : ∃ y, y < 2 ^ c ∧ X = y ||| 1 <<< c := by
  refine ⟨X % 2 ^ c, Nat.mod_lt _ (Nat.two_pow_pos c), eq_tb fun i => ?_⟩
  rw [Nat.testBit_or, one_tb2, Nat.testBit_mod_two_pow]
  by_cases e : c = i
  · subst e; simp [hb]
  · by_cases q : i < c
    · simp [q, e]
    · have : X.testBit i = false := Nat.testBit_lt_two_pow (Nat.lt_of_lt_of_le h (Nat.pow_le_pow_right (by omega) (by omega)))
      simp [this, e]
theorem no_top {X c : Nat} (h : X < 2 ^ (c + 1)) (hb : X.testBit c = false) : X < 2 ^ c := by
  apply Nat.lt_pow_two_of_testBit
  intro i hi
  by_cases e : i = c
  · rw [e]; exact hb
  · exact Nat.testBit_lt_two_pow (Nat.lt_of_lt_of_le h (Nat.pow_le_pow_right (by omega) (by omega)))
theorem sub_of {x y : Nat} (h : ∀ i, x.testBit i = true → y.testBit i = true) : x &&& y = x := by
  refine eq_tb fun i => ?_
  rw [Nat.testBit_and, Bool.and_eq_true]
  exact ⟨fun q => q.1, fun q => ⟨q, h i q⟩⟩
theorem andn_andn {x y c : Nat} : andn (andn x (1 <<< c)) y = andn x (y ||| 1 <<< c) := by
  refine eq_tb fun i => ?_
  rw [tb_andn, tb_andn, tb_andn, Nat.testBit_or]
  cases x.testBit i <;> cases y.testBit i <;> cases (1 <<< c).testBit i <;> decide
/-- k patches below a cell, that keep all from falling -/
def PT (W H cut k top X : Nat) : Prop := X &&& cut = X ∧ popN X = k ∧ X < 2 ^ top ∧ fallN W H (andn cut X) = 0
def LeP (W H cut k top : Nat) (r : Int32) : Prop := (r = -1 ∧ ∀ X, ¬ PT W H cut k top X) ∨ ∃ x, r = nI x ∧ PT W H cut k top x ∧ ∀ X, PT W H cut k top X → x ≤ X
theorem c_least {mi : MI} (w : WS) {i W H : Nat} (b : BW W H) (cw : CW mi i W H) : ∀ k n cut top, k < n → k ≤ 3 → top ≤ 25 → cut < 33554432 → ∃ r, F_X1_leastPatches mi w n i (nI cut) (nI k) (nI top) = some r ∧ LeP W H cut k top r := by
  intro k
  induction k with
  | zero =>
    intro n cut top hn _ ht hcut
    obtain ⟨n, rfl⟩ : ∃ m, n = m + 1 := ⟨n - 1, by omega⟩
    have hp : 2 ^ top ≤ 2 ^ 25 := Nat.pow_le_pow_right (by omega) ht
    have hf := pw (fall_lt W H cut) (cells_le b.1.2 b.2.2)
    have ha : andn cut 0 = cut := by unfold andn; rw [Nat.and_zero, Nat.xor_zero]
    refine ⟨_, by rw [F_X1_leastPatches, if_neg (by decide)], ?_⟩
    rw [c_fall b cw]
    by_cases e : fallN W H cut = 0
    · rw [if_pos (by rw [e]; rfl)]
      refine Or.inr ⟨0, rfl, ⟨Nat.zero_and _, ?_, Nat.two_pow_pos _, by rw [ha]; exact e⟩, fun X _ => Nat.zero_le X⟩
      exact (pop_0 (by omega)).mpr rfl
    · rw [if_neg (nne0 (by omega) e)]
      refine Or.inl ⟨rfl, fun X ⟨h1, h2, h3, h4⟩ => e ?_⟩
      have : X = 0 := (pop_0 (by omega)).mp h2
      subst this
      rwa [ha] at h4
  | succ k ih =>
    intro n cut top hn hk3 ht hcut
    obtain ⟨n, rfl⟩ : ∃ m, n = m + 1 := ⟨n - 1, by omega⟩
    have loop : ∀ r f c, c + r = top → r < f → (∀ X, ¬ PT W H cut (k + 1) c X) → ∃ q, L_X1_leastPatches_21 mi w (F_X1_leastPatches mi w n) f i (nI cut) (nI (k + 1)) (nI top) (nI c) = some q ∧ LeP W H cut (k + 1) top q := by
      intro r
      induction r with
      | zero =>
        intro f c hc hf hno
        obtain ⟨f, rfl⟩ : ∃ m, f = m + 1 := ⟨f - 1, by omega⟩
        have : c = top := by omega
        subst this
        refine ⟨-1, ?_, Or.inl ⟨rfl, hno⟩⟩
        rw [L_X1_leastPatches_21]
        exact if_pos (show nI c ≤ nI c by rw [nle (by omega) (by omega)]; omega)
      | succ r ihr =>
        intro f c hc hf hno
        obtain ⟨f, rfl⟩ : ∃ m, f = m + 1 := ⟨f - 1, by omega⟩
        have hsh : ((1 : Int32) <<< (nI c &&& 31)) = nI (1 <<< c) := by rw [n31 (by omega), i1, nshl _ (by omega)]
        have hand : (nI cut &&& nI (1 <<< c) = 0) = (cut.testBit c = false) := by
          rw [nand]
          have h1 : cut &&& 1 <<< c < 33554432 := Nat.lt_of_le_of_lt Nat.and_le_left hcut
          rw [i0, neq (by omega) (by omega)]
          apply propext
          constructor
          · intro h
            cases q : cut.testBit c
            · rfl
            · have : (cut &&& 1 <<< c).testBit c = true := by rw [Nat.testBit_and, q, one_tb2, decide_eq_true rfl]; rfl
              rw [h, Nat.zero_testBit] at this
              cases this
          · intro h
            refine eq_tb fun j => ?_
            rw [Nat.testBit_and, one_tb2, Nat.zero_testBit]
            by_cases e : c = j
            · subst e; simp [h]
            · simp [e]
        rw [L_X1_leastPatches_21, if_neg (by rw [nle (by omega) (by omega)]; omega), hsh]
        by_cases hb : cut.testBit c = true
        · rw [if_neg (show ¬ (nI cut &&& nI (1 <<< c) = 0) by rw [hand, hb]; decide), nandn, show nI (k + 1) - 1 = nI k by rw [i1, nsub (by omega), Nat.add_sub_cancel]]
          obtain ⟨q, e1, e2⟩ := ih n (andn cut (1 <<< c)) c (by omega) (by omega) (by omega) (pw (C := 25) (andn_lt _ hcut) (Nat.le_refl _))
          rw [e1, Option.bind_some, show nI c + 1 = nI (c + 1) from nI_add c 1]
          have down : ∀ y, y < 2 ^ c → PT W H cut (k + 1) top (y ||| 1 <<< c) → PT W H (andn cut (1 <<< c)) k c y := by
            intro y hy ⟨h1, h2, h3, h4⟩
            refine ⟨sub_of fun j hj => ?_, ?_, hy, by rw [andn_andn]; exact h4⟩
            · have hj2 := lt_tb hy hj
              rw [tb_andn, one_tb2, sub_tb h1 j (by rw [Nat.testBit_or, hj]; rfl), decide_eq_false (by omega)]
              rfl
            · rw [pop_or hy (by omega)] at h2
              omega
          have hp1 : (2 : Nat) ^ (c + 1) ≤ 2 ^ top := Nat.pow_le_pow_right (by omega) (by omega)
          have hp2 : (2 : Nat) ^ (c + 1) = 2 ^ c + 2 ^ c := by rw [Nat.pow_succ]; omega
          rcases e2 with ⟨rfl, hno2⟩ | ⟨x, rfl, ⟨p1, p2, p3, p4⟩, hmin⟩
          · rw [if_pos rfl]
            refine ihr f (c + 1) (by omega) (by omega) fun X ⟨h1, h2, h3, h4⟩ => ?_
            cases q : X.testBit c
            · exact hno X ⟨h1, h2, no_top h3 q, h4⟩
            · obtain ⟨y, hy, rfl⟩ := top_off h3 q
              exact hno2 y (down y hy ⟨h1, h2, by omega, h4⟩)
          · have hc2 : (2 : Nat) ^ c < 2 ^ 25 := Nat.pow_lt_pow_right (by omega) (by omega)
            rw [if_neg (not_m1 (by omega)), nor]
            refine ⟨_, rfl, Or.inr ⟨x ||| 1 <<< c, rfl, ⟨sub_of fun j hj => ?_, ?_, ?_, ?_⟩, fun X ⟨h1, h2, h3, h4⟩ => ?_⟩⟩
            · rw [Nat.testBit_or, one_tb2, Bool.or_eq_true, decide_eq_true_eq] at hj
              rcases hj with hj | hj
              · have := sub_tb p1 j hj
                rw [tb_andn, Bool.and_eq_true] at this
                exact this.1
              · rw [← hj]; exact hb
            · rw [pop_or p3 (by omega), p2]
            · rw [or_add p3]; omega
            · rw [← andn_andn]; exact p4
            · rw [or_add p3]
              by_cases g1 : X < 2 ^ (c + 1)
              · cases q : X.testBit c
                · exact absurd ⟨h1, h2, no_top g1 q, h4⟩ (hno X)
                · obtain ⟨y, hy, rfl⟩ := top_off g1 q
                  have := hmin y (down y hy ⟨h1, h2, h3, h4⟩)
                  rw [or_add hy]
                  omega
              · omega
        · have hb' : cut.testBit c = false := by cases h : cut.testBit c; rfl; exact absurd h hb
          rw [if_pos (show nI cut &&& nI (1 <<< c) = 0 by rw [hand]; exact hb'), show nI c + 1 = nI (c + 1) from nI_add c 1]
          refine ihr f (c + 1) (by omega) (by omega) fun X ⟨h1, h2, h3, h4⟩ => ?_
          refine hno X ⟨h1, h2, no_top h3 ?_, h4⟩
          cases q : X.testBit c
          · rfl
          · exact absurd (sub_tb h1 c q) hb
    obtain ⟨q, e1, e2⟩ := loop top 1000000 0 (by omega) (by omega) (fun X ⟨h1, h2, h3, h4⟩ => by
      have : X = 0 := by have : X < 1 := h3; omega
      subst this
      rw [(pop_0 (by omega)).mpr rfl] at h2
      omega)
    refine ⟨q, ?_, e2⟩
    rw [F_X1_leastPatches, if_pos (by rw [i0, nlt (by omega) (by omega)]; omega)]
    exact e1
theorem c_fewest {mi : MI} (w : WS) {i W H cut : Nat} (b : BW W H) (cw : CW mi i W H) (hcut : cut < 33554432) : ∃ r, F_X1_fewestPatches mi w i (nI cut) = some r ∧ ((r = -1 ∧ ∀ X k, k ≤ 3 → ¬ PT W H cut k 25 X) ∨ ∃ x k, k ≤ 3 ∧ r = nI x ∧ PT W H cut k 25 x ∧ (∀ X, PT W H cut k 25 X → x ≤ X) ∧ ∀ X j, j < k → ¬ PT W H cut j 25 X) := by
  have loop : ∀ r f k, k + r = 4 → r < f → (∀ X j, j < k → ¬ PT W H cut j 25 X) → ∃ q, L_X1_fewestPatches_2 mi w f i (nI cut) (nI k) = some q ∧ ((q = -1 ∧ ∀ X k, k ≤ 3 → ¬ PT W H cut k 25 X) ∨ ∃ x k, k ≤ 3 ∧ q = nI x ∧ PT W H cut k 25 x ∧ (∀ X, PT W H cut k 25 X → x ≤ X) ∧ ∀ X j, j < k → ¬ PT W H cut j 25 X) := by
    intro r
    induction r with
    | zero =>
      intro f k hk hf hno
      obtain ⟨f, rfl⟩ : ∃ m, f = m + 1 := ⟨f - 1, by omega⟩
      have : k = 4 := by omega
      subst this
      exact ⟨-1, by rw [L_X1_fewestPatches_2, if_pos (by decide)], Or.inl ⟨rfl, fun X j hj => hno X j (by omega)⟩⟩
    | succ r ih =>
      intro f k hk hf hno
      obtain ⟨f, rfl⟩ : ∃ m, f = m + 1 := ⟨f - 1, by omega⟩
      obtain ⟨q, e1, e2⟩ := c_least (mi := mi) w b cw k 16 cut 25 (by omega) (by omega) (by omega) hcut
      have e1' : F_X1_leastPatches mi w 16 i (nI cut) (nI k) 25 = some q := e1
      rw [L_X1_fewestPatches_2, if_neg (by rw [show (3 : Int32) = nI 3 from rfl, nlt (by omega) (by omega)]; omega), e1', Option.bind_some, show nI k + 1 = nI (k + 1) from nI_add k 1]
      rcases e2 with ⟨rfl, h⟩ | ⟨x, rfl, h1, h2⟩
      · rw [if_pos rfl]
        refine ih f (k + 1) (by omega) (by omega) fun X j hj => ?_
        by_cases e : j = k
        · rw [e]; exact h X
        · exact hno X j (by omega)
      · rw [if_neg (not_m1 (by have := h1.2.2.1; omega))]
        exact ⟨_, rfl, Or.inr ⟨x, k, by omega, rfl, h1, h2, hno⟩⟩
  exact loop 4 1000000 0 (by omega) (by omega) (fun X j hj => by omega)
