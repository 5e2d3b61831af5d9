theorem lin_tb {f : Nat → Nat} (hf : Lin f) : ∀ n x, x < 2 ^ n → ∀ i, (f x).testBit i = true ↔ ∃ s, s < n ∧ x.testBit s = true ∧ (f (1 <<< s)).testBit i = true := by
  intro n
  induction n with
  | zero =>
    intro x hx i
    have : x = 0 := by simpa using hx
    subst this
    rw [hf.1, Nat.zero_testBit]
    exact ⟨fun q => (by cases q), fun ⟨s, h, _⟩ => absurd h (by omega)⟩
  | succ n ih =>
    intro x hx i
    by_cases hb : x.testBit n = true
    · obtain ⟨y, hy, rfl⟩ := top_off hx hb
      rw [hf.2, Nat.testBit_or, Bool.or_eq_true, ih y hy i]
      constructor
      · rintro (⟨s, h1, h2, h3⟩ | h)
        · exact ⟨s, by omega, by rw [Nat.testBit_or, h2]; rfl, h3⟩
        · exact ⟨n, by omega, hb, h⟩
      · rintro ⟨s, h1, h2, h3⟩
        rw [Nat.testBit_or, one_tb2, Bool.or_eq_true, decide_eq_true_eq] at h2
        rcases h2 with h2 | h2
        · exact Or.inl ⟨s, lt_tb hy h2, h2, h3⟩
        · rw [← h2] at h3; exact Or.inr h3
    · have hb' : x.testBit n = false := by cases h : x.testBit n; rfl; exact absurd h hb
      rw [ih x (no_top hx hb') i]
      constructor
      · rintro ⟨s, h1, h2, h3⟩; exact ⟨s, by omega, h2, h3⟩
      · rintro ⟨s, h1, h2, h3⟩
        refine ⟨s, ?_, h2, h3⟩
        by_cases e : s = n
        · rw [e] at h2; exact absurd h2 hb
        · omega
/-- t lies beside s -/
def nbr (W H s t : Nat) : Prop := (besN W H (1 <<< s)).testBit t = true
theorem nb_all : ((List.range 6).all fun W => (List.range 6).all fun H => (List.range (W * H)).all fun a => (List.range (W * H)).all fun b => (besN W H (1 <<< a)).testBit b == (besN W H (1 <<< b)).testBit a) = true := by decide +kernel
theorem nb_sym {W H s t : Nat} (hW : W < 6) (hH : H < 6) (hs : s < W * H) (ht : t < W * H) : nbr W H s t → nbr W H t s := by
  intro q
  have h := List.all_eq_true.mp (List.all_eq_true.mp (List.all_eq_true.mp (List.all_eq_true.mp nb_all W (List.mem_range.mpr hW)) H (List.mem_range.mpr hH)) s (List.mem_range.mpr hs)) t (List.mem_range.mpr ht)
  have h2 := eq_of_beq h
  unfold nbr at q ⊢
  rw [← h2]; exact q
/-- nothing of X lies beside S but what is in S -/
def clo (W H X S : Nat) : Prop := ∀ s, S.testBit s = true → ∀ t, X.testBit t = true → nbr W H s t → S.testBit t = true
theorem cp_sub {W H X c : Nat} (hX : X < 2 ^ 25) (h : X.testBit c = true) : ∀ d, (cpN W H X c).testBit d = true → X.testBit d = true :=
  fun d hd => sub_tb (gr_fix hX 25 (1 <<< c) (by omega) (one_in h)).2.2 d hd
theorem cp_self {W H X c : Nat} (hX : X < 2 ^ 25) (h : X.testBit c = true) : (cpN W H X c).testBit c = true :=
  sub_tb (gr_fix hX 25 (1 <<< c) (by omega) (one_in h)).2.1 c (one_tb.mpr rfl)
theorem cp_clo {W H X c : Nat} (hX : X < 2 ^ 25) (h : X.testBit c = true) : clo W H X (cpN W H X c) := by
  intro s hs t ht hn
  have hx := (gr_fix (W := W) (H := H) hX 25 (1 <<< c) (by omega) (one_in h)).1
  have hlt : cpN W H X c < 2 ^ 25 := by
    have := (gr_fix (W := W) (H := H) hX 25 (1 <<< c) (by omega) (one_in h)).2.2
    show grN W H X 25 (1 <<< c) < 2 ^ 25
    rw [← this]; exact and_lt_r hX
  show (grN W H X 25 (1 <<< c)).testBit t = true
  rw [← hx, Nat.testBit_and, Nat.testBit_or, Bool.and_eq_true, Bool.or_eq_true]
  exact ⟨Or.inr ((lin_tb lin_bes 25 _ hlt t).mpr ⟨s, lt_tb hlt hs, hs, hn⟩), ht⟩
theorem gr_min {W H X S : Nat} (hX : X < 2 ^ 25) (hS : clo W H X S) : ∀ n h, h < 2 ^ 25 → (∀ i, h.testBit i = true → S.testBit i = true) → ∀ i, (grN W H X n h).testBit i = true → S.testBit i = true := by
  intro n
  induction n with
  | zero => intro h _ hh i hi; exact hh i hi
  | succ n ih =>
    intro h hl hh i hi
    rw [grN] at hi
    by_cases hst : (h ||| besN W H h) &&& X = h
    · rw [if_pos hst] at hi; exact hh i hi
    · rw [if_neg hst] at hi
      refine ih _ (and_lt_r hX) (fun j hj => ?_) i hi
      rw [Nat.testBit_and, Nat.testBit_or, Bool.and_eq_true, Bool.or_eq_true] at hj
      rcases hj with ⟨hj | hj, hx⟩
      · exact hh j hj
      · obtain ⟨s, -, h2, h3⟩ := (lin_tb lin_bes 25 h hl j).mp hj
        exact hS s (hh s h2) j hx h3
theorem cp_min {W H X S c : Nat} (hX : X < 2 ^ 25) (hc : c < 25) (hS : clo W H X S) (h : S.testBit c = true) : ∀ i, (cpN W H X c).testBit i = true → S.testBit i = true :=
  gr_min hX hS 25 (1 <<< c) (bit_lt hc) (fun i hi => by rw [one_tb2, decide_eq_true_eq] at hi; rw [← hi]; exact h)
/-- a cell of a component has the same component -/
theorem cp_eq {W H X c d : Nat} (hW : W < 6) (hH : H < 6) (hX : X < 2 ^ (W * H)) (hC : W * H ≤ 25) (hc : X.testBit c = true) (hd : (cpN W H X c).testBit d = true) : cpN W H X d = cpN W H X c := by
  have hX2 : X < 2 ^ 25 := Nat.lt_of_lt_of_le hX (Nat.pow_le_pow_right (by omega) hC)
  have hdX := cp_sub hX2 hc d hd
  have hc25 := lt_tb hX2 hc
  have hd25 := lt_tb hX2 hdX
  have hcC := cp_clo (W := W) (H := H) hX2 hc
  have hcD := cp_clo (W := W) (H := H) hX2 hdX
  have sub1 := cp_min hX2 hd25 hcC hd
  -- c is in d's component
  have hcd : (cpN W H X d).testBit c = true := by
    cases q : (cpN W H X d).testBit c
    · have hS : clo W H X (andn (cpN W H X c) (cpN W H X d)) := by
        intro s hs t ht hn
        rw [tb_andn, Bool.and_eq_true, Bool.not_eq_true'] at hs ⊢
        refine ⟨hcC s hs.1 t ht hn, ?_⟩
        cases r : (cpN W H X d).testBit t
        · rfl
        · have hsX := cp_sub hX2 hc s hs.1
          have := hcD t r s hsX (nb_sym hW hH (lt_tb hX hsX) (lt_tb hX ht) hn)
          rw [this] at hs
          exact absurd hs.2 (by decide)
      have := cp_min hX2 hc25 hS (by rw [tb_andn, cp_self hX2 hc, q]; rfl) d hd
      rw [tb_andn, cp_self hX2 hdX, Bool.not_true, Bool.and_false] at this
      cases this
    · rfl
  have sub2 := cp_min hX2 hc25 hcD hcd
  exact eq_tb fun i => ⟨sub1 i, sub2 i⟩
