/-! ORDERS: the model's rows in memory; what both go through -/
theorem sw_len (r : List Nat) (a b : Nat) : (swR r a b).length = r.length := by
  unfold swR
  rw [List.length_set, List.length_set]
theorem sw_get {r : List Nat} {a b k : Nat} (ha : a < r.length) (hb : b < r.length) : (swR r a b).getD k 0 = if k = b then r.getD a 0 else if k = a then r.getD b 0 else r.getD k 0 := by
  unfold swR
  rw [gd_set _ _ _ _ (by rw [List.length_set]; exact hb), gd_set _ _ _ _ ha]
theorem m_swap {m : MI} {w : WS} {r : List Nat} {a b : Nat} (h6 : r.length ≤ 6) (ha : a < r.length) (hb : b < r.length) (hr : rowM m 67 r) : ∃ m', F_X11_swap m w (nI a) (nI b) = some m' ∧ rowM m' 67 (swR r a b) ∧ ∀ c i j, ¬ (c = 67 ∧ i = 0) → m' c i j = m c i j := by
  unfold F_X11_swap
  simp (disch := omega) only [ncl, ckJ, lt_e]
  refine ⟨_, rfl, fun k hk => ?_, fun c i j h => by rw [u3_n (by omega), u3_n (by omega)]⟩
  rw [sw_len] at hk
  rw [sw_get ha hb]
  by_cases e : k = b
  · rw [e, u3_s, if_pos rfl, hr a ha]
  · rw [if_neg e, u3_n (by omega)]
    by_cases e2 : k = a
    · rw [e2, u3_s, if_pos rfl, hr b hb]
    · rw [if_neg e2, u3_n (by omega), hr k hk]
theorem m_84 {w : WS} {n : Nat} (hn : n ≤ 6) : ∀ f a b r m F, b ≤ a + f → f < F → b < n → r.length = n → a < 100 → rowM m 67 r → ∃ m', L_X11_nextOrder_84 w F m (nI a) (nI b) = some (1, m') ∧ rowM m' 67 (n84 f r a b) ∧ (n84 f r a b).length = n ∧ ∀ c i j, ¬ (c = 67 ∧ i = 0) → m' c i j = m c i j := by
  intro f
  induction f with
  | zero =>
    intro a b r m F h1 hF hb hl ha hr
    obtain ⟨F, rfl⟩ : ∃ m, F = m + 1 := ⟨F - 1, by omega⟩
    exact ⟨m, by rw [L_X11_nextOrder_84, if_pos (by rw [nle (by omega) (by omega)]; omega)], hr, hl, fun _ _ _ _ => rfl⟩
  | succ f ih =>
    intro a b r m F h1 hF hb hl ha hr
    obtain ⟨F, rfl⟩ : ∃ m, F = m + 1 := ⟨F - 1, by omega⟩
    rw [n84]
    by_cases e : b ≤ a
    · rw [if_pos e]
      exact ⟨m, by rw [L_X11_nextOrder_84, if_pos (by rw [nle (by omega) (by omega)]; omega)], hr, hl, fun _ _ _ _ => rfl⟩
    · rw [if_neg e]
      obtain ⟨m1, a1, a2, a3⟩ := m_swap (w := w) (a := a) (b := b) (show r.length ≤ 6 by omega) (by omega) (by omega) hr
      obtain ⟨m2, b1, b2', b3, b4⟩ := ih (a + 1) (b - 1) (swR r a b) m1 F (by omega) (by omega) (by omega) (by rw [sw_len]; exact hl) (by omega) a2
      refine ⟨m2, ?_, b2', b3, fun c i j h => by rw [b4 c i j h, a3 c i j h]⟩
      rw [L_X11_nextOrder_84, if_neg (by rw [nle (by omega) (by omega)]; omega), a1, Option.bind_some, nI_dn, i1, nsub (by omega), nadd]
      exact b1
theorem m_47 {w : WS} {n : Nat} {r : List Nat} {a : Nat} {m : MI} (hn : n ≤ 6) (hl : r.length = n) (hr : rowM m 67 r) (h27 : m 10 0 27 = nI n) (hv : ∀ x, x ∈ r → x < 6) (ha : r.getD a 0 ≤ r.getD (a + 1) 0) : ∀ f b F, a + 1 ≤ b → b ≤ a + f → b < n → f < F → ∃ m', L_X11_nextOrder_47 w F m (nI a) (nI b) = some (1, m') ∧ rowM m' 67 (n47 n f r a b) ∧ (n47 n f r a b).length = n ∧ ∀ c i j, ¬ (c = 67 ∧ i = 0) → m' c i j = m c i j := by
  intro f
  induction f with
  | zero => intro b F h1 h2; omega
  | succ f ih =>
    intro b F h1 h2 hb hF
    obtain ⟨F, rfl⟩ : ∃ m, F = m + 1 := ⟨F - 1, by omega⟩
    have va : r.getD a 0 < 6 := hv _ (gd_mem r a (by omega))
    have vb : r.getD b 0 < 6 := hv _ (gd_mem r b (by omega))
    rw [n47, L_X11_nextOrder_47]
    simp (disch := omega) only [ncl, ckJ]
    rw [hr a (by omega), hr b (by omega)]
    by_cases e : r.getD a 0 ≤ r.getD b 0
    · rw [if_pos e, if_pos (show nI (r.getD a 0) ≤ nI (r.getD b 0) by rw [nle (by omega) (by omega)]; exact e)]
      obtain ⟨m1, a1, a2, a3⟩ := m_swap (w := w) (a := a) (b := b) (show r.length ≤ 6 by omega) (by omega) (by omega) hr
      obtain ⟨m2, b1, b2', b3, b4⟩ := m_84 (w := w) hn 8 (a + 1) (n - 1) (swR r a b) m1 1000000 (by omega) (by omega) (by omega) (by rw [sw_len]; exact hl) (by omega) a2
      refine ⟨m2, ?_, b2', b3, fun c i j h => by rw [b4 c i j h, a3 c i j h]⟩
      rw [a1, Option.bind_some, a3 10 0 27 (by omega), h27, i1, nadd, nsub (by omega)]
      exact b1
    · rw [if_neg e, if_neg (show ¬ nI (r.getD a 0) ≤ nI (r.getD b 0) by rw [nle (by omega) (by omega)]; exact e), nI_dn, i1, nsub (by omega)]
      have hne : b ≠ a + 1 := fun q => e (by rw [q]; exact ha)
      exact ih (b - 1) F (by omega) (by omega) (by omega) (by omega)
theorem m_next {m : MI} {w : WS} {n : Nat} {r : List Nat} (hn : n ≤ 6) (hl : r.length = n) (hr : rowM m 67 r) (h27 : m 10 0 27 = nI n) (hv : ∀ x, x ∈ r → x < 6) :
    (n7 n (n - 1) r = none ∧ F_X11_nextOrder m w = some (0, m)) ∨ ∃ r' m', n7 n (n - 1) r = some r' ∧ F_X11_nextOrder m w = some (1, m') ∧ rowM m' 67 r' ∧ ∀ c i j, ¬ (c = 67 ∧ i = 0) → m' c i j = m c i j := by
  have key : ∀ x F, x + 1 ≤ n ∨ x = 0 → x < F → (n7 n x r = none ∧ L_X11_nextOrder_7 w F m (nI x - 1) = some (0, m)) ∨ ∃ r' m', n7 n x r = some r' ∧ L_X11_nextOrder_7 w F m (nI x - 1) = some (1, m') ∧ rowM m' 67 r' ∧ ∀ c i j, ¬ (c = 67 ∧ i = 0) → m' c i j = m c i j := by
    intro x
    induction x with
    | zero =>
      intro F _ hF
      obtain ⟨F, rfl⟩ : ∃ m, F = m + 1 := ⟨F - 1, by omega⟩
      exact Or.inl ⟨rfl, by rw [L_X11_nextOrder_7, if_pos (by decide), if_neg (by decide)]⟩
    | succ x ih =>
      intro F hx hF
      obtain ⟨F, rfl⟩ : ∃ m, F = m + 1 := ⟨F - 1, by omega⟩
      have va : r.getD x 0 < 6 := hv _ (gd_mem r x (by omega))
      have vb : r.getD (x + 1) 0 < 6 := hv _ (gd_mem r (x + 1) (by omega))
      have e1 : nI x + 1 = nI (x + 1) := by rw [i1, nadd]
      rw [n7, nI_pred, L_X11_nextOrder_7, if_neg (nI_pos (by omega)), e1]
      simp (disch := omega) only [ncl, ckJ]
      rw [hr x (by omega), hr (x + 1) (by omega)]
      by_cases e : r.getD x 0 ≤ r.getD (x + 1) 0
      · rw [if_pos e, if_pos (show nI (r.getD x 0) ≤ nI (r.getD (x + 1) 0) by rw [nle (by omega) (by omega)]; exact e), if_pos (show (0 : Int32) ≤ nI x by rw [i0, nle (by omega) (by omega)]; omega), h27, i1, nsub (by omega)]
        obtain ⟨m', b1, b2', b3, b4⟩ := m_47 (w := w) (a := x) hn hl hr h27 hv e 8 (n - 1) 1000000 (by omega) (by omega) (by omega) (by omega)
        exact Or.inr ⟨_, m', rfl, b1, b2', b4⟩
      · rw [if_neg e, if_neg (show ¬ nI (r.getD x 0) ≤ nI (r.getD (x + 1) 0) by rw [nle (by omega) (by omega)]; exact e), nI_dn]
        exact ih F (by omega) (by omega)
  unfold F_X11_nextOrder
  rw [h27]
  by_cases h0 : n = 0
  · subst h0
    exact Or.inl ⟨rfl, by rw [show (1000000 : Nat) = 999999 + 1 from rfl, L_X11_nextOrder_7, if_pos (by decide), if_neg (by decide)]⟩
  · have e2 : nI n - 2 = nI (n - 1) - 1 := by
      rw [i2, i1]
      by_cases h1 : n = 1
      · subst h1; decide
      · rw [nsub (by omega), nsub (by omega)]
        congr 1
    rw [e2]
    exact key (n - 1) 1000000 (by omega) (by omega)
def gdR (n l : Nat) (r : List Nat) : Bool := Nat.beq r.length l && r.all fun x => Nat.blt x n && Nat.beq (r.count x) 1
def ELc (n l : Nat) : List (List Nat) := enC n l 721 (fiL l 8 0 [])
theorem gd_all : ((List.range 7).all fun n => (List.range 7).all fun l => Nat.blt n l || ((ELc n l).all (gdR n l) && Nat.blt (ELc n l).length 721)) = true := by decide +kernel
theorem EL_good {n l : Nat} (hn : n ≤ 6) (hl : l ≤ n) : (∀ r, r ∈ ELc n l → gdR n l r = true) ∧ (ELc n l).length < 721 := by
  have h := List.all_eq_true.mp (List.all_eq_true.mp gd_all n (List.mem_range.mpr (by omega))) l (List.mem_range.mpr (by omega))
  have hb : Nat.blt n l = false := by
    cases q : Nat.blt n l
    · rfl
    · exact absurd (Nat.le_of_ble_eq_true q) (by omega)
  rw [hb, Bool.false_or, Bool.and_eq_true] at h
  exact ⟨List.all_eq_true.mp h.1, Nat.le_of_ble_eq_true h.2⟩
theorem EL_eq {n : Nat} (hn : n ≤ 6) : ELc n n = enM n 721 (List.range n) := by
  have h := List.all_eq_true.mp en_eq n (List.mem_range.mpr (by omega))
  exact eq_of_beq h
theorem gdR_len {n l : Nat} {r : List Nat} (h : gdR n l r = true) : r.length = l := Nat.eq_of_beq_eq_true (Bool.and_eq_true _ _ ▸ h : _ ∧ _).1
theorem gdR_lt {n l : Nat} {r : List Nat} (h : gdR n l r = true) : ∀ x, x ∈ r → x < n := fun x hx => by
  have h2 := List.all_eq_true.mp (Bool.and_eq_true _ _ ▸ h : _ ∧ _).2 x hx
  rw [Bool.and_eq_true] at h2
  exact Nat.le_of_ble_eq_true h2.1
theorem cnt_0 : ∀ (r : List Nat) (x : Nat), r.count x = 0 → ∀ k, k < r.length → r.getD k 0 ≠ x
  | [], _, _, _, h => absurd h (Nat.not_lt_zero _)
  | y :: t, x, h, k, hk => by
    rw [List.count_cons] at h
    have h1 : t.count x = 0 := by omega
    have h2 : ¬ (y == x) = true := fun q => by rw [if_pos q] at h; omega
    cases k with
    | zero => exact fun q => h2 (by rw [show y = x from q]; exact beq_self_eq_true x)
    | succ k => exact cnt_0 t x h1 k (Nat.lt_of_succ_lt_succ hk)
theorem cnt_1 : ∀ (r : List Nat), (∀ x, x ∈ r → r.count x = 1) → ∀ i k, i < k → k < r.length → r.getD i 0 ≠ r.getD k 0
  | [], _, _, _, _, h => absurd h (Nat.not_lt_zero _)
  | y :: t, h, i, k, hik, hk => by
    have hy := h y List.mem_cons_self
    rw [List.count_cons_self] at hy
    cases k with
    | zero => omega
    | succ k =>
      cases i with
      | zero => exact fun q => cnt_0 t y (by omega) k (Nat.lt_of_succ_lt_succ hk) q.symm
      | succ i =>
        refine cnt_1 t (fun x hx => ?_) i k (by omega) (Nat.lt_of_succ_lt_succ hk)
        have := h x (List.mem_cons_of_mem _ hx)
        rw [List.count_cons] at this
        have hp : 0 < t.count x := List.count_pos_iff.mpr hx
        split at this <;> omega
theorem gdR_ne {n l : Nat} {r : List Nat} (h : gdR n l r = true) : ∀ i k, i < k → k < l → r.getD i 0 ≠ r.getD k 0 := fun i k h1 h2 => by
  refine cnt_1 r (fun x hx => ?_) i k h1 (by rw [gdR_len h]; exact h2)
  have h3 := List.all_eq_true.mp (Bool.and_eq_true _ _ ▸ h : _ ∧ _).2 x hx
  rw [Bool.and_eq_true] at h3
  exact Nat.eq_of_beq_eq_true h3.2
