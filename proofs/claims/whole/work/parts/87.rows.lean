/-! ORDERS: the class's rows in memory -/
def rowM (m : MI) (c : Nat) (row : List Nat) : Prop := ∀ k, k < row.length → m c 0 k = nI (row.getD k 0)
theorem gd_l : ∀ (row : List Nat) (c k : Nat), k < row.length → (row ++ [c]).getD k 0 = row.getD k 0
  | [], _, _, h => absurd h (Nat.not_lt_zero _)
  | _ :: _, _, 0, _ => rfl
  | _ :: t, c, k + 1, h => gd_l t c k (Nat.lt_of_succ_lt_succ h)
theorem gd_r : ∀ (row : List Nat) (c : Nat), (row ++ [c]).getD row.length 0 = c
  | [], _ => rfl
  | _ :: t, c => gd_r t c
theorem gd_take : ∀ (row : List Nat) (x k : Nat), k < x → (row.take x).getD k 0 = row.getD k 0
  | [], x, k, _ => by cases x <;> rfl
  | _ :: _, 0, _, h => absurd h (Nat.not_lt_zero _)
  | _ :: _, _ + 1, 0, _ => rfl
  | _ :: t, x + 1, k + 1, h => gd_take t x k (Nat.lt_of_succ_lt_succ h)
theorem gd_set : ∀ (row : List Nat) (a v k : Nat), a < row.length → (row.set a v).getD k 0 = if k = a then v else row.getD k 0
  | [], _, _, _, h => absurd h (Nat.not_lt_zero _)
  | _ :: _, 0, _, 0, _ => rfl
  | _ :: _, 0, _, k + 1, _ => by rw [if_neg (by omega)]; rfl
  | _ :: _, a + 1, _, 0, _ => by rw [if_neg (by omega)]; rfl
  | _ :: t, a + 1, v, k + 1, h => by
    have := gd_set t a v k (Nat.lt_of_succ_lt_succ h)
    show (t.set a v).getD k 0 = if k + 1 = a + 1 then v else t.getD k 0
    rw [this]
    by_cases e : k = a
    · rw [if_pos e, if_pos (by omega)]
    · rw [if_neg e, if_neg (by omega)]
theorem gd_mem : ∀ (row : List Nat) (k : Nat), k < row.length → row.getD k 0 ∈ row
  | [], _, h => absurd h (Nat.not_lt_zero _)
  | _ :: _, 0, _ => List.mem_cons_self
  | _ :: t, k + 1, h => List.mem_cons_of_mem _ (gd_mem t k (Nat.lt_of_succ_lt_succ h))
theorem foldN_front {α : Type} (g : Nat → α → α) (a : α) : ∀ n, foldN g a (n + 1) = foldN (fun k => g (k + 1)) (g 0 a) n := by
  intro n
  induction n with
  | zero => rfl
  | succ n ih =>
    show g (n + 1) (foldN g a (n + 1)) = _
    rw [ih]
    rfl
theorem us_gen : ∀ (row : List Nat) (a : Nat), row.foldl (fun a x => a ||| 1 <<< x) a = foldN (fun k a => a ||| 1 <<< row.getD k 0) a row.length
  | [], _ => rfl
  | x :: t, a => by
    show t.foldl (fun a x => a ||| 1 <<< x) (a ||| 1 <<< x) = foldN _ a (t.length + 1)
    rw [foldN_front, us_gen t]
    rfl
theorem us_lt {n : Nat} : ∀ (row : List Nat) (a : Nat), a < 2 ^ n → (∀ x, x ∈ row → x < n) → row.foldl (fun a x => a ||| 1 <<< x) a < 2 ^ n
  | [], _, h, _ => h
  | x :: t, a, h, hx => us_lt t (a ||| 1 <<< x) (Nat.or_lt_two_pow h (bit_lt (hx x List.mem_cons_self))) fun y hy => hx y (List.mem_cons_of_mem _ hy)
theorem c_lu {m : MI} {w : WS} {n used : Nat} {x2 : Int32} (h5 : m 2 0 5 = nI n) (hn : n ≤ 6) (hu : used < 2 ^ n) : ∀ f c, c ≤ n → n < c + f → luN used f c ≤ n ∧ ∀ F, f < F → L_X3_leastUnused_2 m w F (nI used) x2 (nI c) = some (nI (luN used f c)) := by
  have hu2 : used < 64 := Nat.lt_of_lt_of_le hu (Nat.pow_le_pow_right (n := 2) (by omega) hn)
  intro f
  induction f with
  | zero => intro c h1 h2; omega
  | succ f ih =>
    intro c h1 h2
    have bt : (((nI used >>> (nI c &&& 31)) &&& 1) = 0) = (used.testBit c = false) := by
      rw [n31 (by omega), nshr (by omega) (by omega), i1, nand, i0, bit0]
    rw [luN]
    by_cases e : c = n
    · have hb : used.testBit c = false := by rw [e]; exact Nat.testBit_lt_two_pow hu
      rw [if_neg (by rw [hb]; decide)]
      refine ⟨h1, fun F hF => ?_⟩
      obtain ⟨F, rfl⟩ : ∃ m, F = m + 1 := ⟨F - 1, by omega⟩
      rw [L_X3_leastUnused_2, if_pos (by rw [h5, nle (by omega) (by omega)]; omega)]
    · obtain ⟨i1', i2'⟩ := ih (c + 1) (by omega) (by omega)
      cases hb : used.testBit c
      · rw [if_neg (by decide)]
        refine ⟨h1, fun F hF => ?_⟩
        obtain ⟨F, rfl⟩ : ∃ m, F = m + 1 := ⟨F - 1, by omega⟩
        rw [L_X3_leastUnused_2, if_neg (by rw [h5, nle (by omega) (by omega)]; omega), if_pos (bt.mpr hb)]
      · rw [if_pos rfl]
        refine ⟨i1', fun F hF => ?_⟩
        obtain ⟨F, rfl⟩ : ∃ m, F = m + 1 := ⟨F - 1, by omega⟩
        rw [L_X3_leastUnused_2, if_neg (by rw [h5, nle (by omega) (by omega)]; omega), if_neg (fun z => by rw [bt.mp z] at hb; cases hb), i1, nadd]
        exact i2' F (by omega)
theorem fi_mem {l x : Nat} : ∀ f used row, x ∈ row → x ∈ fiL l f used row := by
  intro f
  induction f with
  | zero => intro used row h; exact h
  | succ f ih =>
    intro used row h
    rw [fiL]
    split
    · exact ih _ _ (List.mem_append_left _ h)
    · exact h
theorem c_fill {w : WS} {n l : Nat} (hn : n ≤ 6) (hl : l ≤ n) {x1 x2 : Int32} : ∀ f used row m F, l ≤ row.length + f → f < F → m 2 0 5 = nI n → m 2 0 6 = nI l → used < 2 ^ n → rowM m 42 row → row.length ≤ l → (∀ x, x ∈ fiL l f used row → x < n) →
    ∃ m', L_X3_fill_5 w F m x1 x2 (nI used) (nI row.length) = some m' ∧ rowM m' 42 (fiL l f used row) ∧ ∀ c i j, ¬ (c = 42 ∧ i = 0) → m' c i j = m c i j := by
  intro f
  induction f with
  | zero =>
    intro used row m F h1 hF h5 h6 hu hr hl2 hx
    obtain ⟨F, rfl⟩ : ∃ m, F = m + 1 := ⟨F - 1, by omega⟩
    exact ⟨m, by rw [L_X3_fill_5, if_pos (by rw [h6, nle (by omega) (by omega)]; omega)], hr, fun _ _ _ _ => rfl⟩
  | succ f ih =>
    intro used row m F h1 hF h5 h6 hu hr hl2 hx
    obtain ⟨F, rfl⟩ : ∃ m, F = m + 1 := ⟨F - 1, by omega⟩
    rw [fiL] at hx ⊢
    by_cases e : row.length < l
    · rw [if_pos e] at hx ⊢
      obtain ⟨q1, q2⟩ := c_lu (m := m) (w := w) (x2 := 0) h5 hn hu 8 0 (by omega) (by omega)
      have hlu : F_X3_leastUnused m w (nI used) 0 = some (nI (luN used 8 0)) := q2 1000000 (by omega)
      have hc : luN used 8 0 < n := hx _ (fi_mem f _ _ (List.mem_append_right _ (List.mem_singleton.mpr rfl)))
      generalize luN used 8 0 = c at *
      rw [L_X3_fill_5, if_neg (by rw [h6, nle (by omega) (by omega)]; omega), hlu, Option.bind_some]
      simp (disch := omega) only [ncl, ckJ, lt_e]
      rw [u3_s, n31 (by omega), i1, nshl _ (by omega), nor, nadd]
      have hlen : (row ++ [c]).length = row.length + 1 := by rw [List.length_append]; rfl
      obtain ⟨m', a1, a2, a3⟩ := ih (used ||| 1 <<< c) (row ++ [c]) (u3 m 42 0 row.length (nI c)) F (by omega) (by omega) (by rw [u3_n (by omega)]; exact h5) (by rw [u3_n (by omega)]; exact h6) (Nat.or_lt_two_pow hu (bit_lt hc)) (fun k hk => by
        by_cases e2 : k = row.length
        · rw [e2, u3_s, gd_r]
        · rw [u3_n (by omega), gd_l row c k (by omega)]
          exact hr k (by omega)) (by omega) hx
      rw [hlen] at a1
      exact ⟨m', a1, a2, fun c' i j h => by rw [a3 c' i j h, u3_n (by omega)]⟩
    · rw [if_neg e]
      exact ⟨m, by rw [L_X3_fill_5, if_pos (by rw [h6, nle (by omega) (by omega)]; omega)], hr, fun _ _ _ _ => rfl⟩
theorem c_beginO {m : MI} {w : WS} {n l : Nat} (hn : n ≤ 6) (hl : l ≤ n) (hx : ∀ x, x ∈ fiL l 8 0 [] → x < n) : ∃ m', F_X3_begin m w (nI n) (nI l) = some m' ∧ m' 2 0 5 = nI n ∧ m' 2 0 6 = nI l ∧ rowM m' 42 (fiL l 8 0 []) ∧ ∀ c i j, ¬ (c = 42 ∧ i = 0) → ¬ (c = 2 ∧ i = 0) → m' c i j = m c i j := by
  have e1 : imin (nI n) 6 = nI n := by
    unfold imin
    exact if_neg (by rw [i6, nlt (by omega) (by omega)]; omega)
  have e2 : imin (nI l) (nI n) = nI l := by
    unfold imin
    exact if_neg (by rw [nlt (by omega) (by omega)]; omega)
  unfold F_X3_begin F_X3_fill
  rw [lt_e, e1, u3_s, e2]
  have f0 : ∀ c i j, ¬ (c = 2 ∧ i = 0) → (u3 (u3 m 2 0 5 (nI n)) 2 0 6 (nI l)) c i j = m c i j := fun c i j h => by rw [u3_n (by omega), u3_n (by omega)]
  have h5 : (u3 (u3 m 2 0 5 (nI n)) 2 0 6 (nI l)) 2 0 5 = nI n := by rw [u3_n (by omega), u3_s]
  have h6 : (u3 (u3 m 2 0 5 (nI n)) 2 0 6 (nI l)) 2 0 6 = nI l := u3_s
  generalize u3 (u3 m 2 0 5 (nI n)) 2 0 6 (nI l) = m1 at *
  obtain ⟨m', a1, a2, a3⟩ := c_fill (w := w) (x1 := 0) (x2 := 0) hn hl 8 0 [] m1 1000000 (by show l ≤ 0 + 8; omega) (by omega) h5 h6 (Nat.two_pow_pos n) (fun k hk => absurd hk (Nat.not_lt_zero k)) (Nat.zero_le _) hx
  have a1' : L_X3_fill_5 w 1000000 m1 0 0 0 0 = some m' := a1
  rw [a1', Option.bind_some]
  exact ⟨m', rfl, by rw [a3 _ _ _ (by omega)]; exact h5, by rw [a3 _ _ _ (by omega)]; exact h6, a2, fun c i j g1 g2 => by rw [a3 c i j g1, f0 c i j g2]⟩
theorem c_adv36 {m : MI} {w : WS} {n l : Nat} {row : List Nat} (hn : n ≤ 6) (hl : l ≤ n) (h5 : m 2 0 5 = nI n) (h6 : m 2 0 6 = nI l) (hr : rowM m 42 row) (hlen : row.length = l) (hrow : ∀ x, x ∈ row → x < n) :
    ∀ x used F, x ≤ l → x < F → used < 2 ^ n → (∀ r, adL n l x used row = some r → ∀ y, y ∈ r → y < n) → (adL n l x used row = none ∧ L_X3_advance_36 w F m (nI used) (nI x - 1) = some (0, m)) ∨ ∃ r m', adL n l x used row = some r ∧ L_X3_advance_36 w F m (nI used) (nI x - 1) = some (1, m') ∧ rowM m' 42 r ∧ ∀ c i j, ¬ (c = 42 ∧ i = 0) → m' c i j = m c i j := by
  intro x
  induction x with
  | zero =>
    intro used F _ hF hu _
    obtain ⟨F, rfl⟩ : ∃ m, F = m + 1 := ⟨F - 1, by omega⟩
    exact Or.inl ⟨rfl, by rw [L_X3_advance_36, if_pos (by decide)]⟩
  | succ x ih =>
    intro used F hx hF hu hgood
    obtain ⟨F, rfl⟩ : ∃ m, F = m + 1 := ⟨F - 1, by omega⟩
    have hv : row.getD x 0 < n := hrow _ (gd_mem row x (by omega))
    have hm := hr x (by omega)
    have hu2 : andn used (1 <<< row.getD x 0) < 2 ^ n := andn_lt _ hu
    obtain ⟨q1, q2⟩ := c_lu (m := m) (w := w) (x2 := nI (row.getD x 0 + 1)) h5 hn hu2 8 (row.getD x 0 + 1) (by omega) (by omega)
    have hlu : F_X3_leastUnused m w (nI (andn used (1 <<< row.getD x 0))) (nI (row.getD x 0 + 1)) = some (nI (luN (andn used (1 <<< row.getD x 0)) 8 (row.getD x 0 + 1))) := q2 1000000 (by omega)
    have hx6 : x < 6 := by omega
    have ead : adL n l (x + 1) used row = if n ≤ luN (andn used (1 <<< row.getD x 0)) 8 (row.getD x 0 + 1) then adL n l x (andn used (1 <<< row.getD x 0)) row else some (fiL l 8 (andn used (1 <<< row.getD x 0) ||| 1 <<< luN (andn used (1 <<< row.getD x 0)) 8 (row.getD x 0 + 1)) (row.take x ++ [luN (andn used (1 <<< row.getD x 0)) 8 (row.getD x 0 + 1)])) := rfl
    rw [ead] at hgood ⊢
    rw [nI_pred, L_X3_advance_36, if_neg (nI_pos (by omega))]
    simp (disch := omega) only [ncl, ckJ, lt_e]
    have e1 : ((1 : Int32) <<< ((m 42 0 x) &&& 31)) = nI (1 <<< row.getD x 0) := by rw [hm, n31 (by omega), i1, nshl _ (by omega)]
    have e2 : (m 42 0 x) + 1 = nI (row.getD x 0 + 1) := by rw [hm, i1, nadd]
    rw [e1, nandn, e2, hlu, Option.bind_some]
    generalize luN (andn used (1 <<< row.getD x 0)) 8 (row.getD x 0 + 1) = c at *
    generalize andn used (1 <<< row.getD x 0) = u at *
    by_cases e : n ≤ c
    · rw [if_pos e] at hgood ⊢
      rw [if_pos (by rw [h5, nle (by omega) (by omega)]; exact e), nI_dn]
      exact ih u F (by omega) (by omega) hu2 hgood
    · rw [if_neg e] at hgood ⊢
      rw [if_neg (by rw [h5, nle (by omega) (by omega)]; exact e), n31 (by omega), i1, nshl _ (by omega), nor, nadd]
      have hlen2 : (row.take x ++ [c]).length = x + 1 := by rw [List.length_append, List.length_take]; show min x row.length + 1 = x + 1; omega
      obtain ⟨m', a1, a2, a3⟩ := c_fill (w := w) (x1 := nI (x + 1)) (x2 := nI (u ||| 1 <<< c)) hn hl 8 (u ||| 1 <<< c) (row.take x ++ [c]) (u3 m 42 0 x (nI c)) 1000000 (by omega) (by omega) (by rw [u3_n (by omega)]; exact h5) (by rw [u3_n (by omega)]; exact h6) (Nat.or_lt_two_pow hu2 (bit_lt (by omega))) (fun k hk => by
        have ht : (row.take x).length = x := by rw [List.length_take]; omega
        by_cases e2 : k = x
        · rw [e2, u3_s]
          have := gd_r (row.take x) c
          rw [ht] at this
          rw [this]
        · rw [u3_n (by omega), gd_l _ c k (by omega), gd_take row x k (by omega)]
          exact hr k (by omega)) (by omega) (hgood _ rfl)
      refine Or.inr ⟨_, m', rfl, ?_, a2, fun c' i j h => by rw [a3 c' i j h, u3_n (by omega)]⟩
      unfold F_X3_fill
      rw [hlen2] at a1
      rw [a1, Option.bind_some]
theorem c_adv {m : MI} {w : WS} {n l : Nat} {row : List Nat} (hn : n ≤ 6) (hl : l ≤ n) (h5 : m 2 0 5 = nI n) (h6 : m 2 0 6 = nI l) (hr : rowM m 42 row) (hlen : row.length = l) (hrow : ∀ x, x ∈ row → x < n) (hg : ∀ r, adL n l l (usL row) row = some r → ∀ y, y ∈ r → y < n) :
    (adL n l l (usL row) row = none ∧ F_X3_advance m w = some (0, m)) ∨ ∃ r m', adL n l l (usL row) row = some r ∧ F_X3_advance m w = some (1, m') ∧ rowM m' 42 r ∧ ∀ c i j, ¬ (c = 42 ∧ i = 0) → m' c i j = m c i j := by
  have key := lp_up (L := fun f s k => L_X3_advance_4 w f m (nI s) (nI k)) (N := l) (f := fun k a => a ||| 1 <<< row.getD k 0) (post := fun s => L_X3_advance_36 w 1000000 m (nI s) (nI l - 1)) (fun _ _ => True) (fun f s _ => ?_) (fun f k s hk _ => ⟨?_, trivial⟩) (F := 1000000) (by omega) 0 trivial
  · have hu : foldN (fun k a => a ||| 1 <<< row.getD k 0) 0 l = usL row := by rw [← hlen]; exact (us_gen row 0).symm
    rw [hu] at key
    have e : F_X3_advance m w = L_X3_advance_36 w 1000000 m (nI (usL row)) (nI l - 1) := key
    rw [e]
    exact c_adv36 hn hl h5 h6 hr hlen hrow l (usL row) 1000000 (Nat.le_refl _) (by omega) (us_lt row 0 (Nat.two_pow_pos n) hrow) hg
  · show L_X3_advance_4 w (f + 1) m (nI s) (nI l) = _
    rw [L_X3_advance_4, if_pos (by rw [h6, nle (by omega) (by omega)]; omega), h6]
  · show L_X3_advance_4 w (f + 1) m (nI s) (nI k) = L_X3_advance_4 w f m (nI (s ||| 1 <<< row.getD k 0)) (nI (k + 1))
    have hv : row.getD k 0 < n := hrow _ (gd_mem row k (by omega))
    rw [L_X3_advance_4, if_neg (by rw [h6, nle (by omega) (by omega)]; omega), ck6 (by omega), ncl (by omega), hr k (by omega), n31 (by omega), i1, nshl _ (by omega), nor, nadd]
