/-! A SHOP AT HAND in the model -/
theorem lp_inv {σ ρ : Type} {L : Nat → σ → Nat → Option ρ} {N : Nat} {post : σ → Option ρ} (I : Nat → σ → Prop) (h0 : ∀ n s, I N s → L (n + 1) s N = post s) (h1 : ∀ n k s, k < N → I k s → ∃ s', L (n + 1) s k = L n s' (k + 1) ∧ I (k + 1) s') {F : Nat} (hF : N < F) (s : σ) (hI : I 0 s) : ∃ s', I N s' ∧ L F s 0 = post s' := by
  have key : ∀ r k F s, k + r = N → r < F → I k s → ∃ s', I N s' ∧ L F s k = post s' := by
    intro r
    induction r with
    | zero =>
      intro k F s hk hF hI
      obtain ⟨n, rfl⟩ : ∃ n, F = n + 1 := ⟨F - 1, by omega⟩
      have : k = N := by omega
      subst this
      exact ⟨s, hI, h0 n _ hI⟩
    | succ r ih =>
      intro k F s hk hF hI
      obtain ⟨n, rfl⟩ : ∃ n, F = n + 1 := ⟨F - 1, by omega⟩
      obtain ⟨s', e, hI'⟩ := h1 n k s (by omega) hI
      rw [e]
      exact ih (k + 1) n s' (by omega) (by omega) hI'
  exact key N 0 F s (by omega) hF hI
theorem u3_s {m : MI} {c i k : Nat} {v : Int32} : u3 m c i k v c i k = v := by simp [u3]
theorem u3_n {m : MI} {c i k c' i' k' : Nat} {v : Int32} (h : c' ≠ c ∨ i' ≠ i ∨ k' ≠ k) : u3 m c i k v c' i' k' = m c' i' k' := by
  unfold u3
  rw [if_neg]
  rintro ⟨rfl, rfl, rfl⟩
  simp at h
theorem orN_tb {g : Nat → Nat} {i : Nat} : ∀ {n : Nat}, (orN g n).testBit i = true ↔ ∃ k, k < n ∧ (g k).testBit i = true := by
  intro n
  induction n with
  | zero => simp [orN, foldN]
  | succ n ih =>
    show (orN g n ||| g n).testBit i = true ↔ _
    rw [Nat.testBit_or, Bool.or_eq_true, ih]
    constructor
    · rintro (⟨k, h1, h2⟩ | h)
      · exact ⟨k, by omega, h2⟩
      · exact ⟨n, by omega, h⟩
    · rintro ⟨k, h1, h2⟩
      by_cases e : k = n
      · subst e; exact Or.inr h2
      · exact Or.inl ⟨k, by omega, h2⟩
theorem one_tb {c i : Nat} : (1 <<< c).testBit i = true ↔ c = i := by
  rw [Nat.one_shiftLeft, Nat.testBit_two_pow]
  simp
theorem eq_tb {a b : Nat} (h : ∀ i, a.testBit i = true ↔ b.testBit i = true) : a = b := by
  apply Nat.eq_of_testBit_eq
  intro i
  have := h i
  cases h1 : a.testBit i <;> cases h2 : b.testBit i <;> simp_all
/-- a sheet's cells in the model, out of its rows -/
def cutM (W : Nat) (ro : Nat → Nat) (s c : Nat) : Nat := orN (fun c => if (ro (5 * s + c / W)).testBit (c % W) then 1 <<< c else 0) c
theorem cut_eq {W H s n : Nat} {ro : Nat → Nat} (b : BW W H) (hs : s < n) (hr : ∀ k, k < 5 * n → ro k = 0 ∨ (k % 5 < H ∧ ro k < 2 ^ W)) : cutM W ro s (W * H) = cutN W ro s := by
  obtain ⟨⟨hW, hW5⟩, hH, hH5⟩ := id b
  refine eq_tb fun i => ?_
  have e : cutN W ro s = orN (fun r => ro (5 * s + r) <<< (r * W)) 5 := rfl
  rw [e]
  unfold cutM
  rw [orN_tb, orN_tb]
  constructor
  · rintro ⟨c, hc, h⟩
    split at h
    · rename_i hb
      rw [one_tb] at h
      subst h
      have hd : c / W < H := Nat.div_lt_of_lt_mul hc
      refine ⟨c / W, by omega, ?_⟩
      rw [Nat.testBit_shiftLeft]
      have h1 : c / W * W ≤ c := Nat.div_mul_le_self c W
      have h2 : c - c / W * W = c % W := by
        have := Nat.div_add_mod c W
        rw [Nat.mul_comm] at this
        omega
      rw [h2, hb]
      simp [h1]
    · simp at h
  · rintro ⟨r, hr5, h⟩
    rw [Nat.testBit_shiftLeft, Bool.and_eq_true, decide_eq_true_eq] at h
    obtain ⟨h1, h2⟩ := h
    rcases hr (5 * s + r) (by omega) with h0 | ⟨hH', hlt⟩
    · rw [h0] at h2; simp at h2
    · have hm : (5 * s + r) % 5 = r := by omega
      rw [hm] at hH'
      have hlt2 : i - r * W < W := by
        refine Decidable.byContradiction fun hn => ?_
        rw [Nat.testBit_lt_two_pow (Nat.lt_of_lt_of_le hlt (Nat.pow_le_pow_right (by omega) (by omega)))] at h2
        cases h2
      have hi : i = i - r * W + W * r := by rw [Nat.mul_comm W r]; omega
      have hdiv : i / W = r := by rw [hi, Nat.add_mul_div_left _ _ hW, Nat.div_eq_of_lt hlt2]; omega
      have hmod : i % W = i - r * W := by
        rw [hi, Nat.add_mul_mod_self_left, Nat.mod_eq_of_lt hlt2]
        rw [Nat.mul_comm W r]; omega
      refine ⟨i, ?_, ?_⟩
      · have := Nat.mul_le_mul_left W (show r + 1 ≤ H by omega)
        rw [Nat.mul_succ] at this
        omega
      · rw [hdiv, hmod, if_pos h2, one_tb]
/-- what hand() leaves alone -/
def hOut (c i j : Nat) : Prop := ¬ (61 ≤ c ∧ c ≤ 66) ∧ ¬ (c = 10 ∧ 23 ≤ j ∧ j ≤ 28)
def HD (m : MI) (k W H sl n : Nat) (cu we : Nat → Nat) : Prop :=
  MW m W H ∧ (m 10 0 23 = nI k ∧ m 10 0 27 = nI n ∧ m 10 0 28 = nI 0) ∧ (∀ s, s < 6 → m 61 0 s = nI (cu s) ∧ m 62 0 s = nI (openN W H (cu s)) ∧ m 63 0 s = nI 0 ∧ m 64 0 s = nI 0 ∧ m 65 0 s = nI 0) ∧ (∀ c, c < 25 → m 66 0 c = nI 0) ∧ (m 55 0 (40 * k) = nI W ∧ m 55 0 (40 * k + 1) = nI H ∧ m 55 0 (40 * k + 2) = nI sl ∧ m 55 0 (40 * k + 3) = nI n) ∧ ∀ s, s < 6 → m 55 0 (40 * k + (34 + s)) = nI (we s)
theorem lt_e {α β : Type} (a : α) (f : α → β) : lt a f = f a := rfl
theorem ck6 {α : Type} {k : Nat} (hk : k < 6) (x : Option α) : ck (¬ (nI k < 0 ∨ 6 ≤ (nI k).toNatClampNeg)) x = x := if_pos (nI_in hk (by omega))
theorem ck_in {α : Type} {k N : Nat} (hk : k < N) (hN : N < 2147483648) (x : Option α) : ck (¬ (nI k < 0 ∨ N ≤ (nI k).toNatClampNeg)) x = x := if_pos (nI_in hk hN)
theorem ckI {α : Type} {k N : Nat} (h : k < N) (h2 : k < 2147483648) (x : Option α) : ck (¬ (nI k < nI 0 ∨ N ≤ k)) x = x := if_pos fun q => q.elim (fun z => nI_pos h2 z) (fun z => by omega)
theorem ckJ {α : Type} {k N : Nat} (h : k < N) (h2 : k < 2147483648) (x : Option α) : ck (¬ (nI k < 0 ∨ N ≤ k)) x = x := ckI h h2 x
theorem m_clean (m0 : MI) (w : WS) : ∃ m, F_X11_clean m0 w = some m ∧ (∀ c, c < 25 → m 66 0 c = nI 0) ∧ ∀ c i j, c ≠ 66 → m c i j = m0 c i j := by
  have key := lp_inv (L := fun n s k => L_X11_clean_2 w n s (nI k)) (N := 25) (post := fun a => some a) (fun k m => (∀ c, c < k → m 66 0 c = nI 0) ∧ ∀ c i j, c ≠ 66 → m c i j = m0 c i j) (fun n s _ => ?_) (fun n k s hk hI => ?_) (F := 1000000) (by omega) m0 ⟨fun c hc => absurd hc (by omega), fun _ _ _ _ => rfl⟩
  · obtain ⟨m, h1, h2⟩ := key
    exact ⟨m, h2, h1⟩
  · exact if_pos (by decide)
  · refine ⟨u3 s 66 0 k (nI 0), ?_, fun c hc => ?_, fun c i j hc => ?_⟩
    · have e : (25 : Int32) = nI 25 := rfl
      simp (disch := omega) only [L_X11_clean_2, e, nle, if_neg]
      rw [ck_in hk (by omega), lt_e, ncl (by omega), i1, nadd]
      rfl
    · by_cases e : c = k
      · rw [e, u3_s]
      · rw [u3_n (by omega)]; exact hI.1 c (by omega)
    · rw [u3_n (by omega)]; exact hI.2 c i j hc
/-- a sheet's row of cells as it goes, cell by cell -/
theorem m_cut26 {w : WS} {k11 : MI → Int32 → Option MI} {m1 : MI} {k W H sl n s : Nat} {ro we : Nat → Nat} (b : BW W H) (m : MW m1 W H) (h23 : m1 10 0 23 = nI k) (hk : k < 2) (h27 : m1 10 0 27 = nI n) (hs : s < n) (hn : n ≤ 6) (hM : ShM m1 (40 * k) W H sl n ro we) (hr : ∀ k, k < 5 * n → ro k = 0 ∨ (k % 5 < H ∧ ro k < 2 ^ W)) (h61 : m1 61 0 s = nI 0) :
    ∃ m2, (m2 61 0 s = nI (cutN W ro s) ∧ ∀ c i j, (c ≠ 61 ∨ j ≠ s) → m2 c i j = m1 c i j) ∧ ∃ F, L_X11_asTold_26 w k11 1000000 m1 (nI s) (nI 0) = L_X11_asTold_26 w k11 (F + 1) m2 (nI s) (nI (W * H)) := by
  obtain ⟨⟨hW, hW5⟩, hH, hH5⟩ := id b
  obtain ⟨h24, h25, h26⟩ := id m
  have hC := cells_le hW5 hH5
  have key : ∀ r c F m2, c + r = W * H → r < F → m2 61 0 s = nI (cutM W ro s c) → (∀ c i j, (c ≠ 61 ∨ j ≠ s) → m2 c i j = m1 c i j) → ∃ m3, (m3 61 0 s = nI (cutM W ro s (W * H)) ∧ ∀ c i j, (c ≠ 61 ∨ j ≠ s) → m3 c i j = m1 c i j) ∧ ∃ G, L_X11_asTold_26 w k11 F m2 (nI s) (nI c) = L_X11_asTold_26 w k11 (G + 1) m3 (nI s) (nI (W * H)) := by
    intro r
    induction r with
    | zero =>
      intro c F m2 hc hF h1 h2
      have hc : c = W * H := by omega
      subst hc
      exact ⟨m2, ⟨h1, h2⟩, F - 1, by rw [show F - 1 + 1 = F by omega]⟩
    | succ r ih =>
      intro c F m2 hc hF h1 h2
      obtain ⟨F, rfl⟩ : ∃ G, F = G + 1 := ⟨F - 1, by omega⟩
      have g24 : m2 10 0 24 = nI W := by rw [h2 _ _ _ (by omega)]; exact h24
      have g26 : m2 10 0 26 = nI (W * H) := by rw [h2 _ _ _ (by omega)]; exact h26
      have g27 : m2 10 0 27 = nI n := by rw [h2 _ _ _ (by omega)]; exact h27
      have hm : c % W < W := Nat.mod_lt c hW
      have hd : c / W < H := Nat.div_lt_of_lt_mul (by omega)
      have hof : F_X11_of m2 w (((4 : Int32) + ((5 : Int32) * nI s)) + (nI c / (m2 10 0 24))) = some (nI (ro (5 * s + c / W))) := by
        rw [g24, ndiv (by omega) hW (by omega)]
        show F_X11_of m2 w ((nI 4 + (nI 5 * nI s)) + nI (c / W)) = _
        rw [nmul, nadd, nadd]
        unfold F_X11_of
        rw [h2 10 0 23 (by omega), h23]
        show ck (¬ (((nI 40 * nI k) + nI (4 + 5 * s + c / W)) < 0 ∨ 320 ≤ ((nI 40 * nI k) + nI (4 + 5 * s + c / W)).toNatClampNeg)) (some (m2 55 0 ((nI 40 * nI k) + nI (4 + 5 * s + c / W)).toNatClampNeg)) = _
        rw [nmul, nadd, ck_in (by omega) (by omega), ncl (by omega), h2 55 0 _ (by omega)]
        have := hM.2.1 (5 * s + c / W) (by omega)
        rw [show 40 * k + (4 + 5 * s + c / W) = 40 * k + (4 + (5 * s + c / W)) by omega, this]
      have hro : ro (5 * s + c / W) < 2147483648 := by
        rcases hr (5 * s + c / W) (by omega) with h | ⟨-, h⟩
        · omega
        · have := Nat.pow_le_pow_right (n := 2) (by omega) hW5
          omega
      have hstep : L_X11_asTold_26 w k11 (F + 1) m2 (nI s) (nI c) = L_X11_asTold_26 w k11 F (u3 m2 61 0 s (nI (cutM W ro s (c + 1)))) (nI s) (nI (c + 1)) := by
        rw [L_X11_asTold_26, hof, if_neg (by rw [g26, nle (by omega) (by omega)]; omega), if_neg (by rw [g27, nle (by omega) (by omega)]; omega), ck6 (by omega), ckT (by rw [g24]; exact nI_ne0 hW (by omega))]
        show ck (¬ m2 10 0 24 = 0) _ = _
        rw [ckT (by rw [g24]; exact nI_ne0 hW (by omega)), ck6 (by omega), lt_e, ncl (by omega), h1, g24, nrem (by omega) hW (by omega), n31 (by omega), nshr hro (by omega), i1, nand, nadd]
        have : (if nI (ro (5 * s + c / W) >>> (c % W) &&& 1) = nI 1 then nI 1 <<< (nI c &&& 31) else 0) = nI (if (ro (5 * s + c / W)).testBit (c % W) then 1 <<< c else 0) := by
          rw [n31 (by omega), nshl _ (by omega)]
          cases hb : (ro (5 * s + c / W)).testBit (c % W)
          · rw [if_neg (by rw [bit1, hb]; simp)]; rfl
          · rw [if_pos (by rw [bit1, hb])]; rfl
        rw [this, nor]
        rfl
      rw [hstep]
      refine ih (c + 1) F _ (by omega) (by omega) u3_s fun c' i j h => ?_
      rw [u3_n (by omega)]
      exact h2 c' i j h
  obtain ⟨m3, ⟨h1, h2⟩, F, h3⟩ := key (W * H) 0 1000000 m1 (by omega) (by omega) h61 (fun _ _ _ _ => rfl)
  exact ⟨m3, ⟨by rw [← cut_eq b hs hr]; exact h1, h2⟩, F, h3⟩
theorem m_asTold {m0 : MI} (w : WS) {k W H sl n : Nat} {cu ro we : Nat → Nat} (ok : shOK W H sl n cu we) (hw : MW m0 W H) (h23 : m0 10 0 23 = nI k) (hk : k < 2) (h27 : m0 10 0 27 = nI n) (hM : ShM m0 (40 * k) W H sl n ro we) (hcu : ∀ s, s < n → cu s = cutN W ro s) (hc0 : ∀ s, n ≤ s → s < 6 → cu s = 0) (hr : ∀ k, k < 5 * n → ro k = 0 ∨ (k % 5 < H ∧ ro k < 2 ^ W)) :
    ∃ m1, F_X11_asTold m0 w = some m1 ∧ HD m1 k W H sl n cu we ∧ ∀ c i j, hOut c i j → m1 c i j = m0 c i j := by
  obtain ⟨hW, hH, hsl, hn, hlt, -⟩ := ok
  have b : BW W H := ⟨hW, hH⟩
  obtain ⟨mc, e1, c1, c2⟩ := m_clean m0 w
  have hC := cells_le hW.2 hH.2
  unfold F_X11_asTold
  rw [e1, Option.bind_some, i0]
  have g0 : ∀ c i j, ¬ (c = 66) → ¬ (c = 10 ∧ j = 28) → (u3 mc 10 0 28 (nI 0)) c i j = m0 c i j := fun c i j h1 h2 => by
    rw [u3_n (by omega)]; exact c2 c i j h1
  have key := lp_inv (L := fun n s k => L_X11_asTold_11 w n s (nI k)) (N := 6) (post := fun a => some a)
    (fun q m => (∀ s, s < q → m 61 0 s = nI (cu s) ∧ m 62 0 s = nI (openN W H (cu s)) ∧ m 63 0 s = nI 0 ∧ m 64 0 s = nI 0 ∧ m 65 0 s = nI 0) ∧ ∀ c i j, ¬ (61 ≤ c ∧ c ≤ 65) → m c i j = (u3 mc 10 0 28 (nI 0)) c i j) (fun n s _ => ?_) (fun n' s m hs hI => ?_) (F := 1000000) (by omega) (u3 mc 10 0 28 (nI 0)) ⟨fun c hc => absurd hc (by omega), fun _ _ _ _ => rfl⟩
  · obtain ⟨m1, h1, h2⟩ := key
    refine ⟨m1, h2, ⟨⟨?_, ?_, ?_⟩, ⟨?_, ?_, ?_⟩, h1.1, fun c hc => ?_, ?_, fun s hs => ?_⟩, fun c i j h => ?_⟩
    · rw [h1.2 _ _ _ (by omega), g0 _ _ _ (by omega) (by omega)]; exact hw.1
    · rw [h1.2 _ _ _ (by omega), g0 _ _ _ (by omega) (by omega)]; exact hw.2.1
    · rw [h1.2 _ _ _ (by omega), g0 _ _ _ (by omega) (by omega)]; exact hw.2.2
    · rw [h1.2 _ _ _ (by omega), g0 _ _ _ (by omega) (by omega)]; exact h23
    · rw [h1.2 _ _ _ (by omega), g0 _ _ _ (by omega) (by omega)]; exact h27
    · rw [h1.2 _ _ _ (by omega)]; exact u3_s
    · rw [h1.2 _ _ _ (by omega), u3_n (by omega)]; exact c1 c hc
    · have f55 : ∀ k', m1 55 0 k' = m0 55 0 k' := fun k' => by rw [h1.2 _ _ _ (by omega), g0 _ _ _ (by omega) (by omega)]
      rw [f55, f55, f55, f55]; exact hM.1
    · rw [h1.2 _ _ _ (by omega), g0 _ _ _ (by omega) (by omega)]; exact hM.2.2 s hs
    · unfold hOut at h
      rw [h1.2 _ _ _ (by omega), g0 _ _ _ (by omega) (by omega)]
  · exact if_pos (by decide)
  · have f0 : ∀ c i j, ¬ (61 ≤ c ∧ c ≤ 66) → ¬ (c = 10 ∧ j = 28) → m c i j = m0 c i j := fun c i j h1 h2 => by
      rw [hI.2 c i j (by omega), g0 c i j (by omega) h2]
    have t0 : ∀ c i j, ¬ (61 ≤ c ∧ c ≤ 66) → ¬ (c = 10 ∧ j = 28) → (u3 m 61 0 s (nI 0)) c i j = m0 c i j := fun c i j h1 h2 => by
      rw [u3_n (by omega), f0 c i j h1 h2]
    -- the cells
    have hcut : ∃ m2, (m2 61 0 s = nI (cu s) ∧ ∀ c i j, (c ≠ 61 ∨ j ≠ s) → m2 c i j = m c i j) ∧ ∃ F c, L_X11_asTold_26 w (fun mi x1 => L_X11_asTold_11 w n' mi x1) 1000000 (u3 m 61 0 s (nI 0)) (nI s) (nI 0) = L_X11_asTold_26 w (fun mi x1 => L_X11_asTold_11 w n' mi x1) (F + 1) m2 (nI s) (nI c) ∧ c ≤ 25 ∧ (W * H ≤ c ∨ n ≤ s) := by
      by_cases hsn : s < n
      · obtain ⟨m2, ⟨a1, a2⟩, F, a3⟩ := m_cut26 (w := w) (k11 := fun mi x1 => L_X11_asTold_11 w n' mi x1) (m1 := u3 m 61 0 s (nI 0)) (k := k) (n := n) (sl := sl) (we := we) (ro := ro) b ⟨by rw [t0 _ _ _ (by omega) (by omega)]; exact hw.1, by rw [t0 _ _ _ (by omega) (by omega)]; exact hw.2.1, by rw [t0 _ _ _ (by omega) (by omega)]; exact hw.2.2⟩ (by rw [t0 _ _ _ (by omega) (by omega)]; exact h23) hk (by rw [t0 _ _ _ (by omega) (by omega)]; exact h27) hsn hn (ShM_of (fun j => t0 55 0 j (by omega) (by omega)) hM) hr u3_s
        exact ⟨m2, ⟨by rw [a1, hcu s hsn], fun c i j h => by rw [a2 c i j h, u3_n (by omega)]⟩, F, W * H, a3, hC, Or.inl (Nat.le_refl _)⟩
      · exact ⟨u3 m 61 0 s (nI 0), ⟨by rw [hc0 s (by omega) hs]; exact u3_s, fun c i j h => u3_n (by omega)⟩, 999999, 0, by rw [show (1000000 : Nat) = 999999 + 1 from rfl], by omega, Or.inr (by omega)⟩
    obtain ⟨m2, ⟨a1, a2⟩, F, c, a3, hc25, hcc⟩ := hcut
    have u0 : ∀ c i j, ¬ (61 ≤ c ∧ c ≤ 66) → ¬ (c = 10 ∧ j = 28) → m2 c i j = m0 c i j := fun c i j h1 h2 => by
      rw [a2 _ _ _ (by omega), f0 c i j h1 h2]
    have mw : MW m2 W H := ⟨by rw [u0 _ _ _ (by omega) (by omega)]; exact hw.1, by rw [u0 _ _ _ (by omega) (by omega)]; exact hw.2.1, by rw [u0 _ _ _ (by omega) (by omega)]; exact hw.2.2⟩
    have u27 : m2 10 0 27 = nI n := by rw [u0 _ _ _ (by omega) (by omega)]; exact h27
    refine ⟨u3 (u3 (u3 (u3 m2 62 0 s (nI (openN W H (cu s)))) 63 0 s (nI 0)) 64 0 s (nI 0)) 65 0 s (nI 0), ?_, ?_, ?_⟩
    · show L_X11_asTold_11 w (n' + 1) m (nI s) = L_X11_asTold_11 w n' _ (nI (s + 1))
      rw [L_X11_asTold_11, if_neg (by rw [i6, nle (by omega) (by omega)]; omega), ck6 hs, lt_e, ncl (by omega), i0]
      refine a3.trans ?_
      have tail : (F_X11_openBy m2 w (m2 61 0 (nI s).toNatClampNeg)) = some (nI (openN W H (cu s))) := by
        rw [ncl (by omega), a1, m_openBy w b mw]
      rw [L_X11_asTold_26]
      by_cases hq : W * H ≤ c
      · rw [if_pos (by rw [mw.2.2, nle (by omega) (by omega)]; exact hq), tail]
        simp only [ckI hs (show s < 2147483648 by omega), lt_e, ncl (show s < 2147483648 by omega), Option.bind, i0, i1, nadd]
      · rw [if_neg (by rw [mw.2.2, nle (by omega) (by omega)]; exact hq), if_pos (by rw [u27, nle (by omega) (by omega)]; omega), tail]
        simp only [ckI hs (show s < 2147483648 by omega), lt_e, ncl (show s < 2147483648 by omega), Option.bind, i0, i1, nadd]
    · intro s' hs'
      by_cases e : s' = s
      · subst e
        refine ⟨?_, ?_, ?_, ?_, ?_⟩
        · rw [u3_n (by omega), u3_n (by omega), u3_n (by omega), u3_n (by omega)]; exact a1
        · rw [u3_n (by omega), u3_n (by omega), u3_n (by omega), u3_s]
        · rw [u3_n (by omega), u3_n (by omega), u3_s]
        · rw [u3_n (by omega), u3_s]
        · rw [u3_s]
      · have := hI.1 s' (by omega)
        refine ⟨?_, ?_, ?_, ?_, ?_⟩
        · rw [u3_n (by omega), u3_n (by omega), u3_n (by omega), u3_n (by omega), a2 _ _ _ (by omega)]; exact this.1
        · rw [u3_n (by omega), u3_n (by omega), u3_n (by omega), u3_n (by omega), a2 _ _ _ (by omega)]; exact this.2.1
        · rw [u3_n (by omega), u3_n (by omega), u3_n (by omega), u3_n (by omega), a2 _ _ _ (by omega)]; exact this.2.2.1
        · rw [u3_n (by omega), u3_n (by omega), u3_n (by omega), u3_n (by omega), a2 _ _ _ (by omega)]; exact this.2.2.2.1
        · rw [u3_n (by omega), u3_n (by omega), u3_n (by omega), u3_n (by omega), a2 _ _ _ (by omega)]; exact this.2.2.2.2
    · intro c' i j h
      rw [u3_n (by omega), u3_n (by omega), u3_n (by omega), u3_n (by omega), a2 _ _ _ (by omega)]
      exact hI.2 c' i j h
/-- a model's field that is a shop's number, a place -/
theorem m_of {m : MI} (w : WS) {k a : Nat} (h23 : m 10 0 23 = nI k) (hk : k < 2) (ha : a < 40) : F_X11_of m w (nI a) = some (m 55 0 (40 * k + a)) := by
  unfold F_X11_of
  rw [h23]
  show ck (¬ (((nI 40 * nI k) + nI a) < 0 ∨ 320 ≤ ((nI 40 * nI k) + nI a).toNatClampNeg)) (some (m 55 0 ((nI 40 * nI k) + nI a).toNatClampNeg)) = _
  rw [nmul, nadd, ck_in (by omega) (by omega), ncl (by omega)]
/-- is there a thing of a sort of a number -/
theorem m_is {m : MI} (w : WS) {s c : Nat} (hs : s < 4) (hc : c ≤ 2) (h : m 54 0 s = nI c) (x : Int32) : F_X11_is m w (nI s) x = some (b2 (¬ x < 0 ∧ x < nI c)) := by
  unfold F_X11_is
  rw [ck_in (by omega) (by omega), ncl (by omega), h]
  congr 1
  have e : (¬ (nI c - 1 < x)) = (x < nI c) := by
    apply propext
    rw [Int32.lt_iff_toInt_lt, Int32.lt_iff_toInt_lt, i1, pk_sub_toInt (by omega) (by omega), nI_toInt (by omega)]
    omega
  unfold b2
  simp only [e]
theorem b2_pos {p : Prop} [Decidable p] (h : p) : b2 p = 1 := if_pos h
theorem b2_neg {p : Prop} [Decidable p] (h : ¬ p) : b2 p = 0 := if_neg h
