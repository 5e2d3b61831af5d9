/-! TEXT: the end of a shop's text: its measures, its cuts, what is too far -/
theorem sh_one {W : Nat} (h : W < 32) : (1 : Int32) <<< (nI W &&& 31) - 1 = nI (2 ^ W - 1) := by
  rw [n31 h, i1, nshl _ h, Nat.one_shiftLeft, nsub (Nat.one_le_two_pow)]
theorem c_meas {m : MI} {w : WS} {W H : Nat} (hb : BW W H) (h0 : m 5 8 0 = nI W) (h1 : m 5 8 1 = nI H) : ∃ m', F_X6_measure m w 8 = some m' ∧ CW m' 8 W H ∧ ∀ c i j, ¬ (c = 5 ∧ i = 8 ∧ 7 ≤ j ∧ j ≤ 10) → m' c i j = m c i j := by
  obtain ⟨⟨w1, w5⟩, g1, g5⟩ := hb
  have key : ∀ g F k m1, k + g = H → g < F → m1 5 8 8 = nI (foldN (fun r a => a ||| 1 <<< (r * W)) 0 k) → m1 5 8 9 = nI (foldN (fun r a => a ||| 1 <<< (r * W + W - 1)) 0 k) → m1 5 8 7 = nI (aM W H) → (∀ c i j, ¬ (c = 5 ∧ i = 8 ∧ 7 ≤ j ∧ j ≤ 10) → m1 c i j = m c i j) → ∃ m', L_X6_measure_29 w F m1 8 (nI k) = some m' ∧ CW m' 8 W H ∧ ∀ c i j, ¬ (c = 5 ∧ i = 8 ∧ 7 ≤ j ∧ j ≤ 10) → m' c i j = m c i j := by
    intro g
    induction g with
    | zero =>
      intro F k m1 hk hF e8 e9 e7 hf
      obtain ⟨F, rfl⟩ : ∃ G, F = G + 1 := ⟨F - 1, by omega⟩
      have ek : k = H := by omega
      subst ek
      have f0 : m1 5 8 0 = nI W := by rw [hf _ _ _ (by omega)]; exact h0
      have f1 : m1 5 8 1 = nI k := by rw [hf _ _ _ (by omega)]; exact h1
      have hHW : (k - 1) * W ≤ 4 * 5 := Nat.mul_le_mul (by omega) w5
      have ev : (((m1 5 8 8 ||| m1 5 8 9) ||| ((1 : Int32) <<< (m1 5 8 0 &&& 31) - 1)) ||| (((1 : Int32) <<< (m1 5 8 0 &&& 31) - 1) <<< (((m1 5 8 1 - 1) * m1 5 8 0) &&& 31))) = nI (eM W k) := by
        rw [f0, f1, sh_one (by omega), e8, e9, show nI k - 1 = nI (k - 1) from nsub (a := k) (b := 1) g1, nmul, n31 (by omega), nshl _ (by omega), nor, nor, nor]
        rfl
      rw [L_X6_measure_29, if_pos (show m1 5 8 1 ≤ nI k by rw [f1, nle (by omega) (by omega)]; omega), ev, lt_e]
      exact ⟨_, rfl, ⟨⟨by rw [u3_n (by omega)]; exact f0, by rw [u3_n (by omega)]; exact f1⟩, by rw [u3_n (by omega)]; exact e7, by rw [u3_n (by omega)]; exact e8, by rw [u3_n (by omega)]; exact e9, u3_s⟩, fun c i j z => by rw [u3_n (by omega)]; exact hf c i j z⟩
    | succ g ih =>
      intro F k m1 hk hF e8 e9 e7 hf
      obtain ⟨F, rfl⟩ : ∃ G, F = G + 1 := ⟨F - 1, by omega⟩
      have f0 : m1 5 8 0 = nI W := by rw [hf _ _ _ (by omega)]; exact h0
      have f1 : m1 5 8 1 = nI H := by rw [hf _ _ _ (by omega)]; exact h1
      have hkW : k * W ≤ 4 * 5 := Nat.mul_le_mul (by omega) w5
      have v8 : (m1 5 8 8 ||| ((1 : Int32) <<< ((nI k * m1 5 8 0) &&& 31))) = nI (foldN (fun r a => a ||| 1 <<< (r * W)) 0 (k + 1)) := by
        rw [f0, e8, nmul, n31 (by omega), i1, nshl _ (by omega), nor]
        rfl
      rw [L_X6_measure_29, if_neg (show ¬ m1 5 8 1 ≤ nI k by rw [f1, nle (by omega) (by omega)]; omega), v8, lt_e, lt_e]
      have g0 : u3 m1 5 8 8 (nI (foldN (fun r a => a ||| 1 <<< (r * W)) 0 (k + 1))) 5 8 0 = nI W := by rw [u3_n (by omega)]; exact f0
      have g9 : u3 m1 5 8 8 (nI (foldN (fun r a => a ||| 1 <<< (r * W)) 0 (k + 1))) 5 8 9 = nI (foldN (fun r a => a ||| 1 <<< (r * W + W - 1)) 0 k) := by rw [u3_n (by omega)]; exact e9
      have v9 : (nI (foldN (fun r a => a ||| 1 <<< (r * W + W - 1)) 0 k) ||| ((1 : Int32) <<< (((nI k * nI W) + nI W - 1) &&& 31))) = nI (foldN (fun r a => a ||| 1 <<< (r * W + W - 1)) 0 (k + 1)) := by
        rw [nmul, nadd, i1, nsub (by omega), n31 (by omega), nshl _ (by omega), nor]
        rfl
      rw [g0, g9, v9, show nI k + 1 = nI (k + 1) from nadd k 1]
      refine ih F (k + 1) _ (by omega) (by omega) ?_ u3_s ?_ (fun c i j z => ?_)
      · rw [u3_n (by omega), u3_s]
      · rw [u3_n (by omega), u3_n (by omega)]; exact e7
      · rw [u3_n (by omega), u3_n (by omega)]; exact hf c i j z
  have hWH : W * H ≤ 5 * 5 := Nat.mul_le_mul w5 g5
  unfold F_X6_measure
  rw [h0, h1, nmul, sh_one (by omega), lt_e]
  refine key H 1000000 0 _ (by omega) (by omega) ?_ ?_ ?_ (fun c i j z => ?_)
  · rw [u3_n (by omega), u3_s]; rfl
  · rw [u3_s]; rfl
  · rw [u3_n (by omega), u3_n (by omega), u3_s]; rfl
  · rw [u3_n (by omega), u3_n (by omega), u3_n (by omega)]
def baK (W H : Nat) (ro : Nat → Nat) (k : Nat) : Prop := ro k ≠ 0 ∧ (H ≤ k % 5 ∨ ro k >>> W ≠ 0)
def acN (W : Nat) (ro : Nat → Nat) (k s : Nat) : Nat := foldN (fun r a => a ||| ro (5 * s + r) <<< (r * W)) 0 (min 5 (k - 5 * s))
theorem c_cut {m : MI} {w : WS} {W H s r x p : Nat} {f : Nat × Nat} {ro : Nat → Nat} (hb : BW W H) (h0 : m 5 8 0 = nI W) (h1 : m 5 8 1 = nI H) (hs : s < 6) (hr : r < 5) (hro : ro (5 * s + r) < 32) (h34 : m 34 0 (5 * s + r) = nI (ro (5 * s + r))) (hp : p < 1000) (hf : ntC m f) :
    ∃ m', F_X5_cutRow m w (nI s) (nI r) (nI p) = some m' ∧ ((baK W H ro (5 * s + r) ∧ ntC m' (ntF f 5 p)) ∨ (¬ baK W H ro (5 * s + r) ∧ ntC m' f ∧ (m 26 8 s = nI x → m' 26 8 s = nI (x ||| ro (5 * s + r) <<< (r * W))) ∧ ∀ j, j ≠ s → m' 26 8 j = m 26 8 j)) ∧ ∀ c i j, ¬ (c = 4 ∧ i = 0 ∧ (j = 4 ∨ j = 5)) → ¬ (c = 26 ∧ i = 8) → m' c i j = m c i j := by
  obtain ⟨⟨w1, w5⟩, g1, g5⟩ := hb
  have em : (5 * s + r) % 5 = r := by omega
  have ei : (nI s * 5) + nI r = nI (5 * s + r) := by
    rw [show (5 : Int32) = nI 5 from rfl, nmul, nadd, Nat.mul_comm]
  have hrW : r * W ≤ 4 * 5 := Nat.mul_le_mul (by omega) w5
  unfold F_X5_cutRow
  rw [ei, ck_in (by omega) (by omega), ncl (by omega), h34]
  by_cases z0 : ro (5 * s + r) = 0
  · rw [if_pos (show nI (ro (5 * s + r)) = 0 by rw [z0]; rfl)]
    refine ⟨m, rfl, Or.inr ⟨fun z => z.1 z0, hf, fun e => ?_, fun _ _ => rfl⟩, fun _ _ _ _ _ => rfl⟩
    rw [e, z0, Nat.zero_shiftLeft, Nat.or_zero]
  · rw [if_neg (show ¬ nI (ro (5 * s + r)) = 0 from nne0 (by omega) z0), h0, h1]
    obtain ⟨mn, n1, n2, n3⟩ := c_note (m := m) (w := w) (c := 5) (p := p) hf (by omega) hp
    have nn : F_X5_note m w 5 (nI p) = some mn := n1
    have noted : baK W H ro (5 * s + r) → ∃ m', ((F_X5_note m w 5 (nI p)).bind fun c81 => some c81) = some m' ∧ ((baK W H ro (5 * s + r) ∧ ntC m' (ntF f 5 p)) ∨ (¬ baK W H ro (5 * s + r) ∧ ntC m' f ∧ (m 26 8 s = nI x → m' 26 8 s = nI (x ||| ro (5 * s + r) <<< (r * W))) ∧ ∀ j, j ≠ s → m' 26 8 j = m 26 8 j)) ∧ ∀ c i j, ¬ (c = 4 ∧ i = 0 ∧ (j = 4 ∨ j = 5)) → ¬ (c = 26 ∧ i = 8) → m' c i j = m c i j := by
      intro hbad
      rw [nn, Option.bind_some]
      exact ⟨mn, rfl, Or.inl ⟨hbad, n2⟩, fun c i j z _ => n3 c i j z⟩
    by_cases z1 : H ≤ r
    · rw [if_pos (show nI H ≤ nI r by rw [nle (by omega) (by omega)]; exact z1)]
      exact noted ⟨z0, Or.inl (by omega)⟩
    · rw [if_neg (show ¬ nI H ≤ nI r by rw [nle (by omega) (by omega)]; exact z1), n31 (by omega), nshr (by omega) (by omega)]
      have hsr : ro (5 * s + r) >>> W ≤ ro (5 * s + r) := Nat.shiftRight_le _ _
      by_cases z2 : ro (5 * s + r) >>> W = 0
      · rw [if_pos (show nI (ro (5 * s + r) >>> W) = 0 by rw [z2]; rfl), ck_in (by omega) (by omega), ck_in (by omega) (by omega), ncl (by omega), lt_e, nmul, n31 (by omega), nshl _ (by omega)]
        refine ⟨_, rfl, Or.inr ⟨fun z => z.2.elim (fun y => z1 (by omega)) (fun y => y z2), ntC_of hf fun j _ => u3_n (by omega), fun e => ?_, fun j hj => u3_n (by omega)⟩, fun c i j _ z => u3_n (by omega)⟩
        rw [u3_s, e, nor]
      · rw [if_neg (show ¬ nI (ro (5 * s + r) >>> W) = 0 from nne0 (by omega) z2)]
        exact noted ⟨z0, Or.inr z2⟩
/-- cuts checked so far: k of them -/
def ivK (W H p : Nat) (ro : Nat → Nat) (f : Nat × Nat) (m0 : MI) (k : Nat) (m : MI) : Prop :=
  (((∃ j, j < k ∧ baK W H ro j) ∧ ntC m (ntF f 5 p)) ∨ ((¬ ∃ j, j < k ∧ baK W H ro j) ∧ ntC m f ∧ ∀ s, s < 6 → m 26 8 s = nI (acN W ro k s))) ∧ ∀ c i j, ¬ (c = 4 ∧ i = 0 ∧ (j = 4 ∨ j = 5)) → ¬ (c = 26 ∧ i = 8) → m c i j = m0 c i j
theorem iv_step {m0 m : MI} {w : WS} {W H s r p : Nat} {f : Nat × Nat} {ro : Nat → Nat} (hb : BW W H) (h0 : m0 5 8 0 = nI W) (h1 : m0 5 8 1 = nI H) (hs : s < 6) (hr : r < 5) (hro : ∀ k, k < 30 → ro k < 32) (h34 : ∀ k, k < 30 → m0 34 0 k = nI (ro k)) (hp : p < 1000) (h : ivK W H p ro f m0 (5 * s + r) m) : ∃ m', F_X5_cutRow m w (nI s) (nI r) (nI p) = some m' ∧ ivK W H p ro f m0 (5 * s + r + 1) m' := by
  obtain ⟨h, hfr⟩ := h
  have g0 : m 5 8 0 = nI W := by rw [hfr _ _ _ (by omega) (by omega)]; exact h0
  have g1 : m 5 8 1 = nI H := by rw [hfr _ _ _ (by omega) (by omega)]; exact h1
  have g34 : m 34 0 (5 * s + r) = nI (ro (5 * s + r)) := by rw [hfr _ _ _ (by omega) (by omega)]; exact h34 _ (by omega)
  have nt2 : ntF (ntF f 5 p) 5 p = ntF f 5 p := nt_on (nt_ne (by decide))
  rcases h with ⟨a1, a2⟩ | ⟨a1, a2, a3⟩
  · obtain ⟨m', e1, e2, e3⟩ := c_cut (w := w) (x := 0) (ro := ro) hb g0 g1 hs hr (hro _ (by omega)) g34 hp a2
    refine ⟨m', e1, Or.inl ⟨?_, ?_⟩, fun c i j z1 z2 => by rw [e3 _ _ _ z1 z2]; exact hfr _ _ _ z1 z2⟩
    · obtain ⟨j, j1, j2⟩ := a1; exact ⟨j, by omega, j2⟩
    · rcases e2 with ⟨-, e2⟩ | ⟨-, e2, -⟩
      · rw [nt2] at e2; exact e2
      · exact e2
  · obtain ⟨m', e1, e2, e3⟩ := c_cut (w := w) (x := acN W ro (5 * s + r) s) (ro := ro) hb g0 g1 hs hr (hro _ (by omega)) g34 hp a2
    refine ⟨m', e1, ?_, fun c i j z1 z2 => by rw [e3 _ _ _ z1 z2]; exact hfr _ _ _ z1 z2⟩
    rcases e2 with ⟨b1, b2⟩ | ⟨b1, b2, b3, b4⟩
    · exact Or.inl ⟨⟨_, by omega, b1⟩, b2⟩
    · refine Or.inr ⟨fun ⟨j, j1, j2⟩ => ?_, b2, fun t ht => ?_⟩
      · by_cases e : j = 5 * s + r
        · exact b1 (e ▸ j2)
        · exact a1 ⟨j, by omega, j2⟩
      · by_cases e : t = s
        · subst e
          rw [b3 (a3 t ht)]
          unfold acN
          rw [show min 5 (5 * t + r - 5 * t) = r by omega, show min 5 (5 * t + r + 1 - 5 * t) = r + 1 by omega]
          rfl
        · rw [b4 t e, a3 t ht]
          unfold acN
          rw [show min 5 (5 * s + r + 1 - 5 * t) = min 5 (5 * s + r - 5 * t) by omega]
theorem c_chk {m0 : MI} {w : WS} {W H n p : Nat} {f : Nat × Nat} {ro : Nat → Nat} (hb : BW W H) (h0 : m0 5 8 0 = nI W) (h1 : m0 5 8 1 = nI H) (h3 : m0 5 8 3 = nI n) (hn : n ≤ 6) (hro : ∀ k, k < 30 → ro k < 32) (h34 : ∀ k, k < 30 → m0 34 0 k = nI (ro k)) (hp : p < 1000) : ∀ g F s m, s + g = n → g < F → ivK W H p ro f m0 (5 * s) m → ∃ m', L_X5_checkShop_23 w F m (nI p) (nI s) = some m' ∧ ivK W H p ro f m0 (5 * n) m' := by
  have inner : ∀ s, s < 6 → ∀ g F r m (k : MI → Int32 → Int32 → Option MI), r + g = 5 → g < F → ivK W H p ro f m0 (5 * s + r) m → ∃ m', L_X5_checkShop_36 w k F m (nI p) (nI s) (nI r) = k m' (nI p) (nI s + 1) ∧ ivK W H p ro f m0 (5 * s + 5) m' := by
    intro s hs g
    induction g with
    | zero =>
      intro F r m k hr hF h
      obtain ⟨F, rfl⟩ : ∃ G, F = G + 1 := ⟨F - 1, by omega⟩
      have er : r = 5 := by omega
      subst er
      rw [L_X5_checkShop_36, if_pos (show (5 : Int32) ≤ nI 5 by decide)]
      exact ⟨m, rfl, h⟩
    | succ g ih =>
      intro F r m k hr hF h
      obtain ⟨F, rfl⟩ : ∃ G, F = G + 1 := ⟨F - 1, by omega⟩
      obtain ⟨m1, e1, e2⟩ := iv_step (w := w) (r := r) hb h0 h1 hs (by omega) hro h34 hp h
      rw [L_X5_checkShop_36, if_neg (show ¬ (5 : Int32) ≤ nI r by rw [show (5 : Int32) = nI 5 from rfl, nle (by omega) (by omega)]; omega), e1, Option.bind_some, show nI r + 1 = nI (r + 1) from nadd r 1]
      exact ih F (r + 1) m1 k (by omega) (by omega) e2
  intro g
  induction g with
  | zero =>
    intro F s m hs hF h
    obtain ⟨F, rfl⟩ : ∃ G, F = G + 1 := ⟨F - 1, by omega⟩
    have es : s = n := by omega
    subst es
    have g3 : m 5 8 3 = nI s := by rw [h.2 _ _ _ (by omega) (by omega)]; exact h3
    rw [L_X5_checkShop_23, if_pos (show m 5 8 3 ≤ nI s by rw [g3, nle (by omega) (by omega)]; omega)]
    exact ⟨m, rfl, h⟩
  | succ g ih =>
    intro F s m hs hF h
    obtain ⟨F, rfl⟩ : ∃ G, F = G + 1 := ⟨F - 1, by omega⟩
    have g3 : m 5 8 3 = nI n := by rw [h.2 _ _ _ (by omega) (by omega)]; exact h3
    obtain ⟨m1, e1, e2⟩ := inner s (by omega) 5 1000000 0 m (fun mi x1 x2 => L_X5_checkShop_23 w F mi x1 x2) (by omega) (by omega) h
    rw [L_X5_checkShop_23, if_neg (show ¬ m 5 8 3 ≤ nI s by rw [g3, nle (by omega) (by omega)]; omega)]
    have e1' : L_X5_checkShop_36 w (fun mi x1 x2 => L_X5_checkShop_23 w F mi x1 x2) 1000000 m (nI p) (nI s) 0 = L_X5_checkShop_23 w F m1 (nI p) (nI s + 1) := e1
    rw [e1', show nI s + 1 = nI (s + 1) from nadd s 1]
    exact ih F (s + 1) m1 (by omega) (by omega) (show ivK W H p ro f m0 (5 * (s + 1)) m1 from (show 5 * (s + 1) = 5 * s + 5 by omega) ▸ e2)
theorem far_tab2 : ((List.range 64).all fun wb => (List.range 7).all fun n => decide (((nI wb >>> (nI n &&& 31)) = 0) ↔ (faI wb < nI n))) = true := by decide +kernel
theorem far_same {wb n : Nat} (h : wb < 64) (hn : n ≤ 6) : ((nI wb >>> (nI n &&& 31)) = 0) ↔ (faI wb < nI n) :=
  of_decide_eq_true (List.all_eq_true.mp (List.all_eq_true.mp far_tab2 wb (List.mem_range.mpr h)) n (List.mem_range.mpr (by omega)))
theorem c_opens {m : MI} {w : WS} {W H n : Nat} {cu : Nat → Nat} (hb : BW W H) (h3 : m 5 8 3 = nI n) (hn : n ≤ 6) : ∃ m', F_X6_openSheets m w 8 = some m' ∧ (CW m 8 W H → (∀ s, s < 6 → m 26 8 s = nI (cu s)) → (∀ s, s < 6 → cu s < 2 ^ (W * H)) → ∀ s, s < n → m' 28 8 s = nI (openN W H (cu s))) ∧ ∀ c i j, ¬ (c = 28 ∧ i = 8 ∧ j < n) → m' c i j = m c i j := by
  have key : ∀ g F s m1, s + g = n → g < F → (CW m 8 W H → (∀ s, s < 6 → m 26 8 s = nI (cu s)) → (∀ s, s < 6 → cu s < 2 ^ (W * H)) → ∀ t, t < s → m1 28 8 t = nI (openN W H (cu t))) → (∀ c i j, ¬ (c = 28 ∧ i = 8 ∧ j < n) → m1 c i j = m c i j) → ∃ m', L_X6_openSheets_2 w F m1 8 (nI s) = some m' ∧ (CW m 8 W H → (∀ s, s < 6 → m 26 8 s = nI (cu s)) → (∀ s, s < 6 → cu s < 2 ^ (W * H)) → ∀ s, s < n → m' 28 8 s = nI (openN W H (cu s))) ∧ ∀ c i j, ¬ (c = 28 ∧ i = 8 ∧ j < n) → m' c i j = m c i j := by
    intro g
    induction g with
    | zero =>
      intro F s m1 hs hF h1 h2
      obtain ⟨F, rfl⟩ : ∃ G, F = G + 1 := ⟨F - 1, by omega⟩
      have es : s = n := by omega
      subst es
      rw [L_X6_openSheets_2, if_pos (show m1 5 8 3 ≤ nI s by rw [h2 _ _ _ (by omega), h3, nle (by omega) (by omega)]; omega)]
      exact ⟨m1, rfl, h1, h2⟩
    | succ g ih =>
      intro F s m1 hs hF h1 h2
      obtain ⟨F, rfl⟩ : ∃ G, F = G + 1 := ⟨F - 1, by omega⟩
      rw [L_X6_openSheets_2, if_neg (show ¬ m1 5 8 3 ≤ nI s by rw [h2 _ _ _ (by omega), h3, nle (by omega) (by omega)]; omega), ck_in (by omega) (by omega), ck_in (by omega) (by omega), ncl (by omega), lt_e, show nI s + 1 = nI (s + 1) from nadd s 1]
      refine ih F (s + 1) _ (by omega) (by omega) (fun q1 q2 q6 t ht => ?_) (fun c i j z => ?_)
      · by_cases e : t = s
        · have q3 : CW m1 8 W H := by
            have h5 : ∀ j, m1 5 8 j = m 5 8 j := fun j => h2 _ _ _ (by omega)
            unfold CW at q1 ⊢
            simp only [h5]
            exact q1
          rw [e, u3_s, h2 _ _ _ (by omega), q2 s (by omega)]
          exact c_open hb q3 (q6 s (by omega))
        · rw [u3_n (by omega)]; exact h1 q1 q2 q6 t (by omega)
      · rw [u3_n (by omega)]; exact h2 c i j z
  unfold F_X6_openSheets
  exact key n 1000000 0 m (by omega) (by omega) (fun _ _ _ t ht => by omega) (fun _ _ _ _ => rfl)
theorem op_tab : ((List.range 6).all fun W => (List.range 6).all fun H => Nat.beq W 0 || Nat.beq H 0 || Nat.beq (openN W H 0) 0) = true := by decide +kernel
theorem op_0 {W H : Nat} (hb : BW W H) : openN W H 0 = 0 := by
  obtain ⟨⟨w1, w5⟩, g1, g5⟩ := hb
  have h := List.all_eq_true.mp (List.all_eq_true.mp op_tab W (List.mem_range.mpr (by omega))) H (List.mem_range.mpr (by omega))
  rw [Bool.or_eq_true, Bool.or_eq_true] at h
  rcases h with (h | h) | h
  · have := Nat.eq_of_beq_eq_true h; omega
  · have := Nat.eq_of_beq_eq_true h; omega
  · exact Nat.eq_of_beq_eq_true h
theorem ac_lt {W H n s : Nat} {ro : Nat → Nat} (hb : BW W H) (hg : ¬ ∃ j, j < 5 * n ∧ baK W H ro j) (hs : s < 6) : acN W ro (5 * n) s < 2 ^ (W * H) := by
  unfold acN
  refine foldN_inv (P := fun a => a < 2 ^ (W * H)) (Nat.two_pow_pos _) fun r a hr ha => ?_
  have h1 : ¬ baK W H ro (5 * s + r) := fun z => hg ⟨_, by omega, z⟩
  by_cases e : ro (5 * s + r) = 0
  · show a ||| ro (5 * s + r) <<< (r * W) < 2 ^ (W * H)
    rw [e, Nat.zero_shiftLeft, Nat.or_zero]; exact ha
  · have h2 : r < H ∧ ro (5 * s + r) >>> W = 0 := by
      refine ⟨Classical.byContradiction fun z => h1 ⟨e, Or.inl (by omega)⟩, Classical.byContradiction fun z => h1 ⟨e, Or.inr z⟩⟩
    have h3 : ro (5 * s + r) < 2 ^ W := by
      have := h2.2
      rw [Nat.shiftRight_eq_div_pow] at this
      exact (Nat.div_eq_zero_iff.mp this).resolve_left (by have := Nat.two_pow_pos W; omega)
    refine Nat.or_lt_two_pow ha ?_
    rw [Nat.shiftLeft_eq]
    have h4 : ro (5 * s + r) * 2 ^ (r * W) < 2 ^ W * 2 ^ (r * W) := Nat.mul_lt_mul_of_pos_right h3 (Nat.two_pow_pos _)
    rw [← Nat.pow_add] at h4
    have h5 : W + r * W ≤ W * H := by
      have : (r + 1) * W ≤ H * W := Nat.mul_le_mul_right W h2.1
      rw [Nat.add_mul, Nat.one_mul, Nat.mul_comm H W] at this
      omega
    exact Nat.lt_of_lt_of_le h4 (Nat.pow_le_pow_right (by omega) h5)
/-- the class, at the end of a shop's text -/
theorem c_shopEnd {m : MI} {w : WS} {W H sl n wb p : Nat} {ro we : Nat → Nat} {f : Nat × Nat} (hp : p < 1000) (hd : dO0 W H sl n wb ro we) (hc : sC0 m W H sl n wb ro we) (h64 : m 6 0 4 = nI p) (hf : ntC m f) (f0 : f.1 = 0) :
    ∃ m', rdE m w 0 = some (m', w) ∧ clF m m' ∧ (¬ faI wb < nI n → ntC m' (4, p)) ∧ (faI wb < nI n → (∃ j, j < 5 * n ∧ baK W H ro j) → ntC m' (5, p)) ∧ (faI wb < nI n → (¬ ∃ j, j < 5 * n ∧ baK W H ro j) → ntC m' f ∧ ShC m' 8 W H sl n (acN W ro (5 * n)) we) := by
  obtain ⟨d1, d2, d3, d4, d5, d6, d7, d8⟩ := hd
  obtain ⟨a0, a1, a2, a3, a4, a5, a6, a7⟩ := hc
  have hb : BW W H := ⟨d1, d2⟩
  unfold rdE
  rw [if_pos (show m 4 0 4 = 0 by rw [hf.2.2.1, f0]; rfl), if_pos (show (0 : Int32) = 0 from rfl)]
  obtain ⟨m1, e1, e2, e3⟩ := c_meas (w := w) hb a0 a1
  rw [e1, Option.bind_some, e3 6 0 4 (by omega), h64]
  unfold F_X5_checkShop
  rw [e3 4 0 9 (by omega), e3 5 8 3 (by omega), a6, a3]
  have hf1 : ntC m1 f := ntC_of hf fun j _ => e3 _ _ _ (by omega)
  -- the cuts, from a note on
  have cuts : ∀ m2 f2, ntC m2 f2 → (∀ c i j, ¬ (c = 4 ∧ i = 0 ∧ (j = 4 ∨ j = 5)) → m2 c i j = m1 c i j) → ∃ m', ((L_X5_checkShop_23 w 1000000 m2 (nI p) 0).bind fun c134 => (F_X6_openSheets c134 w 8).bind fun c135 => some (c135, w)) = some (m', w) ∧ clF m m' ∧ ((∃ j, j < 5 * n ∧ baK W H ro j) → ntC m' (ntF f2 5 p)) ∧ ((¬ ∃ j, j < 5 * n ∧ baK W H ro j) → ntC m' f2 ∧ ShC m' 8 W H sl n (acN W ro (5 * n)) we) := by
    intro m2 f2 g1 g2
    have iv0 : ivK W H p ro f2 m2 (5 * 0) m2 := by
      refine ⟨Or.inr ⟨fun ⟨j, j1, _⟩ => by omega, g1, fun s hs => ?_⟩, fun _ _ _ _ _ => rfl⟩
      rw [g2 _ _ _ (by omega), e3 _ _ _ (by omega), (a7 s hs).1]
      unfold acN
      rw [show min 5 (5 * 0 - 5 * s) = 0 by omega]
      rfl
    obtain ⟨m3, k1, k2, k3⟩ := c_chk (w := w) (n := n) hb (by rw [g2 _ _ _ (by omega), e3 _ _ _ (by omega)]; exact a0) (by rw [g2 _ _ _ (by omega), e3 _ _ _ (by omega)]; exact a1) (by rw [g2 _ _ _ (by omega), e3 _ _ _ (by omega)]; exact a3) d4 d6 (fun k hk => by rw [g2 _ _ _ (by omega), e3 _ _ _ (by omega)]; exact a4 k hk) hp n 1000000 0 m2 (by omega) (by omega) iv0
    have k1' : L_X5_checkShop_23 w 1000000 m2 (nI p) 0 = some m3 := k1
    rw [k1', Option.bind_some]
    have h3 : m3 5 8 3 = nI n := by rw [k3 _ _ _ (by omega) (by omega), g2 _ _ _ (by omega), e3 _ _ _ (by omega)]; exact a3
    obtain ⟨m4, o1, o2, o3⟩ := c_opens (w := w) (W := W) (H := H) (cu := acN W ro (5 * n)) hb h3 d4
    rw [o1, Option.bind_some]
    refine ⟨m4, rfl, fun c i j z1 z2 z3 z4 z5 => ?_, fun q => ?_, fun q => ?_⟩
    · rw [o3 _ _ _ (by omega), k3 _ _ _ (by omega) (by omega), g2 _ _ _ (by omega), e3 _ _ _ (by omega)]
    · rcases k2 with ⟨-, k2⟩ | ⟨k2, -⟩
      · exact ntC_of k2 fun j _ => o3 _ _ _ (by omega)
      · exact absurd q k2
    · rcases k2 with ⟨k2, -⟩ | ⟨-, k2, k4⟩
      · exact absurd k2 q
      · have h5 : ∀ j, m4 5 8 j = m1 5 8 j := fun j => by rw [o3 _ _ _ (by omega), k3 _ _ _ (by omega) (by omega), g2 _ _ _ (by omega)]
        have cw3 : CW m3 8 W H := by
          have h6 : ∀ j, m3 5 8 j = m1 5 8 j := fun j => by rw [k3 _ _ _ (by omega) (by omega), g2 _ _ _ (by omega)]
          unfold CW at e2 ⊢
          simp only [h6]
          exact e2
        refine ⟨ntC_of k2 fun j _ => o3 _ _ _ (by omega), ⟨?_, ?_, ?_, ?_⟩, fun s hs => ⟨?_, ?_, ?_⟩, ?_⟩
        · rw [h5, e3 _ _ _ (by omega)]; exact a0
        · rw [h5, e3 _ _ _ (by omega)]; exact a1
        · rw [h5, e3 _ _ _ (by omega)]; exact a2
        · rw [h5, e3 _ _ _ (by omega)]; exact a3
        · rw [o3 _ _ _ (by omega)]; exact k4 s hs
        · rw [o3 _ _ _ (by omega), k3 _ _ _ (by omega) (by omega), g2 _ _ _ (by omega), e3 _ _ _ (by omega)]; exact a5 s hs
        · by_cases z : s < n
          · exact o2 cw3 k4 (fun s hs => ac_lt hb q hs) s z
          · rw [o3 _ _ _ (by omega), k3 _ _ _ (by omega) (by omega), g2 _ _ _ (by omega), e3 _ _ _ (by omega), (a7 s hs).2]
            have : acN W ro (5 * n) s = 0 := by
              unfold acN
              rw [show min 5 (5 * n - 5 * s) = 0 by omega]
              rfl
            rw [this, op_0 hb]
            rfl
        · rw [h5, h5, h5, h5]; exact e2.2
  by_cases hw : faI wb < nI n
  · rw [if_pos ((far_same d5 d4).mpr hw)]
    obtain ⟨m', x1, x2, x3, x4⟩ := cuts m1 f hf1 fun _ _ _ _ => rfl
    refine ⟨m', x1, x2, fun z => absurd hw z, fun _ q => ?_, fun _ q => x4 q⟩
    have := x3 q
    unfold ntF at this
    rw [if_pos f0] at this
    exact this
  · rw [if_neg (fun z => hw ((far_same d5 d4).mp z))]
    obtain ⟨m2, s1, s2, s3⟩ := c_note (m := m1) (w := w) (c := 4) (p := p) hf1 (by omega) hp
    have s1' : F_X5_note m1 w 4 (nI p) = some m2 := s1
    rw [s1', Option.bind_some]
    have e4 : ntF f 4 p = (4, p) := if_pos f0
    rw [e4] at s2
    obtain ⟨m', x1, x2, x3, x4⟩ := cuts m2 (4, p) s2 s3
    refine ⟨m', x1, x2, fun _ => ?_, fun z => absurd z hw, fun z => absurd z hw⟩
    by_cases q : ∃ j, j < 5 * n ∧ baK W H ro j
    · exact x3 q
    · exact (x4 q).1
/-- the model, at the end of a shop's text -/
theorem m_far {m : MI} {w : WS} {W H sl n wb : Nat} {ro we : Nat → Nat} (hd : dO0 W H sl n wb ro we) (hc : sM0 m W H sl n wb ro we) : ∀ g F k, k + g = 5 * n → g < F → ((∃ j, k ≤ j ∧ j < 5 * n ∧ baK W H ro j) ∧ L_X11_cutsTooFar_2 m w F (nI k) = some 1) ∨ ((¬ ∃ j, k ≤ j ∧ j < 5 * n ∧ baK W H ro j) ∧ L_X11_cutsTooFar_2 m w F (nI k) = some 0) := by
  obtain ⟨d1, d2, d3, d4, d5, d6, d7, d8⟩ := hd
  obtain ⟨a0, a1, a2, a3, a4, a5, a6⟩ := hc
  have e5 : (5 : Int32) * m 59 0 3 = nI (5 * n) := by rw [a3, show (5 : Int32) = nI 5 from rfl, nmul]
  intro g
  induction g with
  | zero =>
    intro F k hk hF
    obtain ⟨F, rfl⟩ : ∃ G, F = G + 1 := ⟨F - 1, by omega⟩
    refine Or.inr ⟨fun ⟨j, j1, j2, _⟩ => by omega, ?_⟩
    rw [L_X11_cutsTooFar_2, e5, if_pos (by rw [nle (by omega) (by omega)]; omega)]
  | succ g ih =>
    intro F k hk hF
    obtain ⟨F, rfl⟩ : ∃ G, F = G + 1 := ⟨F - 1, by omega⟩
    have hro := d6 k (by omega)
    rw [L_X11_cutsTooFar_2, e5, if_neg (by rw [nle (by omega) (by omega)]; omega), show (4 : Int32) + nI k = nI (4 + k) from nadd 4 k, ck_in (by omega) (by omega), ncl (by omega), a4 k (by omega), a1, a0, show irem (nI k) 5 = nI (k % 5) from nrem (a := k) (d := 5) (by omega) (by omega) (by omega), n31 (by omega), nshr (by omega) (by omega), show nI k + 1 = nI (k + 1) from nadd k 1]
    have hsr : ro k >>> W ≤ ro k := Nat.shiftRight_le _ _
    have next : ¬ baK W H ro k → ((∃ j, k ≤ j ∧ j < 5 * n ∧ baK W H ro j) ∧ L_X11_cutsTooFar_2 m w F (nI (k + 1)) = some 1) ∨ ((¬ ∃ j, k ≤ j ∧ j < 5 * n ∧ baK W H ro j) ∧ L_X11_cutsTooFar_2 m w F (nI (k + 1)) = some 0) := by
      intro hb
      rcases ih F (k + 1) (by omega) (by omega) with ⟨⟨j, j1, j2, j3⟩, h⟩ | ⟨h1, h⟩
      · exact Or.inl ⟨⟨j, by omega, j2, j3⟩, h⟩
      · refine Or.inr ⟨fun ⟨j, j1, j2, j3⟩ => ?_, h⟩
        by_cases e : j = k
        · exact hb (e ▸ j3)
        · exact h1 ⟨j, by omega, j2, j3⟩
    by_cases z0 : ro k = 0
    · rw [if_pos (show nI (ro k) = 0 by rw [z0]; rfl)]
      exact next fun z => z.1 z0
    · rw [if_neg (show ¬ nI (ro k) = 0 from nne0 (by omega) z0)]
      by_cases z1 : H ≤ k % 5
      · rw [if_pos (show nI H ≤ nI (k % 5) by rw [nle (by omega) (by omega)]; exact z1)]
        exact Or.inl ⟨⟨k, Nat.le_refl k, by omega, z0, Or.inl z1⟩, rfl⟩
      · rw [if_neg (show ¬ nI H ≤ nI (k % 5) by rw [nle (by omega) (by omega)]; exact z1)]
        by_cases z2 : ro k >>> W = 0
        · rw [if_pos (show nI (ro k >>> W) = 0 by rw [z2]; rfl)]
          exact next fun z => z.2.elim (fun y => z1 y) (fun y => y z2)
        · rw [if_neg (show ¬ nI (ro k >>> W) = 0 from nne0 (by omega) z2)]
          exact Or.inl ⟨⟨k, Nat.le_refl k, by omega, z0, Or.inr z2⟩, rfl⟩
theorem m_shopEnd {m : MI} {w : WS} {W H sl n wb p : Nat} {ro we : Nat → Nat} {f : Nat × Nat} (hp : p < 1000) (hd : dO0 W H sl n wb ro we) (hc : sM0 m W H sl n wb ro we) (h12 : m 10 0 12 = nI p) (hf : ntM m f) (f0 : f.1 = 0) :
    ∃ m', rdN 0 (1, m, w) = rdZ m' 1 w ∧ (∀ c i j, ¬ (c = 10 ∧ i = 0 ∧ (j = 17 ∨ j = 18)) → m' c i j = m c i j) ∧ (¬ faI wb < nI n → ntM m' (4, p)) ∧ (faI wb < nI n → (∃ j, j < 5 * n ∧ baK W H ro j) → ntM m' (5, p)) ∧ (faI wb < nI n → (¬ ∃ j, j < 5 * n ∧ baK W H ro j) → ntM m' f) := by
  have hcc := hc
  obtain ⟨a0, a1, a2, a3, a4, a5, a6⟩ := hcc
  have ad : ∀ c, adF f c p = (c, p) := fun c => if_pos f0
  unfold rdN
  dsimp only
  rw [if_neg (show ¬ (1 : Int32) = 0 by decide), if_pos (show (0 : Int32) = 0 from rfl), if_pos (show m 10 0 17 = 0 by rw [hf.2.2.1, f0]; rfl)]
  by_cases hw : faI wb < nI n
  · rw [if_pos (show m 10 0 21 < m 59 0 3 by rw [a6, a3]; exact hw), h12]
    unfold F_X11_cutsTooFar
    rcases m_far (w := w) hd hc (5 * n) 1000000 0 (by omega) (by have := hd.2.2.2.1; omega) with ⟨⟨j, j1, j2, j3⟩, h⟩ | ⟨h1, h⟩
    · have h' : L_X11_cutsTooFar_2 m w 1000000 0 = some 1 := h
      rw [h', Option.bind_some, if_neg (show ¬ (1 : Int32) = 0 by decide)]
      obtain ⟨m', s1, s2, s3⟩ := m_adds (w := w) (c := 5) (p := p) hf (by omega) hp
      have s1' : F_X11_addsFault m w 5 (nI p) = some m' := s1
      rw [s1', Option.bind_some]
      rw [ad] at s2
      exact ⟨m', rfl, s3, fun z => absurd hw z, fun _ _ => s2, fun _ z => absurd ⟨j, j2, j3⟩ z⟩
    · have h' : L_X11_cutsTooFar_2 m w 1000000 0 = some 0 := h
      rw [h', Option.bind_some, if_pos (show (0 : Int32) = 0 from rfl)]
      exact ⟨m, rfl, fun _ _ _ _ => rfl, fun z => absurd hw z, fun _ ⟨j, j2, j3⟩ => absurd ⟨j, Nat.zero_le j, j2, j3⟩ h1, fun _ _ => hf⟩
  · rw [if_neg (show ¬ m 10 0 21 < m 59 0 3 by rw [a6, a3]; exact hw), h12]
    obtain ⟨m', s1, s2, s3⟩ := m_adds (w := w) (c := 4) (p := p) hf (by omega) hp
    have s1' : F_X11_addsFault m w 4 (nI p) = some m' := s1
    rw [s1', Option.bind_some]
    rw [ad] at s2
    exact ⟨m', rfl, s3, fun _ => s2, fun z => absurd z hw, fun z => absurd z hw⟩
