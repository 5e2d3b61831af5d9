/-! TEXT: a list in the model, with its clearing; no room -/
theorem tokM_of {m m' : MI} {wd : Int64} {b : Nat → Nat} {len pos : Nat} (h : tokM m wd b len pos) (e : ∀ j, (j = 10 ∨ j = 12 ∨ j = 13 ∨ j = 14) → m' 10 0 j = m 10 0 j) : tokM m' wd b len pos := ⟨by rw [e _ (by omega)]; exact h.1, by rw [e _ (by omega)]; exact h.2.1, by rw [e _ (by omega)]; exact h.2.2.1, fun q => by rw [e _ (by omega)]; exact h.2.2.2.1 q, h.2.2.2.2⟩
theorem m_clrL {base hi : Nat} {kp : Bool} {w : WS} (hb : base < 100) : ∀ g n k m, k ≤ 5 → 5 ≤ k + g → g < n → (kp = true → ∀ j, j < k → m 59 0 (base + j) = nI 0) → ∃ m', L_X11_list_3 n m w (nI base) (nI hi) (if kp = true then 1 else 0) (nI k) = L_X11_list_32 1000000 m' w (nI base) (nI hi) (if kp = true then 1 else 0) (nI 0) ∧ (kp = true → ∀ j, j < 5 → m' 59 0 (base + j) = nI 0) ∧ ∀ c i j, ¬ (c = 59 ∧ i = 0 ∧ base ≤ j ∧ j < base + 5 ∧ kp = true) → m' c i j = m c i j := by
  intro g
  induction g with
  | zero =>
    intro n k m h1 h2 h3 h4
    obtain ⟨n, rfl⟩ : ∃ G, n = G + 1 := ⟨n - 1, by omega⟩
    rw [L_X11_list_3, if_pos (show (5 : Int32) ≤ nI k by rw [show (5 : Int32) = nI 5 from rfl, nle (by omega) (by omega)]; omega)]
    exact ⟨m, rfl, fun q j hj => h4 q j (by omega), fun _ _ _ _ => rfl⟩
  | succ g ih =>
    intro n k m h1 h2 h3 h4
    obtain ⟨n, rfl⟩ : ∃ G, n = G + 1 := ⟨n - 1, by omega⟩
    rw [L_X11_list_3]
    by_cases e : 5 ≤ k
    · rw [if_pos (show (5 : Int32) ≤ nI k by rw [show (5 : Int32) = nI 5 from rfl, nle (by omega) (by omega)]; omega)]
      exact ⟨m, rfl, fun q j hj => h4 q j (by omega), fun _ _ _ _ => rfl⟩
    · rw [if_neg (show ¬ (5 : Int32) ≤ nI k by rw [show (5 : Int32) = nI 5 from rfl, nle (by omega) (by omega)]; omega)]
      cases kp with
      | false =>
        rw [if_pos (show (if false = true then (1 : Int32) else 0) = 0 by decide)]
        exact ⟨m, rfl, fun q => absurd q (by decide), fun _ _ _ _ => rfl⟩
      | true =>
        rw [if_neg (show ¬ (if true = true then (1 : Int32) else 0) = 0 by decide), nadd, ck_in (by omega) (by omega), ncl (by omega)]
        simp only [lt_e]
        rw [show nI k + 1 = nI (k + 1) from nadd k 1]
        have hh : true = true → ∀ j, j < k + 1 → u3 m 59 0 (base + k) 0 59 0 (base + j) = nI 0 := by
          intro q j hj
          by_cases ej : j = k
          · rw [ej, u3_s]; rfl
          · rw [u3_n (by omega)]; exact h4 q j (by omega)
        obtain ⟨m', q1, q2, q3⟩ := ih n (k + 1) (u3 m 59 0 (base + k) 0) (by omega) (by omega) (by omega) hh
        refine ⟨m', q1, fun _ => q2 rfl, fun c i j z => ?_⟩
        rw [q3 _ _ _ (fun y => z ⟨y.1, y.2.1, y.2.2.1, y.2.2.2.1, trivial⟩), u3_n (by have := z; simp only [and_true] at this; omega)]
theorem lnK_of {b : Nat → Nat} {len pos i K : Nat} (hp : pos ≤ len) (h600 : len ≤ 600) (hpos : 1 ≤ pos) (hl : liB i = true) (h1 : ∀ j, j < K → tkK b len (poN b len pos j) = 1) (h2 : tkK b len (poN b len pos K) ≠ 1) : lnK b len pos i K := by
  have e : buN i = 600 := by unfold buN; rw [if_pos hl]
  have := po_adv (b := b) hp K h1
  have := (po_le (b := b) hp K).2
  exact ⟨by omega, h1, fun _ => h2⟩
theorem lnK_one {b : Nat → Nat} {len pos i K L : Nat} (h1 : lnK b len pos i K) (h2 : lnK b len pos i L) : K = L := by
  obtain ⟨a1, a2, a3⟩ := h1
  obtain ⟨c1, c2, c3⟩ := h2
  refine Classical.byContradiction fun q => ?_
  by_cases z : K < L
  · exact a3 (by omega) (c2 K z)
  · exact c3 (by omega) (a2 L (by omega))
theorem m_list {b : Nat → Nat} {len pos i base hi : Nat} {f : Nat × Nat} {kp : Bool} {m : MI} {w : WS} (hp : pos ≤ len) (hpos : 1 ≤ pos) (hb : base < 100) (hl : liB i = true) (hlo : loT (coT i 0) = 0) (hhi : hiT (coT i 0) = hi) (hh : hi < 100) (ht : tapM m b len) (htk : tokM m w.2.2.2 b len pos) (hf : ntM m f) (hfp : f.1 ≠ 0 → f.2 < tkP b len pos) :
    ∃ K m' wd, lnK b len pos i K ∧ F_X11_list m w (nI base) (nI hi) (if kp = true then 1 else 0) = some (m', (w.1, w.2.1, w.2.2.1, wd)) ∧ tapM m' b len ∧ tokM m' wd b len (poN b len pos K) ∧ ntM m' (faF b len pos i f K) ∧ ((faF b len pos i f K).1 ≠ 0 → (faF b len pos i f K).2 < tkP b len (poN b len pos K)) ∧ (kp = true → ∀ j, j < 5 → m' 59 0 (base + j) = nI (if j < K then tkV b len (poN b len pos j) else 0)) ∧
      ∀ c i j, ¬ (c = 10 ∧ i = 0 ∧ (j = 10 ∨ j = 12 ∨ j = 13 ∨ j = 14 ∨ j = 17 ∨ j = 18)) → ¬ (c = 59 ∧ i = 0 ∧ base ≤ j ∧ j < base + 5 ∧ kp = true) → m' c i j = m c i j := by
  obtain ⟨m1, a1, a2, a3⟩ := m_clrL (hi := hi) (kp := kp) (w := w) hb 5 1000000 0 m (by omega) (by omega) (by omega) (fun _ j hj => by omega)
  have h600 := ht.1
  obtain ⟨K, m', wd, q1, q2, q3, q4, q5, q6, q7, q8, q9, q10⟩ := m_nums (f := f) (kp := kp) hp hb hl hlo hhi hh 601 1000000 0 m1 w (tapM_of ht fun c i j q => a3 _ _ _ (by omega)) (tokM_of htk fun j _ => a3 _ _ _ (by omega)) (ntM_of hf fun j _ => a3 _ _ _ (by omega)) hfp (fun q j hj => by rw [a2 q j hj, if_neg (by omega)]) (fun j hj => by omega) (show len < pos + 601 by omega) (by omega)
  refine ⟨K, m', wd, lnK_of hp h600 hpos hl q2 q3, a1.trans q4, q5, q6, q7, q8, q9, fun c i j z1 z2 => ?_⟩
  rw [q10 _ _ _ z1 z2, a3 _ _ _ z2]
theorem m_full {m : MI} {w : WS} {f : Nat × Nat} {x n p lim : Nat} (hf : ntM m f) (hfp : f.1 ≠ 0 → f.2 < p) (hx : x < 161) (hn : m 59 0 x = nI n) (hl : lim < 100) (hnl : n < 1000) (hp : p < 1000) : ∃ m', F_X11_full m w (nI x) (nI lim) (nI p) = some m' ∧ ((¬ n = lim ∧ ntM m' f) ∨ (n = lim ∧ ntM m' (ntF f 3 p))) ∧ ∀ c i j, ¬ (c = 10 ∧ i = 0 ∧ (j = 17 ∨ j = 18)) → m' c i j = m c i j := by
  unfold F_X11_full
  rw [ck_in hx (by omega), ncl (by omega), hn]
  by_cases e : n = lim
  · rw [if_pos (by rw [e])]
    obtain ⟨m', s1, s2, s3⟩ := m_adds (w := w) (c := 3) (p := p) hf (by omega) hp
    rw [show (3 : Int32) = nI 3 from rfl, s1]
    exact ⟨m', rfl, Or.inr ⟨e, adF_nt hfp ▸ s2⟩, s3⟩
  · rw [if_neg (by rw [neq (by omega) (by omega)]; exact e)]
    exact ⟨m, rfl, Or.inl ⟨e, hf⟩, fun _ _ _ _ => rfl⟩
