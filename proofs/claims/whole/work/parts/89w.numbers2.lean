/-! TEXT: the numbers of a line, as the class takes them -/
theorem tapC_by {m m' : MI} {b : Nat → Nat} {len : Nat} (h : tapC m b len) (e1 : m' 6 0 1 = m 6 0 1) (e2 : ∀ k, m' 20 0 k = m 20 0 k) : tapC m' b len := ⟨h.1, by rw [e1]; exact h.2.1, fun k hk => by rw [e2]; exact h.2.2 k hk⟩
def poN (b : Nat → Nat) (len pos : Nat) : Nat → Nat
  | 0 => pos
  | j + 1 => tkE b len (poN b len pos j)
theorem po_le {b : Nat → Nat} {len pos : Nat} (h : pos ≤ len) : ∀ j, pos ≤ poN b len pos j ∧ poN b len pos j ≤ len := by
  intro j
  induction j with
  | zero => exact ⟨Nat.le_refl _, h⟩
  | succ j ih =>
    obtain ⟨p1, p2, p3⟩ := tk_le (b := b) ih.2
    show pos ≤ tkE b len (poN b len pos j) ∧ tkE b len (poN b len pos j) ≤ len
    omega
theorem po_adv {b : Nat → Nat} {len pos : Nat} (h : pos ≤ len) : ∀ K, (∀ j, j < K → tkK b len (poN b len pos j) = 1) → pos + K ≤ poN b len pos K := by
  intro K
  induction K with
  | zero => intro _; exact Nat.le_refl _
  | succ K ih =>
    intro q
    have h1 := ih fun j hj => q j (by omega)
    have h2 := tk_adv (b := b) (len := len) (pos := poN b len pos K) (by rw [q K (by omega)]; omega)
    obtain ⟨p1, p2, p3⟩ := tk_le (b := b) (po_le (b := b) h K).2
    show pos + (K + 1) ≤ tkE b len (poN b len pos K)
    omega
def faF (b : Nat → Nat) (len pos i : Nat) (f : Nat × Nat) : Nat → Nat × Nat
  | 0 => f
  | k + 1 => ctF (faF b len pos i f k) i k (tkV b len (poN b len pos k)) (tkP b len (poN b len pos k))
def buN (i : Nat) : Nat := if liB i = true then 600 else nuN i
/-- how a line ends in the class -/
def tailC (w : WS) (m : MI) (i x3 x5 : Int32) : Option (Int32 × MI) := if (m 6 0 3) = 2 then if x3 = (-1) then if (m 4 0 4) = 0 then (F_X5_store m w i x5).bind fun c127 => (F_X7_next c127 w ).bind fun c128 => some ((1 : Int32), c128) else (F_X7_next m w ).bind fun c128 => some ((1 : Int32), c128) else if x3 ≤ x5 then if (m 4 0 4) = 0 then (F_X5_store m w i x5).bind fun c127 => (F_X7_next c127 w ).bind fun c128 => some ((1 : Int32), c128) else (F_X7_next m w ).bind fun c128 => some ((1 : Int32), c128) else some ((0 : Int32), m) else some ((0 : Int32), m)
theorem r87 {w : WS} {n : Nat} {m : MI} {x1 x2 x3 x4 x5 : Int32} : L_X5_readLine_87 w (n + 1) m x1 x2 x3 x4 x5 = if x4 ≤ x5 then tailC w m x2 x3 x5 else if m 6 0 3 = 1 then (F_X5_takeNumber m w x2 x5).bind fun c125 => (F_X7_next c125 w ).bind fun c126 => L_X5_readLine_87 w n c126 x1 x2 x3 x4 (x5 + 1) else tailC w m x2 x3 x5 := by
  rw [L_X5_readLine_87]; rfl
theorem kd_1 {k : Nat} (h : k ≤ 4) : (nI k = 1) = (k = 1) := by rw [show (1 : Int32) = nI 1 from rfl, neq (by omega) (by omega)]
theorem tkK_le {b : Nat → Nat} {len pos : Nat} : tkK b len pos ≤ 4 := by
  unfold tkK
  by_cases c1 : len ≤ tkP b len pos
  · rw [if_pos c1]; omega
  · rw [if_neg c1]
    by_cases c2 : isL (b (tkP b len pos)) = true
    · rw [if_pos c2]; omega
    · rw [if_neg c2]
      by_cases c3 : isD (b (tkP b len pos)) = true
      · rw [if_pos c3]; split <;> omega
      · rw [if_neg c3]; split <;> omega
def nmC (b : Nat → Nat) (len pos : Nat) (m : MI) (k : Nat) : Prop := (∀ j, j < k → j < 5 → m 35 0 j = nI (tkV b len (poN b len pos j))) ∧ ∀ j, k ≤ j → j < 5 → m 35 0 j = -1
def lnK (b : Nat → Nat) (len pos i K : Nat) : Prop := K ≤ buN i ∧ (∀ j, j < K → tkK b len (poN b len pos j) = 1) ∧ (K < buN i → tkK b len (poN b len pos K) ≠ 1)
theorem c_nums {w : WS} {b : Nat → Nat} {len pos s i : Nat} {f : Nat × Nat} (hw : w.2.1 = true) (hp : pos ≤ len) (hi : i < 13) : ∀ g F k m, tapC m b len → tokC m b len (poN b len pos k) → ntC m (faF b len pos i f k) → nmC b len pos m k → k ≤ buN i → (∀ j, j < k → tkK b len (poN b len pos j) = 1) → buN i < k + g → g < F →
    ∃ K m', lnK b len pos i K ∧ k ≤ K ∧ L_X5_readLine_87 w F m (nI s) (nI i) (STA13.getD i 0) (nI (buN i)) (nI k) = tailC w m' (nI i) (STA13.getD i 0) (nI K) ∧ tapC m' b len ∧ tokC m' b len (poN b len pos K) ∧ ntC m' (faF b len pos i f K) ∧ nmC b len pos m' K ∧ ∀ c i j, ¬ (c = 6 ∧ i = 0 ∧ 2 ≤ j ∧ j ≤ 5) → ¬ (c = 4 ∧ i = 0 ∧ (j = 4 ∨ j = 5)) → ¬ (c = 35 ∧ i = 0) → m' c i j = m c i j := by
  have hb : buN i ≤ 600 := by
    unfold buN
    by_cases q : liB i = true
    · rw [if_pos q]; omega
    · rw [if_neg q]; have := ((nu_of hi).2 q).2; omega
  intro g
  induction g with
  | zero => intro F k m _ _ _ _ h1 _ h2; omega
  | succ g ih =>
    intro F k m ht htk hf hn hk hall hg hF
    obtain ⟨F, rfl⟩ : ∃ G, F = G + 1 := ⟨F - 1, by omega⟩
    rw [r87]
    obtain ⟨t1, t2, t3, t4⟩ := id htk
    by_cases ek : buN i ≤ k
    · rw [if_pos (show nI (buN i) ≤ nI k by rw [nle (by omega) (by omega)]; exact ek)]
      exact ⟨k, m, ⟨hk, hall, fun q => by omega⟩, Nat.le_refl k, rfl, ht, htk, hf, hn, fun _ _ _ _ _ _ => rfl⟩
    · rw [if_neg (show ¬ nI (buN i) ≤ nI k by rw [nle (by omega) (by omega)]; exact ek)]
      by_cases kd : tkK b len (poN b len pos k) = 1
      · rw [if_pos (show m 6 0 3 = 1 by rw [t2, kd]; rfl)]
        have hpk := po_le (b := b) hp k
        have h600 := ht.1
        have hv := tk_num kd
        obtain ⟨p1, p2, p3⟩ := tk_le (b := b) hpk.2
        have hk3 : liB i ≠ true → k < 3 := fun q => by
          have := ((nu_of hi).2 q).2
          unfold buN at ek
          rw [if_neg q] at ek
          omega
        obtain ⟨m1, s1, s2, s3, s4⟩ := c_take (w := w) (k := k) hi (by omega) hk3 (v := tkV b len (poN b len pos k)) (by omega) (p := tkP b len (poN b len pos k)) (by omega) (t4 kd) t3 hf
        rw [s1, Option.bind_some]
        have ht1 : tapC m1 b len := tapC_by ht (s4 _ _ _ (by omega) (by omega)) fun j => s4 _ _ _ (by omega) (by omega)
        obtain ⟨m2, r1, r2, r3⟩ := c_next (w := w) hw ht1 p3 (by rw [s4 _ _ _ (by omega) (by omega)]; exact t1)
        rw [r1, Option.bind_some, show nI k + 1 = nI (k + 1) from nadd k 1]
        have ht2 : tapC m2 b len := tapC_of ht1 r3
        have hf2 : ntC m2 (faF b len pos i f (k + 1)) := ⟨s2.1, s2.2.1, by rw [r3 _ _ _ (by omega)]; exact s2.2.2.1, fun q => by rw [r3 _ _ _ (by omega)]; exact s2.2.2.2 q⟩
        have hn2 : nmC b len pos m2 (k + 1) := by
          refine ⟨fun j hj h5 => ?_, fun j hj h5 => ?_⟩
          · rw [r3 _ _ _ (by omega)]
            by_cases e : j = k
            · rw [e]; exact s3 (by omega)
            · rw [s4 _ _ _ (by omega) (by omega)]; exact hn.1 j (by omega) h5
          · rw [r3 _ _ _ (by omega), s4 _ _ _ (by omega) (by omega)]; exact hn.2 j (by omega) h5
        have hall2 : ∀ j, j < k + 1 → tkK b len (poN b len pos j) = 1 := by
          intro j hj
          by_cases e : j = k
          · rw [e]; exact kd
          · exact hall j (by omega)
        obtain ⟨K, m', q1, q2, q3, q4, q5, q6, q7, q8⟩ := ih F (k + 1) m2 ht2 r2 hf2 hn2 (by omega) hall2 (by omega) (by omega)
        refine ⟨K, m', q1, by omega, q3, q4, q5, q6, q7, fun c i j z1 z2 z3 => ?_⟩
        rw [q8 _ _ _ z1 z2 z3, r3 _ _ _ z1, s4 _ _ _ z2 (by omega)]
      · rw [if_neg (show ¬ m 6 0 3 = 1 by rw [t2, kd_1 tkK_le]; exact kd)]
        exact ⟨k, m, ⟨hk, hall, fun _ => kd⟩, Nat.le_refl k, rfl, ht, htk, hf, hn, fun _ _ _ _ _ _ => rfl⟩
