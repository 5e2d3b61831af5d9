/-! TEXT: a list in the model, whole -/
theorem m_nums {b : Nat → Nat} {len pos i base hi : Nat} {f : Nat × Nat} {kp : Bool} (hp : pos ≤ len) (hb : base < 100) (hl : liB i = true) (hlo : loT (coT i 0) = 0) (hhi : hiT (coT i 0) = hi) (hh : hi < 100) : ∀ g n k m (w : WS), tapM m b len → tokM m w.2.2.2 b len (poN b len pos k) → ntM m (faF b len pos i f k) → ((faF b len pos i f k).1 ≠ 0 → (faF b len pos i f k).2 < tkP b len (poN b len pos k)) → (kp = true → ∀ j, j < 5 → m 59 0 (base + j) = nI (if j < k then tkV b len (poN b len pos j) else 0)) → (∀ j, j < k → tkK b len (poN b len pos j) = 1) → len < poN b len pos k + g → g < n →
    ∃ K m' wd, k ≤ K ∧ (∀ j, j < K → tkK b len (poN b len pos j) = 1) ∧ tkK b len (poN b len pos K) ≠ 1 ∧ L_X11_list_32 n m w (nI base) (nI hi) (if kp = true then 1 else 0) (nI (min k 5)) = some (m', (w.1, w.2.1, w.2.2.1, wd)) ∧ tapM m' b len ∧ tokM m' wd b len (poN b len pos K) ∧ ntM m' (faF b len pos i f K) ∧ ((faF b len pos i f K).1 ≠ 0 → (faF b len pos i f K).2 < tkP b len (poN b len pos K)) ∧ (kp = true → ∀ j, j < 5 → m' 59 0 (base + j) = nI (if j < K then tkV b len (poN b len pos j) else 0)) ∧
      ∀ c i j, ¬ (c = 10 ∧ i = 0 ∧ (j = 10 ∨ j = 12 ∨ j = 13 ∨ j = 14 ∨ j = 17 ∨ j = 18)) → ¬ (c = 59 ∧ i = 0 ∧ base ≤ j ∧ j < base + 5 ∧ kp = true) → m' c i j = m c i j := by
  intro g
  induction g with
  | zero =>
    intro n k m w _ _ _ _ _ _ h
    have := (po_le (b := b) hp k).2
    omega
  | succ g ih =>
    intro n k m w ht htk hf hfp hn hall hg hF
    obtain ⟨n, rfl⟩ : ∃ G, n = G + 1 := ⟨n - 1, by omega⟩
    obtain ⟨t1, t2, t3, t4, t5⟩ := id htk
    have hpk := po_le (b := b) hp k
    obtain ⟨p1, p2, p3⟩ := tk_le (b := b) hpk.2
    have h600 := ht.1
    rw [l32_eq]
    by_cases kd : tkK b len (poN b len pos k) = 1
    · rw [if_pos (show m 10 0 13 = 3 by rw [t3]; exact srt_num.mpr kd)]
      have hv := tk_num kd
      have adv := tk_adv (b := b) (len := len) (pos := poN b len pos k) (by rw [kd]; omega)
      have hco : coT i k = coT i 0 := by unfold coT; rw [if_pos hl, if_pos hl]
      have hq14 := t4 kd
      -- the notes
      have notes : ∃ m1, (if nI (min k 5) = 5 then (F_X11_addsFault m w 3 (m 10 0 12)).bind fun c43 => l32r w n c43 (nI base) (nI hi) (if kp = true then 1 else 0) (nI (min k 5)) else l32r w n m (nI base) (nI hi) (if kp = true then 1 else 0) (nI (min k 5))) = l32 w n m1 (nI base) (nI hi) (if kp = true then 1 else 0) (nI (min k 5)) ∧ ntM m1 (faF b len pos i f (k + 1)) ∧ ∀ c i j, ¬ (c = 10 ∧ i = 0 ∧ (j = 17 ∨ j = 18)) → m1 c i j = m c i j := by
        have fin : ∀ m0 f0, ntM m0 f0 → (∀ c i j, ¬ (c = 10 ∧ i = 0 ∧ (j = 17 ∨ j = 18)) → m0 c i j = m c i j) → ((tkV b len (poN b len pos k) ≤ hi → f0 = faF b len pos i f (k + 1)) ∧ (¬ tkV b len (poN b len pos k) ≤ hi → adF f0 2 (tkP b len (poN b len pos k)) = faF b len pos i f (k + 1))) → ∃ m1, l32r w n m0 (nI base) (nI hi) (if kp = true then 1 else 0) (nI (min k 5)) = l32 w n m1 (nI base) (nI hi) (if kp = true then 1 else 0) (nI (min k 5)) ∧ ntM m1 (faF b len pos i f (k + 1)) ∧ ∀ c i j, ¬ (c = 10 ∧ i = 0 ∧ (j = 17 ∨ j = 18)) → m1 c i j = m c i j := by
          intro m0 f0 a1 a2 a3
          have q14 : m0 10 0 14 = nI (tkV b len (poN b len pos k)) := by rw [a2 _ _ _ (by omega)]; exact hq14
          have q12 : m0 10 0 12 = nI (tkP b len (poN b len pos k)) := by rw [a2 _ _ _ (by omega)]; exact t2
          unfold l32r
          by_cases ok : tkV b len (poN b len pos k) ≤ hi
          · rw [if_pos (show ¬ (m0 10 0 14 < 0) ∧ ¬ (nI hi < m0 10 0 14) by rw [q14, show (0 : Int32) = nI 0 from rfl, nlt (by omega) (by omega), nlt (by omega) (by omega)]; omega)]
            exact ⟨m0, rfl, a3.1 ok ▸ a1, a2⟩
          · rw [if_neg (show ¬ (¬ (m0 10 0 14 < 0) ∧ ¬ (nI hi < m0 10 0 14)) by rw [q14, show (0 : Int32) = nI 0 from rfl, nlt (by omega) (by omega), nlt (by omega) (by omega)]; omega), q12]
            obtain ⟨m1, s1, s2, s3⟩ := m_adds (w := w) (c := 2) (p := tkP b len (poN b len pos k)) a1 (by omega) (by omega)
            rw [show (2 : Int32) = nI 2 from rfl, s1, Option.bind_some]
            exact ⟨m1, rfl, a3.2 ok ▸ s2, fun c i j z => by rw [s3 _ _ _ z]; exact a2 c i j z⟩
        have eF : faF b len pos i f (k + 1) = ctF (faF b len pos i f k) i k (tkV b len (poN b len pos k)) (tkP b len (poN b len pos k)) := rfl
        by_cases c5 : 5 ≤ k
        · rw [if_pos (show nI (min k 5) = 5 by rw [show min k 5 = 5 by omega]; rfl), t2]
          obtain ⟨m0, s1, s2, s3⟩ := m_adds (m := m) (w := w) (c := 3) (p := tkP b len (poN b len pos k)) hf (by omega) (by omega)
          rw [show (3 : Int32) = nI 3 from rfl, s1, Option.bind_some]
          refine fin m0 _ s2 s3 ⟨fun ok => ?_, fun ok => ?_⟩
          · rw [eF, adF_nt hfp]; unfold ctF; rw [hco, hlo, hhi, if_pos ⟨Nat.zero_le _, ok⟩, if_neg (by omega)]
          · rw [eF, adF_two hfp]; unfold ctF; rw [hco, hlo, hhi, if_neg (by omega)]
        · rw [if_neg (show ¬ nI (min k 5) = 5 by rw [show (5 : Int32) = nI 5 from rfl, neq (by omega) (by omega)]; omega)]
          refine fin m _ hf (fun _ _ _ _ => rfl) ⟨fun ok => ?_, fun ok => ?_⟩
          · rw [eF]; unfold ctF; rw [hco, hlo, hhi, if_pos ⟨Nat.zero_le _, ok⟩, if_pos (by omega)]
          · rw [eF, adF_nt hfp]; unfold ctF; rw [hco, hlo, hhi, if_neg (by omega)]
      obtain ⟨m1, e1, e2, e3⟩ := notes
      obtain ⟨m2, wd, r1, r2, r3, r4, r5⟩ := m_l32 (w := w) (k := k) (base := base) (x2 := nI hi) (kp := kp) (n := n) (m := m1) hpk.2 (tapM_of ht fun c i j q => e3 _ _ _ (by omega)) (by rw [e3 _ _ _ (by omega)]; exact t1) (by rw [e3 _ _ _ (by omega)]; exact hq14) hb
      have hf2 : ntM m2 (faF b len pos i f (k + 1)) := ntM_of e2 fun j hj => r5 _ _ _ (by omega) (by omega)
      have hfp2 : (faF b len pos i f (k + 1)).1 ≠ 0 → (faF b len pos i f (k + 1)).2 < tkP b len (poN b len pos (k + 1)) := by
        have := tk_le (b := b) (po_le (b := b) hp (k + 1)).2
        refine ctF_lt hfp ?_
        have e : poN b len pos (k + 1) = tkE b len (poN b len pos k) := rfl
        rw [e] at this ⊢
        omega
      have hn2 : kp = true → ∀ j, j < 5 → m2 59 0 (base + j) = nI (if j < k + 1 then tkV b len (poN b len pos j) else 0) := by
        intro hkp j hj
        by_cases e : j = k
        · rw [if_pos (by omega), e]; exact r4 hkp (by omega)
        · rw [r5 _ _ _ (by omega) (by omega), e3 _ _ _ (by omega), hn hkp j hj]
          by_cases q : j < k
          · rw [if_pos q, if_pos (by omega)]
          · rw [if_neg q, if_neg (by omega)]
      have hall2 : ∀ j, j < k + 1 → tkK b len (poN b len pos j) = 1 := by
        intro j hj
        by_cases e : j = k
        · rw [e]; exact kd
        · exact hall j (by omega)
      have hg2 : len < poN b len pos (k + 1) + g := by
        have e : poN b len pos (k + 1) = tkE b len (poN b len pos k) := rfl
        rw [e]; omega
      obtain ⟨K, m', wd', q1, q2, q3, q4, q5, q6, q7, q8, q9, q10⟩ := ih n (k + 1) m2 (w.1, w.2.1, w.2.2.1, wd) r2 r3 hf2 hfp2 hn2 hall2 hg2 (by omega)
      refine ⟨K, m', wd', by omega, q2, q3, e1.trans (r1.trans q4), q5, q6, q7, q8, q9, fun c i j z1 z2 => ?_⟩
      rw [q10 _ _ _ z1 z2, r5 _ _ _ (by omega) (fun z => z2 ⟨z.1, z.2.1, by omega, by omega, z.2.2.2.1⟩), e3 _ _ _ (by omega)]
    · rw [if_neg (show ¬ m 10 0 13 = 3 by rw [t3, srt_num]; exact kd)]
      exact ⟨k, m, w.2.2.2, Nat.le_refl k, hall, kd, rfl, ht, htk, hf, hfp, hn, fun _ _ _ _ _ => rfl⟩
