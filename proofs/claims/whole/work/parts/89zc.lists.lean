/-! TEXT: the model's lines that are lists: a sheet, a row of a picture -/
def lisL (m : MI) (w : WS) (x lim base hi : Nat) (p : Int32) : Option (Int32 × MI × WS) := (F_X11_full m w (nI x) (nI lim) p).bind fun c47 => (F_X11_token c47 w).bind fun c48 => (F_X11_list c48.1 c48.2 (nI base + nI 5 * (f_X11_lesser c48.1 (c48.1 59 0 x) (nI (lim - 1)))) (nI hi) (b2 (¬ (nI lim ≤ c48.1 59 0 x)))).bind fun c49 => some ((1 : Int32), u3 c49.1 59 0 x (f_X11_lesser c49.1 (nI lim) (c48.1 59 0 x + 1)), c49.2)
theorem sheet_lis {m : MI} {w : WS} {p : Int32} : F_X11_sheetLine m w p = lisL m w 3 6 4 31 p := rfl
theorem m_lisL {b : Nat → Nat} {len pos i x lim base hi n : Nat} {f : Nat × Nat} {m : MI} {w : WS} (hp : pos ≤ len) (hk : tkK b len pos = 0) (hl : liB i = true) (hlo : loT (coT i 0) = 0) (hhi : hiT (coT i 0) = hi) (hh : hi < 100) (hx : x < base) (hlim : 1 ≤ lim ∧ lim ≤ 6) (hb : base ≤ 4) (ht : tapM m b len) (htk : tokM m w.2.2.2 b len pos) (hf : ntM m f) (hfp : f.1 ≠ 0 → f.2 < tkP b len pos) (hn : m 59 0 x = nI n) (hnl : n ≤ lim) :
    ∃ f1 K m' wd, ((¬ n = lim ∧ f1 = f) ∨ (n = lim ∧ f1 = ntF f 3 (tkP b len pos))) ∧ lnK b len (tkE b len pos) i K ∧ lisL m w x lim base hi (nI (tkP b len pos)) = some (1, m', (w.1, w.2.1, w.2.2.1, wd)) ∧ tapM m' b len ∧ tokM m' wd b len (poN b len (tkE b len pos) K) ∧ ntM m' (faF b len (tkE b len pos) i f1 K) ∧ ((faF b len (tkE b len pos) i f1 K).1 ≠ 0 → (faF b len (tkE b len pos) i f1 K).2 < tkP b len (poN b len (tkE b len pos) K)) ∧ m' 59 0 x = nI (min lim (n + 1)) ∧
      (n < lim → ∀ j, j < 5 → m' 59 0 (base + 5 * n + j) = nI (if j < K then tkV b len (poN b len (tkE b len pos) j) else 0)) ∧
      ∀ c i j, ¬ (c = 10 ∧ i = 0 ∧ (j = 10 ∨ j = 12 ∨ j = 13 ∨ j = 14 ∨ j = 17 ∨ j = 18)) → ¬ (c = 59 ∧ i = 0 ∧ j = x) → ¬ (c = 59 ∧ i = 0 ∧ base + 5 * n ≤ j ∧ j < base + 5 * n + 5 ∧ n < lim) → m' c i j = m c i j := by
  have h600 := ht.1
  obtain ⟨p1, p2, p3⟩ := tk_le (b := b) hp
  obtain ⟨t1, t2, t3, t4, t5⟩ := id htk
  have adv := tk_adv (b := b) (len := len) (pos := pos) (by rw [hk]; omega)
  have pp := tk_le (b := b) (pos := tkE b len pos) p3
  unfold lisL
  obtain ⟨m1, s1, s2, s3⟩ := m_full (w := w) (f := f) (x := x) (n := n) (p := tkP b len pos) (lim := lim) hf hfp (by omega) hn (by omega) (by omega) (by omega)
  rw [s1, Option.bind_some]
  obtain ⟨m2, wd, r1, r2, r3⟩ := m_token (w := w) (tapM_of ht fun c i j q => s3 _ _ _ (by omega)) p3 (by rw [s3 _ _ _ (by omega)]; exact t1)
  rw [r1, Option.bind_some]
  have e2 : m2 59 0 x = nI n := by rw [r3 _ _ _ (by omega), s3 _ _ _ (by omega)]; exact hn
  have ht2 : tapM m2 b len := tapM_of ht fun c i j q => by rw [r3 _ _ _ (by omega), s3 _ _ _ (by omega)]
  obtain ⟨f1, g1, g2, g3⟩ : ∃ f1, ((¬ n = lim ∧ f1 = f) ∨ (n = lim ∧ f1 = ntF f 3 (tkP b len pos))) ∧ ntM m2 f1 ∧ (f1.1 ≠ 0 → f1.2 < tkP b len (tkE b len pos)) := by
    rcases s2 with ⟨a1, a2⟩ | ⟨a1, a2⟩
    · exact ⟨f, Or.inl ⟨a1, rfl⟩, ntM_of a2 fun j hj => r3 _ _ _ (by omega), fun q => by have := hfp q; omega⟩
    · refine ⟨_, Or.inr ⟨a1, rfl⟩, ntM_of a2 fun j hj => r3 _ _ _ (by omega), ?_⟩
      unfold ntF
      by_cases q : f.1 = 0
      · rw [if_pos q]; intro _; show tkP b len pos < _; omega
      · rw [if_neg q]; intro _; have := hfp q; omega
  dsimp only
  have hkp : b2 (¬ (nI lim ≤ m2 59 0 x)) = (if decide (n < lim) = true then (1 : Int32) else 0) := by
    rw [e2]
    by_cases z : n < lim
    · rw [b2_pos (by rw [nle (by omega) (by omega)]; omega), if_pos (decide_eq_true z)]
    · rw [b2_neg (by rw [nle (by omega) (by omega)]; omega), if_neg (by rw [decide_eq_true_eq]; exact z)]
  have hbase : nI base + nI 5 * (f_X11_lesser m2 (m2 59 0 x) (nI (lim - 1))) = nI (base + 5 * min n (lim - 1)) := by
    rw [e2, m_les (by omega) (by omega), nmul, nadd]
  have hcnt : ∀ mm : MI, f_X11_lesser mm (nI lim) (m2 59 0 x + 1) = nI (min lim (n + 1)) := by
    intro mm
    rw [e2, show nI n + 1 = nI (n + 1) from nadd n 1, m_les (by omega) (by omega)]
  obtain ⟨K, m3, wd3, q1, q2, q3, q4, q5, q6, q7, q8⟩ := m_list (i := i) (base := base + 5 * min n (lim - 1)) (hi := hi) (f := f1) (kp := decide (n < lim)) (m := m2) (w := (w.1, w.2.1, w.2.2.1, wd)) p3 (by omega) (by omega) hl hlo hhi hh ht2 r2 g2 g3
  rw [hkp, hbase, q2, Option.bind_some]
  dsimp only
  rw [hcnt]
  refine ⟨f1, K, _, wd3, g1, q1, rfl, tapM_of q3 fun c i j q => by rw [u3_n (by omega)], tokM_of q4 fun j _ => by rw [u3_n (by omega)], ntM_of q5 fun j _ => by rw [u3_n (by omega)], q6, u3_s, fun z j hj => ?_, fun c i j z1 z2 z3 => ?_⟩
  · have e : min n (lim - 1) = n := by omega
    rw [u3_n (by omega), ← q7 (decide_eq_true z) j hj, e]
  · have hz : ¬ (c = 59 ∧ i = 0 ∧ base + 5 * min n (lim - 1) ≤ j ∧ j < base + 5 * min n (lim - 1) + 5 ∧ decide (n < lim) = true) := by
      rintro ⟨y1, y2, y3, y4, y5⟩
      have y6 := of_decide_eq_true y5
      have e : min n (lim - 1) = n := by omega
      rw [e] at y3 y4
      exact z3 ⟨y1, y2, y3, y4, y6⟩
    rw [u3_n (by omega), q8 _ _ _ z1 hz, r3 _ _ _ (by omega), s3 _ _ _ (by omega)]
