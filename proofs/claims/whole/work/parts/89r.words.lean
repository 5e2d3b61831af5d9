/-! TEXT: words -/
theorem ru_all {q : Nat → Bool} {b : Nat → Nat} {len : Nat} : ∀ f p k, p ≤ k → k < ruF q b len f p → q (b k) = true := by
  intro f
  induction f with
  | zero => intro p k h1 h2; rw [ruF] at h2; omega
  | succ f ih =>
    intro p k h1 h2
    rw [ruF] at h2
    by_cases h : len ≤ p
    · rw [if_pos h] at h2; omega
    · rw [if_neg h] at h2
      by_cases h3 : q (b p) = true
      · rw [if_pos h3] at h2
        by_cases e : k = p
        · rw [e]; exact h3
        · exact ih (p + 1) k (by omega) h2
      · rw [if_neg h3] at h2; omega
theorem tk_letters {b : Nat → Nat} {len pos : Nat} (h : tkK b len pos = 0) : ∀ k, tkP b len pos ≤ k → k < tkE b len pos → 97 ≤ b k ∧ b k ≤ 122 := by
  have h1 : ¬ len ≤ tkP b len pos := fun z => by unfold tkK at h; rw [if_pos z] at h; omega
  have h2 : isL (b (tkP b len pos)) = true := by
    refine Classical.byContradiction fun z => ?_
    unfold tkK at h
    rw [if_neg h1, if_neg z] at h
    split at h
    · split at h <;> omega
    · split at h <;> omega
  intro k hk hk2
  have e : tkE b len pos = ruF isL b len 601 (tkP b len pos) := by unfold tkE; rw [if_neg h1, if_pos h2]
  rw [e] at hk2
  have := ru_all 601 _ k hk hk2
  unfold isL at this
  rw [Bool.and_eq_true, decide_eq_true_eq, decide_eq_true_eq] at this
  exact this
/-- the words, by numbers -/
def kwN (i : Nat) : List Nat := (stx.getD i []).map fun c => c.toNatClampNeg
def wdIs (b : Nat → Nat) (p e i : Nat) : Prop := e - p = (kwN i).length ∧ ∀ k, k < e - p → b (p + k) = (kwN i).getD k 0
theorem kw_tab : ((List.range 13).all fun i => Nat.beq (kwN i).length (stx.getD i []).length && Nat.ble 3 (kwN i).length && Nat.ble (kwN i).length 5 && (List.range (kwN i).length).all fun k => Nat.ble 97 ((kwN i).getD k 0) && Nat.ble ((kwN i).getD k 0) 122 && decide ((((((stx.getD i []).getD k 0) &&& 255).toUInt32 % 65536).toInt32) = nI ((kwN i).getD k 0))) = true := by decide +kernel
theorem kw_len {i : Nat} (hi : i < 13) : (kwN i).length = (stx.getD i []).length ∧ 3 ≤ (kwN i).length ∧ (kwN i).length ≤ 5 ∧ ∀ k, k < (kwN i).length → 97 ≤ (kwN i).getD k 0 ∧ (kwN i).getD k 0 ≤ 122 ∧ (((((stx.getD i []).getD k 0) &&& 255).toUInt32 % 65536).toInt32) = nI ((kwN i).getD k 0) := by
  have h := List.all_eq_true.mp kw_tab i (List.mem_range.mpr hi)
  rw [Bool.and_eq_true, Bool.and_eq_true, Bool.and_eq_true] at h
  obtain ⟨⟨⟨h1, h2⟩, h3⟩, h4⟩ := h
  refine ⟨Nat.eq_of_beq_eq_true h1, Nat.le_of_ble_eq_true h2, Nat.le_of_ble_eq_true h3, fun k hk => ?_⟩
  have g := List.all_eq_true.mp h4 k (List.mem_range.mpr hk)
  rw [Bool.and_eq_true, Bool.and_eq_true, decide_eq_true_eq] at g
  exact ⟨Nat.le_of_ble_eq_true g.1.1, Nat.le_of_ble_eq_true g.1.2, g.2⟩
theorem c_isWord {m : MI} {w : WS} {b : Nat → Nat} {len pos i : Nat} (hw : w.2.1 = true) (ht : tapC m b len) (hp : pos ≤ len) (htk : tokC m b len pos) (hi : i < 13) : (tkK b len pos = 0 ∧ wdIs b (tkP b len pos) (tkE b len pos) i ∧ F_X7_isWord m w i = some 1) ∨ (¬ (tkK b len pos = 0 ∧ wdIs b (tkP b len pos) (tkE b len pos) i) ∧ F_X7_isWord m w i = some 0) := by
  obtain ⟨k1, k2, k3, k4⟩ := kw_len hi
  obtain ⟨t1, t2, t3, -⟩ := htk
  obtain ⟨p1, p2, p3⟩ := tk_le (b := b) hp
  have h600 := ht.1
  have hlen : f_J0_length_8abf5 m i = nI (kwN i).length := by
    unfold f_J0_length_8abf5
    rw [← k1, b2_neg (by decide)]
    have e0 : ((0 : Int32) &&& 31) = nI 0 := by decide
    rw [e0]
    show nI (kwN i).length >>> nI 0 = _
    rw [nshr (by omega) (by omega), Nat.shiftRight_zero]
  unfold F_X7_isWord
  rw [ckT hw, t2, t1, t3, hlen, nsub p2]
  by_cases hk : tkK b len pos = 0
  · rw [if_pos (show nI (tkK b len pos) = 0 by rw [hk]; rfl)]
    by_cases hl : tkE b len pos - tkP b len pos = (kwN i).length
    · rw [if_pos (show nI (tkE b len pos - tkP b len pos) = nI (kwN i).length by rw [hl])]
      have key : ∀ r F k, k + r = (kwN i).length → r < F → ((∀ j, k ≤ j → j < (kwN i).length → b (tkP b len pos + j) = (kwN i).getD j 0) ∧ L_X7_isWord_27 m w F i (nI k) = some 1) ∨ ((¬ ∀ j, k ≤ j → j < (kwN i).length → b (tkP b len pos + j) = (kwN i).getD j 0) ∧ L_X7_isWord_27 m w F i (nI k) = some 0) := by
        intro r
        induction r with
        | zero =>
          intro F k hk hF
          obtain ⟨F, rfl⟩ : ∃ G, F = G + 1 := ⟨F - 1, by omega⟩
          refine Or.inl ⟨fun j h1 h2 => by omega, ?_⟩
          rw [L_X7_isWord_27, hlen, if_pos (by rw [nle (by omega) (by omega)]; omega)]
        | succ r ih =>
          intro F k hk hF
          obtain ⟨F, rfl⟩ : ∃ G, F = G + 1 := ⟨F - 1, by omega⟩
          obtain ⟨g1, g2, g3⟩ := k4 k (by omega)
          obtain ⟨q1, q2⟩ := ht.2.2 (tkP b len pos + k) (by omega)
          have hch : F_J0_charAt_5068e m w i (nI k) = some (nI ((kwN i).getD k 0)) := by
            unfold F_J0_charAt_5068e F_J1_charAt_3b067
            rw [← k1, ckT ⟨nI_pos (by omega), by show nI k < nI (kwN i).length; rw [nlt (by omega) (by omega)]; omega⟩, ck_in (by omega) (by omega), ncl (by omega), g3, Option.bind_some]
            refine if_pos ?_
            have : ∀ c, c < 256 → ((nI c).toUInt32 % 65536).toInt32 = nI c := by decide +kernel
            exact this _ (by omega)
          rw [L_X7_isWord_27, hlen, if_neg (by rw [nle (by omega) (by omega)]; omega), t3, nadd]
          simp (disch := omega) only [ncl, ckJ]
          rw [hch, Option.bind_some, q1]
          by_cases e : b (tkP b len pos + k) = (kwN i).getD k 0
          · rw [if_pos (by rw [e]), show nI k + 1 = nI (k + 1) by rw [i1, nadd]]
            rcases ih F (k + 1) (by omega) (by omega) with ⟨h1, h2⟩ | ⟨h1, h2⟩
            · refine Or.inl ⟨fun j a c => ?_, h2⟩
              by_cases ej : j = k
              · rw [ej]; exact e
              · exact h1 j (by omega) c
            · exact Or.inr ⟨fun z => h1 fun j a c => z j (by omega) c, h2⟩
          · rw [if_neg (nne (by omega) (by omega) e)]
            exact Or.inr ⟨fun z => e (z k (Nat.le_refl _) (by omega)), rfl⟩
      rcases key (kwN i).length 1000000 0 (by omega) (by omega) with ⟨h1, h2⟩ | ⟨h1, h2⟩
      · exact Or.inl ⟨hk, ⟨hl, fun k hk => h1 k (Nat.zero_le _) (by omega)⟩, h2⟩
      · exact Or.inr ⟨fun z => h1 fun j _ c => z.2.2 j (by omega), h2⟩
    · rw [if_neg (nne (by omega) (by omega) hl)]
      exact Or.inr ⟨fun z => hl z.2.1, rfl⟩
  · have hk4 : tkK b len pos ≤ 4 := by
      unfold tkK
      split
      · omega
      · split
        · omega
        · split
          · split <;> omega
          · split <;> omega
    rw [if_neg (nne0 (by omega) hk)]
    exact Or.inr ⟨fun z => hk z.1, rfl⟩
/-- a word in one long -/
def pkP (l : List Nat) : Nat → Nat
  | 0 => 0
  | n + 1 => pkP l n * 256 + l.getD n 0
theorem pk_same {b : Nat → Nat} {p : Nat} {l : List Nat} : ∀ n, (∀ k, k < n → b (p + k) < 256 ∧ l.getD k 0 < 256) → (pkN b p n = pkP l n ↔ ∀ k, k < n → b (p + k) = l.getD k 0) := by
  intro n
  induction n with
  | zero => intro _; exact ⟨fun _ k hk => absurd hk (Nat.not_lt_zero k), fun _ => rfl⟩
  | succ n ih =>
    intro h
    have hn := h n (by omega)
    rw [pkN, pkP]
    constructor
    · intro e k hk
      have e1 : pkN b p n = pkP l n := by omega
      have e2 : b (p + n) = l.getD n 0 := by omega
      by_cases ek : k = n
      · rw [ek]; exact e2
      · exact (ih fun k hk => h k (by omega)).mp e1 k (by omega)
    · intro e
      rw [e n (by omega), (ih fun k hk => h k (by omega)).mpr fun k hk => e k (by omega)]
theorem pk_rng {b : Nat → Nat} {p : Nat} : ∀ n, (∀ k, k < n → 1 ≤ b (p + k) ∧ b (p + k) < 256) → pkN b p n < 256 ^ n ∧ (1 ≤ n → 256 ^ (n - 1) ≤ pkN b p n) := by
  intro n
  induction n with
  | zero => intro _; exact ⟨show (0 : Nat) < 256 ^ 0 by decide, fun h => by omega⟩
  | succ n ih =>
    intro h
    obtain ⟨i1', i2'⟩ := ih fun k hk => h k (by omega)
    have hn := h n (by omega)
    rw [pkN, Nat.pow_succ]
    refine ⟨by omega, fun _ => ?_⟩
    show 256 ^ n ≤ _
    cases n with
    | zero => show 1 ≤ _; omega
    | succ n =>
      have := i2' (by omega)
      have e : 256 ^ (n + 1) = 256 ^ n * 256 := Nat.pow_succ ..
      have e2 : n + 1 - 1 = n := by omega
      rw [e2] at this
      omega
theorem pkP_rng {l : List Nat} : ∀ n, (∀ k, k < n → 1 ≤ l.getD k 0 ∧ l.getD k 0 < 256) → pkP l n < 256 ^ n ∧ (1 ≤ n → 256 ^ (n - 1) ≤ pkP l n) := by
  intro n h
  have e : ∀ n, pkN (fun k => l.getD k 0) 0 n = pkP l n := by
    intro n
    induction n with
    | zero => rfl
    | succ n ih => rw [pkN, pkP, ih, Nat.zero_add]
  have := pk_rng (b := fun k => l.getD k 0) (p := 0) n fun k hk => by
    show 1 ≤ l.getD (0 + k) 0 ∧ l.getD (0 + k) 0 < 256
    rw [Nat.zero_add]
    exact h k hk
  rw [e] at this
  exact this
theorem lN_inj {a c : Nat} (ha : a < 2 ^ 64) (hc : c < 2 ^ 64) : lN a = lN c ↔ a = c := by
  constructor
  · intro h
    have h2 : (lN a).toBitVec.toNat = (lN c).toBitVec.toNat := by rw [h]
    have e : ∀ x, (lN x).toBitVec.toNat = x % 2 ^ 64 := fun x => by
      show (BitVec.ofNat 64 x).toNat = _
      rw [BitVec.toNat_ofNat]
    rw [e, e, Nat.mod_eq_of_lt ha, Nat.mod_eq_of_lt hc] at h2
    exact h2
  · intro h; rw [h]
/-- the model's test of a word -/
theorem m_isWord {b : Nat → Nat} {p e i : Nat} {wd : Int64} (hi : i < 13) (hpe : p ≤ e) (hb : ∀ k, p ≤ k → k < e → 97 ≤ b k ∧ b k ≤ 122) (h8 : e - p ≤ 8 → wd = lN (pkN b p (e - p))) (h9 : 8 < e - p → wd = 0) : wd = lN (pkP (kwN i) (kwN i).length) ↔ wdIs b p e i := by
  obtain ⟨k1, k2, k3, k4⟩ := kw_len hi
  have r2 := pkP_rng (l := kwN i) (kwN i).length fun k hk => by have := k4 k hk; omega
  have p5 : 256 ^ (kwN i).length ≤ 256 ^ 8 := Nat.pow_le_pow_right (by omega) (by omega)
  have p3 : 256 ^ 0 ≤ 256 ^ ((kwN i).length - 1) := Nat.pow_le_pow_right (by omega) (by omega)
  have e88 : 256 ^ 8 = 2 ^ 64 := by decide
  have hpos := r2.2 (by omega)
  by_cases hn : e - p ≤ 8
  · rw [h8 hn]
    have hbb : ∀ k, k < e - p → 1 ≤ b (p + k) ∧ b (p + k) < 256 := fun k hk => by have := hb (p + k) (by omega) (by omega); omega
    have r1 := pk_rng (b := b) (p := p) (e - p) hbb
    have q8 : 256 ^ (e - p) ≤ 256 ^ 8 := Nat.pow_le_pow_right (by omega) hn
    rw [lN_inj (by omega) (by omega)]
    unfold wdIs
    constructor
    · intro h
      have hl : e - p = (kwN i).length := by
        rcases Nat.lt_trichotomy (e - p) (kwN i).length with z | z | z
        · have : 256 ^ (e - p) ≤ 256 ^ ((kwN i).length - 1) := Nat.pow_le_pow_right (by omega) (by omega)
          omega
        · exact z
        · have : 256 ^ (kwN i).length ≤ 256 ^ (e - p - 1) := Nat.pow_le_pow_right (by omega) (by omega)
          have := r1.2 (by omega)
          omega
      refine ⟨hl, ?_⟩
      rw [← hl] at h
      exact (pk_same (e - p) fun k hk => ⟨(hbb k hk).2, by have := k4 k (by omega); omega⟩).mp h
    · rintro ⟨hl, h⟩
      rw [← hl]
      exact (pk_same (e - p) fun k hk => ⟨(hbb k hk).2, by have := k4 k (by omega); omega⟩).mpr h
  · rw [h9 (by omega)]
    constructor
    · intro h
      have e0 : (0 : Int64) = lN 0 := rfl
      rw [e0, lN_inj (by omega) (by omega)] at h
      omega
    · rintro ⟨hl, -⟩
      omega
/-- no word at all -/
theorem m_noWord {i : Nat} (hi : i < 13) : (0 : Int64) ≠ lN (pkP (kwN i) (kwN i).length) := by
  obtain ⟨k1, k2, k3, k4⟩ := kw_len hi
  have r2 := pkP_rng (l := kwN i) (kwN i).length fun k hk => by have := k4 k hk; omega
  have p5 : 256 ^ (kwN i).length ≤ 256 ^ 8 := Nat.pow_le_pow_right (by omega) (by omega)
  have p3 : 256 ^ 0 ≤ 256 ^ ((kwN i).length - 1) := Nat.pow_le_pow_right (by omega) (by omega)
  have e88 : 256 ^ 8 = 2 ^ 64 := by decide
  have hpos := r2.2 (by omega)
  intro h
  have e0 : (0 : Int64) = lN 0 := rfl
  rw [e0, lN_inj (by omega) (by omega)] at h
  omega
theorem kw_val : ((List.range 13).map fun i => pkP (kwN i) (kwN i).length) = [1936292453, 1936484720, 495672714612, 2003132786, 495807783289, 1718380912, 1953854062, 495740085349, 482671354728, 2002875240, 7499639, 7630704, 1650553445] := by decide +kernel
