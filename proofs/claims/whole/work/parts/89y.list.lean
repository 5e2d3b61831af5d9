/-! TEXT: a list, as the model reads it -/
theorem ctF_lt {f : Nat × Nat} {i k v p e : Nat} (h : f.1 ≠ 0 → f.2 < p) (hpe : p < e) : (ctF f i k v p).1 ≠ 0 → (ctF f i k v p).2 < e := by
  have n : ∀ c, (ntF f c p).1 ≠ 0 → (ntF f c p).2 < e := by
    intro c
    unfold ntF
    by_cases q : f.1 = 0
    · rw [if_pos q]; intro _; exact hpe
    · rw [if_neg q]; intro _; have := h q; omega
  unfold ctF
  by_cases c1 : loT (coT i k) ≤ v ∧ v ≤ hiT (coT i k)
  · rw [if_pos c1]
    by_cases c2 : k < 5
    · rw [if_pos c2]; intro q; have := h q; omega
    · rw [if_neg c2]; exact n 3
  · rw [if_neg c1]; exact n 2
theorem ntM_of {m m' : MI} {f : Nat × Nat} (h : ntM m f) (e : ∀ j, (j = 17 ∨ j = 18) → m' 10 0 j = m 10 0 j) : ntM m' f := ⟨h.1, h.2.1, by rw [e _ (by omega)]; exact h.2.2.1, fun q => by rw [e _ (by omega)]; exact h.2.2.2 q⟩
theorem m_less {m : MI} {k : Nat} (hk : k ≤ 5) : f_X11_lesser m 5 (nI k + 1) = nI (min (k + 1) 5) := by
  unfold f_X11_lesser
  have h : k = 0 ∨ k = 1 ∨ k = 2 ∨ k = 3 ∨ k = 4 ∨ k = 5 := by omega
  rcases h with h | h | h | h | h | h <;> (subst h; decide)
def l32 (w : WS) (n : Nat) (m : MI) (x1 x2 x3 x4 : Int32) : Option (MI × WS) := if 5 ≤ x4 then (F_X11_token m w).bind fun c46 => L_X11_list_32 n c46.1 c46.2 x1 x2 x3 (f_X11_lesser m 5 (x4 + 1)) else if x3 = 0 then (F_X11_token m w).bind fun c46 => L_X11_list_32 n c46.1 c46.2 x1 x2 x3 (f_X11_lesser m 5 (x4 + 1)) else ck (¬ ((x1 + x4) < 0 ∨ 161 ≤ (x1 + x4).toNatClampNeg)) (lt (u3 m 59 0 ((x1 + x4).toNatClampNeg) (m 10 0 14)) fun m45 => (F_X11_token m45 w).bind fun c46 => L_X11_list_32 n c46.1 c46.2 x1 x2 x3 (f_X11_lesser m45 5 (x4 + 1)))
def l32r (w : WS) (n : Nat) (m : MI) (x1 x2 x3 x4 : Int32) : Option (MI × WS) := if ¬ ((m 10 0 14) < 0) ∧ (¬ (x2 < (m 10 0 14))) then l32 w n m x1 x2 x3 x4 else (F_X11_addsFault m w 2 (m 10 0 12)).bind fun c44 => l32 w n c44 x1 x2 x3 x4
theorem l32_eq {w : WS} {n : Nat} {m : MI} {x1 x2 x3 x4 : Int32} : L_X11_list_32 (n + 1) m w x1 x2 x3 x4 = if m 10 0 13 = 3 then (if x4 = 5 then (F_X11_addsFault m w 3 (m 10 0 12)).bind fun c43 => l32r w n c43 x1 x2 x3 x4 else l32r w n m x1 x2 x3 x4) else some (m, w) := by
  rw [L_X11_list_32]; rfl
theorem m_l32 {w : WS} {b : Nat → Nat} {len pos k base : Nat} {x2 : Int32} {kp : Bool} {n : Nat} {m : MI} (hp : pos ≤ len) (ht : tapM m b len) (h10 : m 10 0 10 = nI (tkE b len pos)) (h14 : m 10 0 14 = nI (tkV b len pos)) (hb : base < 100) : ∃ m' wd, l32 w n m (nI base) x2 (if kp = true then 1 else 0) (nI (min k 5)) = L_X11_list_32 n m' (w.1, w.2.1, w.2.2.1, wd) (nI base) x2 (if kp = true then 1 else 0) (nI (min (k + 1) 5)) ∧ tapM m' b len ∧ tokM m' wd b len (tkE b len pos) ∧ (kp = true → k < 5 → m' 59 0 (base + k) = nI (tkV b len pos)) ∧ ∀ c i j, ¬ (c = 10 ∧ i = 0 ∧ (j = 10 ∨ j = 12 ∨ j = 13 ∨ j = 14)) → ¬ (c = 59 ∧ i = 0 ∧ j = base + k ∧ kp = true ∧ k < 5) → m' c i j = m c i j := by
  obtain ⟨p1, p2, p3⟩ := tk_le (b := b) hp
  have hmin : min (min k 5 + 1) 5 = min (k + 1) 5 := by omega
  have plain : ∃ m' wd, ((F_X11_token m w).bind fun c46 => L_X11_list_32 n c46.1 c46.2 (nI base) x2 (if kp = true then 1 else 0) (f_X11_lesser m 5 (nI (min k 5) + 1))) = L_X11_list_32 n m' (w.1, w.2.1, w.2.2.1, wd) (nI base) x2 (if kp = true then 1 else 0) (nI (min (k + 1) 5)) ∧ tapM m' b len ∧ tokM m' wd b len (tkE b len pos) ∧ ∀ c i j, ¬ (c = 10 ∧ i = 0 ∧ (j = 10 ∨ j = 12 ∨ j = 13 ∨ j = 14)) → m' c i j = m c i j := by
    obtain ⟨m', wd, r1, r2, r3⟩ := m_token (w := w) ht p3 h10
    rw [r1, Option.bind_some, m_less (by omega), hmin]
    exact ⟨m', wd, rfl, tapM_of ht fun c i j q => r3 _ _ _ (by omega), r2, r3⟩
  unfold l32
  by_cases c5 : 5 ≤ k
  · rw [if_pos (show (5 : Int32) ≤ nI (min k 5) by rw [show (5 : Int32) = nI 5 from rfl, nle (by omega) (by omega)]; omega)]
    obtain ⟨m', wd, a1, a2, a3, a4⟩ := plain
    exact ⟨m', wd, a1, a2, a3, fun _ q => by omega, fun c i j z _ => a4 c i j z⟩
  · rw [if_neg (show ¬ (5 : Int32) ≤ nI (min k 5) by rw [show (5 : Int32) = nI 5 from rfl, nle (by omega) (by omega)]; omega)]
    cases kp with
    | false =>
      rw [if_pos (show (if false = true then (1 : Int32) else 0) = 0 by decide)]
      obtain ⟨m', wd, a1, a2, a3, a4⟩ := plain
      exact ⟨m', wd, a1, a2, a3, fun q => absurd q (by decide), fun c i j z _ => a4 c i j z⟩
    | true =>
      rw [if_neg (show ¬ (if true = true then (1 : Int32) else 0) = 0 by decide), show nI base + nI (min k 5) = nI (base + k) by rw [nadd]; congr 1; omega, ck_in (by omega) (by omega), ncl (by omega)]
      simp only [lt_e]
      obtain ⟨m', wd, r1, r2, r3⟩ := m_token (m0 := u3 m 59 0 (base + k) (m 10 0 14)) (w := w) (tapM_of ht fun c i j q => by rw [u3_n (by omega)]) p3 (by rw [u3_n (by omega)]; exact h10)
      rw [r1, Option.bind_some, m_less (by omega), hmin]
      refine ⟨m', wd, rfl, tapM_of ht fun c i j q => by rw [r3 _ _ _ (by omega), u3_n (by omega)], r2, fun _ _ => ?_, fun c i j z1 z2 => ?_⟩
      · rw [r3 _ _ _ (by omega), u3_s, h14]
      · rw [r3 _ _ _ z1, u3_n (by have := z2; simp only [c5, true_and, and_true] at this; omega)]
