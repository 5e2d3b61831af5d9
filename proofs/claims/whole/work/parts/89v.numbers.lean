/-! TEXT: one number taken by the class -/
def liB (i : Nat) : Bool := Nat.beq i 2 || Nat.beq i 10
def nuN (i : Nat) : Nat := (STA13.getD i 0).toNatClampNeg
def loT (c : Nat) : Nat := (STA14.getD c 0).toNatClampNeg
def hiT (c : Nat) : Nat := (STA15.getD c 0).toNatClampNeg
def coT (i k : Nat) : Nat := i * 3 + (if liB i = true then 0 else k)
theorem nu_tab : ((List.range 13).all fun i => if liB i = true then decide (STA13.getD i 0 = -1) else decide (STA13.getD i 0 = nI (nuN i)) && Nat.ble 1 (nuN i) && Nat.ble (nuN i) 3) = true := by decide +kernel
theorem nu_of {i : Nat} (hi : i < 13) : (liB i = true → STA13.getD i 0 = -1) ∧ (liB i ≠ true → STA13.getD i 0 = nI (nuN i) ∧ 1 ≤ nuN i ∧ nuN i ≤ 3) := by
  have h := List.all_eq_true.mp nu_tab i (List.mem_range.mpr hi)
  refine ⟨fun q => ?_, fun q => ?_⟩
  · rw [if_pos q] at h; exact of_decide_eq_true h
  · rw [if_neg q, Bool.and_eq_true, Bool.and_eq_true] at h
    exact ⟨of_decide_eq_true h.1.1, Nat.le_of_ble_eq_true h.1.2, Nat.le_of_ble_eq_true h.2⟩
theorem lo_tab : ((List.range 39).all fun c => decide (STA14.getD c 0 = nI (loT c)) && decide (STA15.getD c 0 = nI (hiT c)) && Nat.blt (loT c) 100 && Nat.blt (hiT c) 100) = true := by decide +kernel
theorem lo_of {c : Nat} (hc : c < 39) : STA14.getD c 0 = nI (loT c) ∧ STA15.getD c 0 = nI (hiT c) ∧ loT c < 100 ∧ hiT c < 100 := by
  have h := List.all_eq_true.mp lo_tab c (List.mem_range.mpr hc)
  rw [Bool.and_eq_true, Bool.and_eq_true, Bool.and_eq_true] at h
  obtain ⟨⟨⟨h1, h2⟩, h3⟩, h4⟩ := h
  exact ⟨of_decide_eq_true h1, of_decide_eq_true h2, Nat.le_of_ble_eq_true h3, Nat.le_of_ble_eq_true h4⟩
def ctF (f : Nat × Nat) (i k v p : Nat) : Nat × Nat := if loT (coT i k) ≤ v ∧ v ≤ hiT (coT i k) then (if k < 5 then f else ntF f 3 p) else ntF f 2 p
theorem c_take {m : MI} {w : WS} {i k v p : Nat} {f : Nat × Nat} (hi : i < 13) (hk : k < 700) (hk3 : liB i ≠ true → k < 3) (hv : v < 100) (hp : p < 1000) (h5 : m 6 0 5 = nI v) (h4 : m 6 0 4 = nI p) (hf : ntC m f) :
    ∃ m', F_X5_takeNumber m w (nI i) (nI k) = some m' ∧ ntC m' (ctF f i k v p) ∧ (k < 5 → m' 35 0 k = nI v) ∧ ∀ c i j, ¬ (c = 4 ∧ i = 0 ∧ (j = 4 ∨ j = 5)) → ¬ (c = 35 ∧ i = 0 ∧ j = k) → m' c i j = m c i j := by
  obtain ⟨n1, n2⟩ := nu_of hi
  have hc : coT i k < 39 := by
    unfold coT
    by_cases q : liB i = true
    · rw [if_pos q]; omega
    · rw [if_neg q]; have := hk3 q; omega
  obtain ⟨g1, g2, g3, g4⟩ := lo_of hc
  have hcol : (nI i * 3 + (if STA13.getD i 0 = -1 then 0 else nI k)) = nI (coT i k) := by
    unfold coT
    rw [show (3 : Int32) = nI 3 from rfl, nmul]
    by_cases q : liB i = true
    · rw [if_pos (n1 q), if_pos q, show (0 : Int32) = nI 0 from rfl, nadd]
    · have e : ¬ nI (nuN i) = (-1 : Int32) := by
        have := (n2 q).2
        have h : nuN i = 1 ∨ nuN i = 2 ∨ nuN i = 3 := by omega
        rcases h with h | h | h <;> (rw [h]; decide)
      rw [(n2 q).1, if_neg e, if_neg q, nadd]
  have store : ∀ m1, ntC m1 (ctF f i k v p) → (∀ c i j, ¬ (c = 4 ∧ i = 0 ∧ (j = 4 ∨ j = 5)) → m1 c i j = m c i j) → ∃ m', (if 5 ≤ nI k then some m1 else ck (¬ (nI k < 0 ∨ 5 ≤ (nI k).toNatClampNeg)) (lt (u3 m1 35 0 (nI k).toNatClampNeg (m1 6 0 5)) fun m104 => some m104)) = some m' ∧ ntC m' (ctF f i k v p) ∧ (k < 5 → m' 35 0 k = nI v) ∧ ∀ c i j, ¬ (c = 4 ∧ i = 0 ∧ (j = 4 ∨ j = 5)) → ¬ (c = 35 ∧ i = 0 ∧ j = k) → m' c i j = m c i j := by
    intro m1 a1 a2
    by_cases c5 : 5 ≤ k
    · rw [if_pos (show (5 : Int32) ≤ nI k by rw [show (5 : Int32) = nI 5 from rfl, nle (by omega) (by omega)]; exact c5)]
      exact ⟨m1, rfl, a1, fun q => by omega, fun c i j q _ => a2 c i j q⟩
    · rw [if_neg (show ¬ (5 : Int32) ≤ nI k by rw [show (5 : Int32) = nI 5 from rfl, nle (by omega) (by omega)]; exact c5), ck_in (by omega) (by omega), ncl (by omega)]
      refine ⟨_, rfl, ⟨a1.1, a1.2.1, ?_, fun q => ?_⟩, fun _ => ?_, fun c i j q1 q2 => ?_⟩
      · rw [u3_n (by omega)]; exact a1.2.2.1
      · rw [u3_n (by omega)]; exact a1.2.2.2 q
      · rw [u3_s, a2 _ _ _ (by omega), h5]
      · rw [u3_n (by omega)]; exact a2 c i j q1
  unfold F_X5_takeNumber
  have l13 : i < STA13.length := hi
  have l14 : coT i k < STA14.length := hc
  have l15 : coT i k < STA15.length := hc
  rw [ncl (by omega), ckJ l13 (by omega), hcol, ncl (by omega), ckJ l14 (by omega), ckJ l15 (by omega), g1, g2, h5, h4]
  by_cases c1 : v < loT (coT i k)
  · rw [if_pos (show nI v < nI (loT (coT i k)) by rw [nlt (by omega) (by omega)]; exact c1)]
    obtain ⟨m1, s1, s2, s3⟩ := c_note (m := m) (w := w) (c := 2) hf (by omega) hp
    rw [show (2 : Int32) = nI 2 from rfl, s1, Option.bind_some]
    have e : ctF f i k v p = ntF f 2 p := by unfold ctF; rw [if_neg (by omega)]
    exact store m1 (e ▸ s2) s3
  · rw [if_neg (show ¬ nI v < nI (loT (coT i k)) by rw [nlt (by omega) (by omega)]; exact c1)]
    by_cases c2 : v ≤ hiT (coT i k)
    · rw [if_pos (show nI v ≤ nI (hiT (coT i k)) by rw [nle (by omega) (by omega)]; exact c2)]
      by_cases c5 : k < 5
      · rw [if_pos (show nI k < 5 by rw [show (5 : Int32) = nI 5 from rfl, nlt (by omega) (by omega)]; exact c5)]
        have e : ctF f i k v p = f := by unfold ctF; rw [if_pos (by omega), if_pos c5]
        have := store m (by rw [e]; exact hf) fun _ _ _ _ => rfl
        rw [h5] at this
        exact this
      · rw [if_neg (show ¬ nI k < 5 by rw [show (5 : Int32) = nI 5 from rfl, nlt (by omega) (by omega)]; exact c5)]
        obtain ⟨m1, s1, s2, s3⟩ := c_note (m := m) (w := w) (c := 3) hf (by omega) hp
        rw [show (3 : Int32) = nI 3 from rfl, s1, Option.bind_some]
        have e : ctF f i k v p = ntF f 3 p := by unfold ctF; rw [if_pos (by omega), if_neg c5]
        exact store m1 (e ▸ s2) s3
    · rw [if_neg (show ¬ nI v ≤ nI (hiT (coT i k)) by rw [nle (by omega) (by omega)]; exact c2)]
      obtain ⟨m1, s1, s2, s3⟩ := c_note (m := m) (w := w) (c := 2) hf (by omega) hp
      rw [show (2 : Int32) = nI 2 from rfl, s1, Option.bind_some]
      have e : ctF f i k v p = ntF f 2 p := by unfold ctF; rw [if_neg (by omega)]
      exact store m1 (e ▸ s2) s3
