/-! A SHOP OF A NUMBER, on either side -/
theorem m_hand {m : MI} (w : WS) {j W H sl n : Nat} {cu ro we : Nat → Nat} (ok : shOK W H sl n cu we) (hj : j < 2) (hM : ShM m (40 * j) W H sl n ro we) (hcu : ∀ s, s < n → cu s = cutN W ro s) (hc0 : ∀ s, n ≤ s → s < 6 → cu s = 0) (hr : ∀ k, k < 5 * n → ro k = 0 ∨ (k % 5 < H ∧ ro k < 2 ^ W)) (hi : F_X11_is m w 0 (nI j) = some 1) :
    ∃ m1, F_X11_hand m w (nI j) = some (1, m1) ∧ HD m1 j W H sl n cu we ∧ ∀ c i j', hOut c i j' → m1 c i j' = m c i j' := by
  obtain ⟨⟨a0, a1, a2, a3⟩, a4, a5⟩ := id hM
  have o1 : F_X11_of (u3 m 10 0 23 (nI j)) w 0 = some (nI W) := by
    rw [i0, m_of w u3_s hj (by omega), u3_n (by omega), Nat.add_zero, a0]
  have o2 : F_X11_of (u3 (u3 m 10 0 23 (nI j)) 10 0 24 (nI W)) w 1 = some (nI H) := by
    rw [i1, m_of w (by rw [u3_n (by omega), u3_s]) hj (by omega), u3_n (by omega), u3_n (by omega), a1]
  have o3 : F_X11_of (u3 (u3 (u3 (u3 m 10 0 23 (nI j)) 10 0 24 (nI W)) 10 0 25 (nI H)) 10 0 26 (nI (W * H))) w 3 = some (nI n) := by
    rw [i3, m_of w (by rw [u3_n (by omega), u3_n (by omega), u3_n (by omega), u3_s]) hj (by omega), u3_n (by omega), u3_n (by omega), u3_n (by omega), u3_n (by omega), a3]
  have p1 : (u3 (u3 (u3 m 10 0 23 (nI j)) 10 0 24 (nI W)) 10 0 25 (nI H)) 10 0 24 = nI W := by rw [u3_n (by omega), u3_s]
  have p2 : (u3 (u3 (u3 m 10 0 23 (nI j)) 10 0 24 (nI W)) 10 0 25 (nI H)) 10 0 25 = nI H := by rw [u3_s]
  have e0 : ∀ c i j', hOut c i j' → (u3 (u3 (u3 (u3 (u3 m 10 0 23 (nI j)) 10 0 24 (nI W)) 10 0 25 (nI H)) 10 0 26 (nI (W * H))) 10 0 27 (nI n)) c i j' = m c i j' := fun c i j' h => by
    unfold hOut at h
    rw [u3_n (by omega), u3_n (by omega), u3_n (by omega), u3_n (by omega), u3_n (by omega)]
  obtain ⟨m1, b1, b2, b3⟩ := m_asTold (m0 := u3 (u3 (u3 (u3 (u3 m 10 0 23 (nI j)) 10 0 24 (nI W)) 10 0 25 (nI H)) 10 0 26 (nI (W * H))) 10 0 27 (nI n)) w (k := j) ok
    ⟨by rw [u3_n (by omega), u3_n (by omega), u3_n (by omega), u3_s], by rw [u3_n (by omega), u3_n (by omega), u3_s], by rw [u3_n (by omega), u3_s]⟩
    (by rw [u3_n (by omega), u3_n (by omega), u3_n (by omega), u3_n (by omega), u3_s]) hj u3_s (ShM_of (fun k => e0 55 0 k ⟨by omega, by omega⟩) hM) hcu hc0 hr
  refine ⟨m1, ?_, b2, fun c i j' h => by rw [b3 c i j' h, e0 c i j' h]⟩
  unfold F_X11_hand
  rw [hi, Option.bind_some, if_neg (by decide), o1, Option.bind_some, lt_e, o2, Option.bind_some, lt_e, p1, p2, nmul, o3, Option.bind_some, b1, Option.bind_some]
theorem b2_iff {p q : Prop} [Decidable p] [Decidable q] (h : p ↔ q) : b2 p = b2 q := by
  by_cases z : p
  · rw [b2_pos z, b2_pos (h.mp z)]
  · rw [b2_neg z, b2_neg fun y => z (h.mpr y)]
theorem in_iff {x : Int32} {c : Nat} (hc : c < 2147483648) : (¬ x < 0 ∧ x < nI c) ↔ ∃ j, j < c ∧ x = nI j := by
  constructor
  · rintro ⟨h0, h1⟩
    obtain ⟨j, hj, rfl⟩ := nI_of h0
    rw [nlt (by omega) hc] at h1
    exact ⟨j, h1, rfl⟩
  · rintro ⟨j, hj, rfl⟩
    exact ⟨nI_pos (by omega), by rw [nlt (by omega) hc]; exact hj⟩
theorem c_has {mi : MI} (w : WS) {t s c : Nat} (hs : s < 4) (hc : c ≤ 2) (h : mi 21 t s = nI c) (x : Int32) : F_X8_has mi w t (nI s) x = some (b2 (¬ x < 0 ∧ x < nI c)) := by
  unfold F_X8_has
  rw [ck_in hs (by omega), ncl (by omega), h]
  by_cases h0 : x < 0
  · rw [if_pos h0, b2_neg (fun q => q.1 h0)]
  · rw [if_neg h0]
    obtain ⟨j, hj, rfl⟩ := nI_of h0
    rw [i2]
    refine congrArg some (b2_iff ⟨fun q => ⟨h0, ?_⟩, fun q => ?_⟩)
    · rw [nle (by omega) (by omega)] at q
      rw [nlt (by omega) (by omega)]; omega
    · rw [nlt (by omega) (by omega)] at q
      rw [nle (by omega) (by omega), nle (by omega) (by omega)]; omega
theorem c_at {mi : MI} (w : WS) {t s c : Nat} (hs : s < 4) (hc : c ≤ 2) (h : mi 21 t s = nI c) (x : Int32) :
    ((¬ ∃ j, j < c ∧ x = nI j) ∧ F_X8_has mi w t (nI s) x = some 0) ∨ ∃ j, (j < c ∧ x = nI j) ∧ F_X8_has mi w t (nI s) x = some 1 := by
  by_cases q : ∃ j, j < c ∧ x = nI j
  · obtain ⟨j, hj⟩ := id q
    exact Or.inr ⟨j, hj, by rw [c_has w hs hc h, b2_pos ((in_iff (by omega)).mpr q)]⟩
  · exact Or.inl ⟨q, by rw [c_has w hs hc h, b2_neg fun z => q ((in_iff (by omega)).mp z)]⟩
theorem at_none {mi : MI} {w : WS} {t : Nat} {x : Int32} :
    (F_X8_has mi w t 0 x = some 0 → F_X8_shopAt mi w t x = some none) ∧ (F_X8_has mi w t 1 x = some 0 → F_X8_dayAt mi w t x = some none) ∧ (F_X8_has mi w t 2 x = some 0 → F_X8_pictureAt mi w t x = some none) ∧ (F_X8_has mi w t 3 x = some 0 → F_X8_marksAt mi w t x = some none) := by
  refine ⟨fun h => ?_, fun h => ?_, fun h => ?_, fun h => ?_⟩
  · unfold F_X8_shopAt; rw [h, Option.bind_some, if_pos rfl]
  · unfold F_X8_dayAt; rw [h, Option.bind_some, if_pos rfl]
  · unfold F_X8_pictureAt; rw [h, Option.bind_some, if_pos rfl]
  · unfold F_X8_marksAt; rw [h, Option.bind_some, if_pos rfl]
theorem at_some {mi : MI} {w : WS} {t j : Nat} (hj : j < 2) :
    (F_X8_has mi w t 0 (nI j) = some 1 → F_X8_shopAt mi w t (nI j) = some (some (2 * t + j))) ∧ (F_X8_has mi w t 1 (nI j) = some 1 → F_X8_dayAt mi w t (nI j) = some (some (2 * t + j))) ∧ (F_X8_has mi w t 2 (nI j) = some 1 → F_X8_pictureAt mi w t (nI j) = some (some (2 * t + j))) ∧ (F_X8_has mi w t 3 (nI j) = some 1 → F_X8_marksAt mi w t (nI j) = some (some (2 * t + j))) := by
  refine ⟨fun h => ?_, fun h => ?_, fun h => ?_, fun h => ?_⟩
  · unfold F_X8_shopAt; rw [h, Option.bind_some, if_neg (by decide), ck_in hj (by omega), ncl (by omega)]
  · unfold F_X8_dayAt; rw [h, Option.bind_some, if_neg (by decide), ck_in hj (by omega), ncl (by omega)]
  · unfold F_X8_pictureAt; rw [h, Option.bind_some, if_neg (by decide), ck_in hj (by omega), ncl (by omega)]
  · unfold F_X8_marksAt; rw [h, Option.bind_some, if_neg (by decide), ck_in hj (by omega), ncl (by omega)]
theorem m_at {m : MI} (w : WS) {s c : Nat} (hs : s < 4) (hc : c ≤ 2) (h : m 54 0 s = nI c) (x : Int32) : ((¬ ∃ j, j < c ∧ x = nI j) → F_X11_is m w (nI s) x = some 0) ∧ ((∃ j, j < c ∧ x = nI j) → F_X11_is m w (nI s) x = some 1) := by
  refine ⟨fun q => ?_, fun q => ?_⟩
  · rw [m_is w hs hc h, b2_neg fun z => q ((in_iff (by omega)).mp z)]
  · rw [m_is w hs hc h, b2_pos ((in_iff (by omega)).mpr q)]
/-- a shop of a number, on both sides: none there, or one, at hand -/
theorem shop_at {mi : MI} {w : WS} (I : Inv mi w) (x : Int32) :
    (F_X8_shopAt mi w 0 x = some none ∧ ∀ (m : MI) (w' : WS), Keep mi m → F_X11_hand m w' x = some (0, m)) ∨
    ∃ j, (j < 2 ∧ x = nI j) ∧ F_X8_shopAt mi w 0 x = some (some j) ∧ ∃ (W H sl n : Nat) (cu we : Nat → Nat), shOK W H sl n cu we ∧ ShC mi j W H sl n cu we ∧
      ∀ (m : MI) (w' : WS), Keep mi m → ∃ m1, F_X11_hand m w' x = some (1, m1) ∧ HD m1 j W H sl n cu we ∧ ∀ c i j', hOut c i j' → m1 c i j' = m c i j' := by
  obtain ⟨⟨-, -, cn, hn, hS, -⟩, -⟩ := I
  obtain ⟨h2, h21, h54⟩ := hn 0 (by omega)
  have k54 : ∀ m, Keep mi m → m 54 0 0 = nI (cn 0) := fun m K => by rw [K 54 0 0 (st_m (by omega))]; exact h54
  rcases c_at w (show 0 < 4 by omega) h2 h21 x with ⟨hno, hc⟩ | ⟨j, ⟨hj, rfl⟩, hc⟩
  · refine Or.inl ⟨at_none.1 hc, fun m w' K => ?_⟩
    unfold F_X11_hand
    have h0 : F_X11_is m w' 0 x = some 0 := (m_at w' (by omega) h2 (k54 m K) x).1 hno
    rw [h0, Option.bind_some, if_pos rfl]
  · refine Or.inr ⟨j, ⟨by omega, rfl⟩, ?_, ?_⟩
    · have := (at_some (w := w) (mi := mi) (t := 0) (show j < 2 by omega)).1 hc
      rw [this, Nat.mul_zero, Nat.zero_add]
    · obtain ⟨W, H, sl, n, cu, we, ro, ok, g1, g2, g3, g4, g5⟩ := hS j hj
      rw [Nat.mul_zero, Nat.zero_add] at g1 g2
      refine ⟨W, H, sl, n, cu, we, ok, g1, fun m w' K => ?_⟩
      exact m_hand w' ok (by omega) (ShM_of (fun k => K 55 0 k (st_m (by omega))) g2) g3 g4 g5 ((m_at w' (by omega) h2 (k54 m K) (nI j)).2 ⟨j, hj, rfl⟩)
theorem ShC.cw {mi : MI} {i W H sl n : Nat} {cu we : Nat → Nat} (h : ShC mi i W H sl n cu we) : CW mi i W H := ⟨⟨h.1.1, h.1.2.1⟩, h.2.2⟩
theorem shOK.bw {W H sl n : Nat} {cu we : Nat → Nat} (h : shOK W H sl n cu we) : BW W H := ⟨h.1, h.2.1⟩
theorem open_lt {W H c : Nat} (h : c < 2 ^ (W * H)) : openN W H c < 2 ^ (W * H) := Nat.or_lt_two_pow h (fall_lt W H c)
/-- a number is one of the first n, by the model's test (n less one) -/
theorem in_sheet {n : Nat} (hn : n ≤ 1000) (x : Int32) : (¬ (x < 0) ∧ (¬ ((nI n - 1) < x))) ↔ ∃ s, s < n ∧ x = nI s := by
  rw [← in_iff (x := x) (show n < 2147483648 by omega)]
  have e : (¬ (nI n - 1 < x)) ↔ x < nI n := by
    rw [Int32.lt_iff_toInt_lt, Int32.lt_iff_toInt_lt, i1, pk_sub_toInt (by omega) (by omega), nI_toInt (by omega)]
    omega
  rw [e]
/-- the same, by the class's test -/
theorem in_sheetC {n : Nat} (hn : n ≤ 6) (x : Int32) : (¬ (x < 0) ∧ (¬ (nI n ≤ x) ∧ (¬ (6 ≤ x)))) ↔ ∃ s, s < n ∧ x = nI s := by
  constructor
  · rintro ⟨h0, h1, h2⟩
    obtain ⟨j, hj, rfl⟩ := nI_of h0
    rw [nle (by omega) (by omega)] at h1
    exact ⟨j, by omega, rfl⟩
  · rintro ⟨j, hj, rfl⟩
    rw [i6, nle (by omega) (by omega), nle (by omega) (by omega)]
    exact ⟨nI_pos (by omega), by omega, by omega⟩
