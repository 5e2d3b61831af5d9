/-! CALLS THAT READ: count, fault, end, picture, deed, mark -/
theorem Inv_code {mi : MI} {w : WS} (I : Inv mi w) : Inv (u3 mi 10 0 0 0) w := Inv_keep (keep_u3 rfl (keep_refl mi)) rfl I
theorem ge_nn {x : Int32} {n : Nat} (hn : n < 2147483648) (h : nI n ≤ x) : ¬ x < 0 := by
  rw [i0, Int32.lt_iff_toInt_lt, nI_toInt (by omega)]
  rw [Int32.le_iff_toInt_le, nI_toInt (by omega)] at h
  omega
theorem ge_nl {x : Int32} {n : Nat} (hn : n < 2147483648) (h : nI n ≤ x) : ¬ x < nI n := by
  rw [Int32.lt_iff_toInt_lt, nI_toInt (by omega)]
  rw [Int32.le_iff_toInt_le, nI_toInt (by omega)] at h
  omega
theorem ge_gt {x : Int32} {n : Nat} (hn : n + 1 < 2147483648) (h : nI (n + 1) ≤ x) : nI n < x := by
  rw [Int32.lt_iff_toInt_lt, nI_toInt (by omega)]
  rw [Int32.le_iff_toInt_le, nI_toInt (by omega)] at h
  omega
theorem op_count {mi : MI} {w : WS} (I : Inv mi w) (x1 : Int32) : ∃ c, F_X10_count mi w x1 = some c ∧ ∃ e, F_X11_count mi w x1 = some e ∧ c = e.1 ∧ Inv e.2 w := by
  unfold F_X10_count F_X11_count
  rcases pk_ix x1 (n := 4) (by omega) with h | h | ⟨s, hs, rfl⟩
  · rw [if_pos h, if_neg (fun q => q.1 h)]
    exact ⟨_, rfl, _, rfl, rfl, Inv_code I⟩
  · rw [if_neg (ge_nn (by omega) h), if_neg (show ¬ x1 < 4 from ge_nl (n := 4) (by omega) h), if_neg (fun q => q.2 (ge_gt (n := 3) (by omega) h))]
    exact ⟨_, rfl, _, rfl, rfl, Inv_code I⟩
  · have h4 : nI s < (4 : Int32) := by rw [i4, nlt (by omega) (by omega)]; exact hs
    have h3 : ¬ (3 : Int32) < nI s := by rw [i3, nlt (by omega) (by omega)]; omega
    rw [if_neg (nI_pos (by omega)), if_pos h4, if_pos ⟨nI_pos (by omega), h3⟩, ck_in hs (by omega), ck_in (by omega) (by omega), ncl (by omega), u3_n (by omega)]
    refine ⟨_, rfl, _, rfl, ?_, Inv_code I⟩
    obtain ⟨⟨-, -, cn, hn, -⟩, -⟩ := I
    obtain ⟨-, a, b⟩ := hn s hs
    rw [Nat.mul_zero, Nat.zero_add] at b
    exact a.trans b.symm
theorem op_fault {mi : MI} {w : WS} (I : Inv mi w) (x1 : Int32) : ∃ c, F_X10_fault mi w x1 = some c ∧ ∃ e, F_X11_fault mi w x1 = some e ∧ c = e.1 ∧ Inv e.2 w := by
  unfold F_X10_fault F_X11_fault
  have J := I
  obtain ⟨⟨-, ⟨f1, f2⟩, -⟩, -⟩ := J
  by_cases h0 : x1 = 0
  · rw [if_pos h0, if_pos h0, u3_n (by omega)]
    exact ⟨_, rfl, _, rfl, f1.symm, Inv_code I⟩
  · rw [if_neg h0, if_neg h0]
    by_cases h1 : x1 = 1
    · rw [if_pos h1, if_pos h1, u3_n (by omega)]
      exact ⟨_, rfl, _, rfl, f2.symm, Inv_code I⟩
    · rw [if_neg h1, if_neg h1]
      exact ⟨_, rfl, _, rfl, rfl, Inv_code I⟩
theorem op_end {mi : MI} {w : WS} (I : Inv mi w) (x1 : Int32) : ∃ c, F_X10_end mi w x1 = some c ∧ ∃ e, F_X11_end c.2 w x1 = some e ∧ c.1 = e.1 ∧ Inv e.2 w := by
  have J := I
  obtain ⟨⟨⟨n, hn, h7, h51, ht⟩, f, r⟩, -⟩ := J
  unfold F_X10_end F_X11_end
  by_cases h0 : x1 < 0
  · rw [if_pos h0]
    refine ⟨_, rfl, ?_⟩
    dsimp only
    rw [if_neg (fun q => q.1 h0)]
    exact ⟨_, rfl, rfl, Inv_code I⟩
  · rw [if_neg h0, h7]
    obtain ⟨j, hj, rfl⟩ := nI_of h0
    by_cases hjn : j ≤ n
    · rw [if_pos (by rw [nle (by omega) (by omega)]; exact hjn)]
      refine ⟨_, rfl, ?_⟩
      dsimp only
      rw [if_pos ⟨h0, by rw [u3_n (by omega), u3_n (by omega), h51, nlt (by omega) (by omega)]; omega⟩, lt_e]
      refine ⟨_, rfl, rfl, ?_⟩
      dsimp only
      refine Inv_0 (mi := mi) (w := w) (fun c i k v1 v3 => ?_) (fun k _ => ?_) rfl I ?_
      · have e1 : ¬ (c = 51 ∧ i = 0 ∧ k = 0) := by rintro ⟨rfl, rfl, rfl⟩; rw [ver_51 (by omega)] at v1; omega
        have e2 : ¬ (c = 7 ∧ i = 0 ∧ k = 1) := by rintro ⟨rfl, rfl, rfl⟩; rw [ver_t (by omega)] at v1; omega
        have e3 : ¬ (c = 10 ∧ i = 0 ∧ k = 0) := by rintro ⟨rfl, rfl, rfl⟩; simp [ver] at v3
        rw [u3_n (by omega), u3_n (by omega), u3_n (by omega)]
      · rw [u3_n (by omega), u3_n (by omega), u3_n (by omega)]
      · have hk : ∀ c i k, ¬ (c = 51) → ¬ (c = 7 ∧ k = 1) → ¬ c = 10 → u3 (u3 (u3 mi 7 0 1 (nI j)) 10 0 0 0) 51 0 0 (nI j) c i k = mi c i k := fun c i k q1 q2 q3 => by
          rw [u3_n (by omega), u3_n (by omega), u3_n (by omega)]
        refine ⟨⟨j, by omega, by rw [u3_n (by omega), u3_n (by omega), u3_s], by rw [u3_s], fun k hk' => by rw [hk _ _ _ (by omega) (by omega) (by omega), hk _ _ _ (by omega) (by omega) (by omega)]; exact ht k (by omega)⟩, ?_, ?_⟩
        · rw [hk _ _ _ (by omega) (by omega) (by omega), hk _ _ _ (by omega) (by omega) (by omega), hk _ _ _ (by omega) (by omega) (by omega), hk _ _ _ (by omega) (by omega) (by omega)]; exact f
        · obtain ⟨cn, g1, g2, g3, g4, g5⟩ := r
          refine ⟨cn, fun s hs => by rw [hk _ _ _ (by omega) (by omega) (by omega), hk _ _ _ (by omega) (by omega) (by omega)]; exact g1 s hs, fun j hj => ShR_of (fun k => hk _ _ _ (by omega) (by omega) (by omega)) (fun k _ => hk _ _ _ (by omega) (by omega) (by omega)) (fun k _ => hk _ _ _ (by omega) (by omega) (by omega)) (fun k _ => hk _ _ _ (by omega) (by omega) (by omega)) (fun k _ => hk _ _ _ (by omega) (by omega) (by omega)) (g2 j hj), fun j hj => DayR_of (hk _ _ _ (by omega) (by omega) (by omega)) (fun k _ => hk _ _ _ (by omega) (by omega) (by omega)) (fun k _ => hk _ _ _ (by omega) (by omega) (by omega)) (g3 j hj), fun j hj => PicR_of (fun k _ => hk _ _ _ (by omega) (by omega) (by omega)) (fun k _ => hk _ _ _ (by omega) (by omega) (by omega)) (g4 j hj), fun j hj => MarkR_of (hk _ _ _ (by omega) (by omega) (by omega)) (fun k _ => hk _ _ _ (by omega) (by omega) (by omega)) (fun k _ => hk _ _ _ (by omega) (by omega) (by omega)) (fun k _ => hk _ _ _ (by omega) (by omega) (by omega)) (fun k _ => hk _ _ _ (by omega) (by omega) (by omega)) (g5 j hj)⟩
    · rw [if_neg (by rw [nle (by omega) (by omega)]; exact hjn)]
      refine ⟨_, rfl, ?_⟩
      dsimp only
      rw [if_neg (fun q => q.2 (by rw [u3_n (by omega), h51, nlt (by omega) (by omega)]; omega))]
      exact ⟨_, rfl, rfl, Inv_code I⟩
/-- a picture, a day, marks of a number -/
theorem pic_at {mi : MI} {w : WS} (I : Inv mi w) (x : Int32) :
    (F_X8_pictureAt mi w 0 x = some none ∧ ∀ (m : MI) (w' : WS), Keep mi m → F_X11_hasPicture m w' x = some (0, u3 m 10 0 38 x)) ∨
    ∃ j, (j < 2 ∧ x = nI j) ∧ F_X8_pictureAt mi w 0 x = some (some j) ∧ PicR mi j (26 * j) ∧ ∀ (m : MI) (w' : WS), Keep mi m → F_X11_hasPicture m w' x = some (1, u3 m 10 0 38 (nI j)) := by
  obtain ⟨⟨-, -, cn, hn, -, -, hS, -⟩, -⟩ := I
  obtain ⟨h2, h21, h54⟩ := hn 2 (by omega)
  have k54 : ∀ m, Keep mi m → (u3 m 10 0 38 x) 54 0 2 = nI (cn 2) := fun m K => by rw [u3_n (by omega), K 54 0 2 (st_m (by omega))]; exact h54
  rcases c_at w (show 2 < 4 by omega) h2 h21 x with ⟨hno, hc⟩ | ⟨j, ⟨hj, rfl⟩, hc⟩
  · refine Or.inl ⟨at_none.2.2.1 hc, fun m w' K => ?_⟩
    unfold F_X11_hasPicture
    have h0 : F_X11_is (u3 m 10 0 38 x) w' 2 x = some 0 := (m_at w' (by omega) h2 (k54 m K) x).1 hno
    rw [h0, Option.bind_some, ckT (Or.inl rfl)]
  · refine Or.inr ⟨j, ⟨by omega, rfl⟩, ?_, ?_, fun m w' K => ?_⟩
    · have := (at_some (w := w) (mi := mi) (t := 0) (show j < 2 by omega)).2.2.1 hc
      rw [this, Nat.mul_zero, Nat.zero_add]
    · have := hS j hj
      simp only [Nat.mul_zero, Nat.zero_add] at this
      exact this
    · unfold F_X11_hasPicture
      have h0 : F_X11_is (u3 m 10 0 38 (nI j)) w' 2 (nI j) = some 1 := (m_at w' (by omega) h2 (k54 m K) (nI j)).2 ⟨j, hj, rfl⟩
      rw [h0, Option.bind_some, ckT (Or.inr rfl)]
theorem day_at {mi : MI} {w : WS} (I : Inv mi w) (x : Int32) :
    (F_X8_dayAt mi w 0 x = some none ∧ ∀ (m : MI) (w' : WS), Keep mi m → F_X11_hasDay m w' x = some (0, u3 (u3 (u3 m 10 0 35 x) 10 0 36 0) 10 0 37 0)) ∨
    ∃ j, (j < 2 ∧ x = nI j) ∧ F_X8_dayAt mi w 0 x = some (some j) ∧ DayR mi j (161 * j) ∧ ∀ (m : MI) (w' : WS), Keep mi m → F_X11_hasDay m w' x = some (1, u3 (u3 (u3 m 10 0 35 (nI j)) 10 0 36 0) 10 0 37 0) := by
  obtain ⟨⟨-, -, cn, hn, -, hS, -⟩, -⟩ := I
  obtain ⟨h2, h21, h54⟩ := hn 1 (by omega)
  have k54 : ∀ m, Keep mi m → (u3 (u3 (u3 m 10 0 35 x) 10 0 36 0) 10 0 37 0) 54 0 1 = nI (cn 1) := fun m K => by rw [u3_n (by omega), u3_n (by omega), u3_n (by omega), K 54 0 1 (st_m (by omega))]; exact h54
  rcases c_at w (show 1 < 4 by omega) h2 h21 x with ⟨hno, hc⟩ | ⟨j, ⟨hj, rfl⟩, hc⟩
  · refine Or.inl ⟨at_none.2.1 hc, fun m w' K => ?_⟩
    unfold F_X11_hasDay
    have h0 : F_X11_is (u3 (u3 (u3 m 10 0 35 x) 10 0 36 0) 10 0 37 0) w' 1 x = some 0 := (m_at w' (by omega) h2 (k54 m K) x).1 hno
    rw [lt_e, h0, Option.bind_some, ckT (Or.inl rfl)]
  · refine Or.inr ⟨j, ⟨by omega, rfl⟩, ?_, ?_, fun m w' K => ?_⟩
    · have := (at_some (w := w) (mi := mi) (t := 0) (show j < 2 by omega)).2.1 hc
      rw [this, Nat.mul_zero, Nat.zero_add]
    · have := hS j hj
      simp only [Nat.mul_zero, Nat.zero_add] at this
      exact this
    · unfold F_X11_hasDay
      have h0 : F_X11_is (u3 (u3 (u3 m 10 0 35 (nI j)) 10 0 36 0) 10 0 37 0) w' 1 (nI j) = some 1 := (m_at w' (by omega) h2 (k54 m K) (nI j)).2 ⟨j, hj, rfl⟩
      rw [lt_e, h0, Option.bind_some, ckT (Or.inr rfl)]
theorem mark_at {mi : MI} {w : WS} (I : Inv mi w) (x : Int32) :
    (F_X8_marksAt mi w 0 x = some none ∧ ∀ (m : MI) (w' : WS), Keep mi m → F_X11_hasMarks m w' x = some (0, u3 m 10 0 44 x)) ∨
    ∃ j, (j < 2 ∧ x = nI j) ∧ F_X8_marksAt mi w 0 x = some (some j) ∧ MarkR mi j (33 * j) ∧ ∀ (m : MI) (w' : WS), Keep mi m → F_X11_hasMarks m w' x = some (1, u3 m 10 0 44 (nI j)) := by
  obtain ⟨⟨-, -, cn, hn, -, -, -, hS⟩, -⟩ := I
  obtain ⟨h2, h21, h54⟩ := hn 3 (by omega)
  have k54 : ∀ m, Keep mi m → (u3 m 10 0 44 x) 54 0 3 = nI (cn 3) := fun m K => by rw [u3_n (by omega), K 54 0 3 (st_m (by omega))]; exact h54
  rcases c_at w (show 3 < 4 by omega) h2 h21 x with ⟨hno, hc⟩ | ⟨j, ⟨hj, rfl⟩, hc⟩
  · refine Or.inl ⟨at_none.2.2.2 hc, fun m w' K => ?_⟩
    unfold F_X11_hasMarks
    have h0 : F_X11_is (u3 m 10 0 44 x) w' 3 x = some 0 := (m_at w' (by omega) h2 (k54 m K) x).1 hno
    rw [h0, Option.bind_some, ckT (Or.inl rfl)]
  · refine Or.inr ⟨j, ⟨by omega, rfl⟩, ?_, ?_, fun m w' K => ?_⟩
    · have := (at_some (w := w) (mi := mi) (t := 0) (show j < 2 by omega)).2.2.2 hc
      rw [this, Nat.mul_zero, Nat.zero_add]
    · have := hS j hj
      simp only [Nat.mul_zero, Nat.zero_add] at this
      exact this
    · unfold F_X11_hasMarks
      have h0 : F_X11_is (u3 m 10 0 44 (nI j)) w' 3 (nI j) = some 1 := (m_at w' (by omega) h2 (k54 m K) (nI j)).2 ⟨j, hj, rfl⟩
      rw [h0, Option.bind_some, ckT (Or.inr rfl)]
theorem m_colourAt {m : MI} (w : WS) {j a b : Nat} (h38 : m 10 0 38 = nI j) (hj : j < 2) (ha : a < 5) (hb : b < 5) : F_X11_colourAt m w (nI a) (nI b) = some (m 57 0 (26 * j + (1 + (5 * b + a)))) := by
  unfold F_X11_colourAt
  rw [h38]
  show ck (¬ (((((nI 26 * nI j) + nI 1) + (nI 5 * nI b)) + nI a) < 0 ∨ 208 ≤ ((((nI 26 * nI j) + nI 1) + (nI 5 * nI b)) + nI a).toNatClampNeg)) (some (m 57 0 ((((nI 26 * nI j) + nI 1) + (nI 5 * nI b)) + nI a).toNatClampNeg)) = _
  rw [nmul, nmul, nadd, nadd, nadd, ck_in (by omega) (by omega), ncl (by omega)]
  rw [show 26 * j + 1 + 5 * b + a = 26 * j + (1 + (5 * b + a)) by omega]
theorem c_colourAt {mi : MI} (w : WS) {i a b : Nat} (ha : a < 5) (hb : b < 5) : F_X4_colourAt mi w i (nI a) (nI b) = some (mi 30 i (5 * b + a)) := by
  unfold F_X4_colourAt
  rw [i5, nmul, nadd, if_neg (nI_pos (by omega)), if_neg (show ¬ (25 : Int32) ≤ nI (b * 5 + a) by rw [show (25 : Int32) = nI 25 from rfl, nle (by omega) (by omega)]; omega), ck_in (by omega) (by omega), ncl (by omega), Nat.mul_comm b 5]
/-- the rest of a call that asks: the model's memory is as it was, but for what is its own -/
theorem Inv_m {mi m : MI} {w : WS} (I : Inv mi w) (K : Keep mi m) : Inv m w := Inv_keep K rfl I
theorem keep_c (mi : MI) : Keep mi (u3 mi 10 0 0 0) := keep_u3 rfl (keep_refl mi)
theorem ne10 : ¬ (1 : Int32) = 0 := by decide
theorem onO_s {β : Type} {j : Nat} {a : β} {f : Nat → β} : onO (some j) a f = f j := rfl
theorem onO_n {β : Type} {a : β} {f : Nat → β} : onO none a f = a := rfl
theorem op_picture {mi : MI} {w : WS} (I : Inv mi w) (x1 : Int32) (x2 : Int32) (x3 : Int32) : ∃ c, F_X10_picture mi w x1 x2 x3 = some c ∧ ∃ e, F_X11_picture mi w x1 x2 x3 = some e ∧ c = e.1 ∧ Inv e.2 w := by
  unfold F_X10_picture F_X11_picture
  rcases pic_at I x1 with ⟨h1, h2⟩ | ⟨j, ⟨hj, rfl⟩, h1, h3, h2⟩
  · rw [h1, Option.bind_some, onO_n, h2 _ w (keep_c mi), Option.bind_some]
    dsimp only
    rw [if_pos rfl]
    exact ⟨_, rfl, _, rfl, rfl, Inv_m I (keep_u3 rfl (keep_c mi))⟩
  · rw [h1, Option.bind_some, onO_s, h2 _ w (keep_c mi), Option.bind_some]
    dsimp only
    rw [if_neg ne10]
    have K : Keep mi (u3 (u3 mi 10 0 0 0) 10 0 38 (nI j)) := keep_u3 rfl (keep_c mi)
    rcases pk_ix x2 (n := 5) (by omega) with h | h | ⟨a, ha, rfl⟩
    · rw [if_pos h, if_neg (fun q => q.1 h)]
      exact ⟨_, rfl, _, rfl, rfl, Inv_m I K⟩
    · rw [if_neg (ge_nn (by omega) h), if_pos (show 5 ≤ x2 from h), if_neg (fun q => q.2 (ge_gt (n := 4) (by omega) h))]
      exact ⟨_, rfl, _, rfl, rfl, Inv_m I K⟩
    · have a0 : ¬ nI a < 0 := nI_pos (by omega)
      have a5 : ¬ (5 : Int32) ≤ nI a := by rw [i5, nle (by omega) (by omega)]; omega
      have a4 : ¬ (4 : Int32) < nI a := by rw [i4, nlt (by omega) (by omega)]; omega
      rw [if_neg a0, if_neg a5, if_pos (And.intro a0 a4)]
      rcases pk_ix x3 (n := 5) (by omega) with h | h | ⟨b, hb, rfl⟩
      · rw [if_pos h, if_neg (fun q => q.1 h)]
        exact ⟨_, rfl, _, rfl, rfl, Inv_m I K⟩
      · rw [if_neg (ge_nn (by omega) h), if_neg (show ¬ x3 < 5 from ge_nl (n := 5) (by omega) h), if_neg (fun q => q.2 (ge_gt (n := 4) (by omega) h))]
        exact ⟨_, rfl, _, rfl, rfl, Inv_m I K⟩
      · have b0 : ¬ nI b < 0 := nI_pos (by omega)
        have b5 : nI b < (5 : Int32) := by rw [i5, nlt (by omega) (by omega)]; omega
        have b4 : ¬ (4 : Int32) < nI b := by rw [i4, nlt (by omega) (by omega)]; omega
        rw [if_neg b0, if_pos b5, if_pos (And.intro b0 b4), c_colourAt w ha hb, Option.bind_some, m_colourAt w u3_s hj ha hb, Option.bind_some]
        obtain ⟨co, hco⟩ := h3
        obtain ⟨-, p1, p2⟩ := hco (5 * b + a) (by omega)
        refine ⟨_, rfl, _, rfl, ?_, Inv_m I K⟩
        show mi 30 j (5 * b + a) = (u3 (u3 mi 10 0 0 0) 10 0 38 (nI j)) 57 0 (26 * j + (1 + (5 * b + a)))
        rw [u3_n (by omega), u3_n (by omega), p1, p2]
theorem c_part {mi : MI} (w : WS) {i a p : Nat} (ha : a < 40) (hp : p < 4) : F_X0_part mi w i (nI a) (nI p) = some (mi 29 i (4 * a + p)) := by
  unfold F_X0_part
  rw [i4, nmul, nadd, if_neg (nI_pos (by omega)), if_neg (show ¬ (160 : Int32) ≤ nI (a * 4 + p) by rw [show (160 : Int32) = nI 160 from rfl, nle (by omega) (by omega)]; omega), ck_in (by omega) (by omega), ncl (by omega), Nat.mul_comm a 4]
theorem m_deedOf {m : MI} (w : WS) {j a p : Nat} (h35 : m 10 0 35 = nI j) (hj : j < 2) (ha : a < 40) (hp : p < 4) : F_X11_deedOf m w (nI a) (nI p) = some (m 56 0 (161 * j + (1 + (4 * a + p)))) := by
  unfold F_X11_deedOf
  rw [h35]
  show ck (¬ (((((nI 161 * nI j) + nI 1) + (nI 4 * nI a)) + nI p) < 0 ∨ 1288 ≤ ((((nI 161 * nI j) + nI 1) + (nI 4 * nI a)) + nI p).toNatClampNeg)) (some (m 56 0 ((((nI 161 * nI j) + nI 1) + (nI 4 * nI a)) + nI p).toNatClampNeg)) = _
  rw [nmul, nmul, nadd, nadd, nadd, ck_in (by omega) (by omega), ncl (by omega)]
  rw [show 161 * j + 1 + 4 * a + p = 161 * j + (1 + (4 * a + p)) by omega]
theorem m_deeds {m : MI} (w : WS) {j : Nat} (h35 : m 10 0 35 = nI j) (hj : j < 2) : F_X11_deeds m w = some (m 56 0 (161 * j)) := by
  unfold F_X11_deeds
  rw [h35]
  show ck (¬ ((nI 161 * nI j) < 0 ∨ 1288 ≤ (nI 161 * nI j).toNatClampNeg)) (some (m 56 0 (nI 161 * nI j).toNatClampNeg)) = _
  rw [nmul, ck_in (by omega) (by omega), ncl (by omega)]
theorem m_markOf {m : MI} (w : WS) {j a p : Nat} (h : m 10 0 44 = nI j) (hj : j < 2) (ha : a < 8) (hp : p < 4) : F_X11_markOf m w (nI a) (nI p) = some (m 58 0 (33 * j + (1 + (4 * a + p)))) := by
  unfold F_X11_markOf
  rw [h]
  show ck (¬ (((((nI 33 * nI j) + nI 1) + (nI 4 * nI a)) + nI p) < 0 ∨ 264 ≤ ((((nI 33 * nI j) + nI 1) + (nI 4 * nI a)) + nI p).toNatClampNeg)) (some (m 58 0 ((((nI 33 * nI j) + nI 1) + (nI 4 * nI a)) + nI p).toNatClampNeg)) = _
  rw [nmul, nmul, nadd, nadd, nadd, ck_in (by omega) (by omega), ncl (by omega)]
  rw [show 33 * j + 1 + 4 * a + p = 33 * j + (1 + (4 * a + p)) by omega]
theorem m_allMarks {m : MI} (w : WS) {j : Nat} (h : m 10 0 44 = nI j) (hj : j < 2) : F_X11_allMarks m w = some (m 58 0 (33 * j)) := by
  unfold F_X11_allMarks
  rw [h]
  show ck (¬ ((nI 33 * nI j) < 0 ∨ 264 ≤ (nI 33 * nI j).toNatClampNeg)) (some (m 58 0 (nI 33 * nI j).toNatClampNeg)) = _
  rw [nmul, ck_in (by omega) (by omega), ncl (by omega)]
theorem not_m1 {a : Nat} (ha : a < 2147483648) : ¬ nI a = -1 := fun q => by
  have := nI_pos (n := a) ha
  rw [q] at this
  exact this (by decide)
theorem op_deed {mi : MI} {w : WS} (I : Inv mi w) (x1 : Int32) (x2 : Int32) (x3 : Int32) : ∃ c, F_X10_deed mi w x1 x2 x3 = some c ∧ ∃ e, F_X11_deed mi w x1 x2 x3 = some e ∧ c = e.1 ∧ Inv e.2 w := by
  unfold F_X10_deed F_X11_deed
  rcases day_at I x1 with ⟨h1, h2⟩ | ⟨j, ⟨hj, rfl⟩, h1, h3, h2⟩
  · rw [h1, Option.bind_some, onO_n, h2 _ w (keep_c mi), Option.bind_some]
    dsimp only
    rw [if_pos rfl]
    exact ⟨_, rfl, _, rfl, rfl, Inv_m I (keep_u3 rfl (keep_u3 rfl (keep_u3 rfl (keep_c mi))))⟩
  · rw [h1, Option.bind_some, onO_s, h2 _ w (keep_c mi), Option.bind_some]
    dsimp only
    rw [if_neg ne10]
    have K : Keep mi (u3 (u3 (u3 (u3 mi 10 0 0 0) 10 0 35 (nI j)) 10 0 36 0) 10 0 37 0) := keep_u3 rfl (keep_u3 rfl (keep_u3 rfl (keep_c mi)))
    have h35 : (u3 (u3 (u3 (u3 mi 10 0 0 0) 10 0 35 (nI j)) 10 0 36 0) 10 0 37 0) 10 0 35 = nI j := by rw [u3_n (by omega), u3_n (by omega), u3_s]
    have h56 : ∀ k, (u3 (u3 (u3 (u3 mi 10 0 0 0) 10 0 35 (nI j)) 10 0 36 0) 10 0 37 0) 56 0 k = mi 56 0 k := fun k => by rw [u3_n (by omega), u3_n (by omega), u3_n (by omega), u3_n (by omega)]
    generalize (u3 (u3 (u3 (u3 mi 10 0 0 0) 10 0 35 (nI j)) 10 0 36 0) 10 0 37 0) = m at *
    obtain ⟨n, hn, g1, g2, g3⟩ := h3
    rw [g1, m_deeds w h35 hj, h56, g2]
    by_cases hm : x2 = -1
    · subst hm
      rw [if_pos rfl, if_pos rfl]
      by_cases h0 : x3 = 0
      · rw [if_pos h0, if_pos h0, Option.bind_some]
        exact ⟨_, rfl, _, rfl, rfl, Inv_m I K⟩
      · rw [if_neg h0, if_neg h0, if_pos (by decide)]
        exact ⟨_, rfl, _, rfl, rfl, Inv_m I K⟩
    · rw [if_neg hm, if_neg hm, Option.bind_some]
      by_cases hs : ∃ s, s < n ∧ x2 = nI s
      · rw [if_pos ((in_sheet (by omega) x2).mpr hs)]
        obtain ⟨s, hs, rfl⟩ := hs
        have s0 : ¬ nI s < 0 := nI_pos (by omega)
        rw [if_neg s0, if_neg (by rw [nle (by omega) (by omega)]; omega)]
        rcases pk_ix x3 (n := 4) (by omega) with h | h | ⟨p, hp, rfl⟩
        · rw [if_pos h, if_neg (fun q => q.1 h)]
          exact ⟨_, rfl, _, rfl, rfl, Inv_m I K⟩
        · rw [if_neg (ge_nn (by omega) h), if_neg (show ¬ x3 < 4 from ge_nl (n := 4) (by omega) h), if_neg (fun q => q.2 (ge_gt (n := 3) (by omega) h))]
          exact ⟨_, rfl, _, rfl, rfl, Inv_m I K⟩
        · have b0 : ¬ nI p < 0 := nI_pos (by omega)
          have b5 : nI p < (4 : Int32) := by rw [i4, nlt (by omega) (by omega)]; omega
          have b4 : ¬ (3 : Int32) < nI p := by rw [i3, nlt (by omega) (by omega)]; omega
          rw [if_neg b0, if_pos b5, if_pos (And.intro b0 b4), c_part w (by omega) hp, Option.bind_some, m_deedOf w h35 hj (by omega) hp, Option.bind_some]
          refine ⟨_, rfl, _, rfl, ?_, Inv_m I K⟩
          show mi 29 j (4 * s + p) = m 56 0 (161 * j + (1 + (4 * s + p)))
          rw [h56]
          exact (g3 s hs).1 p hp
      · rw [if_neg fun q => hs ((in_sheet (by omega) x2).mp q)]
        by_cases h0 : x2 < 0
        · rw [if_pos h0]
          exact ⟨_, rfl, _, rfl, rfl, Inv_m I K⟩
        · rw [if_neg h0]
          obtain ⟨s, hs2, rfl⟩ := nI_of h0
          rw [if_pos (by rw [nle (by omega) (by omega)]; exact Nat.le_of_not_lt fun q => hs ⟨s, q, rfl⟩)]
          exact ⟨_, rfl, _, rfl, rfl, Inv_m I K⟩
/-- a mark is there, by the class's test -/
theorem in_mark {n : Nat} (hn : n ≤ 8) (x : Int32) : (¬ (x < 0) ∧ (¬ (nI n ≤ x) ∧ (¬ (8 ≤ x)))) ↔ ∃ s, s < n ∧ x = nI s := by
  constructor
  · rintro ⟨h0, h1, h2⟩
    obtain ⟨j, hj, rfl⟩ := nI_of h0
    rw [nle (by omega) (by omega)] at h1
    exact ⟨j, by omega, rfl⟩
  · rintro ⟨j, hj, rfl⟩
    rw [i8, nle (by omega) (by omega), nle (by omega) (by omega)]
    exact ⟨nI_pos (by omega), by omega, by omega⟩
theorem op_mark {mi : MI} {w : WS} (I : Inv mi w) (x1 : Int32) (x2 : Int32) (x3 : Int32) : ∃ c, F_X10_mark mi w x1 x2 x3 = some c ∧ ∃ e, F_X11_mark mi w x1 x2 x3 = some e ∧ c = e.1 ∧ Inv e.2 w := by
  unfold F_X10_mark F_X11_mark
  rcases mark_at I x1 with ⟨h1, h2⟩ | ⟨j, ⟨hj, rfl⟩, h1, h3, h2⟩
  · rw [h1, Option.bind_some, onO_n, h2 _ w (keep_c mi), Option.bind_some]
    dsimp only
    rw [if_pos rfl]
    exact ⟨_, rfl, _, rfl, rfl, Inv_m I (keep_u3 rfl (keep_c mi))⟩
  · rw [h1, Option.bind_some, onO_s, h2 _ w (keep_c mi), Option.bind_some]
    dsimp only
    rw [if_neg ne10]
    have K : Keep mi (u3 (u3 mi 10 0 0 0) 10 0 44 (nI j)) := keep_u3 rfl (keep_c mi)
    have h44 : (u3 (u3 mi 10 0 0 0) 10 0 44 (nI j)) 10 0 44 = nI j := u3_s
    have h58 : ∀ k, (u3 (u3 mi 10 0 0 0) 10 0 44 (nI j)) 58 0 k = mi 58 0 k := fun k => by rw [u3_n (by omega), u3_n (by omega)]
    generalize (u3 (u3 mi 10 0 0 0) 10 0 44 (nI j)) = m at *
    obtain ⟨n, hn, g1, g2, g3⟩ := h3
    rw [g1, m_allMarks w h44 hj, h58, g2]
    by_cases hm : x2 = -1
    · subst hm
      rw [if_pos rfl, if_pos rfl]
      by_cases h0 : x3 = 0
      · rw [if_pos h0, if_pos h0, Option.bind_some]
        exact ⟨_, rfl, _, rfl, rfl, Inv_m I K⟩
      · rw [if_neg h0, if_neg (show ¬ (¬ ((-1 : Int32) < 0) ∧ (¬ (nI n ≤ -1) ∧ ¬ ((8 : Int32) ≤ -1))) from fun q => q.1 (by decide)), if_neg h0]
        exact ⟨_, rfl, _, rfl, rfl, Inv_m I K⟩
    · rw [if_neg hm, if_neg hm, Option.bind_some]
      by_cases hs : ∃ s, s < n ∧ x2 = nI s
      · rw [if_pos ((in_sheet (by omega) x2).mpr hs), if_pos ((in_mark hn x2).mpr hs)]
        obtain ⟨s, hs, rfl⟩ := hs
        rw [ck_in (show s < 8 by omega) (by omega), ck_in (show s < 8 by omega) (by omega), ck_in (show s < 8 by omega) (by omega), ck_in (show s < 8 by omega) (by omega), ncl (show s < 2147483648 by omega)]
        obtain ⟨⟨x, hx, p1, p2⟩, ⟨y, hy, q1, q2⟩, r, z⟩ := g3 s hs
        have hz : mi 58 0 (33 * j + (1 + 4 * s)) = b2 (mi 33 j s = -1) := by
          rcases z with ⟨z1, z2⟩ | ⟨v, hv, z1, z2⟩
          · rw [z2, b2_pos z1]
          · rw [z2, b2_neg (by rw [z1]; exact not_m1 (by omega))]
        by_cases e0 : x3 = 0
        · rw [if_pos e0, if_pos (And.intro (by rw [e0]; decide) (by rw [e0]; decide)), e0, i0, m_markOf w h44 hj (by omega) (by omega), Option.bind_some]
          refine ⟨_, rfl, _, rfl, ?_, Inv_m I K⟩
          show b2 (mi 33 j s = -1) = m 58 0 (33 * j + (1 + (4 * s + 0)))
          rw [h58, Nat.add_zero, hz]
        · rw [if_neg e0]
          by_cases e1 : x3 = 1
          · rw [if_pos e1, if_pos (And.intro (by rw [e1]; decide) (by rw [e1]; decide)), e1, i1, m_markOf w h44 hj (by omega) (by omega), Option.bind_some]
            refine ⟨_, rfl, _, rfl, ?_, Inv_m I K⟩
            show mi 31 j s = m 58 0 (33 * j + (1 + (4 * s + 1)))
            rw [h58, p1, p2]
          · rw [if_neg e1]
            by_cases e2 : x3 = 2
            · rw [if_pos e2, if_pos (And.intro (by rw [e2]; decide) (by rw [e2]; decide)), e2, i2, m_markOf w h44 hj (by omega) (by omega), Option.bind_some]
              refine ⟨_, rfl, _, rfl, ?_, Inv_m I K⟩
              show mi 32 j s = m 58 0 (33 * j + (1 + (4 * s + 2)))
              rw [h58, q1, q2]
            · rw [if_neg e2]
              by_cases e3 : x3 = 3
              · rw [if_pos e3, if_pos (And.intro (by rw [e3]; decide) (by rw [e3]; decide)), e3, i3, m_markOf w h44 hj (by omega) (by omega), Option.bind_some]
                refine ⟨_, rfl, _, rfl, ?_, Inv_m I K⟩
                show mi 33 j s = m 58 0 (33 * j + (1 + (4 * s + 3)))
                rw [h58, r]
              · rw [if_neg e3]
                have : ¬ (¬ x3 < 0 ∧ ¬ 3 < x3) := by
                  rintro ⟨f1, f2⟩
                  obtain ⟨v, hv, rfl⟩ := nI_of f1
                  have f2 : ¬ nI 3 < nI v := f2
                  rw [nlt (by omega) (by omega)] at f2
                  rcases (by omega : v = 0 ∨ v = 1 ∨ v = 2 ∨ v = 3) with rfl | rfl | rfl | rfl
                  · exact e0 rfl
                  · exact e1 rfl
                  · exact e2 rfl
                  · exact e3 rfl
                rw [if_neg this]
                exact ⟨_, rfl, _, rfl, rfl, Inv_m I K⟩
      · rw [if_neg fun q => hs ((in_sheet (by omega) x2).mp q), if_neg fun q => hs ((in_mark hn x2).mp q)]
        exact ⟨_, rfl, _, rfl, rfl, Inv_m I K⟩
