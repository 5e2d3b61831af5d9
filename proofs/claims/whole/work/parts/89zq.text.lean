/-! TEXT: the call -/
def mm0 (m : MI) : MI := u3 (u3 (u3 (u3 (u3 m 10 0 0 0) 10 0 11 ((u3 m 10 0 0 0) 51 0 0)) 51 0 0 0) 52 0 0 0) 53 0 0 (-1)
theorem mm0_f {m : MI} {c i j : Nat} (h1 : ¬ (c = 10 ∧ i = 0)) (h2 : ¬ (c = 51 ∧ i = 0 ∧ j = 0)) (h3 : ¬ (c = 52 ∧ i = 0 ∧ j = 0)) (h4 : ¬ (c = 53 ∧ i = 0 ∧ j = 0)) : mm0 m c i j = m c i j := by
  unfold mm0
  rw [u3_n (by omega), u3_n (by omega), u3_n (by omega), u3_n (by omega), u3_n (by omega)]
theorem mm0_v {m : MI} : mm0 m 10 0 11 = m 51 0 0 ∧ mm0 m 51 0 0 = 0 ∧ mm0 m 52 0 0 = 0 ∧ mm0 m 53 0 0 = -1 := by
  unfold mm0
  refine ⟨?_, ?_, ?_, u3_s⟩
  · rw [u3_n (by omega), u3_n (by omega), u3_n (by omega), u3_s, u3_n (by omega)]
  · rw [u3_n (by omega), u3_n (by omega), u3_s]
  · rw [u3_n (by omega), u3_s]
def cc0 (m : MI) : MI := u3 (u3 (u3 m 7 0 1 0) 7 0 2 0) 7 0 3 (-1)
theorem cc0_f {m : MI} {c i j : Nat} (h1 : ¬ (c = 7 ∧ i = 0)) : cc0 m c i j = m c i j := by
  unfold cc0
  rw [u3_n (by omega), u3_n (by omega), u3_n (by omega)]
theorem cc0_v {m : MI} : cc0 m 7 0 1 = 0 ∧ cc0 m 7 0 2 = 0 ∧ cc0 m 7 0 3 = -1 := by
  unfold cc0
  exact ⟨by rw [u3_n (by omega), u3_n (by omega), u3_s], by rw [u3_n (by omega), u3_s], u3_s⟩
/-- the place where a text goes -/
theorem tx_place {cn : Nat → Nat} (hcn : ∀ s, s < 4 → cn s ≤ 2) (x1 x2 : Int32) :
    (∃ s k, s < 4 ∧ x1 = nI s ∧ k < 2 ∧ ((x2 = -1 ∧ k = cn s) ∨ (x2 = nI k ∧ k < cn s)) ∧ (∀ (m : MI) (w : WS), m 21 0 s = nI (cn s) → F_X8_hasPlaceFor m w 0 x1 x2 = some 1) ∧ ∀ (m : MI) (w : WS), m 54 0 s = nI (cn s) → F_X11_text m w x1 x2 = (F_X11_readText (mm0 m) w x1).bind (txT x1 x2)) ∨
    ((∀ (m : MI) (w : WS), (∀ s, s < 4 → m 21 0 s = nI (cn s)) → F_X8_hasPlaceFor m w 0 x1 x2 = some 0) ∧ ∀ (m : MI) (w : WS), (∀ s, s < 4 → m 54 0 s = nI (cn s)) → F_X11_text m w x1 x2 = some (-2, mm0 m, w)) := by
  by_cases h0 : x1 < 0
  · refine Or.inr ⟨fun m w _ => ?_, fun m w _ => ?_⟩
    · unfold F_X8_hasPlaceFor
      rw [if_pos h0]
    · unfold F_X11_text
      rw [lt_e, lt_e, lt_e, lt_e, if_neg (fun z => z.1 h0)]
      rfl
  · obtain ⟨s, hs31, rfl⟩ := nI_of h0
    by_cases h4 : s < 4
    · have c2 := hcn s h4
      have q1 : nI s < 4 := by rw [show (4 : Int32) = nI 4 from rfl, nlt (by omega) (by omega)]; exact h4
      have q2 : ¬ (nI s < 0) ∧ ¬ ((3 : Int32) < nI s) := ⟨h0, by rw [show (3 : Int32) = nI 3 from rfl, nlt (by omega) (by omega)]; omega⟩
      have e54 : ∀ (m : MI), m 54 0 s = nI (cn s) → mm0 m 54 0 s = nI (cn s) := fun m h => by rw [mm0_f (by omega) (by omega) (by omega) (by omega)]; exact h
      by_cases hx : x2 = -1
      · by_cases hc : cn s < 2
        · refine Or.inl ⟨s, cn s, h4, rfl, hc, Or.inl ⟨hx, rfl⟩, fun m w h => ?_, fun m w h => ?_⟩
          · unfold F_X8_hasPlaceFor
            rw [if_neg h0, if_pos q1, if_pos hx, ck_in (by omega) (by omega), ncl (by omega), h, b2_pos (by rw [show (2 : Int32) = nI 2 from rfl, nle (by omega) (by omega)]; omega)]
          · unfold F_X11_text
            rw [lt_e, lt_e, lt_e, lt_e, if_pos q2, if_pos hx, ck_in (by omega) (by omega), ncl (by omega)]
            refine (if_neg ?_).trans ?_
            · show ¬ mm0 m 54 0 s = 2
              rw [e54 m h, show (2 : Int32) = nI 2 from rfl, neq (by omega) (by omega)]; omega
            · unfold txT
              rw [ncl (by omega)]
              rfl
        · refine Or.inr ⟨fun m w h => ?_, fun m w h => ?_⟩
          · unfold F_X8_hasPlaceFor
            rw [if_neg h0, if_pos q1, if_pos hx, ck_in (by omega) (by omega), ncl (by omega), h s h4, b2_neg (by rw [show (2 : Int32) = nI 2 from rfl, nle (by omega) (by omega)]; omega)]
          · unfold F_X11_text
            rw [lt_e, lt_e, lt_e, lt_e, if_pos q2, if_pos hx, ck_in (by omega) (by omega), ncl (by omega)]
            refine (if_pos ?_).trans rfl
            show mm0 m 54 0 s = 2
            rw [e54 m (h s h4), show cn s = 2 by omega]
            rfl
      · by_cases hj : ∃ j, j < cn s ∧ x2 = nI j
        · obtain ⟨k, hk, ek⟩ := id hj
          refine Or.inl ⟨s, k, h4, rfl, by omega, Or.inr ⟨ek, hk⟩, fun m w h => ?_, fun m w h => ?_⟩
          · unfold F_X8_hasPlaceFor
            rw [if_neg h0, if_pos q1, if_neg hx]
            rcases c_at w h4 c2 h x2 with ⟨hno, -⟩ | ⟨j, -, hc⟩
            · exact absurd hj hno
            · rw [hc, Option.bind_some]; exact if_pos (Or.inr rfl)
          · unfold F_X11_text
            rw [lt_e, lt_e, lt_e, lt_e, if_pos q2, if_neg hx]
            have hi : F_X11_is (mm0 m) w (nI s) x2 = some 1 := (m_at w h4 c2 (e54 m h) x2).2 hj
            refine (congrArg (fun o => Option.bind o _) hi).trans ?_
            rw [Option.bind_some]
            refine (if_neg (show ¬ (1 : Int32) = 0 by decide)).trans ?_
            rfl
        · refine Or.inr ⟨fun m w h => ?_, fun m w h => ?_⟩
          · unfold F_X8_hasPlaceFor
            rw [if_neg h0, if_pos q1, if_neg hx]
            rcases c_at w h4 c2 (h s h4) x2 with ⟨-, hc⟩ | ⟨j, hj2, -⟩
            · rw [hc, Option.bind_some]; exact if_pos (Or.inl rfl)
            · exact absurd ⟨j, hj2⟩ hj
          · unfold F_X11_text
            rw [lt_e, lt_e, lt_e, lt_e, if_pos q2, if_neg hx]
            have hi : F_X11_is (mm0 m) w (nI s) x2 = some 0 := (m_at w h4 c2 (e54 m (h s h4)) x2).1 hj
            refine (congrArg (fun o => Option.bind o _) hi).trans ?_
            rw [Option.bind_some]
            exact (if_pos rfl).trans rfl
    · have q1 : ¬ nI s < 4 := by rw [show (4 : Int32) = nI 4 from rfl, nlt (by omega) (by omega)]; exact h4
      have q2 : (3 : Int32) < nI s := by rw [show (3 : Int32) = nI 3 from rfl, nlt (by omega) (by omega)]; omega
      refine Or.inr ⟨fun m w _ => ?_, fun m w _ => ?_⟩
      · unfold F_X8_hasPlaceFor
        rw [if_neg h0, if_neg q1]
      · unfold F_X11_text
        rw [lt_e, lt_e, lt_e, lt_e, if_neg (fun z => z.2 q2)]
        rfl
/-- what is between the versions -/
theorem vx {c i j s k : Nat} (hs : s < 4) (hk : k < 2) (h : 1 ≤ ver c i j ∧ ver c i j ≤ 3) : (¬ (c = 54 ∧ i = 0 ∧ j = s) ∧ ¬ (c = 55 + s ∧ i = 0 ∧ wdS s * k ≤ j ∧ j < wdS s * k + wdS s) ∧ ¬ c = 10 ∧ ¬ c = 59 ∧ ¬ c = 60) ∧ (¬ (c = 51 ∧ i = 0 ∧ j = 0) ∧ ¬ (c = 52 ∧ i = 0 ∧ j = 0) ∧ ¬ (c = 53 ∧ i = 0 ∧ j = 0)) ∧ ¬ (i = k ∧ okS s c j) ∧ ¬ (c = 21 ∧ i = 0) ∧ (¬ c = 4 ∧ ¬ c = 6 ∧ ¬ c = 34 ∧ ¬ c = 35) ∧ ¬ (i = 8 ∧ (c = 0 ∨ c = 1 ∨ c = 5 ∨ (26 ≤ c ∧ c ≤ 33))) ∧ ¬ (c = 7 ∧ i = 0) := by
  refine ⟨⟨fun z => ?_, fun z => ?_, fun z => ?_, fun z => ?_, fun z => ?_⟩, ⟨fun z => ?_, fun z => ?_, fun z => ?_⟩, fun z => ?_, fun z => ?_, ⟨fun z => ?_, fun z => ?_, fun z => ?_, fun z => ?_⟩, fun z => ?_, fun z => ?_⟩
  · obtain ⟨rfl, rfl, rfl⟩ := z
    rw [ver_54] at h; omega
  · obtain ⟨rfl, rfl, z1, z2⟩ := z
    have hh : s = 0 ∨ s = 1 ∨ s = 2 ∨ s = 3 := by omega
    rcases hh with hh | hh | hh | hh <;> subst hh
    · have e : wdS 0 = 40 := rfl
      rw [e] at z1 z2
      have e2 : ver (55 + 0) 0 j = j / 80 := ver_55
      rw [e2] at h
      have : 40 * k ≤ 40 := by omega
      omega
    · have e : wdS 1 = 161 := rfl
      rw [e] at z1 z2
      have e2 : ver (55 + 1) 0 j = j / 322 := ver_56
      rw [e2] at h
      have : 161 * k ≤ 161 := by omega
      omega
    · have e : wdS 2 = 26 := rfl
      rw [e] at z1 z2
      have e2 : ver (55 + 2) 0 j = j / 52 := ver_57
      rw [e2] at h
      have : 26 * k ≤ 26 := by omega
      omega
    · have e : wdS 3 = 33 := rfl
      rw [e] at z1 z2
      have e2 : ver (55 + 3) 0 j = j / 66 := ver_58
      rw [e2] at h
      have : 33 * k ≤ 33 := by omega
      omega
  · subst z; simp [ver] at h
  · subst z; simp [ver] at h
  · subst z; simp [ver] at h
  · obtain ⟨rfl, rfl, rfl⟩ := z
    rw [ver_51 (by omega)] at h; omega
  · obtain ⟨rfl, rfl, rfl⟩ := z
    rw [ver_51 (by omega)] at h; omega
  · obtain ⟨rfl, rfl, rfl⟩ := z
    rw [ver_51 (by omega)] at h; omega
  · obtain ⟨rfl, z⟩ := z
    have : c = 0 ∨ c = 1 ∨ c = 3 ∨ c = 5 ∨ (26 ≤ c ∧ c ≤ 33) := by unfold okS at z; omega
    rw [ver_o this] at h
    omega
  · obtain ⟨rfl, rfl⟩ := z
    rw [ver_t (by omega)] at h; omega
  · subst z; simp [ver] at h
  · subst z; simp [ver] at h
  · subst z; simp [ver] at h
  · subst z; simp [ver] at h
  · obtain ⟨rfl, z⟩ := z
    rw [ver_o (by omega)] at h
    omega
  · obtain ⟨rfl, rfl⟩ := z
    rw [ver_t (by omega)] at h; omega
theorem VR_gen {mF : MI} {cn : Nat → Nat} (h7 : mF 7 0 1 = 0) (h51 : mF 51 0 0 = 0) (h52 : mF 52 0 0 = mF 7 0 2) (h53 : mF 53 0 0 = mF 7 0 3) (hc : ∀ t, t < 4 → cn t ≤ 2 ∧ mF 21 0 t = nI (cn t) ∧ mF 54 0 t = nI (cn t)) (o0 : ∀ j, j < cn 0 → ShR mF j (40 * j)) (o1 : ∀ j, j < cn 1 → DayR mF j (161 * j)) (o2 : ∀ j, j < cn 2 → PicR mF j (26 * j)) (o3 : ∀ j, j < cn 3 → MarkR mF j (33 * j)) : VRel mF 0 := by
  refine ⟨⟨0, by omega, h7, h51, fun k hk => absurd hk (Nat.not_lt_zero k)⟩, ⟨h52, h53⟩, cn, fun t ht => ?_, fun j hj => ?_, fun j hj => ?_, fun j hj => ?_, fun j hj => ?_⟩
  · rw [Nat.mul_zero, Nat.zero_add]; exact hc t ht
  · rw [Nat.mul_zero, Nat.zero_add, Nat.zero_add]; exact o0 j hj
  · rw [Nat.mul_zero, Nat.zero_add, Nat.zero_add]; exact o1 j hj
  · rw [Nat.mul_zero, Nat.zero_add, Nat.zero_add]; exact o2 j hj
  · rw [Nat.mul_zero, Nat.zero_add, Nat.zero_add]; exact o3 j hj
/-- the objects, but one that may be new -/
theorem objs {mi mF : MI} {cn cn' : Nat → Nat} {s k : Nat}
    (fr : ∀ c i j, ((c = 0 ∨ c = 1 ∨ c = 5 ∨ (26 ≤ c ∧ c ≤ 33)) ∧ i < 2) ∨ (55 ≤ c ∧ c ≤ 58 ∧ i = 0) → ¬ (i = k ∧ okS s c j) → ¬ (c = 55 + s ∧ i = 0 ∧ wdS s * k ≤ j ∧ j < wdS s * k + wdS s) → mF c i j = mi c i j)
    (hcn : ∀ t, t < 4 → cn t ≤ 2 ∧ cn' t ≤ 2) (hold : ∀ t, t < 4 → ∀ j, j < cn' t → (t = s ∧ j = k) ∨ (¬ (t = s ∧ j = k) ∧ j < cn t))
    (o0 : ∀ j, j < cn 0 → ShR mi j (40 * j)) (o1 : ∀ j, j < cn 1 → DayR mi j (161 * j)) (o2 : ∀ j, j < cn 2 → PicR mi j (26 * j)) (o3 : ∀ j, j < cn 3 → MarkR mi j (33 * j))
    (n0 : s = 0 → k < cn' 0 → ShR mF k (40 * k)) (n1 : s = 1 → k < cn' 1 → DayR mF k (161 * k)) (n2 : s = 2 → k < cn' 2 → PicR mF k (26 * k)) (n3 : s = 3 → k < cn' 3 → MarkR mF k (33 * k)) :
    (∀ j, j < cn' 0 → ShR mF j (40 * j)) ∧ (∀ j, j < cn' 1 → DayR mF j (161 * j)) ∧ (∀ j, j < cn' 2 → PicR mF j (26 * j)) ∧ (∀ j, j < cn' 3 → MarkR mF j (33 * j)) := by
  refine ⟨fun j hj => ?_, fun j hj => ?_, fun j hj => ?_, fun j hj => ?_⟩
  · have h2 := (hcn 0 (by omega)).2
    rcases hold 0 (by omega) j hj with ⟨a, rfl⟩ | ⟨a, hj2⟩
    · exact n0 a.symm hj
    · have nk : ∀ c p, ¬ (c = 0 ∨ c = 1 ∨ (29 ≤ c ∧ c ≤ 33)) → ¬ (j = k ∧ okS s c p) := fun c p hc z => by
        obtain ⟨z1, z2⟩ := z
        unfold okS at z2
        omega
      refine ShR_of (fun p => fr 5 j p (by omega) (nk _ _ (by omega)) (by omega)) (fun p _ => fr 26 j p (by omega) (nk _ _ (by omega)) (by omega)) (fun p _ => fr 27 j p (by omega) (nk _ _ (by omega)) (by omega)) (fun p _ => fr 28 j p (by omega) (nk _ _ (by omega)) (by omega)) (fun p hp => fr 55 0 _ (by omega) (fun z => ?_) (fun z => ?_)) (o0 j hj2)
      · obtain ⟨-, z⟩ := z; unfold okS at z; omega
      · have es : s = 0 := by omega
        subst es
        have e : wdS 0 = 40 := rfl
        rw [e] at z
        omega
  · have h2 := (hcn 1 (by omega)).2
    rcases hold 1 (by omega) j hj with ⟨a, rfl⟩ | ⟨a, hj2⟩
    · exact n1 a.symm hj
    · have nk : ∀ c p, (c = 0 ∨ c = 29) → ¬ (j = k ∧ okS s c p) := fun c p hc z => by
        obtain ⟨z1, z2⟩ := z
        unfold okS at z2
        omega
      refine DayR_of (fr 0 j 0 (by omega) (nk _ _ (by omega)) (by omega)) (fun p _ => fr 29 j p (by omega) (nk _ _ (by omega)) (by omega)) (fun p hp => fr 56 0 _ (by omega) (fun z => ?_) (fun z => ?_)) (o1 j hj2)
      · obtain ⟨-, z⟩ := z; unfold okS at z; omega
      · have es : s = 1 := by omega
        subst es
        have e : wdS 1 = 161 := rfl
        rw [e] at z
        omega
  · have h2 := (hcn 2 (by omega)).2
    rcases hold 2 (by omega) j hj with ⟨a, rfl⟩ | ⟨a, hj2⟩
    · exact n2 a.symm hj
    · have nk : ∀ c p, c = 30 → ¬ (j = k ∧ okS s c p) := fun c p hc z => by
        obtain ⟨z1, z2⟩ := z
        unfold okS at z2
        omega
      refine PicR_of (fun p _ => fr 30 j p (by omega) (nk _ _ (by omega)) (by omega)) (fun p hp => fr 57 0 _ (by omega) (fun z => ?_) (fun z => ?_)) (o2 j hj2)
      · obtain ⟨-, z⟩ := z; unfold okS at z; omega
      · have es : s = 2 := by omega
        subst es
        have e : wdS 2 = 26 := rfl
        rw [e] at z
        omega
  · have h2 := (hcn 3 (by omega)).2
    rcases hold 3 (by omega) j hj with ⟨a, rfl⟩ | ⟨a, hj2⟩
    · exact n3 a.symm hj
    · have nk : ∀ c p, (c = 1 ∨ c = 31 ∨ c = 32 ∨ c = 33) → ¬ (j = k ∧ okS s c p) := fun c p hc z => by
        obtain ⟨z1, z2⟩ := z
        unfold okS at z2
        omega
      refine MarkR_of (fr 1 j 0 (by omega) (nk _ _ (by omega)) (by omega)) (fun p _ => fr 31 j p (by omega) (nk _ _ (by omega)) (by omega)) (fun p _ => fr 32 j p (by omega) (nk _ _ (by omega)) (by omega)) (fun p _ => fr 33 j p (by omega) (nk _ _ (by omega)) (by omega)) (fun p hp => fr 58 0 _ (by omega) (fun z => ?_) (fun z => ?_)) (o3 j hj2)
      · obtain ⟨-, z⟩ := z; unfold okS at z; omega
      · have es : s = 3 := by omega
        subst es
        have e : wdS 3 = 33 := rfl
        rw [e] at z
        omega
/-- the new one -/
theorem new_obj {mC mM mF : MI} {s k : Nat} (hd : dnS s mC mM) (hc : ∀ c p, okS s c p → mF c k p = mC c 8 p) (hm : ∀ p, p < wdS s → mF (55 + s) 0 (wdS s * k + p) = mM 59 0 p) :
    (s = 0 → ShR mF k (40 * k)) ∧ (s = 1 → DayR mF k (161 * k)) ∧ (s = 2 → PicR mF k (26 * k)) ∧ (s = 3 → MarkR mF k (33 * k)) := by
  obtain ⟨d0, d1, d2, d3⟩ := hd
  refine ⟨fun e => ?_, fun e => ?_, fun e => ?_, fun e => ?_⟩
  · subst e
    obtain ⟨W, H, sl, n, cu, we, ro, g1, ⟨⟨a0, a1, a2, a3⟩, a4, a5, a6, a7, a8⟩, ⟨b0, b1, b2, b3⟩, b4, b5, b6, b7, b8⟩ := d0 rfl
    have o5 : ∀ p, p < 4 ∨ 7 ≤ p ∧ p < 11 → mF 5 k p = mC 5 8 p := fun p hp => hc 5 p (Or.inl ⟨rfl, Or.inl ⟨rfl, hp⟩⟩)
    have hm' : ∀ p, p < 40 → mF 55 0 (40 * k + p) = mM 59 0 p := hm
    refine ⟨W, H, sl, n, cu, we, ro, g1, ⟨⟨?_, ?_, ?_, ?_⟩, fun s hs => ⟨?_, ?_, ?_⟩, ?_, ?_, ?_, ?_⟩, ⟨⟨?_, ?_, ?_, ?_⟩, fun p hp => ?_, fun s hs => ?_⟩, b6, b7, b8⟩
    · rw [o5 _ (by omega)]; exact a0
    · rw [o5 _ (by omega)]; exact a1
    · rw [o5 _ (by omega)]; exact a2
    · rw [o5 _ (by omega)]; exact a3
    · rw [hc 26 s (Or.inl ⟨rfl, Or.inr (Or.inl ⟨rfl, hs⟩)⟩)]; exact (a4 s hs).1
    · rw [hc 27 s (Or.inl ⟨rfl, Or.inr (Or.inr (Or.inl ⟨rfl, hs⟩))⟩)]; exact (a4 s hs).2.1
    · rw [hc 28 s (Or.inl ⟨rfl, Or.inr (Or.inr (Or.inr ⟨rfl, hs⟩))⟩)]; exact (a4 s hs).2.2
    · rw [o5 _ (by omega)]; exact a5
    · rw [o5 _ (by omega)]; exact a6
    · rw [o5 _ (by omega)]; exact a7
    · rw [o5 _ (by omega)]; exact a8
    · exact (hm' 0 (by omega)).trans b0
    · exact (hm' 1 (by omega)).trans b1
    · exact (hm' 2 (by omega)).trans b2
    · exact (hm' 3 (by omega)).trans b3
    · rw [hm' _ (by omega)]; exact b4 p hp
    · rw [hm' _ (by omega)]; exact b5 s hs
  · subst e
    obtain ⟨n, q, g1, ⟨a0, a1, a2⟩, ⟨b0, b1, b2⟩⟩ := d1 rfl
    have hm' : ∀ p, p < 161 → mF 56 0 (161 * k + p) = mM 59 0 p := hm
    have c29 : ∀ p, p < 160 → mF 29 k p = mC 29 8 p := fun p hp => hc 29 p (Or.inr (Or.inl ⟨rfl, Or.inr ⟨rfl, hp⟩⟩))
    refine ⟨n, a0, ?_, (hm' 0 (by omega)).trans b1, fun j hj => ⟨fun p hp => ?_, ?_⟩⟩
    · rw [hc 0 0 (Or.inr (Or.inl ⟨rfl, Or.inl ⟨rfl, rfl⟩⟩))]; exact a1
    · rw [c29 _ (by omega), hm' _ (by omega), a2 _ (by omega), b2 _ (by omega)]
    · rw [c29 _ (by omega), c29 _ (by omega), c29 _ (by omega), c29 _ (by omega), a2 _ (by omega), a2 _ (by omega), a2 _ (by omega), a2 _ (by omega)]
      exact g1 j hj
  · subst e
    obtain ⟨n, co, g1, ⟨a0, a1, a2⟩, ⟨b0, b1, b2⟩⟩ := d2 rfl
    have hm' : ∀ p, p < 26 → mF 57 0 (26 * k + p) = mM 59 0 p := hm
    refine ⟨co, fun j hj => ⟨g1.1 j hj, ?_, ?_⟩⟩
    · rw [hc 30 j (Or.inr (Or.inr (Or.inl ⟨rfl, rfl, hj⟩)))]; exact a2 j hj
    · rw [hm' _ (by omega)]; exact b2 j hj
  · subst e
    obtain ⟨n, q, g1, ⟨a0, a1, a2⟩, ⟨b0, b1, b2⟩⟩ := d3 rfl
    have hm' : ∀ p, p < 33 → mF 58 0 (33 * k + p) = mM 59 0 p := hm
    have okm : ∀ c p, (c = 31 ∨ c = 32 ∨ c = 33) → p < 8 → okS 3 c p := fun c p h1 h2 => Or.inr (Or.inr (Or.inr ⟨rfl, by omega⟩))
    refine ⟨n, a0, ?_, (hm' 0 (by omega)).trans b1, fun j hj => ?_⟩
    · rw [hc 1 0 (Or.inr (Or.inr (Or.inr ⟨rfl, Or.inl ⟨rfl, rfl⟩⟩)))]; exact a1
    · obtain ⟨x1, x2, x3⟩ := a2 j hj
      obtain ⟨⟨x, y1, y2⟩, ⟨y, y3, y4⟩, y5⟩ := g1 j hj
      rw [hc 31 j (okm _ _ (by omega) (by omega)), hc 32 j (okm _ _ (by omega) (by omega)), hc 33 j (okm _ _ (by omega) (by omega)), hm' _ (by omega), hm' _ (by omega), hm' _ (by omega), hm' _ (by omega), b2 _ (by omega), b2 _ (by omega), b2 _ (by omega), b2 _ (by omega), x1, x2, x3]
      refine ⟨⟨x, y1, y2, y2⟩, ⟨y, y3, y4, y4⟩, rfl, ?_⟩
      rcases y5 with ⟨z1, z2⟩ | ⟨s, z1, z2, z3⟩
      · exact Or.inl ⟨z1, z2⟩
      · exact Or.inr ⟨s, z1, z2, z3⟩
