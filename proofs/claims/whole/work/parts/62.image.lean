/-! IMAGE, AGAIN -/
theorem nb_255 (x : Int32) : vp_nar .byte x &&& 255 = x &&& 255 := by
  rw [vp_nar_byte]
  apply Int32.toBitVec_inj.mp
  show (x.toBitVec.signExtend 8).signExtend 32 &&& 255#32 = x.toBitVec &&& 255#32
  generalize x.toBitVec = v
  apply BitVec.eq_of_getLsbD_eq
  intro i hi
  rw [BitVec.getLsbD_and, BitVec.getLsbD_and]
  have h8 : ∀ i, i < 32 → 8 ≤ i → (255#32).getLsbD i = false := by decide
  by_cases h : i < 8
  · rw [BitVec.getLsbD_signExtend, BitVec.getLsbD_signExtend]
    simp [h, hi, show i < 32 by omega]
  · rw [h8 i hi (by omega), Bool.and_false, Bool.and_false]
theorem ShR_cp {mi mi' : MI} {i b i' b' : Nat} (e : ∀ c k, okc c k → mi' c i' k = mi c i k) (e55 : ∀ k, k < 40 → mi' 55 0 (b' + k) = mi 55 0 (b + k)) (h : ShR mi i b) : ShR mi' i' b' := by
  obtain ⟨W, H, sl, n, cu, we, ro, h1, ⟨⟨c0, c1, c2, c3⟩, c4, c5, c6, c7, c8⟩, ⟨⟨d0, d1, d2, d3⟩, d4, d5⟩, h4⟩ := h
  have e5 : ∀ k, k < 4 ∨ 7 ≤ k ∧ k < 11 → mi' 5 i' k = mi 5 i k := fun k hk => e 5 k (by unfold okc; omega)
  refine ⟨W, H, sl, n, cu, we, ro, h1, ⟨⟨?_, ?_, ?_, ?_⟩, fun s hs => ?_, ?_, ?_, ?_, ?_⟩, ⟨⟨?_, ?_, ?_, ?_⟩, fun k hk => ?_, fun s hs => ?_⟩, h4⟩
  · rw [e5 0 (by omega)]; exact c0
  · rw [e5 1 (by omega)]; exact c1
  · rw [e5 2 (by omega)]; exact c2
  · rw [e5 3 (by omega)]; exact c3
  · rw [e 26 s (by unfold okc; omega), e 27 s (by unfold okc; omega), e 28 s (by unfold okc; omega)]; exact c4 s hs
  · rw [e5 7 (by omega)]; exact c5
  · rw [e5 8 (by omega)]; exact c6
  · rw [e5 9 (by omega)]; exact c7
  · rw [e5 10 (by omega)]; exact c8
  · have := e55 0 (by omega); rw [Nat.add_zero, Nat.add_zero] at this; rw [this]; exact d0
  · rw [e55 1 (by omega)]; exact d1
  · rw [e55 2 (by omega)]; exact d2
  · rw [e55 3 (by omega)]; exact d3
  · rw [e55 (4 + k) (by omega)]; exact d4 k hk
  · rw [e55 (34 + s) (by omega)]; exact d5 s hs
theorem VRel_cp {mi m : MI} {t' t : Nat} (ec : ∀ j, j < 2 → ∀ c k, okc c k → m c (2 * t' + j) k = mi c (2 * t + j) k) (et : ∀ c k, okt c k → m c t' k = mi c t k)
    (e50 : ∀ k, k < 600 → m 50 0 (600 * t' + k) &&& 255 = mi 50 0 (600 * t + k) &&& 255) (e51 : ∀ k, k < 1 → m 51 0 (1 * t' + k) = mi 51 0 (1 * t + k)) (e52 : ∀ k, k < 1 → m 52 0 (1 * t' + k) = mi 52 0 (1 * t + k)) (e53 : ∀ k, k < 1 → m 53 0 (1 * t' + k) = mi 53 0 (1 * t + k)) (e54 : ∀ k, k < 4 → m 54 0 (4 * t' + k) = mi 54 0 (4 * t + k))
    (e55 : ∀ k, k < 80 → m 55 0 (80 * t' + k) = mi 55 0 (80 * t + k)) (e56 : ∀ k, k < 322 → m 56 0 (322 * t' + k) = mi 56 0 (322 * t + k)) (e57 : ∀ k, k < 52 → m 57 0 (52 * t' + k) = mi 57 0 (52 * t + k)) (e58 : ∀ k, k < 66 → m 58 0 (66 * t' + k) = mi 58 0 (66 * t + k))
    (h : VRel mi t) : VRel m t' := by
  obtain ⟨⟨n, h1, h2, h3, h4⟩, ⟨h5, h6⟩, cn, h7, h8, h9, h10, h11⟩ := h
  have c2 : ∀ s, s < 4 → ∀ j, j < cn s → j < 2 := fun s hs j hj => by have := (h7 s hs).1; omega
  have g51 : m 51 0 t' = mi 51 0 t := by have := e51 0 (by omega); rwa [Nat.one_mul, Nat.one_mul] at this
  have g52 : m 52 0 t' = mi 52 0 t := by have := e52 0 (by omega); rwa [Nat.one_mul, Nat.one_mul] at this
  have g53 : m 53 0 t' = mi 53 0 t := by have := e53 0 (by omega); rwa [Nat.one_mul, Nat.one_mul] at this
  refine ⟨⟨n, h1, by rw [et 7 1 (by unfold okt; omega)]; exact h2, by rw [g51]; exact h3, fun k hk => by rw [et 20 k (by unfold okt; omega), e50 k (by omega)]; exact h4 k hk⟩, ⟨by rw [g52, et 7 2 (by unfold okt; omega)]; exact h5, by rw [g53, et 7 3 (by unfold okt; omega)]; exact h6⟩, cn, fun s hs => by rw [et 21 s (by unfold okt; omega), e54 s hs]; exact h7 s hs, fun j hj => ?_, fun j hj => ?_, fun j hj => ?_, fun j hj => ?_⟩
  · have := c2 0 (by omega) j hj
    exact ShR_cp (ec j this) (fun k hk => by rw [Nat.add_assoc, Nat.add_assoc]; exact e55 _ (by omega)) (h8 j hj)
  · have := c2 1 (by omega) j hj
    exact DayR_of (ec j this 0 0 (by unfold okc; omega)) (fun k hk => ec j this 29 k (by unfold okc; omega)) (fun k hk => by rw [Nat.add_assoc, Nat.add_assoc]; exact e56 _ (by omega)) (h9 j hj)
  · have := c2 2 (by omega) j hj
    exact PicR_of (fun k hk => ec j this 30 k (by unfold okc; omega)) (fun k hk => by rw [Nat.add_assoc, Nat.add_assoc]; exact e57 _ (by omega)) (h10 j hj)
  · have := c2 3 (by omega) j hj
    exact MarkR_of (ec j this 1 0 (by unfold okc; omega)) (fun k hk => ec j this 31 k (by unfold okc; omega)) (fun k hk => ec j this 32 k (by unfold okc; omega)) (fun k hk => ec j this 33 k (by unfold okc; omega)) (fun k hk => by rw [Nat.add_assoc, Nat.add_assoc]; exact e58 _ (by omega)) (h11 j hj)
/-- both halves' copy: version a is as b was, all else as it was -/
theorem both_cp {mi : MI} {w : WS} {a b : Nat} (ha : a < 4) (hb : b < 4) (h : a ≠ b) (V : VRel mi b) : ∃ r, F_X8_copyFrom mi w a b = some r ∧ (∀ c i k, ver c i k ≠ a ∨ 50 ≤ c → r c i k = mi c i k) ∧
    ∀ m : MI, (∀ c i k, c ≠ 10 → m c i k = r c i k) → ∃ e, F_X11_copyAll m w (nI b) (nI a) = some e ∧ VRel e a ∧ (∀ c i k, c ≠ 10 → ver c i k ≠ a → e c i k = mi c i k) := by
  obtain ⟨r, f1, k1, k2, k3⟩ := c_ver (mi := mi) (w := w) h
  refine ⟨r, f1, k3, fun m hm => ?_⟩
  obtain ⟨e, f2, e50, e51, e52, e53, e54, e55, e56, e57, e58, eo⟩ := m_copyAll (mi := m) (w := w) hb ha (Ne.symm h)
  have up : ∀ c i k, 50 ≤ c → m c i k = mi c i k := fun c i k hc => (hm c i k (by omega)).trans (k3 c i k (Or.inr hc))
  refine ⟨e, f2, VRel_cp (mi := mi) (t := b) ?_ ?_ ?_ ?_ ?_ ?_ ?_ ?_ ?_ ?_ ?_ V, ?_⟩
  · intro j hj c k ho
    have := (ver_ok (i := 0) ho).2
    rw [eo _ _ _ (by omega), hm _ _ _ (by omega), k1 j hj c k ho]
  · intro c k ho
    have ho' := ho
    unfold okt at ho'
    rw [eo _ _ _ (by omega), hm _ _ _ (by omega), k2 c k ho]
  · intro k hk
    rw [e50 k hk, nb_255, up 50 0 _ (by omega)]
  · intro k hk; rw [e51 k hk, up 51 0 _ (by omega)]
  · intro k hk; rw [e52 k hk, up 52 0 _ (by omega)]
  · intro k hk; rw [e53 k hk, up 53 0 _ (by omega)]
  · intro k hk; rw [e54 k hk, up 54 0 _ (by omega)]
  · intro k hk; rw [e55 k hk, up 55 0 _ (by omega)]
  · intro k hk; rw [e56 k hk, up 56 0 _ (by omega)]
  · intro k hk; rw [e57 k hk, up 57 0 _ (by omega)]
  · intro k hk; rw [e58 k hk, up 58 0 _ (by omega)]
  · intro c i k h10 hv
    rw [eo c i k (Or.inl hv), hm c i k h10, k3 c i k (Or.inl hv)]
theorem ver_99 {c i k : Nat} (h : c = 10 ∨ c = 72) : ver c i k = 99 := by rcases h with rfl | rfl <;> simp [ver]
theorem out_k {x : Int32} (hx : x < 0 ∨ ¬ x < 3) : ¬ (¬ (x < 0) ∧ (¬ ((2 : Int32) < x))) := by
  simp only [Int32.lt_iff_toInt_lt, show (0 : Int32).toInt = 0 from rfl, show (3 : Int32).toInt = 3 from rfl, show (2 : Int32).toInt = 2 from rfl] at hx ⊢
  omega
theorem op_image_out {mi : MI} {w : WS} (I : Inv mi w) {x : Int32} (hx : x < 0 ∨ ¬ x < 3) : ∃ e, F_X11_image mi w x = some e ∧ e.1 = 0 ∧ Inv e.2 w := by
  rw [F_X11_image, if_neg (out_k hx)]
  exact ⟨_, rfl, rfl, Inv_m I (keep_u3 rfl (keep_refl _))⟩
theorem op_again_out {mi : MI} {w : WS} (I : Inv mi w) {x : Int32} (hx : x < 0 ∨ ¬ x < 3) : ∃ e, F_X11_again mi w x = some e ∧ e.1 = 0 ∧ Inv e.2 w := by
  rw [F_X11_again, if_neg (out_k hx)]
  exact ⟨_, rfl, rfl, Inv_m I (keep_u3 rfl (keep_refl _))⟩
theorem lit_k {k : Nat} (hk : k < 3) : ¬ (nI k < 0) ∧ (¬ ((2 : Int32) < nI k)) := by
  refine ⟨nI_pos (by omega), ?_⟩
  rw [i2, nlt (by omega) (by omega)]
  omega
theorem op_image_cp {mi r : MI} {w w' : WS} {k : Nat} (hk : k < 3) (V0 : VRel mi 0) (hr : F_X8_copyFrom mi w (k + 1) 0 = some r) (I : ∀ j, j < 3 → j ≠ k → (w'.2.2.1 j = true → mi 72 0 j = 1 ∧ VRel mi (j + 1)) ∧ (w'.2.2.1 j = false → mi 72 0 j = 0)) (hw : w'.2.2.1 k = true) : ∃ e, F_X11_image r w (nI k) = some e ∧ e.1 = 1 ∧ Inv e.2 w' := by
  obtain ⟨r', f1, -, f2⟩ := both_cp (mi := mi) (w := w) (a := k + 1) (b := 0) (by omega) (by omega) (by omega) V0
  rw [hr] at f1
  cases Option.some.inj f1
  obtain ⟨e, f3, f4, f5⟩ := f2 (u3 r 10 0 0 0) (fun c i k hc => u3_n (by omega))
  have f3' : F_X11_copyAll (u3 r 10 0 0 0) w 0 (nI (k + 1)) = some e := f3
  rw [F_X11_image, if_pos (lit_k hk), show nI k + 1 = nI (k + 1) from nI_add k 1]
  rw [f3', Option.bind_some, ck_in (by omega) (by omega), lt_e, ncl (by omega)]
  refine ⟨_, rfl, rfl, ?_, fun j hj => ?_⟩
  · refine VRel_ver (mi := mi) (fun c i p hv => ?_) V0
    show u3 e 72 0 k _ c i p = _
    have h10 : c ≠ 10 := fun q => by have := ver_99 (c := c) (i := i) (k := p) (Or.inl q); omega
    have h72 : c ≠ 72 := fun q => by have := ver_99 (c := c) (i := i) (k := p) (Or.inr q); omega
    rw [u3_n (Or.inl h72), f5 c i p h10 (by omega)]
  · by_cases e0 : j = k
    · subst e0
      rw [hw]
      refine ⟨fun _ => ⟨u3_s, ?_⟩, fun q => by cases q⟩
      refine VRel_ver (mi := e) (fun c i p hv => ?_) f4
      have h72 : c ≠ 72 := fun q => by have := ver_99 (c := c) (i := i) (k := p) (Or.inr q); omega
      exact u3_n (Or.inl h72)
    · have e72 : u3 e 72 0 k (vp_nar .boolean 1) 72 0 j = mi 72 0 j := by
        rw [u3_n (by omega), f5 72 0 j (by omega) (by rw [ver_99 (Or.inr rfl)]; omega)]
      refine ⟨fun q => ?_, fun q => ?_⟩
      · refine ⟨e72.trans ((I j hj e0).1 q).1, VRel_ver (mi := mi) (fun c i p hv => ?_) ((I j hj e0).1 q).2⟩
        show u3 e 72 0 k _ c i p = _
        have h10 : c ≠ 10 := fun q => by have := ver_99 (c := c) (i := i) (k := p) (Or.inl q); omega
        have h72 : c ≠ 72 := fun q => by have := ver_99 (c := c) (i := i) (k := p) (Or.inr q); omega
        rw [u3_n (Or.inl h72), f5 c i p h10 (by omega)]
      · exact e72.trans ((I j hj e0).2 q)
theorem op_image_old {mi : MI} {w : WS} (I : Inv mi w) {k : Nat} (hk : k < 3) (h : w.2.2.1 k = true) : ∃ r, F_X8_copyFrom mi w (k + 1) 0 = some r ∧ ∃ e, F_X11_image r w (nI k) = some e ∧ e.1 = 1 ∧ Inv e.2 w := by
  obtain ⟨r, f1, -⟩ := both_cp (mi := mi) (w := w) (a := k + 1) (b := 0) (by omega) (by omega) (by omega) I.1
  exact ⟨r, f1, op_image_cp hk I.1 f1 (fun j hj _ => I.2 j hj) h⟩
theorem op_again_none {mi : MI} {w : WS} (I : Inv mi w) {k : Nat} (hk : k < 3) (h : w.2.2.1 k = false) : ∃ e, F_X11_again mi w (nI k) = some e ∧ e.1 = 0 ∧ Inv e.2 w := by
  rw [F_X11_again, if_pos (lit_k hk), ck_in (by omega) (by omega), ncl (by omega), if_pos (by rw [u3_n (by omega)]; exact (I.2 k hk).2 h)]
  exact ⟨_, rfl, rfl, Inv_m I (keep_u3 rfl (keep_refl _))⟩
theorem op_again_old {mi : MI} {w : WS} (I : Inv mi w) {k : Nat} (hk : k < 3) (h : w.2.2.1 k = true) : ∃ r, F_X8_copyFrom mi w 0 (k + 1) = some r ∧ ∃ e, F_X11_again r w (nI k) = some e ∧ e.1 = 1 ∧ Inv e.2 w := by
  obtain ⟨h72, hV⟩ := (I.2 k hk).1 h
  obtain ⟨r, f1, f0, f2⟩ := both_cp (mi := mi) (w := w) (a := 0) (b := k + 1) (by omega) (by omega) (by omega) hV
  obtain ⟨e, f3, f4, f5⟩ := f2 (u3 r 10 0 0 0) (fun c i k hc => u3_n (by omega))
  refine ⟨r, f1, ?_⟩
  rw [F_X11_again, if_pos (lit_k hk), ck_in (by omega) (by omega), ncl (by omega), if_neg (by rw [u3_n (by omega), f0 72 0 k (Or.inr (by omega)), h72]; decide), show nI k + 1 = nI (k + 1) from nI_add k 1]
  have f3' : F_X11_copyAll (u3 r 10 0 0 0) w (nI (k + 1)) 0 = some e := f3
  rw [f3', Option.bind_some]
  refine ⟨_, rfl, rfl, Inv_0 (mi := mi) (fun c i p h1 h2 => ?_) (fun j hj => ?_) rfl I f4⟩
  · have h10 : c ≠ 10 := fun q => by have := ver_99 (c := c) (i := i) (k := p) (Or.inl q); omega
    exact f5 c i p h10 (by omega)
  · exact f5 72 0 j (by omega) (by rw [ver_99 (Or.inr rfl)]; omega)
/-! a new image: its told is fresh -/
def Same (a : Nat) (m m' : MI) : Prop := ∀ c i k, ver c i k ≠ a → ver c i k ≤ 3 ∨ 50 ≤ c → m' c i k = m c i k
theorem sm_r {a : Nat} (m : MI) : Same a m m := fun _ _ _ _ _ => rfl
theorem sm_k {a : Nat} {m : MI} {M : MM} {c i : Nat} (hc : ∀ k, ver c i k = a ∨ (3 < ver c i k ∧ c < 50)) (h : Same a m M.1) : Same a m (mk M c i).1 := by
  intro c' i' k hv hu
  show u2 M.1 c i (fun _ => 0) c' i' k = _
  unfold u2
  rw [if_neg]
  · exact h c' i' k hv hu
  · rintro ⟨rfl, rfl⟩
    rcases hc k with q | q
    · exact hv q
    · omega
theorem sm_i {a : Nat} {m : MI} {M : MM} {c i k : Nat} {v : Int32} (hc : ver c i k = a) (h : Same a m M.1) : Same a m (mI M c i k v).1 := by
  intro c' i' k' hv hu
  show u3 M.1 c i k v c' i' k' = _
  unfold u3
  rw [if_neg]
  · exact h c' i' k' hv hu
  · rintro ⟨rfl, rfl, rfl⟩
    exact hv hc
theorem sm_X0 {a : Nat} {m : MI} {M : MM} {i : Nat} (hi : i / 2 = a) (h : Same a m M.1) : Same a m (N_X0_init M i).1 :=
  sm_k (fun k => Or.inl ((ver_o (by omega)).trans hi)) (sm_i ((ver_o (by omega)).trans hi) h)
theorem sm_X4 {a : Nat} {m : MI} {M : MM} {i : Nat} (hi : i / 2 = a) (h : Same a m M.1) : Same a m (N_X4_init M i).1 :=
  sm_k (fun k => Or.inl ((ver_o (by omega)).trans hi)) h
theorem sm_X2 {a : Nat} {m : MI} {M : MM} {i : Nat} (hi : i / 2 = a) (h : Same a m M.1) : Same a m (N_X2_init M i).1 :=
  sm_k (M := (mR (mk (mR (mk (mI M 1 i 0 (0 : Int32)) 31 i) 1 i 1 (aR 31 i)) 32 i) 1 i 2 (aR 32 i))) (fun k => Or.inl ((ver_o (by omega)).trans hi)) (sm_k (M := (mR (mk (mI M 1 i 0 (0 : Int32)) 31 i) 1 i 1 (aR 31 i))) (fun k => Or.inl ((ver_o (by omega)).trans hi)) (sm_k (fun k => Or.inl ((ver_o (by omega)).trans hi)) (sm_i ((ver_o (by omega)).trans hi) h)))
theorem sm_X6 {a : Nat} {m : MI} {M : MM} {i : Nat} (hi : i / 2 = a) (h : Same a m M.1) : Same a m (N_X6_init M i).1 := by
  have o : ∀ k, ver 5 i k = a := fun k => (ver_o (by omega)).trans hi
  refine sm_i (o _) (sm_i (o _) (sm_i (o _) (sm_i (o _) ?_)))
  exact sm_k (M := (mR (mk (mR (mk (mI (mI (mI (mI M 5 i 0 (3 : Int32)) 5 i 1 (3 : Int32)) 5 i 2 (0 : Int32)) 5 i 3 (0 : Int32)) 26 i) 5 i 4 (aR 26 i)) 27 i) 5 i 5 (aR 27 i))) (fun k => Or.inl ((ver_o (by omega)).trans hi)) (sm_k (M := (mR (mk (mI (mI (mI (mI M 5 i 0 (3 : Int32)) 5 i 1 (3 : Int32)) 5 i 2 (0 : Int32)) 5 i 3 (0 : Int32)) 26 i) 5 i 4 (aR 26 i))) (fun k => Or.inl ((ver_o (by omega)).trans hi)) (sm_k (fun k => Or.inl ((ver_o (by omega)).trans hi)) (sm_i (o _) (sm_i (o _) (sm_i (o _) (sm_i (o _) h))))))
theorem sm_R {a : Nat} {m : MI} {M : MM} {c i k : Nat} {v : AV} (h : Same a m M.1) : Same a m (mR M c i k v).1 := h
theorem sm_new_0 {mi : MI} {w : WS} {lv : LV} : Same 1 mi (N_X8_init_1 (mk (mi, RS w, lv) 7 1)).1 := by
  have h0 : Same 1 mi (mk (mi, RS w, lv) 7 1).1 := sm_k (fun k => Or.inl (ver_t (by omega))) (sm_r mi)
  unfold N_X8_init_1
  repeat first
    | exact h0
    | refine sm_R ?_
    | refine sm_X2 (show _ / 2 = 1 by decide) ?_
    | refine sm_X4 (show _ / 2 = 1 by decide) ?_
    | refine sm_X0 (show _ / 2 = 1 by decide) ?_
    | refine sm_X6 (show _ / 2 = 1 by decide) ?_
    | refine sm_i (show ver _ _ _ = 1 from rfl) ?_
    | refine sm_k (fun k => Or.inl (show ver _ _ k = 1 from rfl)) ?_
    | refine sm_k (fun k => Or.inr (And.intro (show 3 < ver _ _ k from (show 3 < 99 by omega)) (show _ < 50 by omega))) ?_
theorem op_image_new_0 {mi : MI} {w : WS} {lv : LV} (I : Inv mi w) : ∃ r, F_X8_copyFrom (N_X8_init_1 (mk (mi, RS w, lv) 7 1)).1 (w.1, w.2.1, (fun j => if j = 0 then true else w.2.2.1 j), w.2.2.2) 1 0 = some r ∧ ∃ e, F_X11_image r (w.1, w.2.1, (fun j => if j = 0 then true else w.2.2.1 j), w.2.2.2) 0 = some e ∧ e.1 = 1 ∧ Inv e.2 (w.1, w.2.1, (fun j => if j = 0 then true else w.2.2.1 j), w.2.2.2) := by
  have S := sm_new_0 (mi := mi) (w := w) (lv := lv)
  obtain ⟨m1, em⟩ : ∃ m1, m1 = (N_X8_init_1 (mk (mi, RS w, lv) 7 1)).1 := ⟨_, rfl⟩
  rw [← em] at S ⊢
  have V0 : VRel m1 0 := VRel_ver (fun c i p hv => S c i p (by omega) (Or.inl (by omega))) I.1
  obtain ⟨r, f1, -⟩ := c_ver (mi := m1) (w := (w.1, w.2.1, (fun j => if j = 0 then true else w.2.2.1 j), w.2.2.2)) (a := 1) (b := 0) (by omega)
  refine ⟨r, f1, op_image_cp (k := 0) (by omega) V0 f1 (fun j hj hk => ?_) rfl⟩
  have e : (if j = 0 then true else w.2.2.1 j) = w.2.2.1 j := if_neg hk
  show ((if j = 0 then true else w.2.2.1 j) = true → _) ∧ ((if j = 0 then true else w.2.2.1 j) = false → _)
  rw [e, S 72 0 j (by rw [ver_99 (Or.inr rfl)]; omega) (Or.inr (by omega))]
  exact ⟨fun q => ⟨((I.2 j hj).1 q).1, VRel_ver (fun c i p hv => S c i p (by omega) (Or.inl (by omega))) ((I.2 j hj).1 q).2⟩, (I.2 j hj).2⟩
theorem sm_new_1 {mi : MI} {w : WS} {lv : LV} : Same 2 mi (N_X8_init_2 (mk (mi, RS w, lv) 7 2)).1 := by
  have h0 : Same 2 mi (mk (mi, RS w, lv) 7 2).1 := sm_k (fun k => Or.inl (ver_t (by omega))) (sm_r mi)
  unfold N_X8_init_2
  repeat first
    | exact h0
    | refine sm_R ?_
    | refine sm_X2 (show _ / 2 = 2 by decide) ?_
    | refine sm_X4 (show _ / 2 = 2 by decide) ?_
    | refine sm_X0 (show _ / 2 = 2 by decide) ?_
    | refine sm_X6 (show _ / 2 = 2 by decide) ?_
    | refine sm_i (show ver _ _ _ = 2 from rfl) ?_
    | refine sm_k (fun k => Or.inl (show ver _ _ k = 2 from rfl)) ?_
    | refine sm_k (fun k => Or.inr (And.intro (show 3 < ver _ _ k from (show 3 < 99 by omega)) (show _ < 50 by omega))) ?_
theorem op_image_new_1 {mi : MI} {w : WS} {lv : LV} (I : Inv mi w) : ∃ r, F_X8_copyFrom (N_X8_init_2 (mk (mi, RS w, lv) 7 2)).1 (w.1, w.2.1, (fun j => if j = 1 then true else w.2.2.1 j), w.2.2.2) 2 0 = some r ∧ ∃ e, F_X11_image r (w.1, w.2.1, (fun j => if j = 1 then true else w.2.2.1 j), w.2.2.2) 1 = some e ∧ e.1 = 1 ∧ Inv e.2 (w.1, w.2.1, (fun j => if j = 1 then true else w.2.2.1 j), w.2.2.2) := by
  have S := sm_new_1 (mi := mi) (w := w) (lv := lv)
  obtain ⟨m1, em⟩ : ∃ m1, m1 = (N_X8_init_2 (mk (mi, RS w, lv) 7 2)).1 := ⟨_, rfl⟩
  rw [← em] at S ⊢
  have V0 : VRel m1 0 := VRel_ver (fun c i p hv => S c i p (by omega) (Or.inl (by omega))) I.1
  obtain ⟨r, f1, -⟩ := c_ver (mi := m1) (w := (w.1, w.2.1, (fun j => if j = 1 then true else w.2.2.1 j), w.2.2.2)) (a := 2) (b := 0) (by omega)
  refine ⟨r, f1, op_image_cp (k := 1) (by omega) V0 f1 (fun j hj hk => ?_) rfl⟩
  have e : (if j = 1 then true else w.2.2.1 j) = w.2.2.1 j := if_neg hk
  show ((if j = 1 then true else w.2.2.1 j) = true → _) ∧ ((if j = 1 then true else w.2.2.1 j) = false → _)
  rw [e, S 72 0 j (by rw [ver_99 (Or.inr rfl)]; omega) (Or.inr (by omega))]
  exact ⟨fun q => ⟨((I.2 j hj).1 q).1, VRel_ver (fun c i p hv => S c i p (by omega) (Or.inl (by omega))) ((I.2 j hj).1 q).2⟩, (I.2 j hj).2⟩
theorem sm_new_2 {mi : MI} {w : WS} {lv : LV} : Same 3 mi (N_X8_init_3 (mk (mi, RS w, lv) 7 3)).1 := by
  have h0 : Same 3 mi (mk (mi, RS w, lv) 7 3).1 := sm_k (fun k => Or.inl (ver_t (by omega))) (sm_r mi)
  unfold N_X8_init_3
  repeat first
    | exact h0
    | refine sm_R ?_
    | refine sm_X2 (show _ / 2 = 3 by decide) ?_
    | refine sm_X4 (show _ / 2 = 3 by decide) ?_
    | refine sm_X0 (show _ / 2 = 3 by decide) ?_
    | refine sm_X6 (show _ / 2 = 3 by decide) ?_
    | refine sm_i (show ver _ _ _ = 3 from rfl) ?_
    | refine sm_k (fun k => Or.inl (show ver _ _ k = 3 from rfl)) ?_
    | refine sm_k (fun k => Or.inr (And.intro (show 3 < ver _ _ k from (show 3 < 99 by omega)) (show _ < 50 by omega))) ?_
theorem op_image_new_2 {mi : MI} {w : WS} {lv : LV} (I : Inv mi w) : ∃ r, F_X8_copyFrom (N_X8_init_3 (mk (mi, RS w, lv) 7 3)).1 (w.1, w.2.1, (fun j => if j = 2 then true else w.2.2.1 j), w.2.2.2) 3 0 = some r ∧ ∃ e, F_X11_image r (w.1, w.2.1, (fun j => if j = 2 then true else w.2.2.1 j), w.2.2.2) 2 = some e ∧ e.1 = 1 ∧ Inv e.2 (w.1, w.2.1, (fun j => if j = 2 then true else w.2.2.1 j), w.2.2.2) := by
  have S := sm_new_2 (mi := mi) (w := w) (lv := lv)
  obtain ⟨m1, em⟩ : ∃ m1, m1 = (N_X8_init_3 (mk (mi, RS w, lv) 7 3)).1 := ⟨_, rfl⟩
  rw [← em] at S ⊢
  have V0 : VRel m1 0 := VRel_ver (fun c i p hv => S c i p (by omega) (Or.inl (by omega))) I.1
  obtain ⟨r, f1, -⟩ := c_ver (mi := m1) (w := (w.1, w.2.1, (fun j => if j = 2 then true else w.2.2.1 j), w.2.2.2)) (a := 3) (b := 0) (by omega)
  refine ⟨r, f1, op_image_cp (k := 2) (by omega) V0 f1 (fun j hj hk => ?_) rfl⟩
  have e : (if j = 2 then true else w.2.2.1 j) = w.2.2.1 j := if_neg hk
  show ((if j = 2 then true else w.2.2.1 j) = true → _) ∧ ((if j = 2 then true else w.2.2.1 j) = false → _)
  rw [e, S 72 0 j (by rw [ver_99 (Or.inr rfl)]; omega) (Or.inr (by omega))]
  exact ⟨fun q => ⟨((I.2 j hj).1 q).1, VRel_ver (fun c i p hv => S c i p (by omega) (Or.inl (by omega))) ((I.2 j hj).1 q).2⟩, (I.2 j hj).2⟩
