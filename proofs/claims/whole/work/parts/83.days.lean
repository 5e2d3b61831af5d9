/-! CALLS OF A DAY: stop, state, after -/
def D0 (cu : Nat → Nat) : DS := ((cu, fun _ => 0, fun _ => 0, fun _ => 0), fun _ => 0, 0, 0, 0, (-1 : Int32))
theorem col_none {C c : Nat} (hc : 1 ≤ c) : colN (fun _ => 0) C c = 0 := eq_tb fun i => by
  rw [col_tb, Nat.zero_testBit]
  constructor
  · rintro ⟨-, h⟩; omega
  · intro h; cases h
theorem dok_0 {W H sl n : Nat} {cu we : Nat → Nat} (ok : shOK W H sl n cu we) : DOK W H we (D0 cu) :=
  ⟨fun s hs => ⟨ok.cu hs, Nat.zero_le _, show 0 < 5 by omega, show 0 < 5 by omega⟩, fun _ => Nat.zero_le _, ⟨fun _ => rfl, fun _ => rfl⟩⟩
theorem c_begin {mi : MI} {w : WS} {j W H sl n : Nat} {cu we : Nat → Nat} (hs : ShC mi j W H sl n cu we) : ∃ mb, F_X9_begin mi w j = some (mb, (j, w.2)) ∧ DC mb W H (D0 cu) ∧ mb 8 0 6 = nI 0 := by
  have key := lp_inv (L := fun n m k => L_X9_begin_7 n m (j, w.2) j (nI k)) (N := 10) (post := fun m => L_X9_begin_28 1000000 m (j, w.2) j (nI 0)) (fun k m => (∀ c, c < k → m 37 0 c = nI 0) ∧ ∀ c i k, c ≠ 37 → m c i k = mi c i k) (fun n m hI => ?_) (fun n k m hk hI => ?_) (F := 1000000) (by omega) mi ⟨fun c hc => absurd hc (by omega), fun _ _ _ _ => rfl⟩
  · obtain ⟨m, ⟨g1, g2⟩, g3⟩ := key
    have key2 := lp_inv (L := fun n m k => L_X9_begin_28 n m (j, w.2) j (nI k)) (N := 6) (post := fun m => some (u3 (u3 (u3 (u3 (u3 m 8 0 6 0) 8 0 7 0) 8 0 9 (-1)) 8 0 10 0) 8 0 11 0, (j, w.2))) (fun k m' => (∀ s, s < k → m' 38 0 s = nI (cu s) ∧ m' 39 0 s = nI 0 ∧ m' 40 0 s = nI 0 ∧ m' 41 0 s = nI 0) ∧ ∀ c i k, ¬ (38 ≤ c ∧ c ≤ 41) → m' c i k = m c i k) (fun n m' hI => ?_) (fun n k m' hk hI => ?_) (F := 1000000) (by omega) m ⟨fun c hc => absurd hc (by omega), fun _ _ _ _ => rfl⟩
    · obtain ⟨m2, ⟨f1, f2⟩, f3⟩ := key2
      have e : F_X9_begin mi w j = L_X9_begin_7 1000000 mi (j, w.2) j (nI 0) := rfl
      refine ⟨_, by rw [e]; exact g3.trans f3, ⟨fun s hs => ?_, fun c c1 c9 => ?_, ?_, ?_, ?_, ?_⟩, ?_⟩
      · rw [u3_n (by omega), u3_n (by omega), u3_n (by omega), u3_n (by omega), u3_n (by omega), u3_n (by omega), u3_n (by omega), u3_n (by omega), u3_n (by omega), u3_n (by omega), u3_n (by omega), u3_n (by omega), u3_n (by omega), u3_n (by omega), u3_n (by omega), u3_n (by omega), u3_n (by omega), u3_n (by omega), u3_n (by omega), u3_n (by omega)]
        exact f1 s hs
      · rw [u3_n (by omega), u3_n (by omega), u3_n (by omega), u3_n (by omega), u3_n (by omega), f2 _ _ _ (by omega), g1 c (by omega)]
        show nI 0 = nI (colN (fun _ => 0) (W * H) c)
        rw [col_none c1]
      · rw [u3_n (by omega), u3_n (by omega), u3_n (by omega), u3_s]
        rfl
      · rw [u3_n (by omega), u3_s]
        rfl
      · rw [u3_s]
        rfl
      · rw [u3_n (by omega), u3_n (by omega), u3_s]
        rfl
      · rw [u3_n (by omega), u3_n (by omega), u3_n (by omega), u3_n (by omega), u3_s]
        rfl
    · show L_X9_begin_28 (n + 1) m' (j, w.2) j (nI 6) = _
      rw [L_X9_begin_28]
      exact if_pos (by decide)
    · show ∃ s', L_X9_begin_28 (n + 1) m' (j, w.2) j (nI k) = L_X9_begin_28 n s' (j, w.2) j (nI (k + 1)) ∧ _
      have e6 : ¬ (6 : Int32) ≤ nI k := by rw [i6, nle (by omega) (by omega)]; omega
      have hcu : m' 26 j k = nI (cu k) := by rw [hI.2 _ _ _ (by omega), g2 _ _ _ (by omega)]; exact hs.cut hk
      rw [L_X9_begin_28, if_neg e6]
      simp (disch := omega) only [ncl, ckJ, lt_e]
      rw [hcu, i1, nadd]
      refine ⟨_, rfl, fun s hs => ?_, fun c i k hc => ?_⟩
      · by_cases e : s = k
        · subst e
          exact ⟨by rw [u3_n (by omega), u3_n (by omega), u3_n (by omega), u3_s], by rw [u3_n (by omega), u3_n (by omega), u3_s]; rfl, by rw [u3_n (by omega), u3_s]; rfl, by rw [u3_s]; rfl⟩
        · have hI1 := hI.1 s (by omega)
          exact ⟨by rw [u3_n (by omega), u3_n (by omega), u3_n (by omega), u3_n (by omega)]; exact hI1.1, by rw [u3_n (by omega), u3_n (by omega), u3_n (by omega), u3_n (by omega)]; exact hI1.2.1, by rw [u3_n (by omega), u3_n (by omega), u3_n (by omega), u3_n (by omega)]; exact hI1.2.2.1, by rw [u3_n (by omega), u3_n (by omega), u3_n (by omega), u3_n (by omega)]; exact hI1.2.2.2⟩
      · rw [u3_n (by omega), u3_n (by omega), u3_n (by omega), u3_n (by omega)]
        exact hI.2 _ _ _ hc
  · show L_X9_begin_7 (n + 1) m (j, w.2) j (nI 10) = _
    rw [L_X9_begin_7]
    exact if_pos (by decide)
  · show ∃ s', L_X9_begin_7 (n + 1) m (j, w.2) j (nI k) = L_X9_begin_7 n s' (j, w.2) j (nI (k + 1)) ∧ _
    have e10 : (10 : Int32) = nI 10 := rfl
    rw [L_X9_begin_7, if_neg (show ¬ (10 : Int32) ≤ nI k by rw [e10, nle (by omega) (by omega)]; omega)]
    simp (disch := omega) only [ncl, ckJ, lt_e]
    rw [i1, nadd]
    refine ⟨_, rfl, fun c hc => ?_, fun c i k' hc => ?_⟩
    · by_cases e : c = k
      · rw [e, u3_s]; rfl
      · rw [u3_n (by omega)]; exact hI.1 c (by omega)
    · rw [u3_n (by omega)]; exact hI.2 _ _ _ hc
theorem b2_1 {x : Int32} (h : x = 0) : b2 (¬ (x = 0)) = 0 := b2_neg fun q => q h
/-- a shop and a day of numbers: either is not there, or both are at hand -/
theorem day_both {mi : MI} {w : WS} (I : Inv mi w) (x1 x2 : Int32) :
    (((F_X8_shopAt mi w 0 x1 = some none ∧ ∃ o, F_X8_dayAt mi w 0 x2 = some o) ∨ ((∃ j, F_X8_shopAt mi w 0 x1 = some (some j)) ∧ F_X8_dayAt mi w 0 x2 = some none)) ∧ ∀ (m : MI) (w' : WS), Keep mi m → ∃ m', F_X11_layAll m w' x1 x2 = some (0, m')) ∨
    ∃ (j jd W H sl n nd : Nat) (cu we : Nat → Nat), j < 2 ∧ jd < 2 ∧ F_X8_shopAt mi w 0 x1 = some (some j) ∧ F_X8_dayAt mi w 0 x2 = some (some jd) ∧ shOK W H sl n cu we ∧ ShC mi j W H sl n cu we ∧ nd ≤ 40 ∧ mi 0 jd 0 = nI nd ∧ (∀ k, k < nd → qd (mi 29 jd) k) ∧
      ∀ (m : MI) (w' : WS), Keep mi m → ∃ m1, F_X11_layAll m w' x1 x2 = some (1, m1) ∧ DM m1 j W H n we (D0 cu) ∧ m1 10 0 35 = nI jd ∧ m1 56 0 (161 * jd) = nI nd ∧ ∀ p, p < 4 * nd → m1 56 0 (161 * jd + (1 + p)) = mi 29 jd p := by
  rcases day_at I x2 with ⟨h1, h2⟩ | ⟨jd, ⟨hjd, rfl⟩, h1, hd, h2⟩
  · refine Or.inl ⟨?_, fun m w' K => ?_⟩
    · rcases shop_at I x1 with ⟨g1, -⟩ | ⟨j, -, g1, -⟩
      · exact Or.inl ⟨g1, _, h1⟩
      · exact Or.inr ⟨⟨j, g1⟩, h1⟩
    · unfold F_X11_layAll
      rw [h2 m w' K, Option.bind_some, if_pos rfl]
      exact ⟨_, rfl⟩
  · rcases shop_at I x1 with ⟨g1, g2⟩ | ⟨j, ⟨hj, rfl⟩, g1, W, H, sl, n, cu, we, ok, hc, g2⟩
    · refine Or.inl ⟨Or.inl ⟨g1, _, h1⟩, fun m w' K => ?_⟩
      unfold F_X11_layAll
      rw [h2 m w' K, Option.bind_some, if_neg ne10, g2 _ w' (keep_u3 rfl (keep_u3 rfl (keep_u3 rfl K))), Option.bind_some]
      exact ⟨_, rfl⟩
    · obtain ⟨nd, hnd, d1, d2, d3⟩ := hd
      refine Or.inr ⟨j, jd, W, H, sl, n, nd, cu, we, hj, hjd, g1, h1, ok, hc, hnd, d1, fun k hk => (d3 k hk).2, fun m w' K => ?_⟩
      have K1 : Keep mi (u3 (u3 (u3 m 10 0 35 (nI jd)) 10 0 36 0) 10 0 37 0) := keep_u3 rfl (keep_u3 rfl (keep_u3 rfl K))
      obtain ⟨m1, e1, e2, e3⟩ := g2 _ w' K1
      have K2 : Keep mi m1 := keep_trans K1 (kp_X11_hand e1)
      have o : ∀ c i k, hOut c i k → m1 c i k = (u3 (u3 (u3 m 10 0 35 (nI jd)) 10 0 36 0) 10 0 37 0) c i k := e3
      refine ⟨m1, ?_, ⟨e2.1, ⟨e2.2.1.1, e2.2.1.2.1⟩, fun s hs => ?_, fun c hcl => ?_, ⟨e2.2.1.2.2, ?_, ?_⟩, e2.2.2.2.2.2⟩, ?_, ?_, fun p hp => ?_⟩
      · unfold F_X11_layAll
        rw [h2 m w' K, Option.bind_some, if_neg ne10, e1, Option.bind_some]
        rfl
      · obtain ⟨a1, a2, a3, a4, a5⟩ := e2.2.2.1 s hs
        exact ⟨a1, a2, a3, a4, a5⟩
      · exact e2.2.2.2.1 c (Nat.lt_of_lt_of_le hcl ok.cells)
      · rw [o _ _ _ ⟨by omega, by omega⟩, u3_n (by omega), u3_s]; rfl
      · rw [o _ _ _ ⟨by omega, by omega⟩, u3_s]; rfl
      · rw [o _ _ _ ⟨by omega, by omega⟩, u3_n (by omega), u3_n (by omega), u3_s]
      · rw [K2 56 0 _ (st_m (by omega))]; exact d2
      · rw [K2 56 0 _ (st_m (by omega))]
        have := (d3 (p / 4) (by omega)).1 (p % 4) (Nat.mod_lt _ (by omega))
        rw [show 4 * (p / 4) + p % 4 = p by omega] at this
        exact this.symm
