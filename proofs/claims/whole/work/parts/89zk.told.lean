/-! TEXT: what is told so far, on both sides; a line keeps it alike -/
def dO0 (W H sl n wb : Nat) (ro we : Nat → Nat) : Prop := (1 ≤ W ∧ W ≤ 5) ∧ (1 ≤ H ∧ H ≤ 5) ∧ sl ≤ 10 ∧ n ≤ 6 ∧ wb < 64 ∧ (∀ k, k < 30 → ro k < 32) ∧ (∀ k, 5 * n ≤ k → k < 30 → ro k = 0) ∧ (∀ s, s < 6 → 1 ≤ we s ∧ we s ≤ 9)
def dO1 (n : Nat) (q : Nat → Int32) : Prop := ∀ k, k < n → deedOK (q (4 * k)) (q (4 * k + 1)) (q (4 * k + 2)) (q (4 * k + 3))
def dO2 (n : Nat) (co : Nat → Nat) : Prop := (∀ k, k < 25 → co k ≤ 9) ∧ ∀ k, 5 * n ≤ k → k < 25 → co k = 0
def dO3 (n : Nat) (q : Nat → Int32) : Prop := ∀ k, k < n → (∃ x, x < 5 ∧ q (4 * k + 1) = nI x) ∧ (∃ y, y < 5 ∧ q (4 * k + 2) = nI y) ∧ ((q (4 * k + 3) = -1 ∧ q (4 * k) = 1) ∨ ∃ s, s < 6 ∧ q (4 * k + 3) = nI s ∧ q (4 * k) = 0)
def Ct0 (mC mM : MI) (f : Nat × Nat) : Prop := (∃ nc, nc ≤ 6 ∧ mC 5 8 3 = nI nc) ∧ (∃ nm, nm ≤ 6 ∧ mM 59 0 3 = nI nm) ∧ (f.1 = 0 → ∃ W H sl n wb ro we, dO0 W H sl n wb ro we ∧ sC0 mC W H sl n wb ro we ∧ sM0 mM W H sl n wb ro we)
def Ct1 (mC mM : MI) (f : Nat × Nat) : Prop := (∃ nc, nc ≤ 40 ∧ mC 0 8 0 = nI nc) ∧ (∃ nm, nm ≤ 40 ∧ mM 59 0 0 = nI nm) ∧ (f.1 = 0 → ∃ n q, dO1 n q ∧ sC1 mC n q ∧ sM1 mM 40 n q)
def Ct2 (mC mM : MI) (f : Nat × Nat) : Prop := (∃ nc, nc ≤ 5 ∧ mC 4 0 10 = nI nc) ∧ (∃ nm, nm ≤ 5 ∧ mM 59 0 0 = nI nm) ∧ (f.1 = 0 → ∃ n co, dO2 n co ∧ sC2 mC n co ∧ sM2 mM n co)
def Ct3 (mC mM : MI) (f : Nat × Nat) : Prop := (∃ nc, nc ≤ 8 ∧ mC 1 8 0 = nI nc) ∧ (∃ nm, nm ≤ 8 ∧ mM 59 0 0 = nI nm) ∧ (f.1 = 0 → ∃ n q, dO3 n q ∧ sC3 mC n q ∧ sM1 mM 8 n q)
/-- what reading a line in the class changes, but what it stores -/
def lnF (m m' : MI) : Prop := ∀ c i j, ¬ (c = 6 ∧ i = 0 ∧ 2 ≤ j ∧ j ≤ 5) → ¬ (c = 4 ∧ i = 0 ∧ (j = 4 ∨ j = 5)) → ¬ (c = 35 ∧ i = 0) → m' c i j = m c i j
theorem sC0_of {m m' : MI} {W H sl n wb : Nat} {ro we : Nat → Nat} (e : lnF m m') (h : sC0 m W H sl n wb ro we) : sC0 m' W H sl n wb ro we := by
  obtain ⟨a0, a1, a2, a3, a4, a5, a6⟩ := h
  refine ⟨?_, ?_, ?_, ?_, fun k hk => ?_, fun s hs => ?_, ?_⟩
  · rw [e _ _ _ (by omega) (by omega) (by omega)]; exact a0
  · rw [e _ _ _ (by omega) (by omega) (by omega)]; exact a1
  · rw [e _ _ _ (by omega) (by omega) (by omega)]; exact a2
  · rw [e _ _ _ (by omega) (by omega) (by omega)]; exact a3
  · rw [e _ _ _ (by omega) (by omega) (by omega)]; exact a4 k hk
  · rw [e _ _ _ (by omega) (by omega) (by omega)]; exact a5 s hs
  · exact ⟨by rw [e _ _ _ (by omega) (by omega) (by omega)]; exact a6.1, fun s hs => ⟨by rw [e _ _ _ (by omega) (by omega) (by omega)]; exact (a6.2 s hs).1, by rw [e _ _ _ (by omega) (by omega) (by omega)]; exact (a6.2 s hs).2⟩⟩
theorem sC1_of {m m' : MI} {n : Nat} {q : Nat → Int32} (e : lnF m m') (h : sC1 m n q) : sC1 m' n q :=
  ⟨h.1, by rw [e _ _ _ (by omega) (by omega) (by omega)]; exact h.2.1, fun k hk => by rw [e _ _ _ (by omega) (by omega) (by omega)]; exact h.2.2 k hk⟩
theorem sC2_of {m m' : MI} {n : Nat} {q : Nat → Nat} (e : lnF m m') (h : sC2 m n q) : sC2 m' n q :=
  ⟨h.1, by rw [e _ _ _ (by omega) (by omega) (by omega)]; exact h.2.1, fun k hk => by rw [e _ _ _ (by omega) (by omega) (by omega)]; exact h.2.2 k hk⟩
theorem sC3_of {m m' : MI} {n : Nat} {q : Nat → Int32} (e : lnF m m') (h : sC3 m n q) : sC3 m' n q :=
  ⟨h.1, by rw [e _ _ _ (by omega) (by omega) (by omega)]; exact h.2.1, fun k hk => by rw [e _ _ _ (by omega) (by omega) (by omega), e _ _ _ (by omega) (by omega) (by omega), e _ _ _ (by omega) (by omega) (by omega)]; exact h.2.2 k hk⟩
def hsT (s : Nat) (Ct : MI → MI → Nat × Nat → Prop) : Prop := ∀ (b : Nat → Nat) (len pos i K : Nat) (f : Nat × Nat) (mC mM : MI) (wC wM : WS), pos ≤ len → srL s ≤ i → i < srL (s + 1) → wOk b len pos i → lnK b len (tkE b len pos) i K → mL b len pos f mM wM → mM 10 0 22 = 1 → Ct mC mM f →
  ∃ f1, ((rmP mC i ∧ f1 = f) ∨ (¬ rmP mC i ∧ f1 = ntF f 3 (tkP b len pos))) ∧ mOut b len (tkE b len pos) i f1 K mM wM (F_X11_lineOf mM wM (nI s) (wdX mM wM.2.2.2) (nI (tkP b len pos))) fun mM' => okJ i K → ∀ mC', lnF mC mC' → nmC b len (tkE b len pos) mC' K → ((faF b len (tkE b len pos) i f1 K).1 ≠ 0 → Ct mC' mM' (faF b len (tkE b len pos) i f1 K)) ∧ ((faF b len (tkE b len pos) i f1 K).1 = 0 → ∃ mC'', F_X5_store mC' wC (nI i) (nI K) = some mC'' ∧ sfF mC' mC'' ∧ Ct mC'' mM' (faF b len (tkE b len pos) i f1 K))
theorem k_is {b : Nat → Nat} {len pos i K n : Nat} (hK : lnK b len pos i K) (h1 : liB i = false) (h2 : nuN i = n) (h3 : okJ i K) : K = n := by
  have e : buN i = n := by unfold buN; rw [h1, if_neg (by decide)]; exact h2
  have := hK.1
  rcases h3 with h3 | h3
  · rw [h1] at h3; exact absurd h3 (by decide)
  · omega
theorem f1_same {rm : Prop} {nm lim p : Nat} {f f1 : Nat × Nat} (h : (¬ nm = lim ∧ f1 = f) ∨ (nm = lim ∧ f1 = ntF f 3 p)) (h0 : f.1 = 0 → (rm ↔ ¬ nm = lim)) : (rm ∧ f1 = f) ∨ (¬ rm ∧ f1 = ntF f 3 p) := by
  by_cases e : f.1 = 0
  · rcases h with ⟨a, c⟩ | ⟨a, c⟩
    · exact Or.inl ⟨(h0 e).mpr a, c⟩
    · exact Or.inr ⟨fun z => (h0 e).mp z a, c⟩
  · have ef : f1 = f := by
      rcases h with ⟨a, c⟩ | ⟨a, c⟩
      · exact c
      · rw [c, nt_on e]
    by_cases z : rm
    · exact Or.inl ⟨z, ef⟩
    · exact Or.inr ⟨z, by rw [nt_on e]; exact ef⟩
theorem f1_zero {b : Nat → Nat} {len pos i K nm lim p : Nat} {f f1 : Nat × Nat} (h : (¬ nm = lim ∧ f1 = f) ∨ (nm = lim ∧ f1 = ntF f 3 p)) (hz : (faF b len pos i f1 K).1 = 0) : ¬ nm = lim ∧ f1 = f ∧ f.1 = 0 ∧ ∀ q, q < K → q < 5 ∧ rgN b len pos i q := by
  obtain ⟨a1, a2⟩ := fa_ok K hz
  rcases h with ⟨a, c⟩ | ⟨a, c⟩
  · exact ⟨a, c, c ▸ a1, a2⟩
  · rw [c] at a1
    exact absurd a1 (nt_ne (by decide))
theorem k_five {b : Nat → Nat} {len pos i K : Nat} (h : ∀ q, q < K → q < 5 ∧ rgN b len pos i q) : K ≤ 5 := by
  refine Classical.byContradiction fun z => ?_
  have := (h 5 (by omega)).1
  omega
theorem rm_0 {m : MI} {i : Nat} (h : i ≠ 2) (h2 : i < 4) : rmP m i := ⟨fun z => absurd z h, fun z _ => by omega, fun z => by omega, fun z => by omega⟩
theorem rm_2 {m : MI} {n : Nat} (h : m 5 8 3 = nI n) (hn : n ≤ 6) : rmP m 2 ↔ ¬ n = 6 := by
  have e : (6 : Int32) ≤ m 5 8 3 ↔ 6 ≤ n := by rw [h, show (6 : Int32) = nI 6 from rfl, nle (by omega) (by omega)]
  constructor
  · intro z y
    exact z.1 rfl (e.mpr (by omega))
  · intro z
    exact ⟨fun _ y => z (by have := e.mp y; omega), fun y _ => by omega, fun y => by omega, fun y => by omega⟩
theorem rm_d {m : MI} {i n : Nat} (h : m 0 8 0 = nI n) (hn : n ≤ 40) (h4 : 4 ≤ i) (h9 : i ≤ 9) : rmP m i ↔ ¬ n = 40 := by
  have e : (40 : Int32) ≤ m 0 8 0 ↔ 40 ≤ n := by rw [h, show (40 : Int32) = nI 40 from rfl, nle (by omega) (by omega)]
  constructor
  · intro z y
    exact z.2.1 h4 h9 (e.mpr (by omega))
  · intro z
    exact ⟨fun y => by omega, fun _ _ y => z (by have := e.mp y; omega), fun y => by omega, fun y => by omega⟩
theorem rm_p {m : MI} {n : Nat} (h : m 4 0 10 = nI n) (hn : n ≤ 5) : rmP m 10 ↔ ¬ n = 5 := by
  have e : (5 : Int32) ≤ m 4 0 10 ↔ 5 ≤ n := by rw [h, show (5 : Int32) = nI 5 from rfl, nle (by omega) (by omega)]
  constructor
  · intro z y
    exact z.2.2.1 rfl (e.mpr (by omega))
  · intro z
    exact ⟨fun y => by omega, fun _ y => by omega, fun _ y => z (by have := e.mp y; omega), fun y => by omega⟩
theorem rm_m {m : MI} {i n : Nat} (h : m 1 8 0 = nI n) (hn : n ≤ 8) (h11 : 11 ≤ i) : rmP m i ↔ ¬ n = 8 := by
  have e : (8 : Int32) ≤ m 1 8 0 ↔ 8 ≤ n := by rw [h, show (8 : Int32) = nI 8 from rfl, nle (by omega) (by omega)]
  constructor
  · intro z y
    exact z.2.2.2 h11 (e.mpr (by omega))
  · intro z
    exact ⟨fun y => by omega, fun _ y => by omega, fun y => by omega, fun _ y => z (by have := e.mp y; omega)⟩
theorem nI_one {a c : Nat} (ha : a < 2147483648) (hc : c < 2147483648) (h : nI a = nI c) : a = c := (neq ha hc).mp h
theorem hs_0 : hsT 0 Ct0 := by
  intro b len pos i K f mC mM wC wM hp h1 h2 hw hK hL h22 hC
  obtain ⟨⟨nc, c1, c2⟩, ⟨nm, c3, c4⟩, c5⟩ := hC
  rw [srL_is.2.1] at h2
  unfold F_X11_lineOf
  rw [if_pos (show nI 0 = 0 from rfl)]
  have hi : i = 0 ∨ i = 1 ∨ i = 2 ∨ i = 3 := by omega
  rcases hi with hi | hi | hi | hi <;> subst hi
  · refine ⟨f, Or.inl ⟨rm_0 (by omega) (by omega), rfl⟩, mOut_E (mOut_ck (m_size hp hL h22 hw hK)) fun mM' hE hok mC' hfr hnm => ⟨fun hne => ⟨⟨nc, c1, by rw [hfr _ _ _ (by omega) (by omega) (by omega)]; exact c2⟩, hE.1 nm c3 c4, fun z => absurd z hne⟩, fun hz => ?_⟩⟩
    have eK := k_is hK ln_0.1 ln_0.2 hok
    subst eK
    obtain ⟨f0, hr⟩ := fa_ok _ hz
    obtain ⟨W, H, sl, n, wb, ro, we, d, hc, hm⟩ := c5 f0
    obtain ⟨mC'', s1, s2, s3⟩ := st_size (w := wC) (x := nI 2) hnm (sC0_of hfr hc)
    have hm' := hE.2 (fun q hq => (hr q hq).2) W H sl n wb ro we d.2.2.2.1 d.2.2.2.2.1 hm
    have v0 := rg_hi (lo := 1) (hi := 5) (hr 0 (by omega)).2 (by decide) (by decide)
    have v1 := rg_hi (lo := 1) (hi := 5) (hr 1 (by omega)).2 (by decide) (by decide)
    exact ⟨mC'', s1, s2, ⟨n, d.2.2.2.1, s3.2.2.2.1⟩, hE.1 nm c3 c4, fun _ => ⟨_, _, _, _, _, _, _, ⟨v0, v1, d.2.2⟩, s3, hm'⟩⟩
  · refine ⟨f, Or.inl ⟨rm_0 (by omega) (by omega), rfl⟩, mOut_E (mOut_ck (m_slip hp hL h22 hw hK)) fun mM' hE hok mC' hfr hnm => ⟨fun hne => ⟨⟨nc, c1, by rw [hfr _ _ _ (by omega) (by omega) (by omega)]; exact c2⟩, hE.1 nm c3 c4, fun z => absurd z hne⟩, fun hz => ?_⟩⟩
    have eK := k_is hK ln_1.1 ln_1.2 hok
    subst eK
    obtain ⟨f0, hr⟩ := fa_ok _ hz
    obtain ⟨W, H, sl, n, wb, ro, we, d, hc, hm⟩ := c5 f0
    obtain ⟨mC'', s1, s2, s3⟩ := st_slip (w := wC) (x := nI 1) hnm (sC0_of hfr hc)
    have hm' := hE.2 (fun q hq => (hr q hq).2) W H sl n wb ro we d.2.2.2.1 d.2.2.2.2.1 hm
    have v0 := rg_hi (lo := 0) (hi := 10) (hr 0 (by omega)).2 (by decide) (by decide)
    exact ⟨mC'', s1, s2, ⟨n, d.2.2.2.1, s3.2.2.2.1⟩, hE.1 nm c3 c4, fun _ => ⟨_, _, _, _, _, _, _, ⟨d.1, d.2.1, v0.2, d.2.2.2⟩, s3, hm'⟩⟩
  · obtain ⟨f1, q1, e⟩ := m_sheet hp hL hw hK c4 c3
    have same : f.1 = 0 → (rmP mC 2 ↔ ¬ nm = 6) := by
      intro f0
      obtain ⟨W, H, sl, n, wb, ro, we, d, hc, hm⟩ := c5 f0
      have en : nm = n := nI_one (by omega) (by have := d.2.2.2.1; omega) (c4.symm.trans hm.2.2.2.1)
      rw [en]
      exact rm_2 hc.2.2.2.1 d.2.2.2.1
    refine ⟨f1, f1_same q1 same, mOut_E (mOut_ck e) fun mM' hE hok mC' hfr hnm => ⟨fun hne => ⟨⟨nc, c1, by rw [hfr _ _ _ (by omega) (by omega) (by omega)]; exact c2⟩, hE.1 nm c3 c4, fun z => absurd z hne⟩, fun hz => ?_⟩⟩
    obtain ⟨hn6, ef, f0, hr⟩ := f1_zero q1 hz
    obtain ⟨W, H, sl, n, wb, ro, we, d, hc, hm⟩ := c5 f0
    have en : nm = n := nI_one (by omega) (by have := d.2.2.2.1; omega) (c4.symm.trans hm.2.2.2.1)
    subst en
    have hK5 := k_five hr
    obtain ⟨d1, d2, d3, d4, d5, d6, d7, d8⟩ := d
    obtain ⟨mC'', s1, s2, s3⟩ := st_sheet (w := wC) hK5 hnm (by omega) d7 (sC0_of hfr hc)
    have hm' := hE.2 (by omega) W H sl nm wb ro we d4 d5 hm
    have hrow : ∀ k, k < 30 → roW nm K (fun q => tkV b len (poN b len (tkE b len pos) q)) ro k < 32 := by
      intro k hk
      unfold roW
      by_cases z : 5 * nm ≤ k ∧ k < 5 * nm + 5
      · rw [if_pos z]
        by_cases z2 : k - 5 * nm < K
        · rw [if_pos z2]
          have := rg_hi (lo := 0) (hi := 31) (hr _ z2).2 (by unfold coT; rw [if_pos li_2.1]; decide) (by unfold coT; rw [if_pos li_2.1]; decide)
          show tkV b len (poN b len (tkE b len pos) (k - 5 * nm)) < 32
          omega
        · rw [if_neg z2]; omega
      · rw [if_neg z]; exact d6 k hk
    have hrow0 : ∀ k, 5 * (nm + 1) ≤ k → k < 30 → roW nm K (fun q => tkV b len (poN b len (tkE b len pos) q)) ro k = 0 := by
      intro k hk1 hk2
      unfold roW
      rw [if_neg (by omega)]
      exact d7 k (by omega) hk2
    exact ⟨mC'', s1, s2, ⟨nm + 1, by omega, s3.2.2.2.1⟩, hE.1 nm c3 c4, fun _ => ⟨_, _, _, _, _, _, _, ⟨d1, d2, d3, by omega, d5, hrow, hrow0, d8⟩, s3, hm'⟩⟩
  · refine ⟨f, Or.inl ⟨rm_0 (by omega) (by omega), rfl⟩, mOut_E (mOut_ck (m_wear hp hL h22 hw hK)) fun mM' hE hok mC' hfr hnm => ⟨fun hne => ⟨⟨nc, c1, by rw [hfr _ _ _ (by omega) (by omega) (by omega)]; exact c2⟩, hE.1 nm c3 c4, fun z => absurd z hne⟩, fun hz => ?_⟩⟩
    have eK := k_is hK ln_3.1 ln_3.2 hok
    subst eK
    obtain ⟨f0, hr⟩ := fa_ok _ hz
    obtain ⟨W, H, sl, n, wb, ro, we, d, hc, hm⟩ := c5 f0
    have v0 := rg_hi (lo := 0) (hi := 5) (hr 0 (by omega)).2 (by decide) (by decide)
    have v1 := rg_hi (lo := 1) (hi := 9) (hr 1 (by omega)).2 (by decide) (by decide)
    obtain ⟨mC'', s1, s2, s3⟩ := st_wear (w := wC) (x := nI 2) hnm v0.2 (sC0_of hfr hc)
    obtain ⟨d1, d2, d3, d4, d5, d6, d7, d8⟩ := d
    have hm' := hE.2 (fun q hq => (hr q hq).2) W H sl n wb ro we d4 d5 hm
    have fu := (far_up (m := mM) d5 (show tkV b len (poN b len (tkE b len pos) 0) < 6 by omega)).2
    refine ⟨mC'', s1, s2, ⟨n, d4, s3.2.2.2.1⟩, hE.1 nm c3 c4, fun _ => ⟨_, _, _, _, _, _, _, ⟨d1, d2, d3, d4, fu, d6, d7, fun s hs => ?_⟩, s3, hm'⟩⟩
    by_cases es : s = tkV b len (poN b len (tkE b len pos) 0)
    · rw [if_pos es]; exact v1
    · rw [if_neg es]; exact d8 s hs
theorem qo_lo {n k p : Nat} {r q : Nat → Int32} (hk : k < n) (hp : p < 4) : qoW n r q (4 * k + p) = q (4 * k + p) := if_neg (by omega)
theorem qo_hi {n p : Nat} {r q : Nat → Int32} : qoW n r q (4 * n + p) = r p := by
  unfold qoW
  rw [if_pos (by omega), show 4 * n + p - 4 * n = p by omega]
theorem rw_s {b : Nat → Nat} {len pos K p : Nat} {d : Int32} : rwI b len pos K d (p + 1) = nuI b len pos K p := by
  unfold rwI
  rw [if_neg (by omega)]
  rfl
theorem nu_lo {b : Nat → Nat} {len pos K j : Nat} (h : j < K) : nuI b len pos K j = nI (tkV b len (poN b len pos j)) := if_pos h
theorem nu_hi {b : Nat → Nat} {len pos K j : Nat} (h : ¬ j < K) : nuI b len pos K j = -1 := if_neg h
theorem hs_1 : hsT 1 Ct1 := by
  intro b len pos i K f mC mM wC wM hp h1 h2 hw hK hL h22 hC
  obtain ⟨⟨nc, c1, c2⟩, ⟨nm, c3, c4⟩, c5⟩ := hC
  rw [srL_is.2.1] at h1
  rw [srL_is.2.2.1] at h2
  unfold F_X11_lineOf
  rw [if_neg (show ¬ nI 1 = 0 by decide), if_pos (show nI 1 = 1 from rfl)]
  obtain ⟨f1, q1, e⟩ := m_dayW hp hL h1 (by omega) hw hK c3 c4
  have same : f.1 = 0 → (rmP mC i ↔ ¬ nm = 40) := by
    intro f0
    obtain ⟨n, q, d, hc, hm⟩ := c5 f0
    have en : nm = n := nI_one (by omega) (by have := hc.1; omega) (c4.symm.trans hm.2.1)
    rw [en]
    exact rm_d hc.2.1 hc.1 h1 (by omega)
  refine ⟨f1, f1_same q1 same, mOut_E (mOut_ck e) fun mM' hE hok mC' hfr hnm => ⟨fun hne => ⟨⟨nc, c1, by rw [hfr _ _ _ (by omega) (by omega) (by omega)]; exact c2⟩, hE.1, fun z => absurd z hne⟩, fun hz => ?_⟩⟩
  obtain ⟨hn6, ef, f0, hr⟩ := f1_zero q1 hz
  obtain ⟨n, q, d, hc, hm⟩ := c5 f0
  have en : nm = n := nI_one (by omega) (by have := hc.1; omega) (c4.symm.trans hm.2.1)
  subst en
  obtain ⟨mC'', s1, s2, s3⟩ := st_day (w := wC) (x := nI K) h1 (by omega) hnm (by omega) (sC1_of hfr hc)
  refine ⟨mC'', s1, s2, ⟨nm + 1, by omega, s3.2.1⟩, hE.1, fun _ => ⟨nm + 1, _, fun k hk => ?_, s3, hE.2 (by omega) q hm⟩⟩
  by_cases ek : k = nm
  · subst ek
    have r0 : qoW k (rwI b len (tkE b len pos) K (nI (i - 4))) q (4 * k) = nI (i - 4) := qo_hi (p := 0)
    rw [r0, qo_hi, qo_hi, qo_hi, rw_s, show 2 = 1 + 1 from rfl, rw_s, show 3 = 2 + 1 from rfl, rw_s]
    obtain ⟨d1, d2, d3, d4, d5, d6, d7, d8, d9, d10, d11, d12, -⟩ := ln_d
    have h : i = 4 ∨ i = 5 ∨ i = 6 ∨ i = 7 ∨ i = 8 ∨ i = 9 := by omega
    rcases h with h | h | h | h | h | h <;> subst h
    · have eK := k_is hK d1 d2 hok
      subst eK
      rw [nu_lo (by omega), nu_lo (by omega), nu_hi (by omega)]
      have v0 := rg_hi (lo := 0) (hi := 5) (hr 0 (by omega)).2 (by decide) (by decide)
      have v1 := rg_hi (lo := 1) (hi := 9) (hr 1 (by omega)).2 (by decide) (by decide)
      exact Or.inl ⟨rfl, ⟨_, by omega, rfl⟩, ⟨_, v1.1, v1.2, rfl⟩, rfl⟩
    · have eK := k_is hK d3 d4 hok
      subst eK
      rw [nu_lo (by omega), nu_hi (by omega), nu_hi (by omega)]
      have v0 := rg_hi (lo := 0) (hi := 5) (hr 0 (by omega)).2 (by decide) (by decide)
      exact Or.inr (Or.inl ⟨Or.inl rfl, ⟨_, by omega, rfl⟩, rfl, rfl⟩)
    · have eK := k_is hK d5 d6 hok
      subst eK
      rw [nu_lo (by omega), nu_hi (by omega), nu_hi (by omega)]
      have v0 := rg_hi (lo := 0) (hi := 5) (hr 0 (by omega)).2 (by decide) (by decide)
      exact Or.inr (Or.inl ⟨Or.inr rfl, ⟨_, by omega, rfl⟩, rfl, rfl⟩)
    · have eK := k_is hK d7 d8 hok
      subst eK
      rw [nu_lo (by omega), nu_lo (by omega), nu_lo (by omega)]
      have v0 := rg_hi (lo := 0) (hi := 5) (hr 0 (by omega)).2 (by decide) (by decide)
      have v1 := rg_hi (lo := 0) (hi := 4) (hr 1 (by omega)).2 (by decide) (by decide)
      have v2 := rg_hi (lo := 0) (hi := 4) (hr 2 (by omega)).2 (by decide) (by decide)
      exact Or.inr (Or.inr (Or.inl ⟨Or.inl rfl, ⟨_, by omega, rfl⟩, ⟨_, by omega, rfl⟩, ⟨_, by omega, rfl⟩⟩))
    · have eK := k_is hK d9 d10 hok
      subst eK
      rw [nu_lo (by omega), nu_lo (by omega), nu_lo (by omega)]
      have v0 := rg_hi (lo := 0) (hi := 5) (hr 0 (by omega)).2 (by decide) (by decide)
      have v1 := rg_hi (lo := 0) (hi := 4) (hr 1 (by omega)).2 (by decide) (by decide)
      have v2 := rg_hi (lo := 0) (hi := 4) (hr 2 (by omega)).2 (by decide) (by decide)
      exact Or.inr (Or.inr (Or.inl ⟨Or.inr rfl, ⟨_, by omega, rfl⟩, ⟨_, by omega, rfl⟩, ⟨_, by omega, rfl⟩⟩))
    · have eK := k_is hK d11 d12 hok
      subst eK
      rw [nu_lo (by omega), nu_hi (by omega), nu_hi (by omega)]
      have v0 := rg_hi (lo := 1) (hi := 9) (hr 0 (by omega)).2 (by decide) (by decide)
      exact Or.inr (Or.inr (Or.inr ⟨rfl, ⟨_, v0.1, v0.2, rfl⟩, rfl, rfl⟩))
  · have r0 : qoW nm (rwI b len (tkE b len pos) K (nI (i - 4))) q (4 * k) = q (4 * k) := qo_lo (p := 0) (by omega) (by omega)
    rw [r0, qo_lo (by omega) (by omega), qo_lo (by omega) (by omega), qo_lo (by omega) (by omega)]
    exact d k (by omega)
theorem hs_2 : hsT 2 Ct2 := by
  intro b len pos i K f mC mM wC wM hp h1 h2 hw hK hL h22 hC
  obtain ⟨⟨nc, c1, c2⟩, ⟨nm, c3, c4⟩, c5⟩ := hC
  rw [srL_is.2.2.1] at h1
  rw [srL_is.2.2.2.1] at h2
  have hi : i = 10 := by omega
  subst hi
  unfold F_X11_lineOf
  rw [if_neg (show ¬ nI 2 = 0 by decide), if_neg (show ¬ nI 2 = 1 by decide), if_pos (show nI 2 = 2 from rfl)]
  obtain ⟨f1, q1, e⟩ := m_picW hp hL hw hK c3 c4
  have same : f.1 = 0 → (rmP mC 10 ↔ ¬ nm = 5) := by
    intro f0
    obtain ⟨n, q, d, hc, hm⟩ := c5 f0
    have en : nm = n := nI_one (by omega) (by have := hc.1; omega) (c4.symm.trans hm.2.1)
    rw [en]
    exact rm_p hc.2.1 hc.1
  refine ⟨f1, f1_same q1 same, mOut_E (mOut_ck e) fun mM' hE hok mC' hfr hnm => ⟨fun hne => ⟨⟨nc, c1, by rw [hfr _ _ _ (by omega) (by omega) (by omega)]; exact c2⟩, hE.1, fun z => absurd z hne⟩, fun hz => ?_⟩⟩
  obtain ⟨hn6, ef, f0, hr⟩ := f1_zero q1 hz
  obtain ⟨n, q, d, hc, hm⟩ := c5 f0
  have en : nm = n := nI_one (by omega) (by have := hc.1; omega) (c4.symm.trans hm.2.1)
  subst en
  have hK5 := k_five hr
  obtain ⟨mC'', s1, s2, s3⟩ := st_row (w := wC) hK5 hnm (by omega) d.2 (sC2_of hfr hc)
  refine ⟨mC'', s1, s2, ⟨nm + 1, by omega, s3.2.1⟩, hE.1, fun _ => ⟨nm + 1, _, ⟨fun k hk => ?_, fun k hk1 hk2 => ?_⟩, s3, hE.2 (by omega) q hm⟩⟩
  · unfold roW
    by_cases z : 5 * nm ≤ k ∧ k < 5 * nm + 5
    · rw [if_pos z]
      by_cases z2 : k - 5 * nm < K
      · rw [if_pos z2]
        exact (rg_hi (lo := 0) (hi := 9) (hr _ z2).2 (by unfold coT; rw [if_pos li_10.1]; decide) (by unfold coT; rw [if_pos li_10.1]; decide)).2
      · rw [if_neg z2]; omega
    · rw [if_neg z]; exact d.1 k hk
  · unfold roW
    rw [if_neg (by omega)]
    exact d.2 k (by omega) hk2
theorem hs_3 : hsT 3 Ct3 := by
  intro b len pos i K f mC mM wC wM hp h1 h2 hw hK hL h22 hC
  obtain ⟨⟨nc, c1, c2⟩, ⟨nm, c3, c4⟩, c5⟩ := hC
  rw [srL_is.2.2.2.1] at h1
  rw [srL_is.2.2.2.2] at h2
  have hi : i = 11 ∨ i = 12 := by omega
  unfold F_X11_lineOf
  rw [if_neg (show ¬ nI 3 = 0 by decide), if_neg (show ¬ nI 3 = 1 by decide), if_neg (show ¬ nI 3 = 2 by decide)]
  obtain ⟨f1, q1, e⟩ := m_markW hp hL hi hw hK c3 c4
  have same : f.1 = 0 → (rmP mC i ↔ ¬ nm = 8) := by
    intro f0
    obtain ⟨n, q, d, hc, hm⟩ := c5 f0
    have en : nm = n := nI_one (by omega) (by have := hc.1; omega) (c4.symm.trans hm.2.1)
    rw [en]
    exact rm_m hc.2.1 hc.1 h1
  refine ⟨f1, f1_same q1 same, mOut_E (mOut_ck e) fun mM' hE hok mC' hfr hnm => ⟨fun hne => ⟨⟨nc, c1, by rw [hfr _ _ _ (by omega) (by omega) (by omega)]; exact c2⟩, hE.1, fun z => absurd z hne⟩, fun hz => ?_⟩⟩
  obtain ⟨hn6, ef, f0, hr⟩ := f1_zero q1 hz
  obtain ⟨n, q, d, hc, hm⟩ := c5 f0
  have en : nm = n := nI_one (by omega) (by have := hc.1; omega) (c4.symm.trans hm.2.1)
  subst en
  obtain ⟨mC'', s1, s2, s3⟩ := st_mark (w := wC) (x := nI K) (d := nI (i - 11)) hi hnm (by omega) (sC3_of hfr hc)
  refine ⟨mC'', s1, s2, ⟨nm + 1, by omega, s3.2.1⟩, hE.1, fun _ => ⟨nm + 1, _, fun k hk => ?_, s3, hE.2 (by omega) q hm⟩⟩
  by_cases ek : k = nm
  · subst ek
    have r0 : qoW k (rwI b len (tkE b len pos) K (nI (i - 11))) q (4 * k) = nI (i - 11) := qo_hi (p := 0)
    rw [r0, qo_hi, qo_hi, qo_hi, rw_s, show 2 = 1 + 1 from rfl, rw_s, show 3 = 2 + 1 from rfl, rw_s]
    obtain ⟨-, -, -, -, -, -, -, -, -, -, -, -, d1, d2, d3, d4⟩ := ln_d
    rcases hi with h | h <;> subst h
    · have eK := k_is hK d1 d2 hok
      subst eK
      rw [nu_lo (by omega), nu_lo (by omega), nu_lo (by omega)]
      have v0 := rg_hi (lo := 0) (hi := 4) (hr 0 (by omega)).2 (by decide) (by decide)
      have v1 := rg_hi (lo := 0) (hi := 4) (hr 1 (by omega)).2 (by decide) (by decide)
      have v2 := rg_hi (lo := 0) (hi := 5) (hr 2 (by omega)).2 (by decide) (by decide)
      exact ⟨⟨_, by omega, rfl⟩, ⟨_, by omega, rfl⟩, Or.inr ⟨_, by omega, rfl, rfl⟩⟩
    · have eK := k_is hK d3 d4 hok
      subst eK
      rw [nu_lo (by omega), nu_lo (by omega), nu_hi (by omega)]
      have v0 := rg_hi (lo := 0) (hi := 4) (hr 0 (by omega)).2 (by decide) (by decide)
      have v1 := rg_hi (lo := 0) (hi := 4) (hr 1 (by omega)).2 (by decide) (by decide)
      exact ⟨⟨_, by omega, rfl⟩, ⟨_, by omega, rfl⟩, Or.inl ⟨rfl, rfl⟩⟩
  · have r0 : qoW nm (rwI b len (tkE b len pos) K (nI (i - 11))) q (4 * k) = q (4 * k) := qo_lo (p := 0) (by omega) (by omega)
    rw [r0, qo_lo (by omega) (by omega), qo_lo (by omega) (by omega), qo_lo (by omega) (by omega)]
    exact d k (by omega)
