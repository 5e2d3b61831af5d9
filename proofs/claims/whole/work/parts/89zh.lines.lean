/-! TEXT: lines in the model: what a line answers -/
def MF (m m' : MI) : Prop := ∀ c i j, ¬ (c = 10 ∧ i = 0) → ¬ (c = 59 ∧ i = 0) → ¬ (c = 60 ∧ i = 0) → m' c i j = m c i j
theorem MF_refl (m : MI) : MF m m := fun _ _ _ _ _ _ => rfl
theorem MF_trans {a c d : MI} (h : MF a c) (h2 : MF c d) : MF a d := fun x i j z1 z2 z3 => (h2 x i j z1 z2 z3).trans (h x i j z1 z2 z3)
def okJ (i K : Nat) : Prop := liB i = true ∨ nuN i ≤ K
def mOut (b : Nat → Nat) (len pos i : Nat) (f : Nat × Nat) (K : Nat) (m : MI) (w : WS) (r : Option (Int32 × MI × WS)) (E : MI → Prop) : Prop :=
  (okJ i K ∧ ∃ m' wd, r = some (1, m', (w.1, w.2.1, w.2.2.1, wd)) ∧ mS b len pos i f K m' (w.1, w.2.1, w.2.2.1, wd) ∧ E m' ∧ MF m m') ∨
  (¬ okJ i K ∧ ∃ m' wd, r = some (0, m', (w.1, w.2.1, w.2.2.1, wd)) ∧ m' 10 0 16 = nI (tkP b len (poN b len pos K)) ∧ MF m m')
theorem mOut_E {b : Nat → Nat} {len pos i K : Nat} {f : Nat × Nat} {m : MI} {w : WS} {r : Option (Int32 × MI × WS)} {E E' : MI → Prop} (h : mOut b len pos i f K m w r E) (he : ∀ m', E m' → E' m') : mOut b len pos i f K m w r E' := by
  rcases h with ⟨a1, m', wd, a2, a3, a4, a5⟩ | h
  · exact Or.inl ⟨a1, m', wd, a2, a3, he m' a4, a5⟩
  · exact Or.inr h
theorem mOut_ck {b : Nat → Nat} {len pos i K : Nat} {f : Nat × Nat} {m : MI} {w : WS} {r : Option (Int32 × MI × WS)} {E : MI → Prop} (h : mOut b len pos i f K m w r E) : mOut b len pos i f K m w (r.bind fun c => ck (c.1 = 0 ∨ c.1 = 1) (some (c.1, c.2.1, c.2.2))) E := by
  rcases h with ⟨a1, m', wd, a2, a3, a4, a5⟩ | ⟨a1, m', wd, a2, a3, a4⟩
  · exact Or.inl ⟨a1, m', wd, by rw [a2, Option.bind_some]; exact if_pos (Or.inr rfl), a3, a4, a5⟩
  · exact Or.inr ⟨a1, m', wd, by rw [a2, Option.bind_some]; exact if_pos (Or.inl rfl), a3, a4⟩
/-- the model at the beginning of a line -/
def mL (b : Nat → Nat) (len pos : Nat) (f : Nat × Nat) (m : MI) (w : WS) : Prop := tapM m b len ∧ tokM m w.2.2.2 b len pos ∧ ntM m f ∧ (f.1 ≠ 0 → f.2 < tkP b len pos)
theorem m_tok0 {b : Nat → Nat} {len pos : Nat} (i : Nat) {f : Nat × Nat} {m : MI} {w : WS} (hp : pos ≤ len) (hL : mL b len pos f m w) : ∃ m2 wd, F_X11_token m w = some (m2, (w.1, w.2.1, w.2.2.1, wd)) ∧ mS b len (tkE b len pos) i f 0 m2 (w.1, w.2.1, w.2.2.1, wd) ∧ ∀ c i j, ¬ (c = 10 ∧ i = 0 ∧ (j = 10 ∨ j = 12 ∨ j = 13 ∨ j = 14)) → m2 c i j = m c i j := by
  obtain ⟨h1, h2, h3, h4⟩ := hL
  obtain ⟨p1, p2, p3⟩ := tk_le (b := b) hp
  have pp := tk_le (b := b) (pos := tkE b len pos) p3
  obtain ⟨m2, wd, r1, r2, r3⟩ := m_token (w := w) h1 p3 h2.1
  exact ⟨m2, wd, r1, ⟨tapM_of h1 fun c i j q => r3 _ _ _ (by omega), r2, ntM_of h3 fun j q => r3 _ _ _ (by omega), fun q => by have := h4 q; show f.2 < tkP b len (tkE b len pos); omega⟩, r3⟩
theorem ch_out {b : Nat → Nat} {len pos i K j : Nat} {f : Nat × Nat} {k : MI → WS → Option (Int32 × MI × WS)} {l : List (Nat × Nat)} {m0 m : MI} {w : WS} {E : MI → Prop} (hp : pos ≤ len) (hK : lnK b len pos i K)
    (hl : ∀ q, q < l.length → (l.getD q (0, 0)).1 = loT (coT i (0 + q)) ∧ (l.getD q (0, 0)).2 = hiT (coT i (0 + q)) ∧ (l.getD q (0, 0)).1 < 100 ∧ (l.getD q (0, 0)).2 < 100) (hnl : liB i = false) (hn : nuN i = l.length) (hj : j + l.length ≤ 5) (hS : mS b len pos i f 0 m w) (hF : MF m0 m)
    (hk : ∀ m' wd, K = l.length → mS b len pos i f K m' (w.1, w.2.1, w.2.2.1, wd) → (∀ q, q < l.length → m' 60 0 (j + q) = nI (tkV b len (poN b len pos q))) → ((∀ q, q < l.length → rgN b len pos i q) → m' 10 0 22 = m 10 0 22) → (m' 10 0 22 = 0 ∨ ∀ q, q < l.length → rgN b len pos i q) → (∀ c i' k', ¬ (c = 10 ∧ i' = 0 ∧ (k' = 10 ∨ k' = 12 ∨ k' = 13 ∨ k' = 14 ∨ k' = 17 ∨ k' = 18 ∨ k' = 22)) → ¬ (c = 60 ∧ i' = 0 ∧ j ≤ k' ∧ k' < j + l.length) → m' c i' k' = m c i' k') →
      ∃ m'', k m' (w.1, w.2.1, w.2.2.1, wd) = some (1, m'', (w.1, w.2.1, w.2.2.1, wd)) ∧ mS b len pos i f K m'' (w.1, w.2.1, w.2.2.1, wd) ∧ E m'' ∧ MF m' m'') : mOut b len pos i f K m0 w (chn l j k m w) E := by
  have hb : buN i = l.length := by unfold buN; rw [hnl, if_neg (by decide)]; exact hn
  obtain ⟨k1, k2, k3⟩ := hK
  rw [hb] at k1 k3
  rcases chn_ok (k := k) hp k2 l 0 j m w hl (by omega) hj (Nat.zero_le _) (by omega) (fun z => k3 (by omega)) hS with ⟨q1, m', wd, q2, q3, q4, q5, q6, q7⟩ | ⟨q1, m', wd, q2, q3, q4⟩
  · simp only [Nat.zero_add] at q1 q4 q5 q6
    obtain ⟨m'', e1, e2, e3, e4⟩ := hk m' wd q1 q3 q4 q5 q6 q7
    refine Or.inl ⟨Or.inr (by omega), m'', wd, q2.trans e1, e2, e3, MF_trans hF (MF_trans (fun c i' k' z1 z2 z3 => q7 _ _ _ (by omega) (by omega)) e4)⟩
  · refine Or.inr ⟨fun z => ?_, m', wd, q2, q3, MF_trans hF fun c i' k' z1 z2 z3 => q4 _ _ _ z1 z3⟩
    rcases z with z | z
    · rw [hnl] at z; exact absurd z (by decide)
    · omega
/-! a shop's lines -/
theorem ck0_161 {α : Type} (x : Option α) : ck (¬ ((0 : Int32) < 0 ∨ 161 ≤ (0 : Int32).toNatClampNeg)) x = x := if_pos (by decide)
theorem ck1_161 {α : Type} (x : Option α) : ck (¬ ((1 : Int32) < 0 ∨ 161 ≤ (1 : Int32).toNatClampNeg)) x = x := if_pos (by decide)
theorem ck2_161 {α : Type} (x : Option α) : ck (¬ ((2 : Int32) < 0 ∨ 161 ≤ (2 : Int32).toNatClampNeg)) x = x := if_pos (by decide)
theorem ck0_5 {α : Type} (x : Option α) : ck (¬ ((0 : Int32) < 0 ∨ 5 ≤ (0 : Int32).toNatClampNeg)) x = x := if_pos (by decide)
def kSize (m : MI) (w : WS) : Option (Int32 × MI × WS) := if (m 10 0 22) = 0 then ck (¬ ((0 : Int32) < 0 ∨ 161 ≤ (0 : Int32).toNatClampNeg)) (lt (u3 m 59 0 0 (m 59 0 0)) fun m62 => if (m62 10 0 22) = 0 then ck (¬ ((1 : Int32) < 0 ∨ 161 ≤ (1 : Int32).toNatClampNeg)) (lt (u3 m62 59 0 1 (m62 59 0 1)) fun m63 => some ((1 : Int32), m63, w)) else ck (¬ ((1 : Int32) < 0 ∨ 161 ≤ (1 : Int32).toNatClampNeg)) (lt (u3 m62 59 0 1 (m62 60 0 1)) fun m63 => some ((1 : Int32), m63, w))) else ck (¬ ((0 : Int32) < 0 ∨ 161 ≤ (0 : Int32).toNatClampNeg)) (lt (u3 m 59 0 0 (m 60 0 0)) fun m62 => if (m62 10 0 22) = 0 then ck (¬ ((1 : Int32) < 0 ∨ 161 ≤ (1 : Int32).toNatClampNeg)) (lt (u3 m62 59 0 1 (m62 59 0 1)) fun m63 => some ((1 : Int32), m63, w)) else ck (¬ ((1 : Int32) < 0 ∨ 161 ≤ (1 : Int32).toNatClampNeg)) (lt (u3 m62 59 0 1 (m62 60 0 1)) fun m63 => some ((1 : Int32), m63, w)))
theorem kSize_ok {m : MI} {w : WS} : ∃ m', kSize m w = some (1, m', w) ∧ (m 10 0 22 ≠ 0 → m' 59 0 0 = m 60 0 0 ∧ m' 59 0 1 = m 60 0 1) ∧ ∀ c i j, ¬ (c = 59 ∧ i = 0 ∧ j < 2) → m' c i j = m c i j := by
  unfold kSize
  by_cases h : m 10 0 22 = 0
  · rw [if_pos h, ck0_161, lt_e, if_pos (show u3 m 59 0 0 (m 59 0 0) 10 0 22 = 0 by rw [u3_n (by omega)]; exact h), ck1_161, lt_e]
    exact ⟨_, rfl, fun q => absurd h q, fun c i j z => by rw [u3_n (by omega), u3_n (by omega)]⟩
  · rw [if_neg h, ck0_161, lt_e, if_neg (show ¬ u3 m 59 0 0 (m 60 0 0) 10 0 22 = 0 by rw [u3_n (by omega)]; exact h), ck1_161, lt_e]
    exact ⟨_, rfl, fun _ => ⟨by rw [u3_n (by omega), u3_s], by rw [u3_s, u3_n (by omega)]⟩, fun c i j z => by rw [u3_n (by omega), u3_n (by omega)]⟩
def kSlip (m : MI) (w : WS) : Option (Int32 × MI × WS) := if (m 10 0 22) = 0 then ck (¬ ((2 : Int32) < 0 ∨ 161 ≤ (2 : Int32).toNatClampNeg)) (lt (u3 m 59 0 2 (m 59 0 2)) fun m61 => some ((1 : Int32), m61, w)) else ck (¬ ((2 : Int32) < 0 ∨ 161 ≤ (2 : Int32).toNatClampNeg)) (lt (u3 m 59 0 2 (m 60 0 0)) fun m61 => some ((1 : Int32), m61, w))
theorem kSlip_ok {m : MI} {w : WS} : ∃ m', kSlip m w = some (1, m', w) ∧ (m 10 0 22 ≠ 0 → m' 59 0 2 = m 60 0 0) ∧ ∀ c i j, ¬ (c = 59 ∧ i = 0 ∧ j = 2) → m' c i j = m c i j := by
  unfold kSlip
  by_cases h : m 10 0 22 = 0
  · rw [if_pos h, ck2_161, lt_e]
    exact ⟨_, rfl, fun q => absurd h q, fun c i j z => by rw [u3_n (by omega)]⟩
  · rw [if_neg h, ck2_161, lt_e]
    exact ⟨_, rfl, fun _ => u3_s, fun c i j z => by rw [u3_n (by omega)]⟩
def kWear (m : MI) (w : WS) : Option (Int32 × MI × WS) := lt (u3 m 10 0 21 (f_X11_greater m (m 10 0 21) (m 60 0 0))) fun m56 => if (m56 10 0 22) = 0 then some ((1 : Int32), m56, w) else ck (¬ (((34 : Int32) + (m56 60 0 0)) < 0 ∨ 161 ≤ ((34 : Int32) + (m56 60 0 0)).toNatClampNeg)) (lt (u3 m56 59 0 (((34 : Int32) + (m56 60 0 0)).toNatClampNeg) (m56 60 0 1)) fun m57 => some ((1 : Int32), m57, w))
theorem kWear_ok {m : MI} {w : WS} {a : Nat} (ha : m 60 0 0 = nI a) (h5 : m 10 0 22 = 0 ∨ a ≤ 5) : ∃ m', kWear m w = some (1, m', w) ∧ m' 10 0 21 = f_X11_greater m (m 10 0 21) (nI a) ∧ (m 10 0 22 ≠ 0 → m' 59 0 (34 + a) = m 60 0 1 ∧ ∀ j, j ≠ 34 + a → m' 59 0 j = m 59 0 j) ∧ ∀ c i j, ¬ (c = 10 ∧ i = 0 ∧ j = 21) → ¬ (c = 59 ∧ i = 0 ∧ 34 ≤ j ∧ j < 40) → m' c i j = m c i j := by
  unfold kWear
  rw [lt_e]
  have e22 : u3 m 10 0 21 (f_X11_greater m (m 10 0 21) (m 60 0 0)) 10 0 22 = m 10 0 22 := u3_n (by omega)
  have e60 : u3 m 10 0 21 (f_X11_greater m (m 10 0 21) (m 60 0 0)) 60 0 0 = nI a := by rw [u3_n (by omega)]; exact ha
  by_cases h : m 10 0 22 = 0
  · rw [if_pos (e22.trans h)]
    exact ⟨_, rfl, by rw [u3_s, ha], fun q => absurd h q, fun c i j z _ => by rw [u3_n (by omega)]⟩
  · have h5' : a ≤ 5 := h5.resolve_left h
    rw [if_neg (fun z => h (e22.symm.trans z)), e60, show (34 : Int32) + nI a = nI (34 + a) from nadd 34 a, ck_in (by omega) (by omega), ncl (by omega), lt_e]
    exact ⟨_, rfl, by rw [u3_n (by omega), u3_s, ha], fun _ => ⟨by rw [u3_s, u3_n (by omega)], fun j z => by rw [u3_n (by omega), u3_n (by omega)]⟩, fun c i j z1 z2 => by rw [u3_n (by omega), u3_n (by omega)]⟩
/-- content of a shop's text so far, in the model -/
def faI (wb : Nat) : Int32 := if wb = 0 then -1 else nI (Nat.log2 wb)
def sM0 (m : MI) (W H sl n wb : Nat) (ro we : Nat → Nat) : Prop := m 59 0 0 = nI W ∧ m 59 0 1 = nI H ∧ m 59 0 2 = nI sl ∧ m 59 0 3 = nI n ∧ (∀ k, k < 30 → m 59 0 (4 + k) = nI (ro k)) ∧ (∀ s, s < 6 → m 59 0 (34 + s) = nI (we s)) ∧ m 10 0 21 = faI wb
theorem far_tab : ((List.range 64).all fun wb => (List.range 6).all fun s => decide ((if faI wb ≤ nI s then nI s else faI wb) = faI (wb ||| 1 <<< s)) && Nat.blt (wb ||| 1 <<< s) 64) = true := by decide +kernel
theorem far_up {m : MI} {wb s : Nat} (h : wb < 64) (hs : s < 6) : f_X11_greater m (faI wb) (nI s) = faI (wb ||| 1 <<< s) ∧ wb ||| 1 <<< s < 64 := by
  have := List.all_eq_true.mp (List.all_eq_true.mp far_tab wb (List.mem_range.mpr h)) s (List.mem_range.mpr hs)
  rw [Bool.and_eq_true] at this
  exact ⟨of_decide_eq_true this.1, Nat.le_of_ble_eq_true this.2⟩
theorem ln_0 : liB 0 = false ∧ nuN 0 = 2 := by decide
theorem ln_1 : liB 1 = false ∧ nuN 1 = 1 := by decide
theorem ln_3 : liB 3 = false ∧ nuN 3 = 2 := by decide
theorem rg_hi {b : Nat → Nat} {len pos i q lo hi : Nat} (h : rgN b len pos i q) (h1 : loT (coT i q) = lo) (h2 : hiT (coT i q) = hi) : lo ≤ tkV b len (poN b len pos q) ∧ tkV b len (poN b len pos q) ≤ hi := by
  obtain ⟨a, c⟩ := h
  rw [h1] at a
  rw [h2] at c
  exact ⟨a, c⟩
theorem lg_no {m : MI} {wd : Int64} {b : Nat → Nat} {len pos i j : Nat} (hp : pos ≤ len) (htk : tokM m wd b len pos) (hi : i < 13) (hj : j < 13) (hw : wOk b len pos i) (hij : i ≠ j) : ¬ lg_cmp (wdX m wd) (lN (pkP (kwN j) (kwN j).length)) = 0 := by
  intro z
  rw [m_sel hp htk hj] at z
  exact hij (wOk_one hi hj hw z)
theorem lg_yes {m : MI} {wd : Int64} {b : Nat → Nat} {len pos i : Nat} (hp : pos ≤ len) (htk : tokM m wd b len pos) (hi : i < 13) (hw : wOk b len pos i) : lg_cmp (wdX m wd) (lN (pkP (kwN i) (kwN i).length)) = 0 := by
  rw [m_sel hp htk hi]
  exact hw
def E0 (m : MI) (rg : Prop) (st : Nat → Nat → Nat → Nat → Nat → (Nat → Nat) → (Nat → Nat) → MI → Prop) (m' : MI) : Prop := (∀ nm, nm ≤ 6 → m 59 0 3 = nI nm → ∃ n', n' ≤ 6 ∧ m' 59 0 3 = nI n') ∧ (rg → ∀ W H sl n wb ro we, n ≤ 6 → wb < 64 → sM0 m W H sl n wb ro we → st W H sl n wb ro we m')
theorem m_size {b : Nat → Nat} {len pos K : Nat} {f : Nat × Nat} {m : MI} {w : WS} {p : Int32} (hp : pos ≤ len) (hL : mL b len pos f m w) (h22 : m 10 0 22 = 1) (hw : wOk b len pos 0) (hK : lnK b len (tkE b len pos) 0 K) :
    mOut b len (tkE b len pos) 0 f K m w (F_X11_shopLine m w (wdX m w.2.2.2) p) (E0 m (∀ q, q < 2 → rgN b len (tkE b len pos) 0 q) fun W H sl n wb ro we m' => sM0 m' (tkV b len (poN b len (tkE b len pos) 0)) (tkV b len (poN b len (tkE b len pos) 1)) sl n wb ro we) := by
  obtain ⟨p1, p2, p3⟩ := tk_le (b := b) hp
  obtain ⟨m2, wd, r1, r2, r3⟩ := m_tok0 0 hp hL
  have y0 := lg_yes hp hL.2.1 (by omega) hw
  have n2 := lg_no (j := 2) hp hL.2.1 (by omega) (by omega) hw (by omega)
  rw [kl_0] at y0
  rw [kl_2] at n2
  unfold F_X11_shopLine
  rw [if_neg n2, if_pos y0, r1, Option.bind_some, if_pos y0]
  show mOut b len (tkE b len pos) 0 f K m w (chn [(1, 5), (1, 5)] 0 kSize m2 (w.1, w.2.1, w.2.2.1, wd)) _
  refine ch_out (w := (w.1, w.2.1, w.2.2.1, wd)) p3 hK (by decide) ln_0.1 ln_0.2 (by decide) r2 (fun c i j z1 z2 z3 => r3 _ _ _ (by omega)) (fun m' wd' eK g1 g2 g3 g4 g5 => ?_)
  obtain ⟨m'', e1, e2, e3⟩ := kSize_ok (m := m') (w := (w.1, w.2.1, w.2.2.1, wd'))
  refine ⟨m'', e1, mS_of g1 fun c i j z => e3 _ _ _ (by omega), ⟨fun nm h1 h2 => ⟨nm, h1, ?_⟩, fun hr W H sl n wb ro we _ hwb hM => ?_⟩, fun c i j z1 z2 z3 => e3 _ _ _ (by omega)⟩
  · rw [e3 _ _ _ (by omega), g5 _ _ _ (by omega) (by omega), r3 _ _ _ (by omega)]; exact h2
  · obtain ⟨a0, a1, a2, a3, a4, a5, a6⟩ := hM
    have h22' : m' 10 0 22 ≠ 0 := by rw [g3 hr, r3 _ _ _ (by omega), h22]; decide
    have k0 := g2 0 (by decide)
    have k1 := g2 1 (by decide)
    refine ⟨(e2 h22').1.trans k0, (e2 h22').2.trans k1, ?_, ?_, fun k hk => ?_, fun s hs => ?_, ?_⟩
    · rw [e3 _ _ _ (by omega), g5 _ _ _ (by omega) (by omega), r3 _ _ _ (by omega)]; exact a2
    · rw [e3 _ _ _ (by omega), g5 _ _ _ (by omega) (by omega), r3 _ _ _ (by omega)]; exact a3
    · rw [e3 _ _ _ (by omega), g5 _ _ _ (by omega) (by omega), r3 _ _ _ (by omega)]; exact a4 k hk
    · rw [e3 _ _ _ (by omega), g5 _ _ _ (by omega) (by omega), r3 _ _ _ (by omega)]; exact a5 s hs
    · rw [e3 _ _ _ (by omega), g5 _ _ _ (by omega) (by omega), r3 _ _ _ (by omega)]; exact a6
theorem m_slip {b : Nat → Nat} {len pos K : Nat} {f : Nat × Nat} {m : MI} {w : WS} {p : Int32} (hp : pos ≤ len) (hL : mL b len pos f m w) (h22 : m 10 0 22 = 1) (hw : wOk b len pos 1) (hK : lnK b len (tkE b len pos) 1 K) :
    mOut b len (tkE b len pos) 1 f K m w (F_X11_shopLine m w (wdX m w.2.2.2) p) (E0 m (∀ q, q < 1 → rgN b len (tkE b len pos) 1 q) fun W H sl n wb ro we m' => sM0 m' W H (tkV b len (poN b len (tkE b len pos) 0)) n wb ro we) := by
  obtain ⟨p1, p2, p3⟩ := tk_le (b := b) hp
  obtain ⟨m2, wd, r1, r2, r3⟩ := m_tok0 1 hp hL
  have y1 := lg_yes hp hL.2.1 (by omega) hw
  have n2 := lg_no (j := 2) hp hL.2.1 (by omega) (by omega) hw (by omega)
  have n0 := lg_no (j := 0) hp hL.2.1 (by omega) (by omega) hw (by omega)
  rw [kl_1] at y1
  rw [kl_2] at n2
  rw [kl_0] at n0
  unfold F_X11_shopLine
  rw [if_neg n2, if_neg n0, if_pos y1, r1, Option.bind_some, if_neg n0, if_pos y1]
  show mOut b len (tkE b len pos) 1 f K m w (chn [(0, 10)] 0 kSlip m2 (w.1, w.2.1, w.2.2.1, wd)) _
  refine ch_out (w := (w.1, w.2.1, w.2.2.1, wd)) p3 hK (by decide) ln_1.1 ln_1.2 (by decide) r2 (fun c i j z1 z2 z3 => r3 _ _ _ (by omega)) (fun m' wd' eK g1 g2 g3 g4 g5 => ?_)
  obtain ⟨m'', e1, e2, e3⟩ := kSlip_ok (m := m') (w := (w.1, w.2.1, w.2.2.1, wd'))
  refine ⟨m'', e1, mS_of g1 fun c i j z => e3 _ _ _ (by omega), ⟨fun nm h1 h2 => ⟨nm, h1, ?_⟩, fun hr W H sl n wb ro we _ hwb hM => ?_⟩, fun c i j z1 z2 z3 => e3 _ _ _ (by omega)⟩
  · rw [e3 _ _ _ (by omega), g5 _ _ _ (by omega) (by omega), r3 _ _ _ (by omega)]; exact h2
  · obtain ⟨a0, a1, a2, a3, a4, a5, a6⟩ := hM
    have h22' : m' 10 0 22 ≠ 0 := by rw [g3 hr, r3 _ _ _ (by omega), h22]; decide
    have k0 := g2 0 (by decide)
    refine ⟨?_, ?_, (e2 h22').trans k0, ?_, fun k hk => ?_, fun s hs => ?_, ?_⟩
    · rw [e3 _ _ _ (by omega), g5 _ _ _ (by omega) (by omega), r3 _ _ _ (by omega)]; exact a0
    · rw [e3 _ _ _ (by omega), g5 _ _ _ (by omega) (by omega), r3 _ _ _ (by omega)]; exact a1
    · rw [e3 _ _ _ (by omega), g5 _ _ _ (by omega) (by omega), r3 _ _ _ (by omega)]; exact a3
    · rw [e3 _ _ _ (by omega), g5 _ _ _ (by omega) (by omega), r3 _ _ _ (by omega)]; exact a4 k hk
    · rw [e3 _ _ _ (by omega), g5 _ _ _ (by omega) (by omega), r3 _ _ _ (by omega)]; exact a5 s hs
    · rw [e3 _ _ _ (by omega), g5 _ _ _ (by omega) (by omega), r3 _ _ _ (by omega)]; exact a6
theorem m_wear {b : Nat → Nat} {len pos K : Nat} {f : Nat × Nat} {m : MI} {w : WS} {p : Int32} (hp : pos ≤ len) (hL : mL b len pos f m w) (h22 : m 10 0 22 = 1) (hw : wOk b len pos 3) (hK : lnK b len (tkE b len pos) 3 K) :
    mOut b len (tkE b len pos) 3 f K m w (F_X11_shopLine m w (wdX m w.2.2.2) p) (E0 m (∀ q, q < 2 → rgN b len (tkE b len pos) 3 q) fun W H sl n wb ro we m' => sM0 m' W H sl n (wb ||| 1 <<< tkV b len (poN b len (tkE b len pos) 0)) ro fun s => if s = tkV b len (poN b len (tkE b len pos) 0) then tkV b len (poN b len (tkE b len pos) 1) else we s) := by
  obtain ⟨p1, p2, p3⟩ := tk_le (b := b) hp
  obtain ⟨m2, wd, r1, r2, r3⟩ := m_tok0 3 hp hL
  have y3 := lg_yes hp hL.2.1 (by omega) hw
  have n2 := lg_no (j := 2) hp hL.2.1 (by omega) (by omega) hw (by omega)
  have n0 := lg_no (j := 0) hp hL.2.1 (by omega) (by omega) hw (by omega)
  have n1 := lg_no (j := 1) hp hL.2.1 (by omega) (by omega) hw (by omega)
  rw [kl_1] at n1
  rw [kl_2] at n2
  rw [kl_0] at n0
  rw [kl_3] at y3
  unfold F_X11_shopLine
  rw [if_neg n2, if_neg n0, if_neg n1, if_pos y3, r1, Option.bind_some, if_neg n0, if_neg n1]
  show mOut b len (tkE b len pos) 3 f K m w (chn [(0, 5), (1, 9)] 0 kWear m2 (w.1, w.2.1, w.2.2.1, wd)) _
  refine ch_out (w := (w.1, w.2.1, w.2.2.1, wd)) p3 hK (by decide) ln_3.1 ln_3.2 (by decide) r2 (fun c i j z1 z2 z3 => r3 _ _ _ (by omega)) (fun m' wd' eK g1 g2 g3 g4 g5 => ?_)
  have k0 := g2 0 (by decide)
  have k1 := g2 1 (by decide)
  have ra : ∀ (h : ∀ q, q < 2 → rgN b len (tkE b len pos) 3 q), tkV b len (poN b len (tkE b len pos) 0) ≤ 5 := fun h => (rg_hi (lo := 0) (hi := 5) (h 0 (by omega)) (by decide) (by decide)).2
  obtain ⟨m'', e1, e2, e3, e4⟩ := kWear_ok (m := m') (w := (w.1, w.2.1, w.2.2.1, wd')) k0 (g4.elim Or.inl fun h => Or.inr (ra h))
  refine ⟨m'', e1, mS_of g1 fun c i j z => e4 _ _ _ (by omega) (by omega), ⟨fun nm h1 h2 => ⟨nm, h1, ?_⟩, fun hr W H sl n wb ro we _ hwb hM => ?_⟩, fun c i j z1 z2 z3 => e4 _ _ _ (by omega) (by omega)⟩
  · rw [e4 _ _ _ (by omega) (by omega), g5 _ _ _ (by omega) (by omega), r3 _ _ _ (by omega)]; exact h2
  · obtain ⟨a0, a1, a2, a3, a4, a5, a6⟩ := hM
    have h22' : m' 10 0 22 ≠ 0 := by rw [g3 hr, r3 _ _ _ (by omega), h22]; decide
    have hv := ra hr
    refine ⟨?_, ?_, ?_, ?_, fun k hk => ?_, fun s hs => ?_, ?_⟩
    · rw [e4 _ _ _ (by omega) (by omega), g5 _ _ _ (by omega) (by omega), r3 _ _ _ (by omega)]; exact a0
    · rw [e4 _ _ _ (by omega) (by omega), g5 _ _ _ (by omega) (by omega), r3 _ _ _ (by omega)]; exact a1
    · rw [e4 _ _ _ (by omega) (by omega), g5 _ _ _ (by omega) (by omega), r3 _ _ _ (by omega)]; exact a2
    · rw [e4 _ _ _ (by omega) (by omega), g5 _ _ _ (by omega) (by omega), r3 _ _ _ (by omega)]; exact a3
    · rw [e4 _ _ _ (by omega) (by omega), g5 _ _ _ (by omega) (by omega), r3 _ _ _ (by omega)]; exact a4 k hk
    · dsimp only
      by_cases es : s = tkV b len (poN b len (tkE b len pos) 0)
      · rw [if_pos es, es]; exact (e3 h22').1.trans k1
      · rw [if_neg es, (e3 h22').2 _ (by omega), g5 _ _ _ (by omega) (by omega), r3 _ _ _ (by omega)]; exact a5 s hs
    · rw [e2, g5 _ _ _ (by omega) (by omega), r3 _ _ _ (by omega), a6]
      exact (far_up hwb (by omega)).1
/-- rows of five with one more -/
def roW (n K : Nat) (v ro : Nat → Nat) (k : Nat) : Nat := if 5 * n ≤ k ∧ k < 5 * n + 5 then (if k - 5 * n < K then v (k - 5 * n) else 0) else ro k
theorem m_sheet {b : Nat → Nat} {len pos K nm : Nat} {f : Nat × Nat} {m : MI} {w : WS} (hp : pos ≤ len) (hL : mL b len pos f m w) (hw : wOk b len pos 2) (hK : lnK b len (tkE b len pos) 2 K) (hn : m 59 0 3 = nI nm) (hnm : nm ≤ 6) :
    ∃ f1, ((¬ nm = 6 ∧ f1 = f) ∨ (nm = 6 ∧ f1 = ntF f 3 (tkP b len pos))) ∧ mOut b len (tkE b len pos) 2 f1 K m w (F_X11_shopLine m w (wdX m w.2.2.2) (nI (tkP b len pos))) (E0 m (nm < 6) fun W H sl n wb ro we m' => sM0 m' W H sl (n + 1) wb (roW n K (fun q => tkV b len (poN b len (tkE b len pos) q)) ro) we) := by
  have y2 := lg_yes hp hL.2.1 (by omega) hw
  rw [kl_2] at y2
  unfold F_X11_shopLine
  rw [if_pos y2, sheet_lis]
  obtain ⟨f1, K', m', wd, q1, q2, q3, q4, q5, q6, q7, q8, q9, q10⟩ := m_lisL (i := 2) (x := 3) (lim := 6) (base := 4) (hi := 31) hp hw.1 li_2.1 li_2.2.1 li_2.2.2 (by omega) (by omega) (by omega) (by omega) hL.1 hL.2.1 hL.2.2.1 hL.2.2.2 hn hnm
  have eK := lnK_one hK q2
  subst eK
  refine ⟨f1, q1, mOut_ck (Or.inl ⟨Or.inl li_2.1, m', wd, q3, ⟨q4, q5, q6, q7⟩, ⟨fun _ _ _ => ⟨_, by omega, q8⟩, fun hr W H sl n wb ro we hn6 hwb hM => ?_⟩, fun c i j z1 z2 z3 => q10 _ _ _ (by omega) (by omega) (by omega)⟩)⟩
  obtain ⟨a0, a1, a2, a3, a4, a5, a6⟩ := hM
  have en : n = nm := by
    rw [hn] at a3
    have := (neq (a := nm) (b := n) (by omega) (by omega)).mp a3
    exact this.symm
  subst en
  refine ⟨?_, ?_, ?_, ?_, fun k hk => ?_, fun s hs => ?_, ?_⟩
  · rw [q10 _ _ _ (by omega) (by omega) (by omega)]; exact a0
  · rw [q10 _ _ _ (by omega) (by omega) (by omega)]; exact a1
  · rw [q10 _ _ _ (by omega) (by omega) (by omega)]; exact a2
  · rw [q8, show min 6 (n + 1) = n + 1 by omega]
  · unfold roW
    by_cases z : 5 * n ≤ k ∧ k < 5 * n + 5
    · rw [if_pos z, ← q9 hr (k - 5 * n) (by omega), show 4 + k = 4 + 5 * n + (k - 5 * n) by omega]
    · rw [if_neg z, q10 _ _ _ (by omega) (by omega) (by omega)]; exact a4 k hk
  · rw [q10 _ _ _ (by omega) (by omega) (by omega)]; exact a5 s hs
  · rw [q10 _ _ _ (by omega) (by omega) (by omega)]; exact a6
