/-! DRAWN -/
def nxS (s : Int32) : Int32 := (s * (1103515245)) + 12345
def drN (s : Int32) (b : Nat) : Nat := (s.toUInt32.toNat / 65536) % b
theorem ushr16 (s : Int32) : ushr s 16 = nI (s.toUInt32.toNat / 65536) := by
  unfold ushr
  apply Int32.toBitVec_inj.mp
  apply BitVec.eq_of_toNat_eq
  show (s.toUInt32 >>> ((16 : Int32).toUInt32 &&& Int32.toUInt32 31)).toNat = (nI (s.toUInt32.toNat / 65536)).toBitVec.toNat
  have e : ((16 : Int32).toUInt32 &&& Int32.toUInt32 31) = 16 := by decide
  have h2 : s.toUInt32.toNat < 4294967296 := s.toUInt32.toNat_lt
  have e2 : (nI (s.toUInt32.toNat / 65536)).toBitVec.toNat = s.toUInt32.toNat / 65536 := by
    show (BitVec.ofNat 32 (s.toUInt32.toNat / 65536)).toNat = _
    rw [BitVec.toNat_ofNat]
    exact Nat.mod_eq_of_lt (by omega)
  rw [e, e2, UInt32.toNat_shiftRight, Nat.shiftRight_eq_div_pow]
  rfl
theorem dr_lt {s : Int32} {b : Nat} (hb : 0 < b) : drN s b < b := Nat.mod_lt _ hb
theorem dr_rem {s : Int32} {b : Nat} (hb : 0 < b) (hb2 : b < 1000) : irem (ushr s 16) (nI b) = nI (drN s b) := by
  have h2 : s.toUInt32.toNat < 4294967296 := s.toUInt32.toNat_lt
  rw [ushr16, nrem (by omega) hb (by omega)]
  rfl
/-- draws, as they may be -/
def HDR (dr : Int32 → Nat → Nat) : Prop := ∀ s b, 0 < b → b < 1000 → irem (ushr s 16) (nI b) = nI (dr s b) ∧ dr s b < b
theorem hdr_ex : ∃ dr, HDR dr := ⟨drN, fun _ _ h1 h2 => ⟨dr_rem h1 h2, dr_lt h1⟩⟩
theorem c_draw {dr : Int32 → Nat → Nat} (hr : HDR dr) {mi : MI} {w : WS} {b : Nat} (hb : 0 < b) (hb2 : b < 1000) : F_X9_draw mi w (nI b) = some (nI (dr (nxS (mi 8 0 8)) b), u3 mi 8 0 8 (nxS (mi 8 0 8))) := by
  unfold F_X9_draw
  rw [lt_e, if_neg (show ¬ nI b ≤ 0 by rw [i0, nle (by omega) (by omega)]; omega), ckT (nI_ne0 hb (by omega)), u3_s]
  show some (irem (ushr (nxS (mi 8 0 8)) 16) (nI b), u3 mi 8 0 8 (nxS (mi 8 0 8))) = _
  rw [(hr _ _ hb hb2).1]
theorem m_draw {dr : Int32 → Nat → Nat} (hr : HDR dr) {m : MI} {w : WS} {b : Nat} (hb : 0 < b) (hb2 : b < 1000) : F_X11_draw m w (nI b) = some (nI (dr (nxS (m 10 0 49)) b), u3 m 10 0 49 (nxS (m 10 0 49))) := by
  unfold F_X11_draw
  rw [lt_e, ckT (nI_ne0 hb (by omega)), u3_s]
  show some (irem (ushr (nxS (m 10 0 49)) 16) (nI b), u3 m 10 0 49 (nxS (m 10 0 49))) = _
  rw [(hr _ _ hb hb2).1]
theorem u3_u3 {m : MI} {c i k : Nat} {a b : Int32} : u3 (u3 m c i k a) c i k b = u3 m c i k b := by
  funext c' i' k'
  unfold u3
  split <;> rfl
def drQ (dr : Int32 → Nat → Nat) (n : Nat) (s : Int32) : Option (Int32 × Int32 × Int32 × Int32) × Int32 :=
  if dr (nxS s) 10 = 9 then (some (5, nI (1 + dr (nxS (nxS s)) 9), -1, -1), nxS (nxS s))
  else if n = 0 then (none, nxS s)
  else if dr (nxS s) 10 ≤ 3 then (some (0, nI (dr (nxS (nxS s)) n), nI (1 + dr (nxS (nxS (nxS s))) 9), -1), nxS (nxS (nxS s)))
  else if dr (nxS s) 10 = 4 then (some (1, nI (dr (nxS (nxS s)) n), -1, -1), nxS (nxS s))
  else if dr (nxS s) 10 = 5 then (some (2, nI (dr (nxS (nxS s)) n), -1, -1), nxS (nxS s))
  else if dr (nxS s) 10 = 8 then (some (4, nI (dr (nxS (nxS s)) n), nI (dr (nxS (nxS (nxS s))) 5), nI (dr (nxS (nxS (nxS (nxS s)))) 5)), nxS (nxS (nxS (nxS s))))
  else (some (3, nI (dr (nxS (nxS s)) n), nI (dr (nxS (nxS (nxS s))) 5), nI (dr (nxS (nxS (nxS (nxS s)))) 5)), nxS (nxS (nxS (nxS s))))
theorem drQ_ok {dr : Int32 → Nat → Nat} (hr : HDR dr) {n : Nat} {s : Int32} (hn : n ≤ 6) {q : Int32 × Int32 × Int32 × Int32} (h : (drQ dr n s).1 = some q) : deedOK q.1 q.2.1 q.2.2.1 q.2.2.2 := by
  have l9 : ∀ t, dr t 9 < 9 := fun t => (hr t _ (by omega) (by omega)).2
  have l5 : ∀ t, dr t 5 < 5 := fun t => (hr t _ (by omega) (by omega)).2
  unfold drQ at h
  by_cases h9 : dr (nxS s) 10 = 9
  · rw [if_pos h9] at h
    cases h
    have := l9 (nxS (nxS s))
    exact Or.inr (Or.inr (Or.inr ⟨rfl, ⟨_, by omega, by omega, rfl⟩, rfl, rfl⟩))
  · rw [if_neg h9] at h
    by_cases h0 : n = 0
    · rw [if_pos h0] at h; cases h
    · rw [if_neg h0] at h
      have ln : dr (nxS (nxS s)) n < 6 := Nat.lt_of_lt_of_le (hr _ n (by omega) (by omega)).2 hn
      have := l9 (nxS (nxS (nxS s)))
      have h5 := l5 (nxS (nxS (nxS s)))
      have h6 := l5 (nxS (nxS (nxS (nxS s))))
      by_cases h3 : dr (nxS s) 10 ≤ 3
      · rw [if_pos h3] at h; cases h
        exact Or.inl ⟨rfl, ⟨_, ln, rfl⟩, ⟨_, by omega, by omega, rfl⟩, rfl⟩
      · rw [if_neg h3] at h
        by_cases h4 : dr (nxS s) 10 = 4
        · rw [if_pos h4] at h; cases h
          exact Or.inr (Or.inl ⟨Or.inl rfl, ⟨_, ln, rfl⟩, rfl, rfl⟩)
        · rw [if_neg h4] at h
          by_cases h45 : dr (nxS s) 10 = 5
          · rw [if_pos h45] at h; cases h
            exact Or.inr (Or.inl ⟨Or.inr rfl, ⟨_, ln, rfl⟩, rfl, rfl⟩)
          · rw [if_neg h45] at h
            by_cases h8 : dr (nxS s) 10 = 8
            · rw [if_pos h8] at h; cases h
              exact Or.inr (Or.inr (Or.inl ⟨Or.inr rfl, ⟨_, ln, rfl⟩, ⟨_, h5, rfl⟩, ⟨_, h6, rfl⟩⟩))
            · rw [if_neg h8] at h; cases h
              exact Or.inr (Or.inr (Or.inl ⟨Or.inl rfl, ⟨_, ln, rfl⟩, ⟨_, h5, rfl⟩, ⟨_, h6, rfl⟩⟩))
theorem bind_idM (x : Option MI) : (x.bind fun c => some c) = x := by cases x <;> rfl
theorem add_n1 (a : Nat) : (1 : Int32) + nI a = nI (1 + a) := by rw [i1, nadd]
/-- the kinds of the class's table -/
def kdN (K : Nat) : Nat := if K ≤ 3 then 0 else if K = 4 then 1 else if K = 5 then 2 else if K = 8 then 4 else if K = 9 then 5 else 3
theorem kd_tab : ((List.range 10).all fun K => decide (STA18.getD K 0 = nI (kdN K))) = true := by decide +kernel
theorem kd_of {K : Nat} (hK : K < 10) : STA18.getD ((nI K).toNatClampNeg) 0 = nI (kdN K) := by
  rw [ncl (by omega)]
  exact of_decide_eq_true (List.all_eq_true.mp kd_tab K (List.mem_range.mpr hK))
theorem z_10 : ((1 : Int32) = 0) = False := eq_false (by decide)
theorem z_00 : ((0 : Int32) = 0) = True := eq_true rfl
theorem zn_00 : (nI 0 = (0 : Int32)) = True := eq_true rfl
theorem zn_03 : (nI 0 = (3 : Int32)) = False := eq_false (by decide)
theorem zn_04 : (nI 0 = (4 : Int32)) = False := eq_false (by decide)
theorem zn_05 : (nI 0 = (5 : Int32)) = False := eq_false (by decide)
theorem zn_10 : (nI 1 = (0 : Int32)) = False := eq_false (by decide)
theorem zn_13 : (nI 1 = (3 : Int32)) = False := eq_false (by decide)
theorem zn_14 : (nI 1 = (4 : Int32)) = False := eq_false (by decide)
theorem zn_15 : (nI 1 = (5 : Int32)) = False := eq_false (by decide)
theorem zn_20 : (nI 2 = (0 : Int32)) = False := eq_false (by decide)
theorem zn_23 : (nI 2 = (3 : Int32)) = False := eq_false (by decide)
theorem zn_24 : (nI 2 = (4 : Int32)) = False := eq_false (by decide)
theorem zn_25 : (nI 2 = (5 : Int32)) = False := eq_false (by decide)
theorem zn_30 : (nI 3 = (0 : Int32)) = False := eq_false (by decide)
theorem zn_33 : (nI 3 = (3 : Int32)) = True := eq_true rfl
theorem zn_34 : (nI 3 = (4 : Int32)) = False := eq_false (by decide)
theorem zn_35 : (nI 3 = (5 : Int32)) = False := eq_false (by decide)
theorem zn_40 : (nI 4 = (0 : Int32)) = False := eq_false (by decide)
theorem zn_43 : (nI 4 = (3 : Int32)) = False := eq_false (by decide)
theorem zn_44 : (nI 4 = (4 : Int32)) = True := eq_true rfl
theorem zn_45 : (nI 4 = (5 : Int32)) = False := eq_false (by decide)
theorem zn_50 : (nI 5 = (0 : Int32)) = False := eq_false (by decide)
theorem zn_53 : (nI 5 = (3 : Int32)) = False := eq_false (by decide)
theorem zn_54 : (nI 5 = (4 : Int32)) = False := eq_false (by decide)
theorem zn_55 : (nI 5 = (5 : Int32)) = True := eq_true rfl
theorem bsm {α β : Type} (a : α) (f : α → Option β) : (some a).bind f = f a := Eq.trans (Option.bind_some a f) (Eq.refl _)
/-- how a step of the class begins -/
theorem c_dr0 {dr : Int32 → Nat → Nat} (hr : HDR dr) {mi : MI} {w : WS} {f : Nat} {x1 x2 x3 : Int32} (hx : ¬ x2 ≤ x3) {G : Option MI} (h : ∀ K, K < 10 → dr (nxS (mi 8 0 8)) 10 = K → (F_X9_draw mi w 10 = some (nI K, (u3 mi 8 0 8 (nxS (mi 8 0 8))))) → STA18.getD ((nI K).toNatClampNeg) 0 = nI (kdN K) → ¬ (nI K < 0 ∨ (STA18).length ≤ (nI K).toNatClampNeg) → L_X9_runDrawn_7 w (f + 1) mi x1 x2 x3 = G) : L_X9_runDrawn_7 w (f + 1) mi x1 x2 x3 = G := by
  have e10 : (10 : Int32) = nI 10 := rfl
  have l10 : dr (nxS (mi 8 0 8)) 10 < 10 := (hr _ _ (by omega) (by omega)).2
  refine h _ l10 rfl (by rw [e10, c_draw hr (by omega) (by omega)]) (kd_of l10) ?_
  rw [ncl (by omega)]
  show ¬ (nI _ < nI 0 ∨ 10 ≤ _)
  rw [nlt (by omega) (by omega)]
  omega
theorem dw_d {dr : Int32 → Nat → Nat} (hr : HDR dr) {mi : MI} {w : WS} (s : Int32) (b : Nat) (h1 : 0 < b) (h2 : b < 1000) : F_X9_draw (u3 mi 8 0 8 s) w (nI b) = some (nI (dr (nxS s) b), u3 mi 8 0 8 (nxS s)) := by
  rw [c_draw hr h1 h2, u3_s, u3_u3]
theorem dw_5 {dr : Int32 → Nat → Nat} (hr : HDR dr) {mi : MI} {w : WS} (s : Int32) : F_X9_draw (u3 mi 8 0 8 s) w 5 = some (nI (dr (nxS s) 5), u3 mi 8 0 8 (nxS s)) := by
  rw [i5]; exact dw_d hr s 5 (by omega) (by omega)
theorem dw_c {dr : Int32 → Nat → Nat} (hr : HDR dr) {mi : MI} {w : WS} (s : Int32) : F_X9_drawColour (u3 mi 8 0 8 s) w = some (nI (1 + dr (nxS s) 9), u3 mi 8 0 8 (nxS s)) := by
  unfold F_X9_drawColour
  have d9 : F_X9_draw (u3 mi 8 0 8 s) w 9 = some (nI (dr (nxS s) 9), u3 mi 8 0 8 (nxS s)) := by rw [i9]; exact dw_d hr s 9 (by omega) (by omega)
  rw [d9, Option.bind_some]
  dsimp only
  rw [add_n1]
theorem dw_3 {mi : MI} {w : WS} {n : Nat} (h3 : mi 5 w.1 3 = nI n) (s : Int32) : (u3 mi 8 0 8 s) 5 w.1 3 = nI n := by rw [u3_n (by omega)]; exact h3
theorem cd_9 {dr : Int32 → Nat → Nat} (hr : HDR dr) {mi : MI} {w : WS} {n : Nat} (hn : n ≤ 6) (h3 : mi 5 w.1 3 = nI n) {K : Nat} (hk : dr (nxS (mi 8 0 8)) 10 = K) (hS : STA18.getD ((nI K).toNatClampNeg) 0 = nI 5)  {f : Nat} {x1 x2 x3 : Int32} (hx : ¬ x2 ≤ x3) : L_X9_runDrawn_7 w (f + 1) mi x1 x2 x3 = (F_X9_act (u3 mi 8 0 8 (nxS (nxS (mi 8 0 8)))) w (nI 5) (nI (1 + dr (nxS (nxS (mi 8 0 8))) 9)) (-1) (-1)).bind fun r => L_X9_runDrawn_7 w f r.2 x1 x2 (x3 + 1) := by
  refine c_dr0 hr hx fun K' _ e d10 _ hin => ?_
  obtain rfl : K' = K := e.symm.trans hk
  rw [L_X9_runDrawn_7, if_neg hx, d10, Option.bind_some]
  dsimp only
  rw [ckT hin]
  simp only [hS, dw_c hr, bsm, ↓reduceIte, z_10, z_00, zn_00, zn_03, zn_04, zn_05, zn_10, zn_13, zn_14, zn_15, zn_20, zn_23, zn_24, zn_25, zn_30, zn_33, zn_34, zn_35, zn_40, zn_43, zn_44, zn_45, zn_50, zn_53, zn_54, zn_55]
theorem cd_z0 {dr : Int32 → Nat → Nat} (hr : HDR dr) {mi : MI} {w : WS} {n : Nat} (hn : n ≤ 6) (h3 : mi 5 w.1 3 = nI n) {K : Nat} (hk : dr (nxS (mi 8 0 8)) 10 = K) (hS : STA18.getD ((nI K).toNatClampNeg) 0 = nI 0) (h0 : n = 0) {f : Nat} {x1 x2 x3 : Int32} (hx : ¬ x2 ≤ x3) : L_X9_runDrawn_7 w (f + 1) mi x1 x2 x3 = L_X9_runDrawn_7 w f (u3 mi 8 0 8 (nxS (mi 8 0 8))) x1 x2 (x3 + 1) := by
  refine c_dr0 hr hx fun K' _ e d10 _ hin => ?_
  obtain rfl : K' = K := e.symm.trans hk
  rw [L_X9_runDrawn_7, if_neg hx, d10, Option.bind_some]
  dsimp only
  rw [ckT hin]
  have hle : (nI n ≤ (0 : Int32)) = True := eq_true (by rw [h0]; decide)
  simp only [hS, dw_3 h3, hle, ↓reduceIte, z_10, z_00, zn_00, zn_03, zn_04, zn_05, zn_10, zn_13, zn_14, zn_15, zn_20, zn_23, zn_24, zn_25, zn_30, zn_33, zn_34, zn_35, zn_40, zn_43, zn_44, zn_45, zn_50, zn_53, zn_54, zn_55]
theorem cd_z1 {dr : Int32 → Nat → Nat} (hr : HDR dr) {mi : MI} {w : WS} {n : Nat} (hn : n ≤ 6) (h3 : mi 5 w.1 3 = nI n) {K : Nat} (hk : dr (nxS (mi 8 0 8)) 10 = K) (hS : STA18.getD ((nI K).toNatClampNeg) 0 = nI 1) (h0 : n = 0) {f : Nat} {x1 x2 x3 : Int32} (hx : ¬ x2 ≤ x3) : L_X9_runDrawn_7 w (f + 1) mi x1 x2 x3 = L_X9_runDrawn_7 w f (u3 mi 8 0 8 (nxS (mi 8 0 8))) x1 x2 (x3 + 1) := by
  refine c_dr0 hr hx fun K' _ e d10 _ hin => ?_
  obtain rfl : K' = K := e.symm.trans hk
  rw [L_X9_runDrawn_7, if_neg hx, d10, Option.bind_some]
  dsimp only
  rw [ckT hin]
  have hle : (nI n ≤ (0 : Int32)) = True := eq_true (by rw [h0]; decide)
  simp only [hS, dw_3 h3, hle, ↓reduceIte, z_10, z_00, zn_00, zn_03, zn_04, zn_05, zn_10, zn_13, zn_14, zn_15, zn_20, zn_23, zn_24, zn_25, zn_30, zn_33, zn_34, zn_35, zn_40, zn_43, zn_44, zn_45, zn_50, zn_53, zn_54, zn_55]
theorem cd_z2 {dr : Int32 → Nat → Nat} (hr : HDR dr) {mi : MI} {w : WS} {n : Nat} (hn : n ≤ 6) (h3 : mi 5 w.1 3 = nI n) {K : Nat} (hk : dr (nxS (mi 8 0 8)) 10 = K) (hS : STA18.getD ((nI K).toNatClampNeg) 0 = nI 2) (h0 : n = 0) {f : Nat} {x1 x2 x3 : Int32} (hx : ¬ x2 ≤ x3) : L_X9_runDrawn_7 w (f + 1) mi x1 x2 x3 = L_X9_runDrawn_7 w f (u3 mi 8 0 8 (nxS (mi 8 0 8))) x1 x2 (x3 + 1) := by
  refine c_dr0 hr hx fun K' _ e d10 _ hin => ?_
  obtain rfl : K' = K := e.symm.trans hk
  rw [L_X9_runDrawn_7, if_neg hx, d10, Option.bind_some]
  dsimp only
  rw [ckT hin]
  have hle : (nI n ≤ (0 : Int32)) = True := eq_true (by rw [h0]; decide)
  simp only [hS, dw_3 h3, hle, ↓reduceIte, z_10, z_00, zn_00, zn_03, zn_04, zn_05, zn_10, zn_13, zn_14, zn_15, zn_20, zn_23, zn_24, zn_25, zn_30, zn_33, zn_34, zn_35, zn_40, zn_43, zn_44, zn_45, zn_50, zn_53, zn_54, zn_55]
theorem cd_z3 {dr : Int32 → Nat → Nat} (hr : HDR dr) {mi : MI} {w : WS} {n : Nat} (hn : n ≤ 6) (h3 : mi 5 w.1 3 = nI n) {K : Nat} (hk : dr (nxS (mi 8 0 8)) 10 = K) (hS : STA18.getD ((nI K).toNatClampNeg) 0 = nI 3) (h0 : n = 0) {f : Nat} {x1 x2 x3 : Int32} (hx : ¬ x2 ≤ x3) : L_X9_runDrawn_7 w (f + 1) mi x1 x2 x3 = L_X9_runDrawn_7 w f (u3 mi 8 0 8 (nxS (mi 8 0 8))) x1 x2 (x3 + 1) := by
  refine c_dr0 hr hx fun K' _ e d10 _ hin => ?_
  obtain rfl : K' = K := e.symm.trans hk
  rw [L_X9_runDrawn_7, if_neg hx, d10, Option.bind_some]
  dsimp only
  rw [ckT hin]
  have hle : (nI n ≤ (0 : Int32)) = True := eq_true (by rw [h0]; decide)
  simp only [hS, dw_3 h3, hle, ↓reduceIte, z_10, z_00, zn_00, zn_03, zn_04, zn_05, zn_10, zn_13, zn_14, zn_15, zn_20, zn_23, zn_24, zn_25, zn_30, zn_33, zn_34, zn_35, zn_40, zn_43, zn_44, zn_45, zn_50, zn_53, zn_54, zn_55]
theorem cd_z4 {dr : Int32 → Nat → Nat} (hr : HDR dr) {mi : MI} {w : WS} {n : Nat} (hn : n ≤ 6) (h3 : mi 5 w.1 3 = nI n) {K : Nat} (hk : dr (nxS (mi 8 0 8)) 10 = K) (hS : STA18.getD ((nI K).toNatClampNeg) 0 = nI 4) (h0 : n = 0) {f : Nat} {x1 x2 x3 : Int32} (hx : ¬ x2 ≤ x3) : L_X9_runDrawn_7 w (f + 1) mi x1 x2 x3 = L_X9_runDrawn_7 w f (u3 mi 8 0 8 (nxS (mi 8 0 8))) x1 x2 (x3 + 1) := by
  refine c_dr0 hr hx fun K' _ e d10 _ hin => ?_
  obtain rfl : K' = K := e.symm.trans hk
  rw [L_X9_runDrawn_7, if_neg hx, d10, Option.bind_some]
  dsimp only
  rw [ckT hin]
  have hle : (nI n ≤ (0 : Int32)) = True := eq_true (by rw [h0]; decide)
  simp only [hS, dw_3 h3, hle, ↓reduceIte, z_10, z_00, zn_00, zn_03, zn_04, zn_05, zn_10, zn_13, zn_14, zn_15, zn_20, zn_23, zn_24, zn_25, zn_30, zn_33, zn_34, zn_35, zn_40, zn_43, zn_44, zn_45, zn_50, zn_53, zn_54, zn_55]
theorem cd_0 {dr : Int32 → Nat → Nat} (hr : HDR dr) {mi : MI} {w : WS} {n : Nat} (hn : n ≤ 6) (h3 : mi 5 w.1 3 = nI n) {K : Nat} (hk : dr (nxS (mi 8 0 8)) 10 = K) (hS : STA18.getD ((nI K).toNatClampNeg) 0 = nI 0) (h0 : ¬ n = 0) {f : Nat} {x1 x2 x3 : Int32} (hx : ¬ x2 ≤ x3) : L_X9_runDrawn_7 w (f + 1) mi x1 x2 x3 = (F_X9_act (u3 mi 8 0 8 (nxS (nxS (nxS (mi 8 0 8))))) w (nI 0) (nI (dr (nxS (nxS (mi 8 0 8))) n)) (nI (1 + dr (nxS (nxS (nxS (mi 8 0 8)))) 9)) (-1)).bind fun r => L_X9_runDrawn_7 w f r.2 x1 x2 (x3 + 1) := by
  refine c_dr0 hr hx fun K' _ e d10 _ hin => ?_
  obtain rfl : K' = K := e.symm.trans hk
  rw [L_X9_runDrawn_7, if_neg hx, d10, Option.bind_some]
  dsimp only
  rw [ckT hin]
  have hle : (nI n ≤ (0 : Int32)) = False := eq_false (by rw [i0, nle (by omega) (by omega)]; omega)
  have ddn : ∀ s, F_X9_draw (u3 mi 8 0 8 s) w (nI n) = some (nI (dr (nxS s) n), u3 mi 8 0 8 (nxS s)) := fun s => dw_d hr s n (by omega) (by omega)
  simp only [hS, dw_3 h3, hle, ddn, dw_c hr, bsm, ↓reduceIte, z_10, z_00, zn_00, zn_03, zn_04, zn_05, zn_10, zn_13, zn_14, zn_15, zn_20, zn_23, zn_24, zn_25, zn_30, zn_33, zn_34, zn_35, zn_40, zn_43, zn_44, zn_45, zn_50, zn_53, zn_54, zn_55]
theorem cd_1 {dr : Int32 → Nat → Nat} (hr : HDR dr) {mi : MI} {w : WS} {n : Nat} (hn : n ≤ 6) (h3 : mi 5 w.1 3 = nI n) {K : Nat} (hk : dr (nxS (mi 8 0 8)) 10 = K) (hS : STA18.getD ((nI K).toNatClampNeg) 0 = nI 1) (h0 : ¬ n = 0) {f : Nat} {x1 x2 x3 : Int32} (hx : ¬ x2 ≤ x3) : L_X9_runDrawn_7 w (f + 1) mi x1 x2 x3 = (F_X9_act (u3 mi 8 0 8 (nxS (nxS (mi 8 0 8)))) w (nI 1) (nI (dr (nxS (nxS (mi 8 0 8))) n)) (-1) (-1)).bind fun r => L_X9_runDrawn_7 w f r.2 x1 x2 (x3 + 1) := by
  refine c_dr0 hr hx fun K' _ e d10 _ hin => ?_
  obtain rfl : K' = K := e.symm.trans hk
  rw [L_X9_runDrawn_7, if_neg hx, d10, Option.bind_some]
  dsimp only
  rw [ckT hin]
  have hle : (nI n ≤ (0 : Int32)) = False := eq_false (by rw [i0, nle (by omega) (by omega)]; omega)
  have ddn : ∀ s, F_X9_draw (u3 mi 8 0 8 s) w (nI n) = some (nI (dr (nxS s) n), u3 mi 8 0 8 (nxS s)) := fun s => dw_d hr s n (by omega) (by omega)
  simp only [hS, dw_3 h3, hle, ddn, bsm, ↓reduceIte, z_10, z_00, zn_00, zn_03, zn_04, zn_05, zn_10, zn_13, zn_14, zn_15, zn_20, zn_23, zn_24, zn_25, zn_30, zn_33, zn_34, zn_35, zn_40, zn_43, zn_44, zn_45, zn_50, zn_53, zn_54, zn_55]
theorem cd_2 {dr : Int32 → Nat → Nat} (hr : HDR dr) {mi : MI} {w : WS} {n : Nat} (hn : n ≤ 6) (h3 : mi 5 w.1 3 = nI n) {K : Nat} (hk : dr (nxS (mi 8 0 8)) 10 = K) (hS : STA18.getD ((nI K).toNatClampNeg) 0 = nI 2) (h0 : ¬ n = 0) {f : Nat} {x1 x2 x3 : Int32} (hx : ¬ x2 ≤ x3) : L_X9_runDrawn_7 w (f + 1) mi x1 x2 x3 = (F_X9_act (u3 mi 8 0 8 (nxS (nxS (mi 8 0 8)))) w (nI 2) (nI (dr (nxS (nxS (mi 8 0 8))) n)) (-1) (-1)).bind fun r => L_X9_runDrawn_7 w f r.2 x1 x2 (x3 + 1) := by
  refine c_dr0 hr hx fun K' _ e d10 _ hin => ?_
  obtain rfl : K' = K := e.symm.trans hk
  rw [L_X9_runDrawn_7, if_neg hx, d10, Option.bind_some]
  dsimp only
  rw [ckT hin]
  have hle : (nI n ≤ (0 : Int32)) = False := eq_false (by rw [i0, nle (by omega) (by omega)]; omega)
  have ddn : ∀ s, F_X9_draw (u3 mi 8 0 8 s) w (nI n) = some (nI (dr (nxS s) n), u3 mi 8 0 8 (nxS s)) := fun s => dw_d hr s n (by omega) (by omega)
  simp only [hS, dw_3 h3, hle, ddn, bsm, ↓reduceIte, z_10, z_00, zn_00, zn_03, zn_04, zn_05, zn_10, zn_13, zn_14, zn_15, zn_20, zn_23, zn_24, zn_25, zn_30, zn_33, zn_34, zn_35, zn_40, zn_43, zn_44, zn_45, zn_50, zn_53, zn_54, zn_55]
theorem cd_3 {dr : Int32 → Nat → Nat} (hr : HDR dr) {mi : MI} {w : WS} {n : Nat} (hn : n ≤ 6) (h3 : mi 5 w.1 3 = nI n) {K : Nat} (hk : dr (nxS (mi 8 0 8)) 10 = K) (hS : STA18.getD ((nI K).toNatClampNeg) 0 = nI 3) (h0 : ¬ n = 0) {f : Nat} {x1 x2 x3 : Int32} (hx : ¬ x2 ≤ x3) : L_X9_runDrawn_7 w (f + 1) mi x1 x2 x3 = (F_X9_act (u3 mi 8 0 8 (nxS (nxS (nxS (nxS (mi 8 0 8)))))) w (nI 3) (nI (dr (nxS (nxS (mi 8 0 8))) n)) (nI (dr (nxS (nxS (nxS (mi 8 0 8)))) 5)) (nI (dr (nxS (nxS (nxS (nxS (mi 8 0 8))))) 5))).bind fun r => L_X9_runDrawn_7 w f r.2 x1 x2 (x3 + 1) := by
  refine c_dr0 hr hx fun K' _ e d10 _ hin => ?_
  obtain rfl : K' = K := e.symm.trans hk
  rw [L_X9_runDrawn_7, if_neg hx, d10, Option.bind_some]
  dsimp only
  rw [ckT hin]
  have hle : (nI n ≤ (0 : Int32)) = False := eq_false (by rw [i0, nle (by omega) (by omega)]; omega)
  have ddn : ∀ s, F_X9_draw (u3 mi 8 0 8 s) w (nI n) = some (nI (dr (nxS s) n), u3 mi 8 0 8 (nxS s)) := fun s => dw_d hr s n (by omega) (by omega)
  simp only [hS, dw_3 h3, hle, ddn, dw_5 hr, bsm, ↓reduceIte, z_10, z_00, zn_00, zn_03, zn_04, zn_05, zn_10, zn_13, zn_14, zn_15, zn_20, zn_23, zn_24, zn_25, zn_30, zn_33, zn_34, zn_35, zn_40, zn_43, zn_44, zn_45, zn_50, zn_53, zn_54, zn_55]
theorem cd_4 {dr : Int32 → Nat → Nat} (hr : HDR dr) {mi : MI} {w : WS} {n : Nat} (hn : n ≤ 6) (h3 : mi 5 w.1 3 = nI n) {K : Nat} (hk : dr (nxS (mi 8 0 8)) 10 = K) (hS : STA18.getD ((nI K).toNatClampNeg) 0 = nI 4) (h0 : ¬ n = 0) {f : Nat} {x1 x2 x3 : Int32} (hx : ¬ x2 ≤ x3) : L_X9_runDrawn_7 w (f + 1) mi x1 x2 x3 = (F_X9_act (u3 mi 8 0 8 (nxS (nxS (nxS (nxS (mi 8 0 8)))))) w (nI 4) (nI (dr (nxS (nxS (mi 8 0 8))) n)) (nI (dr (nxS (nxS (nxS (mi 8 0 8)))) 5)) (nI (dr (nxS (nxS (nxS (nxS (mi 8 0 8))))) 5))).bind fun r => L_X9_runDrawn_7 w f r.2 x1 x2 (x3 + 1) := by
  refine c_dr0 hr hx fun K' _ e d10 _ hin => ?_
  obtain rfl : K' = K := e.symm.trans hk
  rw [L_X9_runDrawn_7, if_neg hx, d10, Option.bind_some]
  dsimp only
  rw [ckT hin]
  have hle : (nI n ≤ (0 : Int32)) = False := eq_false (by rw [i0, nle (by omega) (by omega)]; omega)
  have ddn : ∀ s, F_X9_draw (u3 mi 8 0 8 s) w (nI n) = some (nI (dr (nxS s) n), u3 mi 8 0 8 (nxS s)) := fun s => dw_d hr s n (by omega) (by omega)
  simp only [hS, dw_3 h3, hle, ddn, dw_5 hr, bsm, ↓reduceIte, z_10, z_00, zn_00, zn_03, zn_04, zn_05, zn_10, zn_13, zn_14, zn_15, zn_20, zn_23, zn_24, zn_25, zn_30, zn_33, zn_34, zn_35, zn_40, zn_43, zn_44, zn_45, zn_50, zn_53, zn_54, zn_55]
theorem c_drawn1 {dr : Int32 → Nat → Nat} (hr : HDR dr) {mi : MI} {w : WS} {n : Nat} (hn : n ≤ 6) (h3 : mi 5 w.1 3 = nI n) :
    (∃ s', drQ dr n (mi 8 0 8) = (none, s') ∧ ∀ f x1 x2 x3, ¬ x2 ≤ x3 → L_X9_runDrawn_7 w (f + 1) mi x1 x2 x3 = L_X9_runDrawn_7 w f (u3 mi 8 0 8 s') x1 x2 (x3 + 1)) ∨ ∃ q0 q1 q2 q3 s', drQ dr n (mi 8 0 8) = (some (q0, q1, q2, q3), s') ∧ ∀ f x1 x2 x3, ¬ x2 ≤ x3 → L_X9_runDrawn_7 w (f + 1) mi x1 x2 x3 = (F_X9_act (u3 mi 8 0 8 s') w q0 q1 q2 q3).bind fun r => L_X9_runDrawn_7 w f r.2 x1 x2 (x3 + 1) := by
  have l10 : dr (nxS (mi 8 0 8)) 10 < 10 := (hr _ _ (by omega) (by omega)).2
  have hS := kd_of l10
  have dq : drQ dr n (mi 8 0 8) = drQ dr n (mi 8 0 8) := rfl
  conv at dq => rhs; unfold drQ
  by_cases h9 : dr (nxS (mi 8 0 8)) 10 = 9
  · rw [if_pos h9] at dq
    have hS : STA18.getD ((nI (dr (nxS (mi 8 0 8)) 10)).toNatClampNeg) 0 = nI 5 := by rw [hS, h9]; rfl
    exact Or.inr ⟨nI 5, _, _, _, _, dq, fun f x1 x2 x3 hx => cd_9 hr hn h3 rfl hS hx⟩
  · rw [if_neg h9] at dq
    by_cases h0 : n = 0
    · rw [if_pos h0] at dq
      have n5 : kdN (dr (nxS (mi 8 0 8)) 10) = 0 ∨ kdN (dr (nxS (mi 8 0 8)) 10) = 1 ∨ kdN (dr (nxS (mi 8 0 8)) 10) = 2 ∨ kdN (dr (nxS (mi 8 0 8)) 10) = 3 ∨ kdN (dr (nxS (mi 8 0 8)) 10) = 4 := by
        generalize dr (nxS (mi 8 0 8)) 10 = K at *
        unfold kdN
        by_cases q3 : K ≤ 3
        · rw [if_pos q3]; omega
        · rw [if_neg q3]
          by_cases q4 : K = 4
          · rw [if_pos q4]; omega
          · rw [if_neg q4]
            by_cases q5 : K = 5
            · rw [if_pos q5]; omega
            · rw [if_neg q5]
              by_cases q8 : K = 8
              · rw [if_pos q8]; omega
              · rw [if_neg q8, if_neg h9]; omega
      refine Or.inl ⟨_, dq, fun f x1 x2 x3 hx => ?_⟩
      rcases n5 with e | e | e | e | e <;> rw [e] at hS
      · exact cd_z0 hr hn h3 rfl hS h0 hx
      · exact cd_z1 hr hn h3 rfl hS h0 hx
      · exact cd_z2 hr hn h3 rfl hS h0 hx
      · exact cd_z3 hr hn h3 rfl hS h0 hx
      · exact cd_z4 hr hn h3 rfl hS h0 hx
    · rw [if_neg h0] at dq
      by_cases q3 : dr (nxS (mi 8 0 8)) 10 ≤ 3
      · rw [if_pos q3] at dq
        have hS : STA18.getD ((nI (dr (nxS (mi 8 0 8)) 10)).toNatClampNeg) 0 = nI 0 := by rw [hS]; unfold kdN; rw [if_pos q3]
        exact Or.inr ⟨nI 0, _, _, _, _, dq, fun f x1 x2 x3 hx => cd_0 hr hn h3 rfl hS h0 hx⟩
      · rw [if_neg q3] at dq
        by_cases q4 : dr (nxS (mi 8 0 8)) 10 = 4
        · rw [if_pos q4] at dq
          have hS : STA18.getD ((nI (dr (nxS (mi 8 0 8)) 10)).toNatClampNeg) 0 = nI 1 := by rw [hS, q4]; rfl
          exact Or.inr ⟨nI 1, _, _, _, _, dq, fun f x1 x2 x3 hx => cd_1 hr hn h3 rfl hS h0 hx⟩
        · rw [if_neg q4] at dq
          by_cases q5 : dr (nxS (mi 8 0 8)) 10 = 5
          · rw [if_pos q5] at dq
            have hS : STA18.getD ((nI (dr (nxS (mi 8 0 8)) 10)).toNatClampNeg) 0 = nI 2 := by rw [hS, q5]; rfl
            exact Or.inr ⟨nI 2, _, _, _, _, dq, fun f x1 x2 x3 hx => cd_2 hr hn h3 rfl hS h0 hx⟩
          · rw [if_neg q5] at dq
            by_cases q8 : dr (nxS (mi 8 0 8)) 10 = 8
            · rw [if_pos q8] at dq
              have hS : STA18.getD ((nI (dr (nxS (mi 8 0 8)) 10)).toNatClampNeg) 0 = nI 4 := by rw [hS, q8]; rfl
              exact Or.inr ⟨nI 4, _, _, _, _, dq, fun f x1 x2 x3 hx => cd_4 hr hn h3 rfl hS h0 hx⟩
            · rw [if_neg q8] at dq
              have hS : STA18.getD ((nI (dr (nxS (mi 8 0 8)) 10)).toNatClampNeg) 0 = nI 3 := by
                rw [hS]; unfold kdN; rw [if_neg q3, if_neg q4, if_neg q5, if_neg q8, if_neg h9]
              exact Or.inr ⟨nI 3, _, _, _, _, dq, fun f x1 x2 x3 hx => cd_3 hr hn h3 rfl hS h0 hx⟩
theorem m_drawn1 {dr : Int32 → Nat → Nat} (hr : HDR dr) {m : MI} {w : WS} {n : Nat} (hn : n ≤ 6) (h27 : m 10 0 27 = nI n) :
    (∃ s', drQ dr n (m 10 0 49) = (none, s') ∧ F_X11_drawDeed m w = some (u3 m 10 0 49 s')) ∨ ∃ q0 q1 q2 q3 s', drQ dr n (m 10 0 49) = (some (q0, q1, q2, q3), s') ∧ F_X11_drawDeed m w = (F_X11_does (u3 m 10 0 49 s') w q0 q1 q2 q3).bind fun r => some r.2 := by
  have e10 : (10 : Int32) = nI 10 := rfl
  have l10 : dr (nxS (m 10 0 49)) 10 < 10 := (hr _ _ (by omega) (by omega)).2
  have d10 : F_X11_draw m w 10 = some (nI (dr (nxS (m 10 0 49)) 10), (u3 m 10 0 49 (nxS (m 10 0 49)))) := by rw [e10, m_draw hr (by omega) (by omega)]
  have dd : ∀ (s : Int32) b, 0 < b → b < 1000 → F_X11_draw (u3 m 10 0 49 s) w (nI b) = some (nI (dr (nxS s) b), u3 m 10 0 49 (nxS s)) := fun s b h1 h2 => by
    rw [m_draw hr h1 h2, u3_s, u3_u3]
  have d9 : ∀ s, F_X11_draw (u3 m 10 0 49 s) w 9 = some (nI (dr (nxS s) 9), u3 m 10 0 49 (nxS s)) := fun s => by rw [i9]; exact dd s 9 (by omega) (by omega)
  have d5 : ∀ s, F_X11_draw (u3 m 10 0 49 s) w 5 = some (nI (dr (nxS s) 5), u3 m 10 0 49 (nxS s)) := fun s => by rw [i5]; exact dd s 5 (by omega) (by omega)
  have hh3 : ∀ s, (u3 m 10 0 49 s) 10 0 27 = nI n := fun s => by rw [u3_n (by omega)]; exact h27
  have dq : drQ dr n (m 10 0 49) = drQ dr n (m 10 0 49) := rfl
  unfold F_X11_drawDeed
  rw [d10, Option.bind_some]
  dsimp only
  conv at dq => rhs; unfold drQ
  generalize hk : dr (nxS (m 10 0 49)) 10 = K at *
  have eqk : ∀ k, k < 100 → ((nI K = nI k) ↔ K = k) := fun k hk => by rw [neq (by omega) (by omega)]
  have ltk : ∀ k, k < 100 → ((nI k < nI K) ↔ k < K) := fun k hk => by rw [nlt (by omega) (by omega)]
  have lek : ∀ k, k < 100 → ((nI k ≤ nI K) ↔ k ≤ K) := fun k hk => by rw [nle (by omega) (by omega)]
  have le5 : ((nI K ≤ (5 : Int32)) ↔ K ≤ 5) := by rw [i5, nle (by omega) (by omega)]
  by_cases h9 : K = 9
  · rw [if_pos h9] at dq
    refine Or.inr ⟨5, nI (1 + dr (nxS (nxS (m 10 0 49))) 9), -1, -1, (nxS (nxS (m 10 0 49))), dq, ?_⟩
    rw [if_pos (show nI K = 9 from (eqk 9 (by omega)).mpr h9), d9, Option.bind_some]
    dsimp only
    rw [add_n1]
  · rw [if_neg h9] at dq
    rw [if_neg (show ¬ nI K = 9 from fun q => h9 ((eqk 9 (by omega)).mp q))]
    by_cases h0 : n = 0
    · rw [if_pos h0] at dq
      refine Or.inl ⟨_, dq, ?_⟩
      exact if_pos (show (u3 m 10 0 49 (nxS (m 10 0 49))) 10 0 27 = 0 by rw [hh3, h0]; decide)
    · rw [if_neg h0] at dq
      rw [if_neg (show ¬ (u3 m 10 0 49 (nxS (m 10 0 49))) 10 0 27 = 0 by rw [hh3]; exact nne0 (by omega) h0), hh3, dd _ n (by omega) (by omega), Option.bind_some]
      dsimp only
      by_cases q3 : K ≤ 3
      · rw [if_pos q3] at dq
        have g4 : ¬ (4 : Int32) ≤ nI K := fun q => by have := (lek 4 (by omega)).mp q; omega
        have b0 : b2 (¬ (nI K ≤ 5)) = 0 := b2_neg fun q => q (le5.mpr (by omega))
        refine Or.inr ⟨0, nI (dr (nxS (nxS (m 10 0 49))) n), nI (1 + dr (nxS (nxS (nxS (m 10 0 49)))) 9), -1, (nxS (nxS (nxS (m 10 0 49)))), dq, ?_⟩
        rw [if_neg g4, if_neg g4, d9, Option.bind_some]
        dsimp only
        rw [if_pos b0, add_n1]
      · rw [if_neg q3] at dq
        have g4 : (4 : Int32) ≤ nI K := (lek 4 (by omega)).mpr (by omega)
        by_cases q4 : K = 4
        · rw [if_pos q4] at dq
          have b0 : b2 (¬ (nI K ≤ 5)) = 0 := b2_neg fun q => q (le5.mpr (by omega))
          refine Or.inr ⟨1, nI (dr (nxS (nxS (m 10 0 49))) n), -1, -1, (nxS (nxS (m 10 0 49))), dq, ?_⟩
          rw [if_pos g4, if_pos b0, if_pos b0, if_pos g4, if_pos (show nI K = 4 from (eqk 4 (by omega)).mpr q4)]
        · rw [if_neg q4] at dq
          have n4 : ¬ nI K = 4 := fun q => q4 ((eqk 4 (by omega)).mp q)
          by_cases q5 : K = 5
          · rw [if_pos q5] at dq
            have b0 : b2 (¬ (nI K ≤ 5)) = 0 := b2_neg fun q => q (le5.mpr (by omega))
            refine Or.inr ⟨2, nI (dr (nxS (nxS (m 10 0 49))) n), -1, -1, (nxS (nxS (m 10 0 49))), dq, ?_⟩
            rw [if_pos g4, if_pos b0, if_pos b0, if_pos g4, if_neg n4, if_pos (show nI K = 5 from (eqk 5 (by omega)).mpr q5)]
          · rw [if_neg q5] at dq
            have n5 : ¬ nI K = 5 := fun q => q5 ((eqk 5 (by omega)).mp q)
            have b1 : b2 (¬ (nI K ≤ 5)) = 1 := b2_pos fun q => by have := le5.mp q; omega
            have b0 : ¬ b2 (¬ (nI K ≤ 5)) = 0 := fun q => by rw [b1] at q; exact ne10 q
            rw [if_pos g4, if_neg b0, d5, Option.bind_some]
            dsimp only
            rw [if_neg b0, d5, Option.bind_some]
            dsimp only
            by_cases q8 : K = 8
            · rw [if_pos q8] at dq
              refine Or.inr ⟨4, nI (dr (nxS (nxS (m 10 0 49))) n), nI (dr (nxS (nxS (nxS (m 10 0 49)))) 5), nI (dr (nxS (nxS (nxS (nxS (m 10 0 49))))) 5), (nxS (nxS (nxS (nxS (m 10 0 49))))), dq, ?_⟩
              rw [if_pos g4, if_neg n4, if_neg n5, if_pos (show (8 : Int32) ≤ nI K from (lek 8 (by omega)).mpr (by omega))]
            · rw [if_neg q8] at dq
              refine Or.inr ⟨3, nI (dr (nxS (nxS (m 10 0 49))) n), nI (dr (nxS (nxS (nxS (m 10 0 49)))) 5), nI (dr (nxS (nxS (nxS (nxS (m 10 0 49))))) 5), (nxS (nxS (nxS (nxS (m 10 0 49))))), dq, ?_⟩
              rw [if_pos g4, if_neg n4, if_neg n5, if_neg (show ¬ (8 : Int32) ≤ nI K from fun q => by have := (lek 8 (by omega)).mp q; omega)]
