/-! A DAY: what is told of a state -/
def wnN (wa : Nat → Nat) (C : Nat) : Nat := sN (fun p => if wa p = 0 then 0 else 1) C
def paN (wa : Nat → Nat) (C : Nat) : Nat := orN (fun k => colN wa C (k + 1)) 9
theorem pa_lt (wa : Nat → Nat) (C : Nat) : paN wa C < 2 ^ C := orN_lt fun k _ => col_lt wa C (k + 1)
theorem pa_tb {wa : Nat → Nat} {C p : Nat} (h9 : ∀ p, wa p ≤ 9) : (paN wa C).testBit p = true ↔ p < C ∧ wa p ≠ 0 := by
  unfold paN
  rw [orN_tb]
  constructor
  · rintro ⟨k, hk, h⟩
    rw [col_tb] at h
    exact ⟨h.1, by omega⟩
  · rintro ⟨h1, h2⟩
    have := h9 p
    exact ⟨wa p - 1, by omega, col_tb.mpr ⟨h1, by omega⟩⟩
theorem pa_bN {wa : Nat → Nat} {C p : Nat} (h9 : ∀ p, wa p ≤ 9) (hp : p < C) : bN (paN wa C) p = if wa p = 0 then 0 else 1 := by
  unfold bN
  by_cases z : wa p = 0
  · rw [if_pos z, if_neg fun h => ((pa_tb h9).mp h).2 z]
  · rw [if_neg z, if_pos ((pa_tb h9).mpr ⟨hp, z⟩)]
theorem pa_pop {wa : Nat → Nat} {C : Nat} (h9 : ∀ p, wa p ≤ 9) (hC : C ≤ 25) : popN (paN wa C) = wnN wa C := by
  rw [popC (pa_lt wa C) hC]
  exact sN_congr fun p hp => pa_bN h9 hp
theorem sN_1 : ∀ n, sN (fun _ => 1) n = n := by
  intro n
  induction n with
  | zero => rfl
  | succ n ih =>
    show sN (fun _ => 1) n + 1 = n + 1
    rw [ih]
theorem left_pop {wa : Nat → Nat} {W H : Nat} (h9 : ∀ p, wa p ≤ 9) (hC : W * H ≤ 25) : popN (andn (aM W H) (paN wa (W * H))) + wnN wa (W * H) = W * H := by
  rw [popC (andn_lt _ (aM_lt W H)) hC]
  unfold wnN
  rw [← sN_add]
  refine (sN_congr fun p hp => ?_).trans (sN_1 _)
  unfold bN
  rw [tb_andn]
  have : (aM W H).testBit p = true := by
    unfold aM
    rw [Nat.testBit_two_pow_sub_one]
    exact decide_eq_true hp
  rw [this]
  have h2 := pa_bN h9 hp (wa := wa)
  unfold bN at h2
  by_cases z : wa p = 0
  · rw [if_pos z] at h2 ⊢
    cases q : (paN wa (W * H)).testBit p
    · rfl
    · rw [q] at h2; simp at h2
  · rw [if_neg z] at h2 ⊢
    cases q : (paN wa (W * H)).testBit p
    · rw [q] at h2; simp at h2
    · rfl
theorem c_painted {mi : MI} {w : WS} {W H : Nat} {D : DS} (hd : DC mi W H D) : F_X9_painted mi w = some (nI (paN D.2.1 (W * H))) := by
  have key := lp_up (L := fun n s k => L_X9_painted_4 mi w n (nI s) (nI (k + 1))) (N := 9) (f := fun k a => a ||| colN D.2.1 (W * H) (k + 1)) (post := fun a => some (nI a)) (fun _ _ => True) (fun n s _ => ?_) (fun n k s hk _ => ⟨?_, trivial⟩) (F := 1000000) (by omega) 0 trivial
  · exact key
  · show L_X9_painted_4 mi w (n + 1) (nI s) (nI (9 + 1)) = some (nI s)
    rw [L_X9_painted_4]
    exact if_pos (by decide)
  · show L_X9_painted_4 mi w (n + 1) (nI s) (nI (k + 1)) = L_X9_painted_4 mi w n (nI (s ||| colN D.2.1 (W * H) (k + 1))) (nI (k + 1 + 1))
    have e10 : (10 : Int32) = nI 10 := rfl
    rw [L_X9_painted_4, if_neg (by rw [e10, nle (by omega) (by omega)]; omega), ck_in (by omega) (by omega), ncl (by omega), hd.2.1 (k + 1) (by omega) (by omega), nor, i1, nadd]
theorem m_coloured {m : MI} {w : WS} {j W H n : Nat} {we : Nat → Nat} {D : DS} (b : BW W H) (hd : DM m j W H n we D) (h9 : ∀ p, D.2.1 p ≤ 9) : F_X11_coloured m w = some (nI (wnN D.2.1 (W * H))) := by
  have hC := cells_le b.1.2 b.2.2
  have key := lp_up (L := fun n s k => L_X11_coloured_4 m w n (nI s) (nI k)) (N := W * H) (f := fun k a => a + (if D.2.1 k = 0 then 0 else 1)) (post := fun a => some (nI a)) (fun _ _ => True) (fun n s _ => ?_) (fun n k s hk _ => ⟨?_, trivial⟩) (F := 1000000) (by omega) 0 trivial
  · exact key
  · show L_X11_coloured_4 m w (n + 1) (nI s) (nI (W * H)) = some (nI s)
    rw [L_X11_coloured_4]
    exact if_pos (by rw [hd.1.2.2, nle (by omega) (by omega)]; omega)
  · show L_X11_coloured_4 m w (n + 1) (nI s) (nI k) = L_X11_coloured_4 m w n (nI (s + (if D.2.1 k = 0 then 0 else 1))) (nI (k + 1))
    have h9k := h9 k
    have e : b2 (¬ (nI (D.2.1 k) = 0)) = nI (if D.2.1 k = 0 then 0 else 1) := by
      by_cases z : D.2.1 k = 0
      · rw [z, if_pos rfl]; exact b2_neg (by decide)
      · rw [if_neg z]; exact b2_pos (nne0 (by omega) z)
    rw [L_X11_coloured_4, if_neg (by rw [hd.1.2.2, nle (by omega) (by omega)]; omega), ck_in (by omega) (by omega), ncl (by omega), hd.2.2.2.1 k hk, e, nadd, i1, nadd]
theorem c_colour {mi : MI} {w : WS} {W H p : Nat} {D : DS} (b : BW W H) (hd : DC mi W H D) (h9 : ∀ p, D.2.1 p ≤ 9) (hp : p < W * H) : L_X9_colourOf_15 mi w 1000000 (nI p) 1 = some (nI (D.2.1 p)) := by
  have hC := cells_le b.1.2 b.2.2
  have e10 : (10 : Int32) = nI 10 := rfl
  have key : ∀ r F k, k + r = 10 → r < F → 1 ≤ k → (D.2.1 p = 0 ∨ k ≤ D.2.1 p) → L_X9_colourOf_15 mi w F (nI p) (nI k) = some (nI (D.2.1 p)) := by
    intro r
    induction r with
    | zero =>
      intro F k hk hF h1 h
      obtain ⟨F, rfl⟩ : ∃ m, F = m + 1 := ⟨F - 1, by omega⟩
      have := h9 p
      have h0 : D.2.1 p = 0 := by omega
      rw [L_X9_colourOf_15, if_pos (by rw [e10, nle (by omega) (by omega)]; omega), h0]
      rfl
    | succ r ih =>
      intro F k hk hF h1 h
      obtain ⟨F, rfl⟩ : ∃ m, F = m + 1 := ⟨F - 1, by omega⟩
      have hX := pw (col_lt D.2.1 (W * H) k) hC
      have e : (((nI (colN D.2.1 (W * H) k)) >>> (nI p &&& 31)) &&& 1 = 0) = ((colN D.2.1 (W * H) k).testBit p = false) := by
        rw [n31 (by omega), nshr (by omega) (by omega), i1, nand, i0, bit0]
      rw [L_X9_colourOf_15, if_neg (by rw [e10, nle (by omega) (by omega)]; omega), ck_in (by omega) (by omega), ncl (by omega), hd.2.1 k h1 (by omega)]
      by_cases q : D.2.1 p = k
      · rw [if_neg (by rw [e, col_tb2 hp, decide_eq_true q]; decide), q]
      · rw [if_pos (by rw [e, col_tb2 hp, decide_eq_false q]), i1, nadd]
        exact ih F (k + 1) (by omega) (by omega) (by omega) (by omega)
  exact key 9 1000000 1 (by omega) (by omega) (by omega) (by omega)
theorem tell_eq {mi m : MI} {w w' : WS} {j W H sl n : Nat} {cu we : Nat → Nat} {d1 : (Nat → Nat) × (Nat → Nat) × (Nat → Nat) × (Nat → Nat)} {wa : Nat → Nat} {nn : Nat} {r r' : Nat × Nat × Int32} (ok : shOK W H sl n cu we) (hs : ShC mi w.1 W H sl n cu we) (hc : DC mi W H (d1, wa, nn, r)) (hm : DM m j W H n we (d1, wa, nn, r')) (hD : DOK W H we (d1, wa, nn, r)) (hE : DOK W H we (d1, wa, nn, r')) (x : Int32) :
    ∃ v, F_X9_tell mi w x = some v ∧ F_X11_ofState m w' x = some v := by
  have hn := ok.cnt
  have hC := ok.cells
  have e10 : (10 : Int32) = nI 10 := rfl
  have e50 : (50 : Int32) = nI 50 := rfl
  have e100 : (100 : Int32) = nI 100 := rfl
  unfold F_X9_tell F_X11_ofState
  rcases pk_ix x (n := 100) (by omega) with h0 | h100 | ⟨a, ha, rfl⟩
  · have hx : ∀ k, k < 2147483648 → ¬ x = nI k := fun k hk q => by rw [q] at h0; exact nI_pos hk h0
    have l : ∀ k, k < 2147483648 → x < nI k := fun k hk => by
      rw [Int32.lt_iff_toInt_lt, nI_toInt (by omega)]
      rw [i0, Int32.lt_iff_toInt_lt, nI_toInt (by omega)] at h0
      omega
    rw [if_neg (show ¬ x = 0 from hx 0 (by omega)), if_neg (show ¬ x = 1 from hx 1 (by omega)), if_pos (show x < 100 from l 100 (by omega)), if_pos (show x < 10 from l 10 (by omega)), if_pos (show x < 100 from l 100 (by omega)), if_neg (show ¬ (10 : Int32) ≤ x from fun q => ge_nl (n := 10) (by omega) q (l 10 (by omega))), if_neg (show ¬ x = 0 from hx 0 (by omega)), if_neg (show ¬ x = 1 from hx 1 (by omega))]
    exact ⟨_, rfl, rfl⟩
  · have g := ge_nl (n := 100) (by omega) h100
    have hx : ∀ k, k < 100 → ¬ x = nI k := fun k hk q => g (by rw [q, nlt (by omega) (by omega)]; exact hk)
    rw [if_neg (show ¬ x = 0 from hx 0 (by omega)), if_neg (show ¬ x = 1 from hx 1 (by omega)), if_neg (show ¬ x < 100 from g), if_neg (show ¬ x < 100 from g)]
    unfold F_X9_colourOf
    rw [hs.1.1, hs.1.2.1, nmul, hm.1.2.2]
    by_cases hp : ∃ p, p < W * H ∧ x - 100 = nI p
    · rw [if_pos ((in_cellC (by omega) _).mpr hp), if_pos ((in_sheet (by omega) _).mpr hp)]
      obtain ⟨p, hp, e⟩ := hp
      rw [e, c_colour ok.bw hc hD.2.1 hp, Option.bind_some, ck_in (by omega) (by omega), ncl (by omega), hm.2.2.2.1 p hp]
      exact ⟨_, rfl, rfl⟩
    · rw [if_neg fun q => hp ((in_cellC (by omega) _).mp q), if_neg fun q => hp ((in_sheet (by omega) _).mp q)]
      exact ⟨_, rfl, rfl⟩
  · have l100 : nI a < (100 : Int32) := by rw [e100, nlt (by omega) (by omega)]; exact ha
    have hnn : ∀ k, k < 2147483648 → a ≠ k → ¬ nI a = nI k := fun k hk q => nne (by omega) hk q
    by_cases a0 : a = 0
    · subst a0
      rw [if_pos (show nI 0 = 0 from rfl), if_pos l100, if_neg (by decide), if_pos (show nI 0 = 0 from rfl), hc.2.2.1, hm.2.2.2.2.1.1]
      exact ⟨_, rfl, rfl⟩
    · rw [if_neg (show ¬ nI a = 0 from hnn 0 (by omega) a0)]
      by_cases a1 : a = 1
      · subst a1
        rw [if_pos (show nI 1 = 1 from rfl), if_pos l100, if_neg (by decide), if_neg (by decide), if_pos (show nI 1 = 1 from rfl), c_painted hc, m_coloured ok.bw hm hE.2.1, Option.bind_some, Option.bind_some, c_pop (pw (pa_lt _ _) hC), pa_pop hD.2.1 hC]
        exact ⟨_, rfl, rfl⟩
      · rw [if_neg (show ¬ nI a = 1 from hnn 1 (by omega) a1), if_pos l100, if_pos l100]
        by_cases a10 : a < 10
        · rw [if_pos (show nI a < 10 by rw [e10, nlt (by omega) (by omega)]; exact a10), if_neg (show ¬ (10 : Int32) ≤ nI a by rw [e10, nle (by omega) (by omega)]; omega), if_neg (show ¬ nI a = 0 from hnn 0 (by omega) a0), if_neg (show ¬ nI a = 1 from hnn 1 (by omega) a1)]
          exact ⟨_, rfl, rfl⟩
        · rw [if_neg (show ¬ nI a < 10 by rw [e10, nlt (by omega) (by omega)]; exact a10), if_pos (show (10 : Int32) ≤ nI a by rw [e10, nle (by omega) (by omega)]; omega)]
          have r1 : irem (nI a) 10 = nI (a % 10) := nrem (d := 10) (by omega) (by omega) (by omega)
          have r2 : nI a / 10 = nI (a / 10) := ndiv (d := 10) (by omega) (by omega) (by omega)
          have hdv : ∀ k, k < 100 → a / 10 ≠ k → ¬ nI (a / 10) = nI k := fun k hk q => nne (by omega) (by omega) q
          have hde : ∀ k, a / 10 = k → nI (a / 10) = nI k := fun k q => by rw [q]
          rw [r1, r2]
          have sm : (¬ (nI (a % 10) < 0) ∧ (¬ (((m 10 0 27) - 1) < nI (a % 10)))) ↔ ∃ s, s < n ∧ nI (a % 10) = nI s := by
            rw [hm.2.1.2]; exact in_sheet (by omega) _
          by_cases a50 : 50 ≤ a
          · rw [if_pos (show (50 : Int32) ≤ nI a by rw [e50, nle (by omega) (by omega)]; exact a50), if_neg (show ¬ nI (a / 10) = 1 from hdv 1 (by omega) (by omega)), if_neg (show ¬ nI (a / 10) = 2 from hdv 2 (by omega) (by omega)), if_neg (show ¬ nI (a / 10) = 3 from hdv 3 (by omega) (by omega)), if_neg (show ¬ nI (a / 10) = 4 from hdv 4 (by omega) (by omega))]
            exact ⟨_, rfl, ite_self _⟩
          · rw [if_neg (show ¬ (50 : Int32) ≤ nI a by rw [e50, nle (by omega) (by omega)]; exact a50)]
            by_cases h : ∃ s, s < n ∧ nI (a % 10) = nI s
            · rw [if_pos ((hs.sheet ok _).mpr h), if_pos (sm.mpr h)]
              obtain ⟨s, hsn, e⟩ := h
              have s6 : s < 6 := by omega
              obtain ⟨c1, c2, c3, c4⟩ := hc.1 s s6
              obtain ⟨b1, b2, b3, b4, b5⟩ := hm.2.2.1 s s6
              rw [e]
              rcases (by omega : a / 10 = 1 ∨ a / 10 = 2 ∨ a / 10 = 3 ∨ a / 10 = 4) with q | q | q | q
              · rw [if_pos (show nI (a / 10) = 1 from hde 1 q), if_pos (show nI (a / 10) = 1 from hde 1 q), ck6 s6, ck6 s6, ncl (by omega), c1, b1]
                exact ⟨_, rfl, rfl⟩
              · rw [if_neg (show ¬ nI (a / 10) = 1 from hdv 1 (by omega) (by omega)), if_pos (show nI (a / 10) = 2 from hde 2 q), if_neg (show ¬ nI (a / 10) = 1 from hdv 1 (by omega) (by omega)), if_pos (show nI (a / 10) = 2 from hde 2 q), c_now ok.bw hs.cw hD hc s6, m_now ok.bw hE hm s6]
                exact ⟨_, rfl, rfl⟩
              · rw [if_neg (show ¬ nI (a / 10) = 1 from hdv 1 (by omega) (by omega)), if_neg (show ¬ nI (a / 10) = 2 from hdv 2 (by omega) (by omega)), if_pos (show nI (a / 10) = 3 from hde 3 q), if_neg (show ¬ nI (a / 10) = 1 from hdv 1 (by omega) (by omega)), if_neg (show ¬ nI (a / 10) = 2 from hdv 2 (by omega) (by omega)), if_pos (show nI (a / 10) = 3 from hde 3 q), ck6 s6, ck6 s6, ncl (by omega), c2, b5]
                exact ⟨_, rfl, rfl⟩
              · rw [if_neg (show ¬ nI (a / 10) = 1 from hdv 1 (by omega) (by omega)), if_neg (show ¬ nI (a / 10) = 2 from hdv 2 (by omega) (by omega)), if_neg (show ¬ nI (a / 10) = 3 from hdv 3 (by omega) (by omega)), if_neg (show ¬ nI (a / 10) = 1 from hdv 1 (by omega) (by omega)), if_neg (show ¬ nI (a / 10) = 2 from hdv 2 (by omega) (by omega)), if_neg (show ¬ nI (a / 10) = 3 from hdv 3 (by omega) (by omega)), if_pos (show nI (a / 10) = 4 from hde 4 q), ck6 s6, ck6 s6, ck6 s6, ck6 s6, ncl (by omega), c3, c4, b3, b4, e10, nmul, nmul, nadd, nadd, Nat.mul_comm 10]
                exact ⟨_, rfl, rfl⟩
            · rw [if_neg fun q => h ((hs.sheet ok _).mp q), if_neg fun q => h (sm.mp q)]
              exact ⟨_, rfl, rfl⟩
/-- the sheet sprayed most -/
def bsN (sp : Nat → Nat) (n : Nat) : Int32 × Nat := foldN (fun k s => if sp k ≤ s.2 then s else (nI k, sp k)) ((-1 : Int32), 0) n
theorem c_busy {mi : MI} {w : WS} {W H sl n : Nat} {cu we : Nat → Nat} {D : DS} (ok : shOK W H sl n cu we) (hs : ShC mi w.1 W H sl n cu we) (hc : DC mi W H D) (hD : DOK W H we D) : F_X9_busiest mi w = some (bsN D.1.2.1 n).1 := by
  have hn := ok.cnt
  have hsp : ∀ s, s < 6 → D.1.2.1 s ≤ 9 := fun s s6 => by have := (hD.1 s s6).2.1; have := (ok.2.2.2.2.2 s s6); omega
  have key := lp_up (L := fun f (s : Int32 × Nat) k => L_X9_busiest_6 mi w f s.1 (nI s.2) (nI k)) (N := n) (f := fun k s => if D.1.2.1 k ≤ s.2 then s else (nI k, D.1.2.1 k)) (post := fun s => some s.1) (fun _ s => s.2 ≤ 9) (fun f s _ => ?_) (fun f k s hk hI => ⟨?_, ?_⟩) (F := 1000000) (by omega) ((-1 : Int32), 0) (by decide)
  · exact key
  · show L_X9_busiest_6 mi w (f + 1) s.1 (nI s.2) (nI n) = some s.1
    rw [L_X9_busiest_6]
    exact if_pos (by rw [hs.cnt, nle (by omega) (by omega)]; omega)
  · show L_X9_busiest_6 mi w (f + 1) s.1 (nI s.2) (nI k) = L_X9_busiest_6 mi w f (if D.1.2.1 k ≤ s.2 then s else (nI k, D.1.2.1 k)).1 (nI (if D.1.2.1 k ≤ s.2 then s else (nI k, D.1.2.1 k)).2) (nI (k + 1))
    have := hsp k (by omega)
    rw [L_X9_busiest_6, if_neg (by rw [hs.cnt, nle (by omega) (by omega)]; omega), ck6 (by omega), ck6 (by omega), ncl (by omega), (hc.1 k (by omega)).2.1, i1, nadd]
    by_cases z : D.1.2.1 k ≤ s.2
    · rw [if_pos (by rw [nle (by omega) (by omega)]; exact z), if_pos z]
    · rw [if_neg (by rw [nle (by omega) (by omega)]; exact z), if_neg z]
  · show (if D.1.2.1 k ≤ s.2 then s else (nI k, D.1.2.1 k)).2 ≤ 9
    have := hsp k (by omega)
    split
    · exact hI
    · exact this
theorem m_busy {m : MI} {w : WS} {j W H sl n : Nat} {cu we : Nat → Nat} {D : DS} (ok : shOK W H sl n cu we) (hm : DM m j W H n we D) (hD : DOK W H we D) : F_X11_busy m w = some (bsN D.1.2.1 n).1 := by
  have hn := ok.cnt
  have hsp : ∀ s, s < 6 → D.1.2.1 s ≤ 9 := fun s s6 => by have := (hD.1 s s6).2.1; have := (ok.2.2.2.2.2 s s6); omega
  have key := lp_up (L := fun f (s : Int32 × Nat) k => L_X11_busy_4 m w f s.1 (nI k)) (N := n) (f := fun k s => if D.1.2.1 k ≤ s.2 then s else (nI k, D.1.2.1 k)) (post := fun s => some s.1) (fun _ s => s = ((-1 : Int32), 0) ∨ ∃ t, t < 6 ∧ s = (nI t, D.1.2.1 t)) (fun f s _ => ?_) (fun f k s hk hI => ⟨?_, ?_⟩) (F := 1000000) (by omega) ((-1 : Int32), 0) (Or.inl rfl)
  · exact key
  · show L_X11_busy_4 m w (f + 1) s.1 (nI n) = some s.1
    rw [L_X11_busy_4]
    exact if_pos (by rw [hm.2.1.2, nle (by omega) (by omega)]; omega)
  · show L_X11_busy_4 m w (f + 1) s.1 (nI k) = L_X11_busy_4 m w f (if D.1.2.1 k ≤ s.2 then s else (nI k, D.1.2.1 k)).1 (nI (k + 1))
    have hk9 := hsp k (by omega)
    rw [L_X11_busy_4, if_neg (by rw [hm.2.1.2, nle (by omega) (by omega)]; omega), ck6 (by omega), ncl (by omega), (hm.2.2.1 k (by omega)).2.2.2.2, i1, nadd]
    rcases hI with rfl | ⟨t, t6, rfl⟩
    · rw [if_pos (show ((-1 : Int32), (0 : Nat)).1 = -nI 1 from rfl)]
      by_cases z : D.1.2.1 k ≤ 0
      · rw [if_pos (show nI (D.1.2.1 k) ≤ 0 by rw [i0, nle (by omega) (by omega)]; exact z), if_pos (show D.1.2.1 k ≤ ((-1 : Int32), (0 : Nat)).2 from z)]
      · rw [if_neg (show ¬ nI (D.1.2.1 k) ≤ 0 by rw [i0, nle (by omega) (by omega)]; exact z), if_neg (show ¬ D.1.2.1 k ≤ ((-1 : Int32), (0 : Nat)).2 from z)]
    · have ht9 := hsp t t6
      rw [if_neg (show ¬ (nI t, D.1.2.1 t).1 = -nI 1 from m1_ne (by omega))]
      dsimp only
      rw [ck6 t6, ncl (by omega), (hm.2.2.1 t t6).2.2.2.2]
      by_cases z : D.1.2.1 k ≤ D.1.2.1 t
      · rw [if_pos (show nI (D.1.2.1 k) ≤ nI (D.1.2.1 t) by rw [nle (by omega) (by omega)]; exact z), if_pos z]
      · rw [if_neg (show ¬ nI (D.1.2.1 k) ≤ nI (D.1.2.1 t) by rw [nle (by omega) (by omega)]; exact z), if_neg z]
  · show (if D.1.2.1 k ≤ s.2 then s else (nI k, D.1.2.1 k)) = _ ∨ _
    split
    · exact hI
    · exact Or.inr ⟨k, by omega, rfl⟩
theorem c_torn {mi : MI} {w : WS} {W H sl n : Nat} {cu we : Nat → Nat} {D : DS} (ok : shOK W H sl n cu we) (hs : ShC mi w.1 W H sl n cu we) (hc : DC mi W H D) (hD : DOK W H we D) : F_X9_tornSheets mi w = some (nI (seN (fun s => decide (we s ≤ D.1.2.1 s)) n)) := by
  have hn := ok.cnt
  have key := lp_up (L := fun f s k => L_X9_tornSheets_4 mi w f (nI s) (nI k)) (N := n) (f := fun k a => a ||| if decide (we k ≤ D.1.2.1 k) = true then 1 <<< k else 0) (post := fun a => some (nI a)) (fun _ _ => True) (fun f s _ => ?_) (fun f k s hk _ => ⟨?_, trivial⟩) (F := 1000000) (by omega) 0 trivial
  · exact key
  · show L_X9_tornSheets_4 mi w (f + 1) (nI s) (nI n) = some (nI s)
    rw [L_X9_tornSheets_4]
    exact if_pos (by rw [hs.cnt, nle (by omega) (by omega)]; omega)
  · show L_X9_tornSheets_4 mi w (f + 1) (nI s) (nI k) = L_X9_tornSheets_4 mi w f (nI (s ||| if decide (we k ≤ D.1.2.1 k) = true then 1 <<< k else 0)) (nI (k + 1))
    have h1 := (hD.1 k (by omega)).2.1
    have h2 := ok.2.2.2.2.2 k (by omega)
    rw [L_X9_tornSheets_4, if_neg (by rw [hs.cnt, nle (by omega) (by omega)]; omega), ck6 (by omega), ck6 (by omega), ncl (by omega), (hc.1 k (by omega)).2.1, hs.wear (by omega), n31 (by omega), i1, nshl _ (by omega), nor, nadd]
    by_cases q : we k ≤ D.1.2.1 k
    · rw [if_neg (by rw [nlt (by omega) (by omega)]; omega), if_pos (decide_eq_true q)]
    · rw [if_pos (by rw [nlt (by omega) (by omega)]; omega), if_neg (by rw [decide_eq_false q]; decide), Nat.or_zero]
theorem m_torn {m : MI} {w : WS} {j W H sl n : Nat} {cu we : Nat → Nat} {D : DS} (ok : shOK W H sl n cu we) (hj : j < 2) (hm : DM m j W H n we D) (hD : DOK W H we D) : F_X11_torn m w = some (nI (seN (fun s => decide (we s ≤ D.1.2.1 s)) n)) := by
  have hn := ok.cnt
  have key := lp_up (L := fun f s k => L_X11_torn_4 m w f (nI s) (nI k)) (N := n) (f := fun k a => a ||| if decide (we k ≤ D.1.2.1 k) = true then 1 <<< k else 0) (post := fun a => some (nI a)) (fun _ _ => True) (fun f s _ => ?_) (fun f k s hk _ => ⟨?_, trivial⟩) (F := 1000000) (by omega) 0 trivial
  · exact key
  · show L_X11_torn_4 m w (f + 1) (nI s) (nI n) = some (nI s)
    rw [L_X11_torn_4]
    exact if_pos (by rw [hm.2.1.2, nle (by omega) (by omega)]; omega)
  · show L_X11_torn_4 m w (f + 1) (nI s) (nI k) = L_X11_torn_4 m w f (nI (s ||| if decide (we k ≤ D.1.2.1 k) = true then 1 <<< k else 0)) (nI (k + 1))
    have h1 := (hD.1 k (by omega)).2.1
    have h2 := ok.2.2.2.2.2 k (by omega)
    have e34 : (34 : Int32) = nI 34 := rfl
    rw [L_X11_torn_4, if_neg (by rw [hm.2.1.2, nle (by omega) (by omega)]; omega), e34, nadd, m_of w hm.2.1.1 hj (by omega), hm.2.2.2.2.2 k (by omega), Option.bind_some, ck6 (by omega), ncl (by omega), (hm.2.2.1 k (by omega)).2.2.2.2, n31 (by omega), i1, nshl _ (by omega), nadd]
    by_cases q : we k ≤ D.1.2.1 k
    · rw [if_pos (show nI (D.1.2.1 k) = nI (we k) by rw [show D.1.2.1 k = we k by omega]), if_pos (decide_eq_true q), nor]
    · rw [if_neg (nne (by omega) (by omega) (show D.1.2.1 k ≠ we k by omega)), if_neg (by rw [decide_eq_false q]; decide), i0, nor]
