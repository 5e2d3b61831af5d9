/-! COLOURS of a picture -/
def plN (co : Nat → Nat) (c : Nat) : Nat := sN (fun k => if co k = c then 1 else 0) 25
theorem plN_le (co : Nat → Nat) (c : Nat) : plN co c ≤ 25 := by
  have := sN_bnd (f := fun k => if co k = c then 1 else 0) (n := 25) (c := 1) fun k _ => by
    show (if co k = c then 1 else 0) ≤ 1
    split <;> omega
  unfold plN
  omega
theorem c_places {mi : MI} (w : WS) {i c : Nat} {co : Nat → Nat} (hc : c < 100) (h : ∀ k, k < 25 → co k ≤ 9 ∧ mi 30 i k = nI (co k)) : F_X4_placesOf mi w i (nI c) = some (nI (plN co c)) := by
  unfold F_X4_placesOf
  refine lp_up (L := fun n s k => L_X4_placesOf_4 mi w n i (nI c) (nI s) (nI k)) (N := 25) (f := fun k a => a + if co k = c then 1 else 0) (post := fun a => some (nI a)) (fun _ _ => True) (fun n s _ => ?_) (fun n k s hk _ => ⟨?_, trivial⟩) (F := 1000000) (by omega) 0 trivial
  · exact if_pos (by decide)
  · have e25 : (25 : Int32) = nI 25 := rfl
    obtain ⟨h1, h2⟩ := h k hk
    show L_X4_placesOf_4 mi w (n + 1) i (nI c) (nI s) (nI k) = _
    rw [L_X4_placesOf_4, if_neg (by rw [e25, nle (by omega) (by omega)]; omega), ck_in hk (by omega), ncl (by omega), h2, i1, nadd, nadd]
    by_cases e : co k = c
    · rw [if_pos (by rw [e]), if_pos e]
    · rw [if_neg (nne (by omega) (by omega) e), if_neg e]
      rfl
theorem m_places {m : MI} (w : WS) {j c : Nat} {co : Nat → Nat} (hc : c < 100) (hj : j < 2) (h38 : m 10 0 38 = nI j) (h : ∀ k, k < 25 → co k ≤ 9 ∧ m 57 0 (26 * j + (1 + k)) = nI (co k)) : F_X11_places m w (nI c) = some (nI (plN co c)) := by
  unfold F_X11_places
  refine lp_up (L := fun n s k => L_X11_places_4 m w n (nI c) (nI s) (nI k)) (N := 25) (f := fun k a => a + if co k = c then 1 else 0) (post := fun a => some (nI a)) (fun _ _ => True) (fun n s _ => ?_) (fun n k s hk _ => ⟨?_, trivial⟩) (F := 1000000) (by omega) 0 trivial
  · exact if_pos (by decide)
  · have e25 : (25 : Int32) = nI 25 := rfl
    obtain ⟨h1, h2⟩ := h k hk
    show L_X11_places_4 m w (n + 1) (nI c) (nI s) (nI k) = _
    rw [L_X11_places_4, if_neg (by rw [e25, nle (by omega) (by omega)]; omega), i5, nrem (by omega) (by omega) (by omega), ndiv (by omega) (by omega) (by omega), m_colourAt w h38 hj (by omega) (by omega), Option.bind_some]
    rw [show 5 * (k / 5) + k % 5 = k by omega, h2, b2n, i1, nadd, nadd]
    by_cases e : co k = c
    · rw [if_pos (by rw [e]), if_pos e]
    · rw [if_neg (nne (by omega) (by omega) e), if_neg e]
/-- how many colours the first k are, and the one of most of them -/
def cnN (co : Nat → Nat) (k : Nat) : Nat := foldN (fun k a => a + if plN co (k + 1) ≤ 0 then 0 else 1) 0 k
def cbN (co : Nat → Nat) (k : Nat) : Int32 × Nat := foldN (fun k p => if plN co (k + 1) ≤ p.2 then p else (nI (k + 1), plN co (k + 1))) (-1, 0) k
theorem cnN_le (co : Nat → Nat) : ∀ k, cnN co k ≤ k := by
  intro k
  induction k with
  | zero => exact Nat.le_refl _
  | succ k ih =>
    show cnN co k + (if plN co (k + 1) ≤ 0 then 0 else 1) ≤ k + 1
    split <;> omega
theorem cbN_le (co : Nat → Nat) : ∀ k, (cbN co k).2 ≤ 25 := by
  intro k
  induction k with
  | zero => exact Nat.zero_le _
  | succ k ih =>
    show (if plN co (k + 1) ≤ (cbN co k).2 then cbN co k else (nI (k + 1), plN co (k + 1))).2 ≤ 25
    split
    · exact ih
    · exact plN_le _ _
theorem c_cn {mi : MI} (w : WS) {i : Nat} {co : Nat → Nat} (h : ∀ k, k < 25 → co k ≤ 9 ∧ mi 30 i k = nI (co k)) : F_X4_colourCount mi w i = some (nI (cnN co 9)) := by
  unfold F_X4_colourCount
  have e10 : (10 : Int32) = nI 10 := rfl
  refine lp_up (L := fun n s k => L_X4_colourCount_4 mi w n i (nI s) (nI (k + 1))) (N := 9) (f := fun k a => a + if plN co (k + 1) ≤ 0 then 0 else 1) (post := fun a => some (nI a)) (fun _ _ => True) (fun n s _ => ?_) (fun n k s hk _ => ⟨?_, trivial⟩) (F := 1000000) (by omega) 0 trivial
  · exact if_pos (by decide)
  · have hp := plN_le co (k + 1)
    show L_X4_colourCount_4 mi w (n + 1) i (nI s) (nI (k + 1)) = _
    rw [L_X4_colourCount_4, if_neg (by rw [e10, nle (by omega) (by omega)]; omega), c_places w (by omega) h, Option.bind_some, i1, nadd, nadd]
    by_cases e : plN co (k + 1) ≤ 0
    · rw [if_pos (by rw [i0, nle (by omega) (by omega)]; exact e), if_pos e]; rfl
    · rw [if_neg (by rw [i0, nle (by omega) (by omega)]; exact e), if_neg e]
theorem c_cb {mi : MI} (w : WS) {i : Nat} {co : Nat → Nat} (h : ∀ k, k < 25 → co k ≤ 9 ∧ mi 30 i k = nI (co k)) : F_X4_commonest mi w i = some (cbN co 9).1 := by
  unfold F_X4_commonest
  have e10 : (10 : Int32) = nI 10 := rfl
  refine lp_up (L := fun n (s : Int32 × Nat) k => L_X4_commonest_6 mi w n i s.1 (nI s.2) (nI (k + 1))) (N := 9) (f := fun k p => if plN co (k + 1) ≤ p.2 then p else (nI (k + 1), plN co (k + 1))) (post := fun a => some a.1) (fun _ s => s.2 ≤ 25) (fun n s _ => ?_) (fun n k s hk hI => ⟨?_, ?_⟩) (F := 1000000) (by omega) (-1, 0) (Nat.zero_le _)
  · exact if_pos (by decide)
  · have hp := plN_le co (k + 1)
    show L_X4_commonest_6 mi w (n + 1) i s.1 (nI s.2) (nI (k + 1)) = _
    rw [L_X4_commonest_6, if_neg (by rw [e10, nle (by omega) (by omega)]; omega), c_places w (by omega) h, Option.bind_some, i1, nadd]
    by_cases e : plN co (k + 1) ≤ s.2
    · rw [if_pos (by rw [nle (by omega) (by omega)]; exact e), if_pos e]
    · rw [if_neg (by rw [nle (by omega) (by omega)]; exact e), if_neg e]
  · have hp := plN_le co (k + 1)
    split <;> first | exact hI | exact hp
theorem m_greater {m : MI} {a b : Nat} (ha : a < 2147483648) (hb : b < 2147483648) : f_X11_greater m (nI a) (nI b) = nI (if b ≤ a then a else b) := by
  unfold f_X11_greater
  by_cases e : b ≤ a
  · rw [if_pos e]
    first
      | rw [if_neg (by rw [nle ha hb]; omega)]
      | (split
         · rename_i q; rw [nle ha hb] at q; rw [show a = b by omega]
         · rfl)
  · rw [if_neg e, if_pos (by rw [nle ha hb]; omega)]
theorem op_colours {mi : MI} {w : WS} (I : Inv mi w) (x1 : Int32) (x2 : Int32) : ∃ c, F_X10_colours mi w x1 x2 = some c ∧ ∃ e, F_X11_colours mi w x1 x2 = some e ∧ c = e.1 ∧ Inv e.2 w := by
  unfold F_X10_colours F_X11_colours
  rcases pic_at I x1 with ⟨h1, h2⟩ | ⟨j, ⟨hj, rfl⟩, h1, h3, h2⟩
  · rw [h1, Option.bind_some, onO_n, h2 _ w (keep_c mi), Option.bind_some]
    dsimp only
    rw [if_pos rfl]
    exact ⟨_, rfl, _, rfl, rfl, Inv_m I (keep_u3 rfl (keep_c mi))⟩
  · rw [h1, Option.bind_some, onO_s, h2 _ w (keep_c mi), Option.bind_some]
    dsimp only
    rw [if_neg ne10]
    have K : Keep mi (u3 (u3 mi 10 0 0 0) 10 0 38 (nI j)) := keep_u3 rfl (keep_c mi)
    have h38 : (u3 (u3 mi 10 0 0 0) 10 0 38 (nI j)) 10 0 38 = nI j := u3_s
    have h57 : ∀ k, (u3 (u3 mi 10 0 0 0) 10 0 38 (nI j)) 57 0 k = mi 57 0 k := fun k => by rw [u3_n (by omega), u3_n (by omega)]
    generalize (u3 (u3 mi 10 0 0 0) 10 0 38 (nI j)) = m at *
    obtain ⟨co, hco⟩ := h3
    have q1 : ∀ k, k < 25 → co k ≤ 9 ∧ mi 30 j k = nI (co k) := fun k hk => ⟨(hco k hk).1, (hco k hk).2.1⟩
    have q2 : ∀ k, k < 25 → co k ≤ 9 ∧ m 57 0 (26 * j + (1 + k)) = nI (co k) := fun k hk => ⟨(hco k hk).1, by rw [h57]; exact (hco k hk).2.2⟩
    have e10 : (10 : Int32) = nI 10 := rfl
    have key := fun x2 : Int32 => lp_inv (L := fun n (s : Int32 × Int32 × Int32) k => L_X11_colours_36 w n m (nI j) x2 s.1 s.2.1 s.2.2 (nI (k + 1))) (N := 9) (post := fun a => some (if x2 = 0 then a.1 else a.2.1, m)) (fun k s => s = (nI (cnN co k), (cbN co k).1, nI (cbN co k).2)) (fun n s _ => by exact if_pos (by decide)) (fun n k s hk hI => ⟨(nI (cnN co (k + 1)), (cbN co (k + 1)).1, nI (cbN co (k + 1)).2), by
      subst hI
      have hp := plN_le co (k + 1)
      have hb := cbN_le co k
      show L_X11_colours_36 w (n + 1) m (nI j) x2 (nI (cnN co k)) (cbN co k).1 (nI (cbN co k).2) (nI (k + 1)) = _
      rw [L_X11_colours_36, if_neg (by rw [e10, nle (by omega) (by omega)]; omega), m_places w (by omega) hj h38 q2]
      simp only [Option.bind_some]
      rw [b2n, nadd, m_greater (by omega) (by omega), i1, nadd]
      have c1 : cnN co (k + 1) = cnN co k + (if plN co (k + 1) ≤ 0 then 0 else 1) := rfl
      have c2 : cbN co (k + 1) = if plN co (k + 1) ≤ (cbN co k).2 then cbN co k else (nI (k + 1), plN co (k + 1)) := rfl
      have c3 : (if ¬ nI (plN co (k + 1)) ≤ 0 then 1 else 0) = (if plN co (k + 1) ≤ 0 then 0 else 1) := by
        rw [i0]
        by_cases e : plN co (k + 1) ≤ 0
        · rw [if_neg (fun q => q (by rw [nle (by omega) (by omega)]; exact e)), if_pos e]
        · rw [if_pos (by rw [nle (by omega) (by omega)]; exact e), if_neg e]
      rw [c1, c2, c3]
      by_cases e : plN co (k + 1) ≤ (cbN co k).2
      · rw [if_pos (show nI (plN co (k + 1)) ≤ nI (cbN co k).2 by rw [nle (by omega) (by omega)]; exact e), if_pos e, if_pos e]
      · rw [if_neg (show ¬ nI (plN co (k + 1)) ≤ nI (cbN co k).2 by rw [nle (by omega) (by omega)]; exact e), if_neg e, if_neg e], rfl⟩) (F := 1000000) (by omega) (nI 0, -1, nI 0) rfl
    rcases pk_ix x2 (n := 2) (by omega) with h | h | ⟨a, ha, rfl⟩
    · rw [if_neg (fun q => by rw [q] at h; exact absurd h (by decide)), if_neg (fun q => by rw [q] at h; exact absurd h (by decide)), if_neg (fun q => q.1 h)]
      exact ⟨_, rfl, _, rfl, rfl, Inv_m I K⟩
    · rw [if_neg (fun q => by rw [q] at h; exact absurd h (by decide)), if_neg (fun q => by rw [q] at h; exact absurd h (by decide)), if_neg (fun q => q.2 (ge_gt (n := 1) (by omega) h))]
      exact ⟨_, rfl, _, rfl, rfl, Inv_m I K⟩
    · have b4 : ¬ (1 : Int32) < nI a := by rw [i1, nlt (by omega) (by omega)]; omega
      obtain ⟨s', hs, hk⟩ := key (nI a)
      have hk : L_X11_colours_36 w 1000000 m (nI j) (nI a) 0 (-1) 0 1 = some (if nI a = 0 then s'.1 else s'.2.1, m) := hk
      rw [if_pos (And.intro (nI_pos (by omega)) b4), hk, hs]
      rcases (by omega : a = 0 ∨ a = 1) with rfl | rfl
      · rw [if_pos (show nI 0 = 0 from rfl), if_pos (show nI 0 = 0 from rfl), c_cn w q1]
        exact ⟨_, rfl, _, rfl, rfl, Inv_m I K⟩
      · rw [if_neg (show ¬ nI 1 = 0 by decide), if_pos (show nI 1 = 1 from rfl), if_neg (show ¬ nI 1 = 0 by decide), c_cb w q1]
        exact ⟨_, rfl, _, rfl, rfl, Inv_m I K⟩
