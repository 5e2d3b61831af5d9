/-! COPIES of the model -/
theorem r_a51 {mi : MI} {w : WS} {a b : Nat} (ha : a < 4) (hb : b < 4) (h : a ≠ b) : F_X11_copyRow_a51 mi w (1 : Int32) (nI a) (nI b) = some (fun c i p => if c = 51 ∧ i = 0 ∧ 1 * b ≤ p ∧ p < 1 * b + 1 then mi 51 0 (p - 1 * b + 1 * a) else mi c i p) := by
  rw [show (1 : Int32) = nI 1 from rfl, F_X11_copyRow_a51]
  have key := lp_inv (L := fun n s k => L_X11_copyRow_a51_3 w n s (nI 1) (nI a) (nI b) (nI k)) (N := 1) (post := fun s => some s) (fun k s => s = fun c i p => if c = 51 ∧ i = 0 ∧ 1 * b ≤ p ∧ p < 1 * b + k then mi 51 0 (p - 1 * b + 1 * a) else mi c i p) ?_ ?_ (show 1 < 1000000 by omega) mi (by funext c i p; rw [if_neg (by omega)])
  · obtain ⟨s, e1, e2⟩ := key
    rw [← e1]
    exact e2
  · intro n s _
    show L_X11_copyRow_a51_3 w (n + 1) s (nI 1) (nI a) (nI b) (nI 1) = _
    rw [L_X11_copyRow_a51_3]
    simp only [nle (show 1 < 2147483648 by omega) (show 1 < 2147483648 by omega)]
    exact if_pos (Nat.le_refl _)
  · intro n k s hk hs
    refine ⟨u3 s 51 0 (1 * b + k) (s 51 0 (1 * a + k)), ?_, ?_⟩
    · show L_X11_copyRow_a51_3 w (n + 1) s (nI 1) (nI a) (nI b) (nI k) = L_X11_copyRow_a51_3 w n _ (nI 1) (nI a) (nI b) (nI (k + 1))
      rw [L_X11_copyRow_a51_3, i1]
      simp only [nmul, nadd]
      rw [ck_in (show 1 * a + k < 4 by omega) (by omega), ck_in (show 1 * b + k < 4 by omega) (by omega), ncl (show 1 * a + k < 2147483648 by omega), ncl (show 1 * b + k < 2147483648 by omega)]
      simp only [nle (show 1 < 2147483648 by omega) (show k < 2147483648 by omega)]
      rw [if_neg (by omega), lt_e]
    · subst hs
      funext c i p
      unfold u3
      by_cases hp : c = 51 ∧ i = 0 ∧ p = 1 * b + k
      · obtain ⟨rfl, rfl, rfl⟩ := hp
        rw [if_pos ⟨rfl, rfl, rfl⟩, if_pos ⟨rfl, rfl, by omega, by omega⟩]
        show (if (51 = 51 ∧ 0 = 0 ∧ 1 * b ≤ 1 * a + k ∧ 1 * a + k < 1 * b + k) then _ else _) = _
        rw [if_neg (by omega)]
        congr 1
        omega
      · rw [if_neg hp]
        show (if c = 51 ∧ i = 0 ∧ 1 * b ≤ p ∧ p < 1 * b + k then _ else _) = _
        by_cases hq : c = 51 ∧ i = 0 ∧ 1 * b ≤ p ∧ p < 1 * b + k
        · rw [if_pos hq, if_pos (by omega)]
        · rw [if_neg hq, if_neg (by omega)]
theorem r_a52 {mi : MI} {w : WS} {a b : Nat} (ha : a < 4) (hb : b < 4) (h : a ≠ b) : F_X11_copyRow_a52 mi w (1 : Int32) (nI a) (nI b) = some (fun c i p => if c = 52 ∧ i = 0 ∧ 1 * b ≤ p ∧ p < 1 * b + 1 then mi 52 0 (p - 1 * b + 1 * a) else mi c i p) := by
  rw [show (1 : Int32) = nI 1 from rfl, F_X11_copyRow_a52]
  have key := lp_inv (L := fun n s k => L_X11_copyRow_a52_3 w n s (nI 1) (nI a) (nI b) (nI k)) (N := 1) (post := fun s => some s) (fun k s => s = fun c i p => if c = 52 ∧ i = 0 ∧ 1 * b ≤ p ∧ p < 1 * b + k then mi 52 0 (p - 1 * b + 1 * a) else mi c i p) ?_ ?_ (show 1 < 1000000 by omega) mi (by funext c i p; rw [if_neg (by omega)])
  · obtain ⟨s, e1, e2⟩ := key
    rw [← e1]
    exact e2
  · intro n s _
    show L_X11_copyRow_a52_3 w (n + 1) s (nI 1) (nI a) (nI b) (nI 1) = _
    rw [L_X11_copyRow_a52_3]
    simp only [nle (show 1 < 2147483648 by omega) (show 1 < 2147483648 by omega)]
    exact if_pos (Nat.le_refl _)
  · intro n k s hk hs
    refine ⟨u3 s 52 0 (1 * b + k) (s 52 0 (1 * a + k)), ?_, ?_⟩
    · show L_X11_copyRow_a52_3 w (n + 1) s (nI 1) (nI a) (nI b) (nI k) = L_X11_copyRow_a52_3 w n _ (nI 1) (nI a) (nI b) (nI (k + 1))
      rw [L_X11_copyRow_a52_3, i1]
      simp only [nmul, nadd]
      rw [ck_in (show 1 * a + k < 4 by omega) (by omega), ck_in (show 1 * b + k < 4 by omega) (by omega), ncl (show 1 * a + k < 2147483648 by omega), ncl (show 1 * b + k < 2147483648 by omega)]
      simp only [nle (show 1 < 2147483648 by omega) (show k < 2147483648 by omega)]
      rw [if_neg (by omega), lt_e]
    · subst hs
      funext c i p
      unfold u3
      by_cases hp : c = 52 ∧ i = 0 ∧ p = 1 * b + k
      · obtain ⟨rfl, rfl, rfl⟩ := hp
        rw [if_pos ⟨rfl, rfl, rfl⟩, if_pos ⟨rfl, rfl, by omega, by omega⟩]
        show (if (52 = 52 ∧ 0 = 0 ∧ 1 * b ≤ 1 * a + k ∧ 1 * a + k < 1 * b + k) then _ else _) = _
        rw [if_neg (by omega)]
        congr 1
        omega
      · rw [if_neg hp]
        show (if c = 52 ∧ i = 0 ∧ 1 * b ≤ p ∧ p < 1 * b + k then _ else _) = _
        by_cases hq : c = 52 ∧ i = 0 ∧ 1 * b ≤ p ∧ p < 1 * b + k
        · rw [if_pos hq, if_pos (by omega)]
        · rw [if_neg hq, if_neg (by omega)]
theorem r_a53 {mi : MI} {w : WS} {a b : Nat} (ha : a < 4) (hb : b < 4) (h : a ≠ b) : F_X11_copyRow_a53 mi w (1 : Int32) (nI a) (nI b) = some (fun c i p => if c = 53 ∧ i = 0 ∧ 1 * b ≤ p ∧ p < 1 * b + 1 then mi 53 0 (p - 1 * b + 1 * a) else mi c i p) := by
  rw [show (1 : Int32) = nI 1 from rfl, F_X11_copyRow_a53]
  have key := lp_inv (L := fun n s k => L_X11_copyRow_a53_3 w n s (nI 1) (nI a) (nI b) (nI k)) (N := 1) (post := fun s => some s) (fun k s => s = fun c i p => if c = 53 ∧ i = 0 ∧ 1 * b ≤ p ∧ p < 1 * b + k then mi 53 0 (p - 1 * b + 1 * a) else mi c i p) ?_ ?_ (show 1 < 1000000 by omega) mi (by funext c i p; rw [if_neg (by omega)])
  · obtain ⟨s, e1, e2⟩ := key
    rw [← e1]
    exact e2
  · intro n s _
    show L_X11_copyRow_a53_3 w (n + 1) s (nI 1) (nI a) (nI b) (nI 1) = _
    rw [L_X11_copyRow_a53_3]
    simp only [nle (show 1 < 2147483648 by omega) (show 1 < 2147483648 by omega)]
    exact if_pos (Nat.le_refl _)
  · intro n k s hk hs
    refine ⟨u3 s 53 0 (1 * b + k) (s 53 0 (1 * a + k)), ?_, ?_⟩
    · show L_X11_copyRow_a53_3 w (n + 1) s (nI 1) (nI a) (nI b) (nI k) = L_X11_copyRow_a53_3 w n _ (nI 1) (nI a) (nI b) (nI (k + 1))
      rw [L_X11_copyRow_a53_3, i1]
      simp only [nmul, nadd]
      rw [ck_in (show 1 * a + k < 4 by omega) (by omega), ck_in (show 1 * b + k < 4 by omega) (by omega), ncl (show 1 * a + k < 2147483648 by omega), ncl (show 1 * b + k < 2147483648 by omega)]
      simp only [nle (show 1 < 2147483648 by omega) (show k < 2147483648 by omega)]
      rw [if_neg (by omega), lt_e]
    · subst hs
      funext c i p
      unfold u3
      by_cases hp : c = 53 ∧ i = 0 ∧ p = 1 * b + k
      · obtain ⟨rfl, rfl, rfl⟩ := hp
        rw [if_pos ⟨rfl, rfl, rfl⟩, if_pos ⟨rfl, rfl, by omega, by omega⟩]
        show (if (53 = 53 ∧ 0 = 0 ∧ 1 * b ≤ 1 * a + k ∧ 1 * a + k < 1 * b + k) then _ else _) = _
        rw [if_neg (by omega)]
        congr 1
        omega
      · rw [if_neg hp]
        show (if c = 53 ∧ i = 0 ∧ 1 * b ≤ p ∧ p < 1 * b + k then _ else _) = _
        by_cases hq : c = 53 ∧ i = 0 ∧ 1 * b ≤ p ∧ p < 1 * b + k
        · rw [if_pos hq, if_pos (by omega)]
        · rw [if_neg hq, if_neg (by omega)]
theorem r_a54 {mi : MI} {w : WS} {a b : Nat} (ha : a < 4) (hb : b < 4) (h : a ≠ b) : F_X11_copyRow_a54 mi w (4 : Int32) (nI a) (nI b) = some (fun c i p => if c = 54 ∧ i = 0 ∧ 4 * b ≤ p ∧ p < 4 * b + 4 then mi 54 0 (p - 4 * b + 4 * a) else mi c i p) := by
  rw [show (4 : Int32) = nI 4 from rfl, F_X11_copyRow_a54]
  have key := lp_inv (L := fun n s k => L_X11_copyRow_a54_3 w n s (nI 4) (nI a) (nI b) (nI k)) (N := 4) (post := fun s => some s) (fun k s => s = fun c i p => if c = 54 ∧ i = 0 ∧ 4 * b ≤ p ∧ p < 4 * b + k then mi 54 0 (p - 4 * b + 4 * a) else mi c i p) ?_ ?_ (show 4 < 1000000 by omega) mi (by funext c i p; rw [if_neg (by omega)])
  · obtain ⟨s, e1, e2⟩ := key
    rw [← e1]
    exact e2
  · intro n s _
    show L_X11_copyRow_a54_3 w (n + 1) s (nI 4) (nI a) (nI b) (nI 4) = _
    rw [L_X11_copyRow_a54_3]
    simp only [nle (show 4 < 2147483648 by omega) (show 4 < 2147483648 by omega)]
    exact if_pos (Nat.le_refl _)
  · intro n k s hk hs
    refine ⟨u3 s 54 0 (4 * b + k) (s 54 0 (4 * a + k)), ?_, ?_⟩
    · show L_X11_copyRow_a54_3 w (n + 1) s (nI 4) (nI a) (nI b) (nI k) = L_X11_copyRow_a54_3 w n _ (nI 4) (nI a) (nI b) (nI (k + 1))
      rw [L_X11_copyRow_a54_3, i1]
      simp only [nmul, nadd]
      rw [ck_in (show 4 * a + k < 16 by omega) (by omega), ck_in (show 4 * b + k < 16 by omega) (by omega), ncl (show 4 * a + k < 2147483648 by omega), ncl (show 4 * b + k < 2147483648 by omega)]
      simp only [nle (show 4 < 2147483648 by omega) (show k < 2147483648 by omega)]
      rw [if_neg (by omega), lt_e]
    · subst hs
      funext c i p
      unfold u3
      by_cases hp : c = 54 ∧ i = 0 ∧ p = 4 * b + k
      · obtain ⟨rfl, rfl, rfl⟩ := hp
        rw [if_pos ⟨rfl, rfl, rfl⟩, if_pos ⟨rfl, rfl, by omega, by omega⟩]
        show (if (54 = 54 ∧ 0 = 0 ∧ 4 * b ≤ 4 * a + k ∧ 4 * a + k < 4 * b + k) then _ else _) = _
        rw [if_neg (by omega)]
        congr 1
        omega
      · rw [if_neg hp]
        show (if c = 54 ∧ i = 0 ∧ 4 * b ≤ p ∧ p < 4 * b + k then _ else _) = _
        by_cases hq : c = 54 ∧ i = 0 ∧ 4 * b ≤ p ∧ p < 4 * b + k
        · rw [if_pos hq, if_pos (by omega)]
        · rw [if_neg hq, if_neg (by omega)]
theorem r_a55 {mi : MI} {w : WS} {a b : Nat} (ha : a < 4) (hb : b < 4) (h : a ≠ b) : F_X11_copyRow_a55 mi w (80 : Int32) (nI a) (nI b) = some (fun c i p => if c = 55 ∧ i = 0 ∧ 80 * b ≤ p ∧ p < 80 * b + 80 then mi 55 0 (p - 80 * b + 80 * a) else mi c i p) := by
  rw [show (80 : Int32) = nI 80 from rfl, F_X11_copyRow_a55]
  have key := lp_inv (L := fun n s k => L_X11_copyRow_a55_3 w n s (nI 80) (nI a) (nI b) (nI k)) (N := 80) (post := fun s => some s) (fun k s => s = fun c i p => if c = 55 ∧ i = 0 ∧ 80 * b ≤ p ∧ p < 80 * b + k then mi 55 0 (p - 80 * b + 80 * a) else mi c i p) ?_ ?_ (show 80 < 1000000 by omega) mi (by funext c i p; rw [if_neg (by omega)])
  · obtain ⟨s, e1, e2⟩ := key
    rw [← e1]
    exact e2
  · intro n s _
    show L_X11_copyRow_a55_3 w (n + 1) s (nI 80) (nI a) (nI b) (nI 80) = _
    rw [L_X11_copyRow_a55_3]
    simp only [nle (show 80 < 2147483648 by omega) (show 80 < 2147483648 by omega)]
    exact if_pos (Nat.le_refl _)
  · intro n k s hk hs
    refine ⟨u3 s 55 0 (80 * b + k) (s 55 0 (80 * a + k)), ?_, ?_⟩
    · show L_X11_copyRow_a55_3 w (n + 1) s (nI 80) (nI a) (nI b) (nI k) = L_X11_copyRow_a55_3 w n _ (nI 80) (nI a) (nI b) (nI (k + 1))
      rw [L_X11_copyRow_a55_3, i1]
      simp only [nmul, nadd]
      rw [ck_in (show 80 * a + k < 320 by omega) (by omega), ck_in (show 80 * b + k < 320 by omega) (by omega), ncl (show 80 * a + k < 2147483648 by omega), ncl (show 80 * b + k < 2147483648 by omega)]
      simp only [nle (show 80 < 2147483648 by omega) (show k < 2147483648 by omega)]
      rw [if_neg (by omega), lt_e]
    · subst hs
      funext c i p
      unfold u3
      by_cases hp : c = 55 ∧ i = 0 ∧ p = 80 * b + k
      · obtain ⟨rfl, rfl, rfl⟩ := hp
        rw [if_pos ⟨rfl, rfl, rfl⟩, if_pos ⟨rfl, rfl, by omega, by omega⟩]
        show (if (55 = 55 ∧ 0 = 0 ∧ 80 * b ≤ 80 * a + k ∧ 80 * a + k < 80 * b + k) then _ else _) = _
        rw [if_neg (by omega)]
        congr 1
        omega
      · rw [if_neg hp]
        show (if c = 55 ∧ i = 0 ∧ 80 * b ≤ p ∧ p < 80 * b + k then _ else _) = _
        by_cases hq : c = 55 ∧ i = 0 ∧ 80 * b ≤ p ∧ p < 80 * b + k
        · rw [if_pos hq, if_pos (by omega)]
        · rw [if_neg hq, if_neg (by omega)]
theorem r_a56 {mi : MI} {w : WS} {a b : Nat} (ha : a < 4) (hb : b < 4) (h : a ≠ b) : F_X11_copyRow_a56 mi w (322 : Int32) (nI a) (nI b) = some (fun c i p => if c = 56 ∧ i = 0 ∧ 322 * b ≤ p ∧ p < 322 * b + 322 then mi 56 0 (p - 322 * b + 322 * a) else mi c i p) := by
  rw [show (322 : Int32) = nI 322 from rfl, F_X11_copyRow_a56]
  have key := lp_inv (L := fun n s k => L_X11_copyRow_a56_3 w n s (nI 322) (nI a) (nI b) (nI k)) (N := 322) (post := fun s => some s) (fun k s => s = fun c i p => if c = 56 ∧ i = 0 ∧ 322 * b ≤ p ∧ p < 322 * b + k then mi 56 0 (p - 322 * b + 322 * a) else mi c i p) ?_ ?_ (show 322 < 1000000 by omega) mi (by funext c i p; rw [if_neg (by omega)])
  · obtain ⟨s, e1, e2⟩ := key
    rw [← e1]
    exact e2
  · intro n s _
    show L_X11_copyRow_a56_3 w (n + 1) s (nI 322) (nI a) (nI b) (nI 322) = _
    rw [L_X11_copyRow_a56_3]
    simp only [nle (show 322 < 2147483648 by omega) (show 322 < 2147483648 by omega)]
    exact if_pos (Nat.le_refl _)
  · intro n k s hk hs
    refine ⟨u3 s 56 0 (322 * b + k) (s 56 0 (322 * a + k)), ?_, ?_⟩
    · show L_X11_copyRow_a56_3 w (n + 1) s (nI 322) (nI a) (nI b) (nI k) = L_X11_copyRow_a56_3 w n _ (nI 322) (nI a) (nI b) (nI (k + 1))
      rw [L_X11_copyRow_a56_3, i1]
      simp only [nmul, nadd]
      rw [ck_in (show 322 * a + k < 1288 by omega) (by omega), ck_in (show 322 * b + k < 1288 by omega) (by omega), ncl (show 322 * a + k < 2147483648 by omega), ncl (show 322 * b + k < 2147483648 by omega)]
      simp only [nle (show 322 < 2147483648 by omega) (show k < 2147483648 by omega)]
      rw [if_neg (by omega), lt_e]
    · subst hs
      funext c i p
      unfold u3
      by_cases hp : c = 56 ∧ i = 0 ∧ p = 322 * b + k
      · obtain ⟨rfl, rfl, rfl⟩ := hp
        rw [if_pos ⟨rfl, rfl, rfl⟩, if_pos ⟨rfl, rfl, by omega, by omega⟩]
        show (if (56 = 56 ∧ 0 = 0 ∧ 322 * b ≤ 322 * a + k ∧ 322 * a + k < 322 * b + k) then _ else _) = _
        rw [if_neg (by omega)]
        congr 1
        omega
      · rw [if_neg hp]
        show (if c = 56 ∧ i = 0 ∧ 322 * b ≤ p ∧ p < 322 * b + k then _ else _) = _
        by_cases hq : c = 56 ∧ i = 0 ∧ 322 * b ≤ p ∧ p < 322 * b + k
        · rw [if_pos hq, if_pos (by omega)]
        · rw [if_neg hq, if_neg (by omega)]
theorem r_a57 {mi : MI} {w : WS} {a b : Nat} (ha : a < 4) (hb : b < 4) (h : a ≠ b) : F_X11_copyRow_a57 mi w (52 : Int32) (nI a) (nI b) = some (fun c i p => if c = 57 ∧ i = 0 ∧ 52 * b ≤ p ∧ p < 52 * b + 52 then mi 57 0 (p - 52 * b + 52 * a) else mi c i p) := by
  rw [show (52 : Int32) = nI 52 from rfl, F_X11_copyRow_a57]
  have key := lp_inv (L := fun n s k => L_X11_copyRow_a57_3 w n s (nI 52) (nI a) (nI b) (nI k)) (N := 52) (post := fun s => some s) (fun k s => s = fun c i p => if c = 57 ∧ i = 0 ∧ 52 * b ≤ p ∧ p < 52 * b + k then mi 57 0 (p - 52 * b + 52 * a) else mi c i p) ?_ ?_ (show 52 < 1000000 by omega) mi (by funext c i p; rw [if_neg (by omega)])
  · obtain ⟨s, e1, e2⟩ := key
    rw [← e1]
    exact e2
  · intro n s _
    show L_X11_copyRow_a57_3 w (n + 1) s (nI 52) (nI a) (nI b) (nI 52) = _
    rw [L_X11_copyRow_a57_3]
    simp only [nle (show 52 < 2147483648 by omega) (show 52 < 2147483648 by omega)]
    exact if_pos (Nat.le_refl _)
  · intro n k s hk hs
    refine ⟨u3 s 57 0 (52 * b + k) (s 57 0 (52 * a + k)), ?_, ?_⟩
    · show L_X11_copyRow_a57_3 w (n + 1) s (nI 52) (nI a) (nI b) (nI k) = L_X11_copyRow_a57_3 w n _ (nI 52) (nI a) (nI b) (nI (k + 1))
      rw [L_X11_copyRow_a57_3, i1]
      simp only [nmul, nadd]
      rw [ck_in (show 52 * a + k < 208 by omega) (by omega), ck_in (show 52 * b + k < 208 by omega) (by omega), ncl (show 52 * a + k < 2147483648 by omega), ncl (show 52 * b + k < 2147483648 by omega)]
      simp only [nle (show 52 < 2147483648 by omega) (show k < 2147483648 by omega)]
      rw [if_neg (by omega), lt_e]
    · subst hs
      funext c i p
      unfold u3
      by_cases hp : c = 57 ∧ i = 0 ∧ p = 52 * b + k
      · obtain ⟨rfl, rfl, rfl⟩ := hp
        rw [if_pos ⟨rfl, rfl, rfl⟩, if_pos ⟨rfl, rfl, by omega, by omega⟩]
        show (if (57 = 57 ∧ 0 = 0 ∧ 52 * b ≤ 52 * a + k ∧ 52 * a + k < 52 * b + k) then _ else _) = _
        rw [if_neg (by omega)]
        congr 1
        omega
      · rw [if_neg hp]
        show (if c = 57 ∧ i = 0 ∧ 52 * b ≤ p ∧ p < 52 * b + k then _ else _) = _
        by_cases hq : c = 57 ∧ i = 0 ∧ 52 * b ≤ p ∧ p < 52 * b + k
        · rw [if_pos hq, if_pos (by omega)]
        · rw [if_neg hq, if_neg (by omega)]
theorem r_a58 {mi : MI} {w : WS} {a b : Nat} (ha : a < 4) (hb : b < 4) (h : a ≠ b) : F_X11_copyRow_a58 mi w (66 : Int32) (nI a) (nI b) = some (fun c i p => if c = 58 ∧ i = 0 ∧ 66 * b ≤ p ∧ p < 66 * b + 66 then mi 58 0 (p - 66 * b + 66 * a) else mi c i p) := by
  rw [show (66 : Int32) = nI 66 from rfl, F_X11_copyRow_a58]
  have key := lp_inv (L := fun n s k => L_X11_copyRow_a58_3 w n s (nI 66) (nI a) (nI b) (nI k)) (N := 66) (post := fun s => some s) (fun k s => s = fun c i p => if c = 58 ∧ i = 0 ∧ 66 * b ≤ p ∧ p < 66 * b + k then mi 58 0 (p - 66 * b + 66 * a) else mi c i p) ?_ ?_ (show 66 < 1000000 by omega) mi (by funext c i p; rw [if_neg (by omega)])
  · obtain ⟨s, e1, e2⟩ := key
    rw [← e1]
    exact e2
  · intro n s _
    show L_X11_copyRow_a58_3 w (n + 1) s (nI 66) (nI a) (nI b) (nI 66) = _
    rw [L_X11_copyRow_a58_3]
    simp only [nle (show 66 < 2147483648 by omega) (show 66 < 2147483648 by omega)]
    exact if_pos (Nat.le_refl _)
  · intro n k s hk hs
    refine ⟨u3 s 58 0 (66 * b + k) (s 58 0 (66 * a + k)), ?_, ?_⟩
    · show L_X11_copyRow_a58_3 w (n + 1) s (nI 66) (nI a) (nI b) (nI k) = L_X11_copyRow_a58_3 w n _ (nI 66) (nI a) (nI b) (nI (k + 1))
      rw [L_X11_copyRow_a58_3, i1]
      simp only [nmul, nadd]
      rw [ck_in (show 66 * a + k < 264 by omega) (by omega), ck_in (show 66 * b + k < 264 by omega) (by omega), ncl (show 66 * a + k < 2147483648 by omega), ncl (show 66 * b + k < 2147483648 by omega)]
      simp only [nle (show 66 < 2147483648 by omega) (show k < 2147483648 by omega)]
      rw [if_neg (by omega), lt_e]
    · subst hs
      funext c i p
      unfold u3
      by_cases hp : c = 58 ∧ i = 0 ∧ p = 66 * b + k
      · obtain ⟨rfl, rfl, rfl⟩ := hp
        rw [if_pos ⟨rfl, rfl, rfl⟩, if_pos ⟨rfl, rfl, by omega, by omega⟩]
        show (if (58 = 58 ∧ 0 = 0 ∧ 66 * b ≤ 66 * a + k ∧ 66 * a + k < 66 * b + k) then _ else _) = _
        rw [if_neg (by omega)]
        congr 1
        omega
      · rw [if_neg hp]
        show (if c = 58 ∧ i = 0 ∧ 66 * b ≤ p ∧ p < 66 * b + k then _ else _) = _
        by_cases hq : c = 58 ∧ i = 0 ∧ 66 * b ≤ p ∧ p < 66 * b + k
        · rw [if_pos hq, if_pos (by omega)]
        · rw [if_neg hq, if_neg (by omega)]
theorem x_a51 {mi : MI} {w : WS} {a b : Nat} (ha : a < 4) (hb : b < 4) (h : a ≠ b) : ∃ m : MI, F_X11_copyRow_a51 mi w (1 : Int32) (nI a) (nI b) = some m ∧ (∀ k, k < 1 → m 51 0 (1 * b + k) = mi 51 0 (1 * a + k)) ∧ (∀ c i p, ¬ (c = 51 ∧ i = 0 ∧ 1 * b ≤ p ∧ p < 1 * b + 1) → m c i p = mi c i p) := by
  refine ⟨_, r_a51 ha hb h, fun k hk => ?_, fun c i p hp => if_neg hp⟩
  show (if 51 = 51 ∧ 0 = 0 ∧ 1 * b ≤ 1 * b + k ∧ 1 * b + k < 1 * b + 1 then _ else _) = _
  rw [if_pos (by omega)]
  congr 1
  omega
theorem x_a52 {mi : MI} {w : WS} {a b : Nat} (ha : a < 4) (hb : b < 4) (h : a ≠ b) : ∃ m : MI, F_X11_copyRow_a52 mi w (1 : Int32) (nI a) (nI b) = some m ∧ (∀ k, k < 1 → m 52 0 (1 * b + k) = mi 52 0 (1 * a + k)) ∧ (∀ c i p, ¬ (c = 52 ∧ i = 0 ∧ 1 * b ≤ p ∧ p < 1 * b + 1) → m c i p = mi c i p) := by
  refine ⟨_, r_a52 ha hb h, fun k hk => ?_, fun c i p hp => if_neg hp⟩
  show (if 52 = 52 ∧ 0 = 0 ∧ 1 * b ≤ 1 * b + k ∧ 1 * b + k < 1 * b + 1 then _ else _) = _
  rw [if_pos (by omega)]
  congr 1
  omega
theorem x_a53 {mi : MI} {w : WS} {a b : Nat} (ha : a < 4) (hb : b < 4) (h : a ≠ b) : ∃ m : MI, F_X11_copyRow_a53 mi w (1 : Int32) (nI a) (nI b) = some m ∧ (∀ k, k < 1 → m 53 0 (1 * b + k) = mi 53 0 (1 * a + k)) ∧ (∀ c i p, ¬ (c = 53 ∧ i = 0 ∧ 1 * b ≤ p ∧ p < 1 * b + 1) → m c i p = mi c i p) := by
  refine ⟨_, r_a53 ha hb h, fun k hk => ?_, fun c i p hp => if_neg hp⟩
  show (if 53 = 53 ∧ 0 = 0 ∧ 1 * b ≤ 1 * b + k ∧ 1 * b + k < 1 * b + 1 then _ else _) = _
  rw [if_pos (by omega)]
  congr 1
  omega
theorem x_a54 {mi : MI} {w : WS} {a b : Nat} (ha : a < 4) (hb : b < 4) (h : a ≠ b) : ∃ m : MI, F_X11_copyRow_a54 mi w (4 : Int32) (nI a) (nI b) = some m ∧ (∀ k, k < 4 → m 54 0 (4 * b + k) = mi 54 0 (4 * a + k)) ∧ (∀ c i p, ¬ (c = 54 ∧ i = 0 ∧ 4 * b ≤ p ∧ p < 4 * b + 4) → m c i p = mi c i p) := by
  refine ⟨_, r_a54 ha hb h, fun k hk => ?_, fun c i p hp => if_neg hp⟩
  show (if 54 = 54 ∧ 0 = 0 ∧ 4 * b ≤ 4 * b + k ∧ 4 * b + k < 4 * b + 4 then _ else _) = _
  rw [if_pos (by omega)]
  congr 1
  omega
theorem x_a55 {mi : MI} {w : WS} {a b : Nat} (ha : a < 4) (hb : b < 4) (h : a ≠ b) : ∃ m : MI, F_X11_copyRow_a55 mi w (80 : Int32) (nI a) (nI b) = some m ∧ (∀ k, k < 80 → m 55 0 (80 * b + k) = mi 55 0 (80 * a + k)) ∧ (∀ c i p, ¬ (c = 55 ∧ i = 0 ∧ 80 * b ≤ p ∧ p < 80 * b + 80) → m c i p = mi c i p) := by
  refine ⟨_, r_a55 ha hb h, fun k hk => ?_, fun c i p hp => if_neg hp⟩
  show (if 55 = 55 ∧ 0 = 0 ∧ 80 * b ≤ 80 * b + k ∧ 80 * b + k < 80 * b + 80 then _ else _) = _
  rw [if_pos (by omega)]
  congr 1
  omega
theorem x_a56 {mi : MI} {w : WS} {a b : Nat} (ha : a < 4) (hb : b < 4) (h : a ≠ b) : ∃ m : MI, F_X11_copyRow_a56 mi w (322 : Int32) (nI a) (nI b) = some m ∧ (∀ k, k < 322 → m 56 0 (322 * b + k) = mi 56 0 (322 * a + k)) ∧ (∀ c i p, ¬ (c = 56 ∧ i = 0 ∧ 322 * b ≤ p ∧ p < 322 * b + 322) → m c i p = mi c i p) := by
  refine ⟨_, r_a56 ha hb h, fun k hk => ?_, fun c i p hp => if_neg hp⟩
  show (if 56 = 56 ∧ 0 = 0 ∧ 322 * b ≤ 322 * b + k ∧ 322 * b + k < 322 * b + 322 then _ else _) = _
  rw [if_pos (by omega)]
  congr 1
  omega
theorem x_a57 {mi : MI} {w : WS} {a b : Nat} (ha : a < 4) (hb : b < 4) (h : a ≠ b) : ∃ m : MI, F_X11_copyRow_a57 mi w (52 : Int32) (nI a) (nI b) = some m ∧ (∀ k, k < 52 → m 57 0 (52 * b + k) = mi 57 0 (52 * a + k)) ∧ (∀ c i p, ¬ (c = 57 ∧ i = 0 ∧ 52 * b ≤ p ∧ p < 52 * b + 52) → m c i p = mi c i p) := by
  refine ⟨_, r_a57 ha hb h, fun k hk => ?_, fun c i p hp => if_neg hp⟩
  show (if 57 = 57 ∧ 0 = 0 ∧ 52 * b ≤ 52 * b + k ∧ 52 * b + k < 52 * b + 52 then _ else _) = _
  rw [if_pos (by omega)]
  congr 1
  omega
theorem x_a58 {mi : MI} {w : WS} {a b : Nat} (ha : a < 4) (hb : b < 4) (h : a ≠ b) : ∃ m : MI, F_X11_copyRow_a58 mi w (66 : Int32) (nI a) (nI b) = some m ∧ (∀ k, k < 66 → m 58 0 (66 * b + k) = mi 58 0 (66 * a + k)) ∧ (∀ c i p, ¬ (c = 58 ∧ i = 0 ∧ 66 * b ≤ p ∧ p < 66 * b + 66) → m c i p = mi c i p) := by
  refine ⟨_, r_a58 ha hb h, fun k hk => ?_, fun c i p hp => if_neg hp⟩
  show (if 58 = 58 ∧ 0 = 0 ∧ 66 * b ≤ 66 * b + k ∧ 66 * b + k < 66 * b + 66 then _ else _) = _
  rw [if_pos (by omega)]
  congr 1
  omega
theorem out_50 {c i k b : Nat} (hv : ver c i k ≠ b ∨ c < 50 ∨ 58 < c) : ¬ (c = 50 ∧ i = 0 ∧ 600 * b ≤ k ∧ k < 600 * b + 600) := by
  rintro ⟨rfl, -, h1, h2⟩
  have := ver_50 (i := i) (k := k)
  omega
theorem out_51 {c i k b : Nat} (hv : ver c i k ≠ b ∨ c < 50 ∨ 58 < c) : ¬ (c = 51 ∧ i = 0 ∧ 1 * b ≤ k ∧ k < 1 * b + 1) := by
  rintro ⟨rfl, -, h1, h2⟩
  have := ver_51 (i := i) (k := k) (show 51 = 51 ∨ 51 = 52 ∨ 51 = 53 by omega)
  omega
theorem out_52 {c i k b : Nat} (hv : ver c i k ≠ b ∨ c < 50 ∨ 58 < c) : ¬ (c = 52 ∧ i = 0 ∧ 1 * b ≤ k ∧ k < 1 * b + 1) := by
  rintro ⟨rfl, -, h1, h2⟩
  have := ver_51 (i := i) (k := k) (show 52 = 51 ∨ 52 = 52 ∨ 52 = 53 by omega)
  omega
theorem out_53 {c i k b : Nat} (hv : ver c i k ≠ b ∨ c < 50 ∨ 58 < c) : ¬ (c = 53 ∧ i = 0 ∧ 1 * b ≤ k ∧ k < 1 * b + 1) := by
  rintro ⟨rfl, -, h1, h2⟩
  have := ver_51 (i := i) (k := k) (show 53 = 51 ∨ 53 = 52 ∨ 53 = 53 by omega)
  omega
theorem out_54 {c i k b : Nat} (hv : ver c i k ≠ b ∨ c < 50 ∨ 58 < c) : ¬ (c = 54 ∧ i = 0 ∧ 4 * b ≤ k ∧ k < 4 * b + 4) := by
  rintro ⟨rfl, -, h1, h2⟩
  have := ver_54 (i := i) (k := k)
  omega
theorem out_55 {c i k b : Nat} (hv : ver c i k ≠ b ∨ c < 50 ∨ 58 < c) : ¬ (c = 55 ∧ i = 0 ∧ 80 * b ≤ k ∧ k < 80 * b + 80) := by
  rintro ⟨rfl, -, h1, h2⟩
  have := ver_55 (i := i) (k := k)
  omega
theorem out_56 {c i k b : Nat} (hv : ver c i k ≠ b ∨ c < 50 ∨ 58 < c) : ¬ (c = 56 ∧ i = 0 ∧ 322 * b ≤ k ∧ k < 322 * b + 322) := by
  rintro ⟨rfl, -, h1, h2⟩
  have := ver_56 (i := i) (k := k)
  omega
theorem out_57 {c i k b : Nat} (hv : ver c i k ≠ b ∨ c < 50 ∨ 58 < c) : ¬ (c = 57 ∧ i = 0 ∧ 52 * b ≤ k ∧ k < 52 * b + 52) := by
  rintro ⟨rfl, -, h1, h2⟩
  have := ver_57 (i := i) (k := k)
  omega
theorem out_58 {c i k b : Nat} (hv : ver c i k ≠ b ∨ c < 50 ∨ 58 < c) : ¬ (c = 58 ∧ i = 0 ∧ 66 * b ≤ k ∧ k < 66 * b + 66) := by
  rintro ⟨rfl, -, h1, h2⟩
  have := ver_58 (i := i) (k := k)
  omega
theorem m_copyAll {mi : MI} {w : WS} {a b : Nat} (ha : a < 4) (hb : b < 4) (h : a ≠ b) : ∃ m : MI, F_X11_copyAll mi w (nI a) (nI b) = some m ∧ (∀ k, k < 600 → m 50 0 (600 * b + k) = vp_nar .byte (mi 50 0 (600 * a + k))) ∧ (∀ k, k < 1 → m 51 0 (1 * b + k) = mi 51 0 (1 * a + k)) ∧ (∀ k, k < 1 → m 52 0 (1 * b + k) = mi 52 0 (1 * a + k)) ∧ (∀ k, k < 1 → m 53 0 (1 * b + k) = mi 53 0 (1 * a + k)) ∧ (∀ k, k < 4 → m 54 0 (4 * b + k) = mi 54 0 (4 * a + k)) ∧ (∀ k, k < 80 → m 55 0 (80 * b + k) = mi 55 0 (80 * a + k)) ∧ (∀ k, k < 322 → m 56 0 (322 * b + k) = mi 56 0 (322 * a + k)) ∧ (∀ k, k < 52 → m 57 0 (52 * b + k) = mi 57 0 (52 * a + k)) ∧ (∀ k, k < 66 → m 58 0 (66 * b + k) = mi 58 0 (66 * a + k)) ∧ (∀ c i k, ver c i k ≠ b ∨ c < 50 ∨ 58 < c → m c i k = mi c i k) := by
  have key := lp_inv (L := fun n s k => L_X11_copyAll_2 w n s (nI a) (nI b) (nI k)) (N := 600) (post := fun s => (F_X11_copyRow_a51 s w 1 (nI a) (nI b)).bind fun c13 => (F_X11_copyRow_a52 c13 w 1 (nI a) (nI b)).bind fun c14 => (F_X11_copyRow_a53 c14 w 1 (nI a) (nI b)).bind fun c15 => (F_X11_copyRow_a54 c15 w 4 (nI a) (nI b)).bind fun c16 => (F_X11_copyRow_a55 c16 w 80 (nI a) (nI b)).bind fun c17 => (F_X11_copyRow_a56 c17 w 322 (nI a) (nI b)).bind fun c18 => (F_X11_copyRow_a57 c18 w 52 (nI a) (nI b)).bind fun c19 => (F_X11_copyRow_a58 c19 w 66 (nI a) (nI b)).bind fun c20 => some c20) (fun k s => (∀ p, p < k → s 50 0 (600 * b + p) = vp_nar .byte (mi 50 0 (600 * a + p))) ∧ ∀ c i p, ¬ (c = 50 ∧ i = 0 ∧ 600 * b ≤ p ∧ p < 600 * b + k) → s c i p = mi c i p) ?_ ?_ (show 600 < 1000000 by omega) mi ⟨fun p hp => absurd hp (by omega), fun c i p _ => rfl⟩
  · obtain ⟨s, ⟨e50, u50⟩, e2⟩ := key

    obtain ⟨m51, f51, e51, u51⟩ := x_a51 (mi := s) (w := w) ha hb h
    obtain ⟨m52, f52, e52, u52⟩ := x_a52 (mi := m51) (w := w) ha hb h
    obtain ⟨m53, f53, e53, u53⟩ := x_a53 (mi := m52) (w := w) ha hb h
    obtain ⟨m54, f54, e54, u54⟩ := x_a54 (mi := m53) (w := w) ha hb h
    obtain ⟨m55, f55, e55, u55⟩ := x_a55 (mi := m54) (w := w) ha hb h
    obtain ⟨m56, f56, e56, u56⟩ := x_a56 (mi := m55) (w := w) ha hb h
    obtain ⟨m57, f57, e57, u57⟩ := x_a57 (mi := m56) (w := w) ha hb h
    obtain ⟨m58, f58, e58, u58⟩ := x_a58 (mi := m57) (w := w) ha hb h
    rw [f51, Option.bind_some, f52, Option.bind_some, f53, Option.bind_some, f54, Option.bind_some, f55, Option.bind_some, f56, Option.bind_some, f57, Option.bind_some, f58, Option.bind_some] at e2
    refine ⟨m58, e2, fun k hk => ?_, fun k hk => ?_, fun k hk => ?_, fun k hk => ?_, fun k hk => ?_, fun k hk => ?_, fun k hk => ?_, fun k hk => ?_, fun k hk => ?_, fun c i k hv => ?_⟩
    · rw [u58 _ _ _ (fun q => absurd q.1 (by decide)), u57 _ _ _ (fun q => absurd q.1 (by decide)), u56 _ _ _ (fun q => absurd q.1 (by decide)), u55 _ _ _ (fun q => absurd q.1 (by decide)), u54 _ _ _ (fun q => absurd q.1 (by decide)), u53 _ _ _ (fun q => absurd q.1 (by decide)), u52 _ _ _ (fun q => absurd q.1 (by decide)), u51 _ _ _ (fun q => absurd q.1 (by decide)), e50 k hk]
    · rw [u58 _ _ _ (fun q => absurd q.1 (by decide)), u57 _ _ _ (fun q => absurd q.1 (by decide)), u56 _ _ _ (fun q => absurd q.1 (by decide)), u55 _ _ _ (fun q => absurd q.1 (by decide)), u54 _ _ _ (fun q => absurd q.1 (by decide)), u53 _ _ _ (fun q => absurd q.1 (by decide)), u52 _ _ _ (fun q => absurd q.1 (by decide)), e51 k hk, u50 _ _ _ (fun q => absurd q.1 (by decide))]
    · rw [u58 _ _ _ (fun q => absurd q.1 (by decide)), u57 _ _ _ (fun q => absurd q.1 (by decide)), u56 _ _ _ (fun q => absurd q.1 (by decide)), u55 _ _ _ (fun q => absurd q.1 (by decide)), u54 _ _ _ (fun q => absurd q.1 (by decide)), u53 _ _ _ (fun q => absurd q.1 (by decide)), e52 k hk, u51 _ _ _ (fun q => absurd q.1 (by decide)), u50 _ _ _ (fun q => absurd q.1 (by decide))]
    · rw [u58 _ _ _ (fun q => absurd q.1 (by decide)), u57 _ _ _ (fun q => absurd q.1 (by decide)), u56 _ _ _ (fun q => absurd q.1 (by decide)), u55 _ _ _ (fun q => absurd q.1 (by decide)), u54 _ _ _ (fun q => absurd q.1 (by decide)), e53 k hk, u52 _ _ _ (fun q => absurd q.1 (by decide)), u51 _ _ _ (fun q => absurd q.1 (by decide)), u50 _ _ _ (fun q => absurd q.1 (by decide))]
    · rw [u58 _ _ _ (fun q => absurd q.1 (by decide)), u57 _ _ _ (fun q => absurd q.1 (by decide)), u56 _ _ _ (fun q => absurd q.1 (by decide)), u55 _ _ _ (fun q => absurd q.1 (by decide)), e54 k hk, u53 _ _ _ (fun q => absurd q.1 (by decide)), u52 _ _ _ (fun q => absurd q.1 (by decide)), u51 _ _ _ (fun q => absurd q.1 (by decide)), u50 _ _ _ (fun q => absurd q.1 (by decide))]
    · rw [u58 _ _ _ (fun q => absurd q.1 (by decide)), u57 _ _ _ (fun q => absurd q.1 (by decide)), u56 _ _ _ (fun q => absurd q.1 (by decide)), e55 k hk, u54 _ _ _ (fun q => absurd q.1 (by decide)), u53 _ _ _ (fun q => absurd q.1 (by decide)), u52 _ _ _ (fun q => absurd q.1 (by decide)), u51 _ _ _ (fun q => absurd q.1 (by decide)), u50 _ _ _ (fun q => absurd q.1 (by decide))]
    · rw [u58 _ _ _ (fun q => absurd q.1 (by decide)), u57 _ _ _ (fun q => absurd q.1 (by decide)), e56 k hk, u55 _ _ _ (fun q => absurd q.1 (by decide)), u54 _ _ _ (fun q => absurd q.1 (by decide)), u53 _ _ _ (fun q => absurd q.1 (by decide)), u52 _ _ _ (fun q => absurd q.1 (by decide)), u51 _ _ _ (fun q => absurd q.1 (by decide)), u50 _ _ _ (fun q => absurd q.1 (by decide))]
    · rw [u58 _ _ _ (fun q => absurd q.1 (by decide)), e57 k hk, u56 _ _ _ (fun q => absurd q.1 (by decide)), u55 _ _ _ (fun q => absurd q.1 (by decide)), u54 _ _ _ (fun q => absurd q.1 (by decide)), u53 _ _ _ (fun q => absurd q.1 (by decide)), u52 _ _ _ (fun q => absurd q.1 (by decide)), u51 _ _ _ (fun q => absurd q.1 (by decide)), u50 _ _ _ (fun q => absurd q.1 (by decide))]
    · rw [e58 k hk, u57 _ _ _ (fun q => absurd q.1 (by decide)), u56 _ _ _ (fun q => absurd q.1 (by decide)), u55 _ _ _ (fun q => absurd q.1 (by decide)), u54 _ _ _ (fun q => absurd q.1 (by decide)), u53 _ _ _ (fun q => absurd q.1 (by decide)), u52 _ _ _ (fun q => absurd q.1 (by decide)), u51 _ _ _ (fun q => absurd q.1 (by decide)), u50 _ _ _ (fun q => absurd q.1 (by decide))]
    · rw [u58 _ _ _ (out_58 hv), u57 _ _ _ (out_57 hv), u56 _ _ _ (out_56 hv), u55 _ _ _ (out_55 hv), u54 _ _ _ (out_54 hv), u53 _ _ _ (out_53 hv), u52 _ _ _ (out_52 hv), u51 _ _ _ (out_51 hv), u50 _ _ _ (out_50 hv)]
  · intro n s _
    show L_X11_copyAll_2 w (n + 1) s (nI a) (nI b) (nI 600) = _
    rw [L_X11_copyAll_2, show (600 : Int32) = nI 600 from rfl]
    simp only [nle (show 600 < 2147483648 by omega) (show 600 < 2147483648 by omega)]
    exact if_pos (Nat.le_refl _)
  · intro n k s hk hs
    refine ⟨u3 s 50 0 (600 * b + k) (vp_nar .byte (s 50 0 (600 * a + k))), ?_, ?_, ?_⟩
    · show L_X11_copyAll_2 w (n + 1) s (nI a) (nI b) (nI k) = L_X11_copyAll_2 w n _ (nI a) (nI b) (nI (k + 1))
      rw [L_X11_copyAll_2, show (600 : Int32) = nI 600 from rfl, show nI k + 1 = nI (k + 1) from nI_add k 1]
      simp only [nle (show 600 < 2147483648 by omega) (show k < 2147483648 by omega)]
      rw [if_neg (by omega)]
      simp only [nmul, nadd]
      rw [ck_in (show 600 * a + k < 2400 by omega) (by omega), ck_in (show 600 * b + k < 2400 by omega) (by omega), ncl (show 600 * a + k < 2147483648 by omega), ncl (show 600 * b + k < 2147483648 by omega), lt_e]
    · intro p hp
      unfold u3
      by_cases e : p = k
      · subst e
        rw [if_pos ⟨rfl, rfl, rfl⟩, hs.2 50 0 (600 * a + p) (by omega)]
      · rw [if_neg (by omega)]
        exact hs.1 p (by omega)
    · intro c i p hp
      unfold u3
      rw [if_neg (by omega)]
      exact hs.2 c i p (by omega)
