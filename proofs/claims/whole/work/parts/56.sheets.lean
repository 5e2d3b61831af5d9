/-! FIGURES OF ALL SHEETS -/
/-- a set out of a test of each sheet -/
def seN (p : Nat → Bool) (n : Nat) : Nat := orN (fun s => if p s then 1 <<< s else 0) n
theorem nm1 : -nI 1 = (-1 : Int32) := rfl
section FS
variable {mi m : MI} (w : WS) {i j W H sl n : Nat} {cu we : Nat → Nat}
theorem c_mirror (ok : shOK W H sl n cu we) (hc : ShC mi i W H sl n cu we) : F_X1_mirrored mi w i = some (nI (seN (fun s => decide (flN W H (cu s) = cu s)) n)) := by
  have hn := ok.cnt
  have hC := ok.cells
  unfold F_X1_mirrored
  refine lp_up (L := fun f a k => L_X1_mirrored_4 mi w f i (nI a) (nI k)) (N := n) (f := fun s a => a ||| if decide (flN W H (cu s) = cu s) then 1 <<< s else 0) (post := fun a => some (nI a)) (fun _ _ => True) (fun f a _ => ?_) (fun f k a hk _ => ⟨?_, trivial⟩) (F := 1000000) (by omega) 0 trivial
  · show L_X1_mirrored_4 mi w (f + 1) i (nI a) (nI n) = _
    rw [L_X1_mirrored_4, if_pos (by rw [hc.cnt, nle (by omega) (by omega)]; omega)]
  · have h1 := pw (ok.cu (s := k) (by omega)) hC
    have h2 := pw (fl_lt ok.bw.1.2 ok.bw.2.2 (ok.cu (s := k) (by omega))) hC
    show L_X1_mirrored_4 mi w (f + 1) i (nI a) (nI k) = L_X1_mirrored_4 mi w f i (nI (a ||| if decide (flN W H (cu k) = cu k) then 1 <<< k else 0)) (nI (k + 1))
    rw [L_X1_mirrored_4, if_neg (by rw [hc.cnt, nle (by omega) (by omega)]; omega), ck6 (by omega), ncl (by omega), hc.cut (by omega), c_flip w ok.bw hc.cw (ok.cu (by omega)), Option.bind_some, ckJ (by omega) (by omega), n31 (by omega), i1, nshl _ (by omega), nor, nadd]
    by_cases e : flN W H (cu k) = cu k
    · rw [if_pos (by rw [e]), if_pos (decide_eq_true e)]
    · rw [if_neg (nne (by omega) (by omega) e), if_neg (by simpa using e), Nat.or_zero]
theorem c_turnd (ok : shOK W H sl n cu we) (hc : ShC mi i W H sl n cu we) : F_X1_turnedAlike mi w i = some (nI (seN (fun s => decide (tuN W H (cu s) = cu s)) n)) := by
  have hn := ok.cnt
  have hC := ok.cells
  unfold F_X1_turnedAlike
  refine lp_up (L := fun f a k => L_X1_turnedAlike_4 mi w f i (nI a) (nI k)) (N := n) (f := fun s a => a ||| if decide (tuN W H (cu s) = cu s) then 1 <<< s else 0) (post := fun a => some (nI a)) (fun _ _ => True) (fun f a _ => ?_) (fun f k a hk _ => ⟨?_, trivial⟩) (F := 1000000) (by omega) 0 trivial
  · show L_X1_turnedAlike_4 mi w (f + 1) i (nI a) (nI n) = _
    rw [L_X1_turnedAlike_4, if_pos (by rw [hc.cnt, nle (by omega) (by omega)]; omega)]
  · have h1 := pw (ok.cu (s := k) (by omega)) hC
    have h2 := pw (tu_lt ok.bw.1.2 ok.bw.2.2 (ok.cu (s := k) (by omega))) hC
    show L_X1_turnedAlike_4 mi w (f + 1) i (nI a) (nI k) = L_X1_turnedAlike_4 mi w f i (nI (a ||| if decide (tuN W H (cu k) = cu k) then 1 <<< k else 0)) (nI (k + 1))
    rw [L_X1_turnedAlike_4, if_neg (by rw [hc.cnt, nle (by omega) (by omega)]; omega), ck6 (by omega), ncl (by omega), hc.cut (by omega), c_turn w ok.bw hc.cw (ok.cu (by omega)), Option.bind_some, ckJ (by omega) (by omega), n31 (by omega), i1, nshl _ (by omega), nor, nadd]
    by_cases e : tuN W H (cu k) = cu k
    · rw [if_pos (by rw [e]), if_pos (decide_eq_true e)]
    · rw [if_neg (nne (by omega) (by omega) e), if_neg (by simpa using e), Nat.or_zero]
theorem m_like (ok : shOK W H sl n cu we) (hd : HD m j W H sl n cu we) {g : Nat → Nat} {h : Int32} (hg : ∀ x, x < 2 ^ (W * H) → F_X11_turnedBy m w (nI x) h = some (nI (g x)) ∧ g x < 2 ^ (W * H)) : F_X11_likeThemselves m w h = some (nI (seN (fun s => decide (g (cu s) = cu s)) n)) := by
  have hn := ok.cnt
  have hC := ok.cells
  unfold F_X11_likeThemselves
  refine lp_up (L := fun f a k => L_X11_likeThemselves_4 m w f h (nI a) (nI k)) (N := n) (f := fun s a => a ||| if decide (g (cu s) = cu s) then 1 <<< s else 0) (post := fun a => some (nI a)) (fun _ _ => True) (fun f a _ => ?_) (fun f k a hk _ => ⟨?_, trivial⟩) (F := 1000000) (by omega) 0 trivial
  · show L_X11_likeThemselves_4 m w (f + 1) h (nI a) (nI n) = _
    rw [L_X11_likeThemselves_4, if_pos (by rw [hd.cnt, nle (by omega) (by omega)]; omega)]
  · obtain ⟨g1, g2⟩ := hg (cu k) (ok.cu (by omega))
    have h1 := pw (ok.cu (s := k) (by omega)) hC
    have h2 := pw g2 hC
    show L_X11_likeThemselves_4 m w (f + 1) h (nI a) (nI k) = L_X11_likeThemselves_4 m w f h (nI (a ||| if decide (g (cu k) = cu k) then 1 <<< k else 0)) (nI (k + 1))
    rw [L_X11_likeThemselves_4, if_neg (by rw [hd.cnt, nle (by omega) (by omega)]; omega), ck6 (by omega), ncl (by omega), hd.cut (by omega), g1, Option.bind_some, ckJ (by omega) (by omega), n31 (by omega), i1, nshl _ (by omega), nadd]
    by_cases e : g (cu k) = cu k
    · rw [if_pos (by rw [e]), if_pos (decide_eq_true e), nor]
    · rw [if_neg (nne (by omega) (by omega) e), if_neg (by simpa using e), i0, nor]
theorem c_toAll (ok : shOK W H sl n cu we) (hc : ShC mi i W H sl n cu we) : F_X1_openToAll mi w i = some (nI (foldN (fun s a => a &&& opS W H cu s) (if n = 0 then 0 else aM W H) n)) := by
  have hn := ok.cnt
  unfold F_X1_openToAll
  have e0 : (if (mi 5 i 3) = 0 then 0 else mi 5 i 7) = nI (if n = 0 then 0 else aM W H) := by
    rw [hc.cnt, hc.2.2.1]
    by_cases e : n = 0
    · rw [if_pos (by rw [e]; rfl), if_pos e]; rfl
    · rw [if_neg (nne0 (by omega) e), if_neg e]
  rw [e0]
  refine lp_up (L := fun f a k => L_X1_openToAll_18 mi w f i (nI a) (nI k)) (N := n) (f := fun s a => a &&& opS W H cu s) (post := fun a => some (nI a)) (fun _ _ => True) (fun f a _ => ?_) (fun f k a hk _ => ⟨?_, trivial⟩) (F := 1000000) (by omega) _ trivial
  · show L_X1_openToAll_18 mi w (f + 1) i (nI a) (nI n) = _
    rw [L_X1_openToAll_18, if_pos (by rw [hc.cnt, nle (by omega) (by omega)]; omega)]
  · show L_X1_openToAll_18 mi w (f + 1) i (nI a) (nI k) = _
    rw [L_X1_openToAll_18, if_neg (by rw [hc.cnt, nle (by omega) (by omega)]; omega), ck6 (by omega), ncl (by omega), hc.op (by omega), nand, i1, nadd]
    rfl
theorem m_all (ok : shOK W H sl n cu we) (hd : HD m j W H sl n cu we) : (((1 : Int32) <<< ((m 10 0 26) &&& 31)) - 1) = nI (aM W H) := by
  rw [hd.mw.2.2]
  exact n_all ok.cells
theorem m_toAll (ok : shOK W H sl n cu we) (hd : HD m j W H sl n cu we) : F_X11_openToAll m w = some (nI (foldN (fun s a => a &&& opS W H cu s) (if n = 0 then 0 else aM W H) n)) := by
  have hn := ok.cnt
  unfold F_X11_openToAll
  have e0 : (if (m 10 0 27) = 0 then 0 else ((1 : Int32) <<< ((m 10 0 26) &&& 31)) - 1) = nI (if n = 0 then 0 else aM W H) := by
    rw [hd.cnt, m_all ok hd]
    by_cases e : n = 0
    · rw [if_pos (by rw [e]; rfl), if_pos e]; rfl
    · rw [if_neg (nne0 (by omega) e), if_neg e]
  rw [e0]
  refine lp_up (L := fun f a k => L_X11_openToAll_22 m w f (nI a) (nI k)) (N := n) (f := fun s a => a &&& opS W H cu s) (post := fun a => some (nI a)) (fun _ _ => True) (fun f a _ => ?_) (fun f k a hk _ => ⟨?_, trivial⟩) (F := 1000000) (by omega) _ trivial
  · show L_X11_openToAll_22 m w (f + 1) (nI a) (nI n) = _
    rw [L_X11_openToAll_22, if_pos (by rw [hd.cnt, nle (by omega) (by omega)]; omega)]
  · show L_X11_openToAll_22 m w (f + 1) (nI a) (nI k) = _
    rw [L_X11_openToAll_22, if_neg (by rw [hd.cnt, nle (by omega) (by omega)]; omega), ck6 (by omega), ncl (by omega), hd.op (by omega), nand, i1, nadd]
    rfl
theorem c_falls (ok : shOK W H sl n cu we) (hc : ShC mi i W H sl n cu we) : F_X1_fallingSheets mi w i = some (nI (seN (fun s => decide (fallN W H (cu s) ≠ 0)) n)) := by
  have hn := ok.cnt
  have hC := ok.cells
  unfold F_X1_fallingSheets
  refine lp_up (L := fun f a k => L_X1_fallingSheets_4 mi w f i (nI a) (nI k)) (N := n) (f := fun s a => a ||| if decide (fallN W H (cu s) ≠ 0) then 1 <<< s else 0) (post := fun a => some (nI a)) (fun _ _ => True) (fun f a _ => ?_) (fun f k a hk _ => ⟨?_, trivial⟩) (F := 1000000) (by omega) 0 trivial
  · show L_X1_fallingSheets_4 mi w (f + 1) i (nI a) (nI n) = _
    rw [L_X1_fallingSheets_4, if_pos (by rw [hc.cnt, nle (by omega) (by omega)]; omega)]
  · have h1 := pw (fall_lt W H (cu k)) hC
    show L_X1_fallingSheets_4 mi w (f + 1) i (nI a) (nI k) = L_X1_fallingSheets_4 mi w f i (nI (a ||| if decide (fallN W H (cu k) ≠ 0) then 1 <<< k else 0)) (nI (k + 1))
    rw [L_X1_fallingSheets_4, if_neg (by rw [hc.cnt, nle (by omega) (by omega)]; omega), ck6 (by omega), ncl (by omega), hc.cut (by omega), c_fall ok.bw hc.cw, n31 (by omega), i1, nshl _ (by omega), nor, nadd]
    by_cases e : fallN W H (cu k) = 0
    · rw [if_pos (by rw [e]; rfl), if_neg (by simpa using e), Nat.or_zero]
    · rw [if_neg (nne0 (by omega) e), if_pos (decide_eq_true e)]
theorem m_falls (ok : shOK W H sl n cu we) (hd : HD m j W H sl n cu we) : F_X11_falling m w = some (nI (seN (fun s => decide (fallN W H (cu s) ≠ 0)) n)) := by
  have hn := ok.cnt
  have hC := ok.cells
  unfold F_X11_falling
  refine lp_up (L := fun f a k => L_X11_falling_4 m w f (nI a) (nI k)) (N := n) (f := fun s a => a ||| if decide (fallN W H (cu s) ≠ 0) then 1 <<< s else 0) (post := fun a => some (nI a)) (fun _ _ => True) (fun f a _ => ?_) (fun f k a hk _ => ⟨?_, trivial⟩) (F := 1000000) (by omega) 0 trivial
  · show L_X11_falling_4 m w (f + 1) (nI a) (nI n) = _
    rw [L_X11_falling_4, if_pos (by rw [hd.cnt, nle (by omega) (by omega)]; omega)]
  · have h1 := pw (fall_lt W H (cu k)) hC
    show L_X11_falling_4 m w (f + 1) (nI a) (nI k) = L_X11_falling_4 m w f (nI (a ||| if decide (fallN W H (cu k) ≠ 0) then 1 <<< k else 0)) (nI (k + 1))
    rw [L_X11_falling_4, if_neg (by rw [hd.cnt, nle (by omega) (by omega)]; omega), ck6 (by omega), ncl (by omega), hd.cut (by omega), m_fallsBy w ok.bw hd.mw, Option.bind_some, n31 (by omega), i1, nshl _ (by omega), nadd]
    by_cases e : fallN W H (cu k) = 0
    · rw [if_pos (by rw [e]; rfl), if_neg (by simpa using e), i0, nor]
    · rw [if_neg (nne0 (by omega) e), if_pos (decide_eq_true e), nor]
/-- sheets of a set, by its bits below n -/
theorem un_bits {o : Nat → Nat} {n a b : Nat} (h : ∀ s, s < n → a.testBit s = b.testBit s) : unN o n a = unN o n b := orN_congr fun s hs => by rw [h s hs]
theorem c_need (ok : shOK W H sl n cu we) (hc : ShC mi i W H sl n cu we) : F_X1_needed mi w i = some (nI (seN (fun s => decide (andn (opS W H cu s) (unN (opS W H cu) n (andn 63 (1 <<< s))) ≠ 0)) n)) := by
  have hn := ok.cnt
  have hC := ok.cells
  have hp : 2 ^ n ≤ 64 := Nat.pow_le_pow_right (n := 2) (by omega) hn
  unfold F_X1_needed
  rw [c_every hc.cnt hn]
  refine lp_up (L := fun f a k => L_X1_needed_9 mi w f i (nI a) (nI (2 ^ n - 1)) (nI k)) (N := n) (f := fun s a => a ||| if decide (andn (opS W H cu s) (unN (opS W H cu) n (andn 63 (1 <<< s))) ≠ 0) then 1 <<< s else 0) (post := fun a => some (nI a)) (fun _ _ => True) (fun f a _ => ?_) (fun f k a hk _ => ⟨?_, trivial⟩) (F := 1000000) (by omega) 0 trivial
  · show L_X1_needed_9 mi w (f + 1) i (nI a) (nI (2 ^ n - 1)) (nI n) = _
    rw [L_X1_needed_9, if_pos (by rw [hc.cnt, nle (by omega) (by omega)]; omega)]
  · have h1 := ok.op2 (s := k) (by omega)
    have h2 := andn_le (opS W H cu k) (unN (opS W H cu) n (andn 63 (1 <<< k)))
    have h3 := andn_le (2 ^ n - 1) (1 <<< k)
    have eu : unN (opS W H cu) n (andn (2 ^ n - 1) (1 <<< k)) = unN (opS W H cu) n (andn 63 (1 <<< k)) := un_bits fun s hs => by
      rw [tb_andn, tb_andn, Nat.testBit_two_pow_sub_one, show (63 : Nat) = 2 ^ 6 - 1 from rfl, Nat.testBit_two_pow_sub_one]
      have : decide (s < n) = decide (s < 6) := by simp; omega
      rw [this]
    show L_X1_needed_9 mi w (f + 1) i (nI a) (nI (2 ^ n - 1)) (nI k) = L_X1_needed_9 mi w f i (nI (a ||| if decide (andn (opS W H cu k) (unN (opS W H cu) n (andn 63 (1 <<< k))) ≠ 0) then 1 <<< k else 0)) (nI (2 ^ n - 1)) (nI (k + 1))
    rw [L_X1_needed_9, if_neg (by rw [hc.cnt, nle (by omega) (by omega)]; omega), ck6 (by omega), ncl (by omega), hc.op (by omega), n31 (by omega), i1, nm1, nshl _ (by omega), nandn, c_union w ok hc (by omega), eu, Option.bind_some, nandn, nor, nadd]
    unfold opS at h2
    show (L_X1_needed_9 mi w f i (if nI (andn (opS W H cu k) (unN (opS W H cu) n (andn 63 (1 <<< k)))) = 0 then nI a else nI (a ||| 1 <<< k)) (nI (2 ^ n - 1)) (nI (k + 1))) = _
    have h4 : andn (opS W H cu k) (unN (opS W H cu) n (andn 63 (1 <<< k))) < 2147483648 := by
      have := andn_le (opS W H cu k) (unN (opS W H cu) n (andn 63 (1 <<< k)))
      have : opS W H cu k < 33554432 := h1
      omega
    by_cases e : andn (opS W H cu k) (unN (opS W H cu) n (andn 63 (1 <<< k))) = 0
    · rw [if_pos (by rw [e]; rfl), if_neg (by simpa using e), Nat.or_zero]
    · rw [if_neg (nne0 h4 e), if_pos (decide_eq_true e)]
theorem m_need (ok : shOK W H sl n cu we) (hd : HD m j W H sl n cu we) : F_X11_needed m w = some (nI (seN (fun s => decide (andn (opS W H cu s) (unN (opS W H cu) n (andn 63 (1 <<< s))) ≠ 0)) n)) := by
  have hn := ok.cnt
  have hC := ok.cells
  unfold F_X11_needed
  refine lp_up (L := fun f a k => L_X11_needed_4 m w f (nI a) (nI k)) (N := n) (f := fun s a => a ||| if decide (andn (opS W H cu s) (unN (opS W H cu) n (andn 63 (1 <<< s))) ≠ 0) then 1 <<< s else 0) (post := fun a => some (nI a)) (fun _ _ => True) (fun f a _ => ?_) (fun f k a hk _ => ⟨?_, trivial⟩) (F := 1000000) (by omega) 0 trivial
  · show L_X11_needed_4 m w (f + 1) (nI a) (nI n) = _
    rw [L_X11_needed_4, if_pos (by rw [hd.cnt, nle (by omega) (by omega)]; omega)]
  · have h1 := ok.op2 (s := k) (by omega)
    have h3 := andn_le 63 (1 <<< k)
    have e63 : (63 : Int32) = nI 63 := rfl
    have h4 : andn (opS W H cu k) (unN (opS W H cu) n (andn 63 (1 <<< k))) < 2147483648 := by
      have := andn_le (opS W H cu k) (unN (opS W H cu) n (andn 63 (1 <<< k)))
      have : opS W H cu k < 33554432 := h1
      omega
    show L_X11_needed_4 m w (f + 1) (nI a) (nI k) = L_X11_needed_4 m w f (nI (a ||| if decide (andn (opS W H cu k) (unN (opS W H cu) n (andn 63 (1 <<< k))) ≠ 0) then 1 <<< k else 0)) (nI (k + 1))
    rw [L_X11_needed_4, if_neg (by rw [hd.cnt, nle (by omega) (by omega)]; omega), ck6 (by omega), ncl (by omega), hd.op (by omega), n31 (by omega), i1, nm1, nshl _ (by omega), e63, nandn, m_openAll w ok hd (by omega), Option.bind_some, nandn, nadd]
    show (L_X11_needed_4 m w f (nI a ||| (if nI (andn (opS W H cu k) (unN (opS W H cu) n (andn 63 (1 <<< k)))) = 0 then 0 else nI (1 <<< k))) (nI (k + 1))) = _
    by_cases e : andn (opS W H cu k) (unN (opS W H cu) n (andn 63 (1 <<< k))) = 0
    · rw [if_pos (by rw [e]; rfl), if_neg (by simpa using e), i0, nor]
    · rw [if_neg (nne0 h4 e), if_pos (decide_eq_true e), nor]
theorem c_hidden (ok : shOK W H sl n cu we) (hc : ShC mi i W H sl n cu we) : F_X1_hiddenSheets mi w i = some (nI (seN (fun s => decide (onN (opS W H cu) n s = 0)) n)) := by
  have hn := ok.cnt
  have hC := ok.cells
  unfold F_X1_hiddenSheets
  refine lp_up (L := fun f a k => L_X1_hiddenSheets_4 mi w f i (nI a) (nI k)) (N := n) (f := fun s a => a ||| if decide (onN (opS W H cu) n s = 0) then 1 <<< s else 0) (post := fun a => some (nI a)) (fun _ _ => True) (fun f a _ => ?_) (fun f k a hk _ => ⟨?_, trivial⟩) (F := 1000000) (by omega) 0 trivial
  · show L_X1_hiddenSheets_4 mi w (f + 1) i (nI a) (nI n) = _
    rw [L_X1_hiddenSheets_4, if_pos (by rw [hc.cnt, nle (by omega) (by omega)]; omega)]
  · have h1 := pw (on_lt ok hk) hC
    show L_X1_hiddenSheets_4 mi w (f + 1) i (nI a) (nI k) = L_X1_hiddenSheets_4 mi w f i (nI (a ||| if decide (onN (opS W H cu) n k = 0) then 1 <<< k else 0)) (nI (k + 1))
    rw [L_X1_hiddenSheets_4, if_neg (by rw [hc.cnt, nle (by omega) (by omega)]; omega), c_onTop w ok hc hk, Option.bind_some, n31 (by omega), i1, nshl _ (by omega), nor, nadd]
    by_cases e : onN (opS W H cu) n k = 0
    · rw [if_pos (by rw [e]; rfl), if_pos (decide_eq_true e)]
    · rw [if_neg (nne0 (by omega) e), if_neg (by simpa using e), Nat.or_zero]
theorem m_hidden (ok : shOK W H sl n cu we) (hd : HD m j W H sl n cu we) : ∃ m', F_X11_hidden m w = some (nI (seN (fun s => decide (onN (opS W H cu) n s = 0)) n), m') := by
  have hn := ok.cnt
  have hC := ok.cells
  obtain ⟨m', e1, e2, e3⟩ := m_first m w
  refine ⟨m', ?_⟩
  unfold F_X11_hidden
  rw [e1, Option.bind_some]
  have h27 : m' 10 0 27 = nI n := by rw [e3 _ _ _ (by omega)]; exact hd.cnt
  refine lp_up (L := fun f a k => L_X11_hidden_8 w f m' (nI a) (nI k)) (N := n) (f := fun s a => a ||| if decide (onN (opS W H cu) n s = 0) then 1 <<< s else 0) (post := fun a => some (nI a, m')) (fun _ _ => True) (fun f a _ => ?_) (fun f k a hk _ => ⟨?_, trivial⟩) (F := 1000000) (by omega) 0 trivial
  · show L_X11_hidden_8 w (f + 1) m' (nI a) (nI n) = _
    rw [L_X11_hidden_8, if_pos (by rw [h27, nle (by omega) (by omega)]; omega)]
  · have h1 := popN_le (onN (opS W H cu) n k)
    show L_X11_hidden_8 w (f + 1) m' (nI a) (nI k) = L_X11_hidden_8 w f m' (nI (a ||| if decide (onN (opS W H cu) n k = 0) then 1 <<< k else 0)) (nI (k + 1))
    rw [L_X11_hidden_8, if_neg (by rw [h27, nle (by omega) (by omega)]; omega), m_seenOf w ok ⟨by rw [e3 _ _ _ (by omega)]; exact hd.mw.1, by rw [e3 _ _ _ (by omega)]; exact hd.mw.2.1, by rw [e3 _ _ _ (by omega)]; exact hd.mw.2.2⟩ h27 (fun s hs => by rw [e3 _ _ _ (by omega)]; exact hd.op hs) e2 hk, Option.bind_some, n31 (by omega), i1, nshl _ (by omega), nadd]
    have hp := pop_0 (x := onN (opS W H cu) n k) (Nat.lt_of_lt_of_le (on_lt ok hk) (Nat.pow_le_pow_right (by omega) hC))
    by_cases e : onN (opS W H cu) n k = 0
    · rw [if_pos (show nI (popN (onN (opS W H cu) n k)) = 0 by rw [hp.mpr e]; rfl), if_pos (decide_eq_true e), nor]
    · rw [if_neg (show ¬ nI (popN (onN (opS W H cu) n k)) = 0 from nne0 (by omega) fun q => e (hp.mp q)), if_neg (by simpa using e), i0, nor]
/-- how many sheets are open at a cell -/
def stN2 (o : Nat → Nat) (n c : Nat) : Nat := sN (fun s => bN (o s) c) n
theorem stN2_le (o : Nat → Nat) (n c : Nat) : stN2 o n c ≤ n := by
  have := sN_bnd (f := fun s => bN (o s) c) (n := n) (c := 1) fun k _ => bN_le _ _
  unfold stN2
  omega
/-- whether a sheet that is there is open at a cell, by the class -/
theorem c_isOpen (ok : shOK W H sl n cu we) (hc : ShC mi i W H sl n cu we) {k c : Nat} (hk : k < n) (hcl : c < 32) : F_X6_isOpen mi w i (nI k) (nI c) = some (b2 ((opS W H cu k).testBit c = true)) := by
  have hn := ok.cnt
  have h1 := ok.op2 (s := k) (by omega)
  unfold F_X6_isOpen
  rw [hc.cnt, if_pos ((in_sheetC hn (nI k)).mpr ⟨k, hk, rfl⟩), ck6 (by omega), ncl (by omega), hc.op (by omega), n31 hcl, nshr (by omega) hcl, i1, nand]
  refine congrArg some ?_
  unfold opS
  cases hb : (openN W H (cu k)).testBit c
  · rw [b2_neg Bool.false_ne_true, b2_neg (fun q => q (by rw [i0, bit0, hb]))]
  · rw [b2_pos rfl, b2_pos (by rw [i0, bit0, hb]; simp)]
theorem c_openCount (ok : shOK W H sl n cu we) (hc : ShC mi i W H sl n cu we) {c : Nat} (hcl : c < 32) : F_X1_openCount mi w i (nI c) = some (nI (stN2 (opS W H cu) n c)) := by
  have hn := ok.cnt
  unfold F_X1_openCount
  refine lp_up (L := fun f a k => L_X1_openCount_4 mi w f i (nI c) (nI a) (nI k)) (N := n) (f := fun s a => a + bN (opS W H cu s) c) (post := fun a => some (nI a)) (fun _ _ => True) (fun f a _ => ?_) (fun f k a hk _ => ⟨?_, trivial⟩) (F := 1000000) (by omega) 0 trivial
  · show L_X1_openCount_4 mi w (f + 1) i (nI c) (nI a) (nI n) = _
    rw [L_X1_openCount_4, if_pos (by rw [hc.cnt, nle (by omega) (by omega)]; omega)]
  · have h1 := ok.op2 (s := k) (by omega)
    show L_X1_openCount_4 mi w (f + 1) i (nI c) (nI a) (nI k) = L_X1_openCount_4 mi w f i (nI c) (nI (a + bN (opS W H cu k) c)) (nI (k + 1))
    rw [L_X1_openCount_4, if_neg (by rw [hc.cnt, nle (by omega) (by omega)]; omega), c_isOpen w ok hc hk hcl, Option.bind_some, i1, nadd, nadd]
    unfold bN
    cases hb : (opS W H cu k).testBit c
    · rw [b2_neg Bool.false_ne_true, if_pos rfl, if_neg Bool.false_ne_true]
      rfl
    · rw [b2_pos rfl, if_neg (show ¬ (1 : Int32) = 0 by decide), if_pos rfl]
theorem m_stackAt (ok : shOK W H sl n cu we) (hd : HD m j W H sl n cu we) {c : Nat} (hcl : c < 32) : F_X11_stackAt m w (nI c) = some (nI (stN2 (opS W H cu) n c)) := by
  have hn := ok.cnt
  unfold F_X11_stackAt
  refine lp_up (L := fun f a k => L_X11_stackAt_4 m w f (nI c) (nI a) (nI k)) (N := n) (f := fun s a => a + bN (opS W H cu s) c) (post := fun a => some (nI a)) (fun _ _ => True) (fun f a _ => ?_) (fun f k a hk _ => ⟨?_, trivial⟩) (F := 1000000) (by omega) 0 trivial
  · show L_X11_stackAt_4 m w (f + 1) (nI c) (nI a) (nI n) = _
    rw [L_X11_stackAt_4, if_pos (by rw [hd.cnt, nle (by omega) (by omega)]; omega)]
  · have h1 := ok.op2 (s := k) (by omega)
    show L_X11_stackAt_4 m w (f + 1) (nI c) (nI a) (nI k) = L_X11_stackAt_4 m w f (nI c) (nI (a + bN (opS W H cu k) c)) (nI (k + 1))
    rw [L_X11_stackAt_4, if_neg (by rw [hd.cnt, nle (by omega) (by omega)]; omega), ck6 (by omega), ncl (by omega), hd.op (by omega), n31 hcl, nshr (by omega) hcl, i1, nand, b2n, nadd, nadd]
    unfold bN opS
    cases hb : (openN W H (cu k)).testBit c
    · rw [if_neg (by rw [bit1, hb]; simp), if_neg Bool.false_ne_true]
    · rw [if_pos (by rw [bit1, hb]), if_pos rfl]
def skN (o : Nat → Nat) (n : Nat) (k b : Nat) : Nat := if stN2 o n (k + 1) ≤ stN2 o n b then b else k + 1
theorem c_stack (ok : shOK W H sl n cu we) (hc : ShC mi i W H sl n cu we) : F_X1_stackCell mi w i = some (nI (foldN (skN (opS W H cu) n) 0 (W * H - 1))) ∧ foldN (skN (opS W H cu) n) 0 (W * H - 1) < 25 := by
  have hn := ok.cnt
  have hC := ok.cells
  have hWH := W_le (W := W) ok.bw.2.1
  have hW := ok.bw.1.1
  have hb : ∀ k, k ≤ W * H - 1 → foldN (skN (opS W H cu) n) 0 k < 25 := by
    intro k
    induction k with
    | zero => intro _; show 0 < 25; omega
    | succ k ih =>
      intro hk
      have h := ih (by omega)
      show skN (opS W H cu) n k (foldN (skN (opS W H cu) n) 0 k) < 25
      generalize foldN (skN (opS W H cu) n) 0 k = b at *
      unfold skN
      split <;> omega
  refine ⟨?_, hb _ (Nat.le_refl _)⟩
  unfold F_X1_stackCell
  rw [hc.1.1, hc.1.2.1, nmul]
  refine lp_up (L := fun f a k => L_X1_stackCell_14 mi w f i (nI a) (nI (W * H)) (nI (k + 1))) (N := W * H - 1) (f := skN (opS W H cu) n) (post := fun a => some (nI a)) (fun _ a => a < 25) (fun f a _ => ?_) (fun f k a hk ha => ⟨?_, ?_⟩) (F := 1000000) (by omega) 0 (by omega)
  · show L_X1_stackCell_14 mi w (f + 1) i (nI a) (nI (W * H)) (nI (W * H - 1 + 1)) = _
    rw [L_X1_stackCell_14, if_pos (by rw [nle (by omega) (by omega)]; omega)]
  · have h1 := stN2_le (opS W H cu) n (k + 1)
    have h2 := stN2_le (opS W H cu) n a
    show L_X1_stackCell_14 mi w (f + 1) i (nI a) (nI (W * H)) (nI (k + 1)) = L_X1_stackCell_14 mi w f i (nI (skN (opS W H cu) n k a)) (nI (W * H)) (nI (k + 1 + 1))
    rw [L_X1_stackCell_14, if_neg (by rw [nle (by omega) (by omega)]; omega), c_openCount w ok hc (by omega), Option.bind_some, c_openCount w ok hc (by omega), Option.bind_some, i1, nadd]
    unfold skN
    by_cases e : stN2 (opS W H cu) n (k + 1) ≤ stN2 (opS W H cu) n a
    · rw [if_pos (by rw [nle (by omega) (by omega)]; exact e), if_pos e]
    · rw [if_neg (by rw [nle (by omega) (by omega)]; exact e), if_neg e]
  · show skN (opS W H cu) n k a < 25
    unfold skN
    split <;> omega
theorem m_stack (ok : shOK W H sl n cu we) (hd : HD m j W H sl n cu we) : F_X11_stack m w = some (nI (foldN (skN (opS W H cu) n) 0 (W * H - 1))) := by
  have hn := ok.cnt
  have hC := ok.cells
  have hWH := W_le (W := W) ok.bw.2.1
  have hW := ok.bw.1.1
  unfold F_X11_stack
  refine lp_up (L := fun f a k => L_X11_stack_4 m w f (nI a) (nI (k + 1))) (N := W * H - 1) (f := skN (opS W H cu) n) (post := fun a => some (nI a)) (fun _ a => a < 25) (fun f a _ => ?_) (fun f k a hk ha => ⟨?_, ?_⟩) (F := 1000000) (by omega) 0 (by omega)
  · show L_X11_stack_4 m w (f + 1) (nI a) (nI (W * H - 1 + 1)) = _
    rw [L_X11_stack_4, if_pos (by rw [hd.mw.2.2, nle (by omega) (by omega)]; omega)]
  · have h1 := stN2_le (opS W H cu) n (k + 1)
    have h2 := stN2_le (opS W H cu) n a
    show L_X11_stack_4 m w (f + 1) (nI a) (nI (k + 1)) = L_X11_stack_4 m w f (nI (skN (opS W H cu) n k a)) (nI (k + 1 + 1))
    rw [L_X11_stack_4, if_neg (by rw [hd.mw.2.2, nle (by omega) (by omega)]; omega), m_stackAt w ok hd (by omega), Option.bind_some, m_stackAt w ok hd (by omega), Option.bind_some, i1, nadd]
    unfold skN
    by_cases e : stN2 (opS W H cu) n (k + 1) ≤ stN2 (opS W H cu) n a
    · rw [if_pos (by rw [nle (by omega) (by omega)]; exact e), if_pos e]
    · rw [if_neg (by rw [nle (by omega) (by omega)]; exact e), if_neg e]
  · show skN (opS W H cu) n k a < 25
    unfold skN
    split <;> omega
end FS
