/-! TWINS, NEARLY; all figures of sheets -/
theorem fl_fl_tab : ∀ W, W < 6 → ∀ H, H < 6 → ∀ k, k < W * H → flN W H (flN W H (1 <<< k)) = 1 <<< k ∧ tuN W H (tuN W H (1 <<< k)) = 1 <<< k ∧ flN W H (tuN W H (1 <<< k)) = tuN W H (flN W H (1 <<< k)) := by decide +kernel
theorem fl_fl {W H x : Nat} (hW : W ≤ 5) (hH : H ≤ 5) (hx : x < 2 ^ (W * H)) : flN W H (flN W H x) = x := lin_ext (lin_comp (lin_fl W H) (lin_fl W H)) lin_id (W * H) (fun k hk => (fl_fl_tab W (by omega) H (by omega) k hk).1) x hx
theorem tu_tu {W H x : Nat} (hW : W ≤ 5) (hH : H ≤ 5) (hx : x < 2 ^ (W * H)) : tuN W H (tuN W H x) = x := lin_ext (lin_comp (lin_tu W H) (lin_tu W H)) lin_id (W * H) (fun k hk => (fl_fl_tab W (by omega) H (by omega) k hk).2.1) x hx
theorem fl_tu {W H x : Nat} (hW : W ≤ 5) (hH : H ≤ 5) (hx : x < 2 ^ (W * H)) : flN W H (tuN W H x) = tuN W H (flN W H x) := lin_ext (lin_comp (lin_fl W H) (lin_tu W H)) (lin_comp (lin_tu W H) (lin_fl W H)) (W * H) (fun k hk => (fl_fl_tab W (by omega) H (by omega) k hk).2.2) x hx
def twP (W H a b : Nat) : Prop := a = b ∨ a = flN W H b ∨ a = tuN W H b ∨ a = tuN W H (flN W H b)
theorem tw_sym {W H a b : Nat} (hW : W ≤ 5) (hH : H ≤ 5) (ha : a < 2 ^ (W * H)) (hb : b < 2 ^ (W * H)) (h : twP W H a b) : twP W H b a := by
  rcases h with h | h | h | h
  · exact Or.inl h.symm
  · exact Or.inr (Or.inl (by rw [h, fl_fl hW hH hb]))
  · exact Or.inr (Or.inr (Or.inl (by rw [h, tu_tu hW hH hb])))
  · refine Or.inr (Or.inr (Or.inr ?_))
    rw [h, fl_tu hW hH (fl_lt hW hH hb), fl_fl hW hH hb, tu_tu hW hH hb]
def twB (W H a b : Nat) : Nat := if a = b then 1 else if a = flN W H b then 1 else if a = tuN W H b then 1 else if a = tuN W H (flN W H b) then 1 else 0
theorem twB_1 {W H a b : Nat} : twB W H a b = 1 ↔ twP W H a b := by
  unfold twB twP
  by_cases h1 : a = b
  · simp [h1]
  · by_cases h2 : a = flN W H b
    · simp [h2]
    · by_cases h3 : a = tuN W H b
      · simp [h3]
      · by_cases h4 : a = tuN W H (flN W H b)
        · simp [h4]
        · simp [h1, h2, h3, h4]
theorem twB_le (W H a b : Nat) : twB W H a b ≤ 1 := by
  unfold twB
  split
  · omega
  · split
    · omega
    · split
      · omega
      · split <;> omega
theorem twB_sym {W H a b : Nat} (hW : W ≤ 5) (hH : H ≤ 5) (ha : a < 2 ^ (W * H)) (hb : b < 2 ^ (W * H)) : twB W H a b = twB W H b a := by
  have h1 : twB W H a b = 1 ↔ twB W H b a = 1 := by
    rw [twB_1, twB_1]
    exact ⟨tw_sym hW hH ha hb, tw_sym hW hH hb ha⟩
  have := twB_le W H a b
  have := twB_le W H b a
  omega
theorem c_areTwins {mi : MI} (w : WS) {i W H a b : Nat} (bw : BW W H) (cw : CW mi i W H) (ha : a < 2 ^ (W * H)) (hb : b < 2 ^ (W * H)) : F_X1_areTwins mi w i (nI a) (nI b) = some (nI (twB W H a b)) := by
  have hC := cells_le bw.1.2 bw.2.2
  have f1 := fl_lt bw.1.2 bw.2.2 hb
  have h1 := pw ha hC
  have h2 := pw hb hC
  have h3 := pw f1 hC
  have h4 := pw (tu_lt bw.1.2 bw.2.2 hb) hC
  have h5 := pw (tu_lt bw.1.2 bw.2.2 f1) hC
  unfold F_X1_areTwins twB
  rw [c_flip w bw cw hb, Option.bind_some, c_turn w bw cw hb, Option.bind_some, c_turn w bw cw f1, Option.bind_some]
  by_cases e1 : a = b
  · rw [if_pos (by rw [e1]), if_pos e1]; rfl
  · rw [if_neg (nne (by omega) (by omega) e1), if_neg e1]
    by_cases e2 : a = flN W H b
    · rw [if_pos (by rw [e2]), if_pos e2]; rfl
    · rw [if_neg (nne (by omega) (by omega) e2), if_neg e2]
      by_cases e3 : a = tuN W H b
      · rw [if_pos (by rw [e3]), if_pos e3]; rfl
      · rw [if_neg (nne (by omega) (by omega) e3), if_neg e3, b2n]
        by_cases e4 : a = tuN W H (flN W H b)
        · rw [if_pos (by rw [e4]), if_pos e4]
        · rw [if_neg (nne (by omega) (by omega) e4), if_neg e4]
/-- couples, counted from the lesser or from the greater -/
def twC (T : Nat → Nat → Nat) (n : Nat) : Nat := foldN (fun a s => foldN (fun t s => s + T a (a + 1 + t)) s (n - (a + 1))) 0 n
def twM (T : Nat → Nat → Nat) (n : Nat) : Nat := foldN (fun a s => foldN (fun b s => s + T a b) s a) 0 n
theorem tw_eq {T : Nat → Nat → Nat} {n : Nat} (hn : n ≤ 6) (h : ∀ a b, a < n → b < n → T a b = T b a) : twC T n = twM T n := by
  rcases (by omega : n = 0 ∨ n = 1 ∨ n = 2 ∨ n = 3 ∨ n = 4 ∨ n = 5 ∨ n = 6) with rfl | rfl | rfl | rfl | rfl | rfl | rfl
  · rfl
  · rfl
  · simp only [twC, twM, foldN, Nat.reduceAdd, Nat.reduceSub, Nat.add_zero]
    rw [h 1 0 (by omega) (by omega)]
  · simp only [twC, twM, foldN, Nat.reduceAdd, Nat.reduceSub, Nat.add_zero]
    rw [h 1 0 (by omega) (by omega), h 2 0 (by omega) (by omega), h 2 1 (by omega) (by omega)]
  · simp only [twC, twM, foldN, Nat.reduceAdd, Nat.reduceSub, Nat.add_zero]
    rw [h 1 0 (by omega) (by omega), h 2 0 (by omega) (by omega), h 2 1 (by omega) (by omega), h 3 0 (by omega) (by omega), h 3 1 (by omega) (by omega), h 3 2 (by omega) (by omega)]
    omega
  · simp only [twC, twM, foldN, Nat.reduceAdd, Nat.reduceSub, Nat.add_zero]
    rw [h 1 0 (by omega) (by omega), h 2 0 (by omega) (by omega), h 2 1 (by omega) (by omega), h 3 0 (by omega) (by omega), h 3 1 (by omega) (by omega), h 3 2 (by omega) (by omega), h 4 0 (by omega) (by omega), h 4 1 (by omega) (by omega), h 4 2 (by omega) (by omega), h 4 3 (by omega) (by omega)]
    omega
  · simp only [twC, twM, foldN, Nat.reduceAdd, Nat.reduceSub, Nat.add_zero]
    rw [h 1 0 (by omega) (by omega), h 2 0 (by omega) (by omega), h 2 1 (by omega) (by omega), h 3 0 (by omega) (by omega), h 3 1 (by omega) (by omega), h 3 2 (by omega) (by omega), h 4 0 (by omega) (by omega), h 4 1 (by omega) (by omega), h 4 2 (by omega) (by omega), h 4 3 (by omega) (by omega), h 5 0 (by omega) (by omega), h 5 1 (by omega) (by omega), h 5 2 (by omega) (by omega), h 5 3 (by omega) (by omega), h 5 4 (by omega) (by omega)]
    omega
theorem c_twins {mi : MI} (w : WS) {i W H sl n : Nat} {cu we : Nat → Nat} (ok : shOK W H sl n cu we) (hc : ShC mi i W H sl n cu we) : F_X1_twins mi w i = some (nI (twC (fun a b => twB W H (cu a) (cu b)) n)) := by
  have hn := ok.cnt
  unfold F_X1_twins
  refine lp_up (L := fun f s k => L_X1_twins_4 mi w f i (nI s) (nI k)) (N := n) (f := fun a s => foldN (fun t s => s + twB W H (cu a) (cu (a + 1 + t))) s (n - (a + 1))) (post := fun a => some (nI a)) (fun _ _ => True) (fun f s _ => ?_) (fun f a s ha _ => ⟨?_, trivial⟩) (F := 1000000) (by omega) 0 trivial
  · show L_X1_twins_4 mi w (f + 1) i (nI s) (nI n) = _
    rw [L_X1_twins_4, if_pos (by rw [hc.cnt, nle (by omega) (by omega)]; omega)]
  · show L_X1_twins_4 mi w (f + 1) i (nI s) (nI a) = _
    rw [L_X1_twins_4, if_neg (by rw [hc.cnt, nle (by omega) (by omega)]; omega), i1, nadd]
    refine lp_up (L := fun f' s k => L_X1_twins_16 mi w (fun i0 x1 x2 => L_X1_twins_4 mi w f i0 x1 x2) f' i (nI s) (nI a) (nI (a + 1 + k))) (N := n - (a + 1)) (f := fun t s => s + twB W H (cu a) (cu (a + 1 + t))) (post := fun s => L_X1_twins_4 mi w f i (nI s) (nI (a + 1))) (fun _ _ => True) (fun f' s _ => ?_) (fun f' k s hk _ => ⟨?_, trivial⟩) (F := 1000000) (by omega) s trivial
    · show L_X1_twins_16 mi w _ (f' + 1) i (nI s) (nI a) (nI (a + 1 + (n - (a + 1)))) = _
      rw [L_X1_twins_16, if_pos (by rw [hc.cnt, nle (by omega) (by omega)]; omega), i1, nadd]
    · show L_X1_twins_16 mi w _ (f' + 1) i (nI s) (nI a) (nI (a + 1 + k)) = L_X1_twins_16 mi w _ f' i (nI (s + twB W H (cu a) (cu (a + 1 + k)))) (nI a) (nI (a + 1 + k + 1))
      rw [L_X1_twins_16, if_neg (by rw [hc.cnt, nle (by omega) (by omega)]; omega), ck6 (by omega), ck6 (by omega), ncl (by omega), ncl (by omega), hc.cut (by omega), hc.cut (by omega), c_areTwins w ok.bw hc.cw (ok.cu (by omega)) (ok.cu (by omega)), Option.bind_some, i1, nadd, nadd]
      have := twB_le W H (cu a) (cu (a + 1 + k))
      rcases (by omega : twB W H (cu a) (cu (a + 1 + k)) = 0 ∨ twB W H (cu a) (cu (a + 1 + k)) = 1) with e | e
      · rw [e, if_pos (show nI 0 = 0 from rfl)]
        rfl
      · rw [e, if_neg (show ¬ nI 1 = 0 from ne10)]
theorem m_twins {m : MI} (w : WS) {j W H sl n : Nat} {cu we : Nat → Nat} (ok : shOK W H sl n cu we) (hd : HD m j W H sl n cu we) : F_X11_twins m w = some (nI (twM (fun a b => twB W H (cu a) (cu b)) n)) := by
  have hn := ok.cnt
  have hC := ok.cells
  unfold F_X11_twins
  refine lp_up (L := fun f s k => L_X11_twins_4 m w f (nI s) (nI k)) (N := n) (f := fun a s => foldN (fun b s => s + twB W H (cu a) (cu b)) s a) (post := fun a => some (nI a)) (fun _ _ => True) (fun f s _ => ?_) (fun f a s ha _ => ⟨?_, trivial⟩) (F := 1000000) (by omega) 0 trivial
  · show L_X11_twins_4 m w (f + 1) (nI s) (nI n) = _
    rw [L_X11_twins_4, if_pos (by rw [hd.cnt, nle (by omega) (by omega)]; omega)]
  · show L_X11_twins_4 m w (f + 1) (nI s) (nI a) = _
    rw [L_X11_twins_4, if_neg (by rw [hd.cnt, nle (by omega) (by omega)]; omega)]
    refine lp_up (L := fun f' s k => L_X11_twins_14 m w (fun x1 x2 => L_X11_twins_4 m w f x1 x2) f' (nI s) (nI a) (nI k)) (N := a) (f := fun b s => s + twB W H (cu a) (cu b)) (post := fun s => L_X11_twins_4 m w f (nI s) (nI (a + 1))) (fun _ _ => True) (fun f' s _ => ?_) (fun f' b s hb _ => ⟨?_, trivial⟩) (F := 1000000) (by omega) s trivial
    · show L_X11_twins_14 m w _ (f' + 1) (nI s) (nI a) (nI a) = _
      rw [L_X11_twins_14, if_pos (by rw [nle (by omega) (by omega)]; omega), i1, nadd]
    · have ca := ok.cu (s := a) (by omega)
      have cb := ok.cu (s := b) (by omega)
      have f1 := fl_lt ok.bw.1.2 ok.bw.2.2 cb
      have h1 := pw ca hC
      have h2 := pw cb hC
      have h3 := pw f1 hC
      have h4 := pw (tu_lt ok.bw.1.2 ok.bw.2.2 cb) hC
      have h5 := pw (tu_lt ok.bw.1.2 ok.bw.2.2 f1) hC
      show L_X11_twins_14 m w _ (f' + 1) (nI s) (nI a) (nI b) = L_X11_twins_14 m w _ f' (nI (s + twB W H (cu a) (cu b))) (nI a) (nI (b + 1))
      rw [L_X11_twins_14, if_neg (by rw [nle (by omega) (by omega)]; omega), ck6 (by omega), ncl (a := b) (by omega), hd.cut (s := b) (by omega), m_flip w ok.bw hd.mw cb, Option.bind_some, ck6 (by omega), ckJ (k := b) (by omega) (by omega), ncl (a := a) (by omega), hd.cut (s := a) (by omega), ckJ (k := a) (by omega) (by omega), ckJ (k := a) (by omega) (by omega)]
      simp only [ckJ (show b < 6 by omega) (show b < 2147483648 by omega), ckJ (show a < 6 by omega) (show a < 2147483648 by omega), m_turn w ok.bw hd.mw cb, m_turn w ok.bw hd.mw f1, Option.bind_some]
      unfold twB
      by_cases e1 : cu a = cu b
      · rw [if_pos (show nI (cu a) = nI (cu b) by rw [e1]), if_neg ne10, if_pos e1, i1, nadd, nadd]
      · rw [if_neg (show ¬ nI (cu a) = nI (cu b) from nne (by omega) (by omega) e1), if_neg e1]
        by_cases e2 : cu a = flN W H (cu b)
        · rw [if_pos (show nI (cu a) = nI (flN W H (cu b)) by rw [← e2]), if_neg ne10, if_pos e2, i1, nadd, nadd]
        · rw [if_neg (show ¬ nI (cu a) = nI (flN W H (cu b)) from nne (by omega) (by omega) e2), if_neg e2, if_pos trivial]
          by_cases e3 : cu a = tuN W H (cu b)
          · rw [if_pos (show nI (cu a) = nI (tuN W H (cu b)) by rw [← e3]), if_pos e3, i1, nadd, nadd]
          · rw [if_neg (show ¬ nI (cu a) = nI (tuN W H (cu b)) from nne (by omega) (by omega) e3), if_neg e3]
            by_cases e4 : cu a = tuN W H (flN W H (cu b))
            · rw [if_pos (show nI (cu a) = nI (tuN W H (flN W H (cu b))) by rw [← e4]), if_pos e4, i1, nadd, nadd]
            · rw [if_neg (show ¬ nI (cu a) = nI (tuN W H (flN W H (cu b))) from nne (by omega) (by omega) e4), if_neg e4, i1, i0, nadd, nadd]
/-- unlike of two sheets in the model -/
theorem xor_pop (A B : Nat) : popN (A ^^^ B) = popN (andn A B) + popN (andn B A) := by
  have key : ∀ n, sN (bN (A ^^^ B)) n = sN (bN (andn A B)) n + sN (bN (andn B A)) n := by
    intro n
    induction n with
    | zero => rfl
    | succ n ih =>
      show sN (bN (A ^^^ B)) n + bN (A ^^^ B) n = (sN (bN (andn A B)) n + bN (andn A B) n) + (sN (bN (andn B A)) n + bN (andn B A) n)
      have : bN (A ^^^ B) n = bN (andn A B) n + bN (andn B A) n := by
        unfold bN
        rw [tb_andn, tb_andn, Nat.testBit_xor]
        cases A.testBit n <;> cases B.testBit n <;> rfl
      omega
  exact key 25
theorem m_unl {m : MI} (w : WS) {j W H sl n a b : Nat} {cu we : Nat → Nat} (ok : shOK W H sl n cu we) (hd : HD m j W H sl n cu we) (ha : a < 6) (hb : b < 6) : F_X11_unlikeOf m w (nI a) (nI b) = some (nI (popN (opS W H cu a ^^^ opS W H cu b))) := by
  have oa := ok.op2 ha
  have ob := ok.op2 hb
  unfold F_X11_unlikeOf
  rw [ck6 (by omega), ck6 (by omega), ncl (by omega), ncl (by omega), hd.op (by omega), hd.op (by omega), nandn, nandn, m_ones m w (Nat.lt_of_le_of_lt (andn_le _ _) oa), Option.bind_some, ckJ (by omega) (by omega), ckJ (by omega) (by omega), m_ones m w (Nat.lt_of_le_of_lt (andn_le _ _) ob), Option.bind_some, nadd, xor_pop]
  rfl
/-- nearly: a couple after the other -/
def nrS (u : Nat → Nat → Nat) (a b : Nat) (s : Int32 × Nat) : Int32 × Nat := if s.2 ≤ u a b then s else (nI (10 * a + b), u a b)
def nrF (u : Nat → Nat → Nat) (n : Nat) (s0 : Int32 × Nat) : Int32 × Nat := foldN (fun a s => foldN (fun t s => nrS u a (a + 1 + t) s) s (n - (a + 1))) s0 n
theorem foldN_rel {α β : Type} {f : Nat → α → α} {g : Nat → β → β} {R : α → β → Prop} : ∀ {n : Nat} {a : α} {b : β}, R a b → (∀ k a b, k < n → R a b → R (f k a) (g k b)) → R (foldN f a n) (foldN g b n) := by
  intro n
  induction n with
  | zero => intro a b h _; exact h
  | succ n ih => intro a b h hs; exact hs n _ _ (by omega) (ih h fun k a b hk => hs k a b (by omega))
def nrR (u : Nat → Nat → Nat) (n : Nat) (s t : Int32 × Nat) : Prop := (s = (-1, 26) ∧ t = (-1, 1000000)) ∨ (s = t ∧ ∃ a b, a < b ∧ b < n ∧ s = (nI (10 * a + b), u a b))
theorem nr_rel {u : Nat → Nat → Nat} {n : Nat} (hu : ∀ a b, u a b ≤ 25) : nrR u n (nrF u n (-1, 26)) (nrF u n (-1, 1000000)) := by
  unfold nrF
  refine foldN_rel (R := nrR u n) (Or.inl ⟨rfl, rfl⟩) fun a s t ha hr => foldN_rel (R := nrR u n) hr fun k s t hk hr => ?_
  have := hu a (a + 1 + k)
  unfold nrS
  rcases hr with ⟨rfl, rfl⟩ | ⟨rfl, h⟩
  · rw [if_neg (by show ¬ 26 ≤ u a (a + 1 + k); omega), if_neg (by show ¬ 1000000 ≤ u a (a + 1 + k); omega)]
    exact Or.inr ⟨rfl, a, a + 1 + k, by omega, by omega, rfl⟩
  · by_cases e : s.2 ≤ u a (a + 1 + k)
    · rw [if_pos e]; exact Or.inr ⟨rfl, h⟩
    · rw [if_neg e]; exact Or.inr ⟨rfl, a, a + 1 + k, by omega, by omega, rfl⟩
theorem nrS_le {u : Nat → Nat → Nat} (hu : ∀ a b, u a b ≤ 25) {a b : Nat} {s : Int32 × Nat} (h : s.2 ≤ 1000000) : (nrS u a b s).2 ≤ 1000000 := by
  have := hu a b
  unfold nrS
  split
  · exact h
  · show u a b ≤ 1000000
    omega
def unl (W H : Nat) (cu : Nat → Nat) (a b : Nat) : Nat := popN (opS W H cu a ^^^ opS W H cu b)
theorem foldN_inv {α : Type} {f : Nat → α → α} {P : α → Prop} {n : Nat} {a : α} (h : P a) (hs : ∀ k a, k < n → P a → P (f k a)) : P (foldN f a n) := foldN_rel (f := f) (g := fun _ b => b) (b := ()) (R := fun a _ => P a) h fun k a _ hk => hs k a hk
theorem c_near {mi : MI} (w : WS) {i W H sl n : Nat} {cu we : Nat → Nat} (ok : shOK W H sl n cu we) (hc : ShC mi i W H sl n cu we) : F_X1_nearestTwo mi w i = some (nrF (unl W H cu) n (-1, 26)).1 := by
  have hn := ok.cnt
  have hu : ∀ a b, unl W H cu a b ≤ 25 := fun a b => popN_le _
  unfold F_X1_nearestTwo
  refine lp_up (L := fun f (s : Int32 × Nat) k => L_X1_nearestTwo_7 mi w f i s.1 (nI s.2) (nI k)) (N := n) (f := fun a s => foldN (fun t s => nrS (unl W H cu) a (a + 1 + t) s) s (n - (a + 1))) (post := fun a => some a.1) (fun _ s => s.2 ≤ 1000000) (fun f s _ => ?_) (fun f a s ha hs => ⟨?_, foldN_inv (P := fun s : Int32 × Nat => s.2 ≤ 1000000) hs fun k s _ h => nrS_le hu h⟩) (F := 1000000) (by omega) (-1, 26) (by show 26 ≤ 1000000; omega)
  · show L_X1_nearestTwo_7 mi w (f + 1) i s.1 (nI s.2) (nI n) = _
    rw [L_X1_nearestTwo_7, if_pos (by rw [hc.cnt, nle (by omega) (by omega)]; omega)]
  · show L_X1_nearestTwo_7 mi w (f + 1) i s.1 (nI s.2) (nI a) = _
    rw [L_X1_nearestTwo_7, if_neg (by rw [hc.cnt, nle (by omega) (by omega)]; omega), i1, nadd]
    refine lp_up (L := fun f' (s : Int32 × Nat) k => L_X1_nearestTwo_20 mi w (fun i0 x1 x2 x3 => L_X1_nearestTwo_7 mi w f i0 x1 x2 x3) f' i s.1 (nI s.2) (nI a) (nI (a + 1 + k))) (N := n - (a + 1)) (f := fun t s => nrS (unl W H cu) a (a + 1 + t) s) (post := fun s => L_X1_nearestTwo_7 mi w f i s.1 (nI s.2) (nI (a + 1))) (fun _ s => s.2 ≤ 1000000) (fun f' s _ => ?_) (fun f' k s hk hs => ⟨?_, nrS_le hu hs⟩) (F := 1000000) (by omega) s hs
    · show L_X1_nearestTwo_20 mi w _ (f' + 1) i s.1 (nI s.2) (nI a) (nI (a + 1 + (n - (a + 1)))) = _
      rw [L_X1_nearestTwo_20, if_pos (by rw [hc.cnt, nle (by omega) (by omega)]; omega), i1, nadd]
    · have oa := ok.op2 (s := a) (by omega)
      have ob := ok.op2 (s := a + 1 + k) (by omega)
      have hx : openN W H (cu a) ^^^ openN W H (cu (a + 1 + k)) < 33554432 := Nat.xor_lt_two_pow (n := 25) oa ob
      have hp := hu a (a + 1 + k)
      show L_X1_nearestTwo_20 mi w _ (f' + 1) i s.1 (nI s.2) (nI a) (nI (a + 1 + k)) = L_X1_nearestTwo_20 mi w _ f' i (nrS (unl W H cu) a (a + 1 + k) s).1 (nI (nrS (unl W H cu) a (a + 1 + k) s).2) (nI a) (nI (a + 1 + k + 1))
      have e10 : (10 : Int32) = nI 10 := rfl
      rw [L_X1_nearestTwo_20, if_neg (by rw [hc.cnt, nle (by omega) (by omega)]; omega), ck6 (by omega), ck6 (by omega), ncl (by omega), ncl (by omega), hc.op (by omega), hc.op (by omega), nxor, c_pop hx, e10, nmul, nadd, i1, nadd]
      show (if nI s.2 ≤ nI (unl W H cu a (a + 1 + k)) then _ else _) = _
      unfold nrS
      by_cases e : s.2 ≤ unl W H cu a (a + 1 + k)
      · rw [if_pos (by rw [nle (by omega) (by omega)]; exact e), if_pos e]
      · rw [if_neg (by rw [nle (by omega) (by omega)]; exact e), if_neg e, Nat.mul_comm a 10]
        rfl
theorem m_near {m : MI} (w : WS) {j W H sl n : Nat} {cu we : Nat → Nat} (ok : shOK W H sl n cu we) (hd : HD m j W H sl n cu we) (x : Int32) : F_X11_nearly m w x = some (if x = 0 then (nrF (unl W H cu) n (-1, 1000000)).1 else if (nrF (unl W H cu) n (-1, 1000000)).1 = (-1) then 0 else nI (nrF (unl W H cu) n (-1, 1000000)).2) := by
  have hn := ok.cnt
  have hu : ∀ a b, unl W H cu a b ≤ 25 := fun a b => popN_le _
  unfold F_X11_nearly
  refine lp_up (L := fun f (s : Int32 × Nat) k => L_X11_nearly_9 m w f x s.1 (nI s.2) (nI k)) (N := n) (f := fun a s => foldN (fun t s => nrS (unl W H cu) a (a + 1 + t) s) s (n - (a + 1))) (post := fun s => some (if x = 0 then s.1 else if s.1 = (-1) then 0 else nI s.2)) (fun _ s => s.2 ≤ 1000000) (fun f s _ => ?_) (fun f a s ha hs => ⟨?_, foldN_inv (P := fun s : Int32 × Nat => s.2 ≤ 1000000) hs fun k s _ h => nrS_le hu h⟩) (F := 1000000) (by omega) (-1, 1000000) (by show 1000000 ≤ 1000000; omega)
  · show L_X11_nearly_9 m w (f + 1) x s.1 (nI s.2) (nI n) = _
    rw [L_X11_nearly_9, if_pos (by rw [hd.cnt, nle (by omega) (by omega)]; omega)]
  · show L_X11_nearly_9 m w (f + 1) x s.1 (nI s.2) (nI a) = _
    rw [L_X11_nearly_9, if_neg (by rw [hd.cnt, nle (by omega) (by omega)]; omega), i1, nadd]
    refine lp_up (L := fun f' (s : Int32 × Nat) k => L_X11_nearly_24 m w (fun x1 x2 x3 x4 => L_X11_nearly_9 m w f x1 x2 x3 x4) f' x s.1 (nI s.2) (nI a) (nI (a + 1 + k))) (N := n - (a + 1)) (f := fun t s => nrS (unl W H cu) a (a + 1 + t) s) (post := fun s => L_X11_nearly_9 m w f x s.1 (nI s.2) (nI (a + 1))) (fun _ s => s.2 ≤ 1000000) (fun f' s _ => ?_) (fun f' k s hk hs => ⟨?_, nrS_le hu hs⟩) (F := 1000000) (by omega) s hs
    · show L_X11_nearly_24 m w _ (f' + 1) x s.1 (nI s.2) (nI a) (nI (a + 1 + (n - (a + 1)))) = _
      rw [L_X11_nearly_24, if_pos (by rw [hd.cnt, nle (by omega) (by omega)]; omega), i1, nadd]
    · have hp := hu a (a + 1 + k)
      have e10 : (10 : Int32) = nI 10 := rfl
      show L_X11_nearly_24 m w _ (f' + 1) x s.1 (nI s.2) (nI a) (nI (a + 1 + k)) = L_X11_nearly_24 m w _ f' x (nrS (unl W H cu) a (a + 1 + k) s).1 (nI (nrS (unl W H cu) a (a + 1 + k) s).2) (nI a) (nI (a + 1 + k + 1))
      rw [L_X11_nearly_24, if_neg (by rw [hd.cnt, nle (by omega) (by omega)]; omega), m_unl w ok hd (by omega) (by omega), Option.bind_some, Option.bind_some, e10, nmul, nadd, i1, nadd]
      show L_X11_nearly_24 m w _ f' x (if nI s.2 ≤ nI (unl W H cu a (a + 1 + k)) then s.1 else nI (10 * a + (a + 1 + k))) (f_X11_lesser m (nI s.2) (nI (unl W H cu a (a + 1 + k)))) (nI a) (nI (a + 1 + k + 1)) = _
      unfold nrS f_X11_lesser
      by_cases e : s.2 ≤ unl W H cu a (a + 1 + k)
      · rw [if_pos (show nI s.2 ≤ nI (unl W H cu a (a + 1 + k)) by rw [nle (by omega) (by omega)]; exact e), if_pos e]
        by_cases e2 : unl W H cu a (a + 1 + k) ≤ s.2
        · rw [if_pos (by rw [nle (by omega) (by omega)]; exact e2), show unl W H cu a (a + 1 + k) = s.2 by omega]
        · rw [if_neg (by rw [nle (by omega) (by omega)]; exact e2)]
      · rw [if_neg (show ¬ nI s.2 ≤ nI (unl W H cu a (a + 1 + k)) by rw [nle (by omega) (by omega)]; exact e), if_neg e, if_pos (by rw [nle (by omega) (by omega)]; omega)]
theorem op_sheets {mi : MI} {w : WS} (I : Inv mi w) (x1 : Int32) (x2 : Int32) : ∃ c, F_X10_sheets mi w x1 x2 = some c ∧ ∃ e, F_X11_sheets mi w x1 x2 = some e ∧ c = e.1 ∧ Inv e.2 w := by
  have key : ∃ c, F_X10_sheets mi w x1 x2 = some c ∧ ∃ e, F_X11_sheets mi w x1 x2 = some e ∧ c = e.1 := by
    unfold F_X10_sheets F_X11_sheets
    refine shop_op I x1 (-2) rfl (fun m => ⟨_, if_pos rfl⟩) fun j W H sl n cu we m hj ok hc hd K => ?_
    dsimp only [onO]
    have hn := ok.cnt
    have hC := ok.cells
    have hb := ok.bw
    have hu : ∀ a b, unl W H cu a b ≤ 25 := fun a b => popN_le _
    rw [if_neg ne10]
    by_cases e0 : x2 = 0
    · subst e0
      rw [if_pos rfl, if_pos rfl, c_mirror w ok hc, b2_neg (show ¬ (0 : Int32) = 1 by decide), m_like w ok hd fun x hx => ⟨m_flip w hb hd.mw hx, fl_lt hb.1.2 hb.2.2 hx⟩]
      exact ⟨_, _, rfl, rfl⟩
    rw [if_neg e0, if_neg e0]
    by_cases e1 : x2 = 1
    · subst e1
      rw [if_pos rfl, if_pos rfl, c_turnd w ok hc, b2_pos rfl, m_like w ok hd fun x hx => ⟨m_turn w hb hd.mw hx, tu_lt hb.1.2 hb.2.2 hx⟩]
      exact ⟨_, _, rfl, rfl⟩
    rw [if_neg e1, if_neg e1]
    by_cases e2 : x2 = 2
    · rw [if_pos e2, if_pos e2, c_twins w ok hc, m_twins w ok hd, tw_eq hn fun a b ha hb' => twB_sym hb.1.2 hb.2.2 (ok.cu (by omega)) (ok.cu (by omega))]
      exact ⟨_, _, rfl, rfl⟩
    rw [if_neg e2, if_neg e2]
    by_cases e3 : x2 = 3
    · rw [if_pos e3, if_pos e3, c_toAll w ok hc, m_toAll w ok hd]
      exact ⟨_, _, rfl, rfl⟩
    rw [if_neg e3, if_neg e3]
    by_cases e4 : x2 = 4
    · have hp : 2 ^ n ≤ 64 := Nat.pow_le_pow_right (n := 2) (by omega) hn
      have e63 : (63 : Int32) = nI 63 := rfl
      have eu : unN (opS W H cu) n 63 = unN (opS W H cu) n (2 ^ n - 1) := un_bits fun s hs => by
        rw [Nat.testBit_two_pow_sub_one, show (63 : Nat) = 2 ^ 6 - 1 from rfl, Nat.testBit_two_pow_sub_one]
        simp; omega
      rw [if_pos e4, if_pos e4, c_every hc.cnt hn, c_union w ok hc (by omega), e63, m_openAll w ok hd (by omega), Option.bind_some, Option.bind_some, m_all ok hd, hc.2.2.1, eu]
      exact ⟨_, _, rfl, rfl⟩
    rw [if_neg e4, if_neg e4]
    by_cases e5 : x2 = 5
    · rw [if_pos e5, if_pos e5, c_falls w ok hc, m_falls w ok hd]
      exact ⟨_, _, rfl, rfl⟩
    rw [if_neg e5, if_neg e5]
    by_cases e6 : x2 = 6
    · rw [if_pos e6, if_pos e6, c_need w ok hc, m_need w ok hd]
      exact ⟨_, _, rfl, rfl⟩
    rw [if_neg e6, if_neg e6]
    obtain ⟨s1, s2⟩ := c_stack w ok hc
    by_cases e7 : x2 = 7
    · rw [if_pos e7, if_pos e7, s1, m_stack w ok hd]
      exact ⟨_, _, rfl, rfl⟩
    rw [if_neg e7, if_neg e7]
    by_cases e8 : x2 = 8
    · rw [if_pos e8, if_pos e8, s1, m_stack w ok hd, Option.bind_some, Option.bind_some, c_openCount w ok hc (by omega), m_stackAt w ok hd (by omega)]
      exact ⟨_, _, rfl, rfl⟩
    rw [if_neg e8, if_neg e8]
    have hr := nr_rel (u := unl W H cu) (n := n) hu
    by_cases e9 : x2 = 9
    · subst e9
      rw [if_pos rfl, if_pos rfl, c_near w ok hc, b2_neg (show ¬ (9 : Int32) = 10 by decide), m_near w ok hd, if_pos rfl]
      have : (nrF (unl W H cu) n (-1, 26)).1 = (nrF (unl W H cu) n (-1, 1000000)).1 := by
        rcases hr with ⟨h1, h2⟩ | ⟨h1, -⟩
        · rw [h1, h2]
        · rw [h1]
      rw [this]
      exact ⟨_, _, rfl, rfl⟩
    rw [if_neg e9, if_neg e9]
    by_cases e10 : x2 = 10
    · subst e10
      rw [if_pos rfl, if_pos rfl, b2_pos rfl, m_near w ok hd, if_neg ne10]
      unfold F_X1_nearestUnlike
      rw [c_near w ok hc, Option.bind_some]
      rcases hr with ⟨h1, h2⟩ | ⟨h1, a, b, hab, hbn, h3⟩
      · rw [h1, h2, if_pos rfl, if_pos rfl]
        exact ⟨_, _, rfl, rfl⟩
      · have oa := ok.op2 (s := a) (by omega)
        have ob := ok.op2 (s := b) (by omega)
        have hx : openN W H (cu a) ^^^ openN W H (cu b) < 33554432 := Nat.xor_lt_two_pow (n := 25) oa ob
        have g1 : nI (10 * a + b) / 10 = nI a := by
          show nI (10 * a + b) / nI 10 = nI a
          rw [ndiv (by omega) (by omega) (by omega), show (10 * a + b) / 10 = a by omega]
        have g2 : irem (nI (10 * a + b)) 10 = nI b := by
          show irem (nI (10 * a + b)) (nI 10) = nI b
          rw [nrem (by omega) (by omega) (by omega), show (10 * a + b) % 10 = b by omega]
        rw [← h1, h3]
        dsimp only
        rw [if_neg (not_m1 (by omega)), if_neg (not_m1 (by omega)), g1, g2, if_pos ((hc.sheet ok _).mpr ⟨a, by omega, rfl⟩), if_pos ((hc.sheet ok _).mpr ⟨b, hbn, rfl⟩), ck6 (by omega), ck6 (by omega), ncl (by omega), ncl (by omega), hc.op (by omega), hc.op (by omega), nxor, c_pop hx]
        exact ⟨_, _, rfl, rfl⟩
    rw [if_neg e10, if_neg e10]
    by_cases e11 : x2 = 11
    · obtain ⟨m', hm⟩ := m_hidden w ok hd
      rw [if_pos e11, if_pos e11, c_hidden w ok hc, hm]
      exact ⟨_, _, rfl, rfl⟩
    rw [if_neg e11, if_neg e11]
    exact ⟨_, _, rfl, rfl⟩
  obtain ⟨c, h1, e, h2, h3⟩ := key
  exact ⟨c, h1, e, h2, h3, Inv_m I (kp_X11_sheets h2)⟩
