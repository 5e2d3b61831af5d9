/-! SETS OF SHEETS: together, apart; within; seen -/
def opS (W H : Nat) (cu : Nat → Nat) (s : Nat) : Nat := openN W H (cu s)
def unN (o : Nat → Nat) (n set : Nat) : Nat := orN (fun s => if set.testBit s then o s else 0) n
theorem c_every {mi : MI} {i n : Nat} (h : mi 5 i 3 = nI n) (hn : n ≤ 6) : f_X6_everySheet mi i = nI (2 ^ n - 1) := by
  unfold f_X6_everySheet
  rw [h]
  exact n_all (by omega)
theorem c_union {mi : MI} (w : WS) {i W H sl n set : Nat} {cu we : Nat → Nat} (ok : shOK W H sl n cu we) (hc : ShC mi i W H sl n cu we) (hs : set < 2147483648) : F_X6_union mi w i (nI set) = some (nI (unN (opS W H cu) n set)) := by
  have hn := ok.cnt
  unfold F_X6_union
  refine lp_up (L := fun f s k => L_X6_union_4 mi w f i (nI set) (nI s) (nI k)) (N := n) (f := fun k a => a ||| if set.testBit k then opS W H cu k else 0) (post := fun a => some (nI a)) (fun _ _ => True) (fun f s _ => ?_) (fun f k s hk _ => ⟨?_, trivial⟩) (F := 1000000) (by omega) 0 trivial
  · show L_X6_union_4 mi w (f + 1) i (nI set) (nI s) (nI n) = _
    rw [L_X6_union_4, if_pos (by rw [hc.cnt, nle (by omega) (by omega)]; omega)]
  · show L_X6_union_4 mi w (f + 1) i (nI set) (nI s) (nI k) = _
    rw [L_X6_union_4, if_neg (by rw [hc.cnt, nle (by omega) (by omega)]; omega), n31 (by omega), nshr hs (by omega), i1, nand, ck6 (by omega), ncl (by omega), hc.op (by omega), nor, nadd]
    cases hb : set.testBit k
    · rw [if_pos (by rw [i0, bit0, hb])]
      simp
    · rw [if_neg (by rw [i0, bit0, hb]; simp)]
      rfl
theorem m_openAll {m : MI} (w : WS) {j W H sl n set : Nat} {cu we : Nat → Nat} (ok : shOK W H sl n cu we) (hd : HD m j W H sl n cu we) (hs : set < 2147483648) : F_X11_openAll m w (nI set) = some (nI (unN (opS W H cu) n set)) := by
  have hn := ok.cnt
  unfold F_X11_openAll
  refine lp_up (L := fun f s k => L_X11_openAll_4 m w f (nI set) (nI s) (nI k)) (N := n) (f := fun k a => a ||| if set.testBit k then opS W H cu k else 0) (post := fun a => some (nI a)) (fun _ _ => True) (fun f s _ => ?_) (fun f k s hk _ => ⟨?_, trivial⟩) (F := 1000000) (by omega) 0 trivial
  · show L_X11_openAll_4 m w (f + 1) (nI set) (nI s) (nI n) = _
    rw [L_X11_openAll_4, if_pos (by rw [hd.cnt, nle (by omega) (by omega)]; omega)]
  · show L_X11_openAll_4 m w (f + 1) (nI set) (nI s) (nI k) = _
    rw [L_X11_openAll_4, if_neg (by rw [hd.cnt, nle (by omega) (by omega)]; omega), n31 (by omega), nshr hs (by omega), i1, nand, ck6 (by omega), ncl (by omega), hd.op (by omega), i0, nor, nor, nadd]
    cases hb : set.testBit k
    · rw [if_neg (by rw [bit1, hb]; simp)]
      simp
    · rw [if_pos (by rw [bit1, hb])]
      rfl
theorem un_lt {W H sl n set : Nat} {cu we : Nat → Nat} (ok : shOK W H sl n cu we) : unN (opS W H cu) n set < 2 ^ (W * H) := by
  have hn := ok.cnt
  refine orN_lt fun k hk => ?_
  have := ok.op (s := k) (by omega)
  have := Nat.two_pow_pos (W * H)
  unfold opS
  split <;> omega
theorem un_lt2 {W H sl n set : Nat} {cu we : Nat → Nat} (ok : shOK W H sl n cu we) : unN (opS W H cu) n set < 33554432 := pw (un_lt ok) ok.cells
/-- the least of fewest cells: up with less, or down with no more -/
theorem least_up {N : Nat} {p : Nat → Bool} {q : Nat → Nat} (hp : p N = true) (hq : ∀ k, k < N → q k < q N) :
    let r := foldN (fun k b => if q k < q b ∧ p k = true then k else b) N (N + 1)
    r ≤ N ∧ p r = true ∧ ∀ j, j ≤ N → p j = true → q r < q j ∨ (q r = q j ∧ r ≤ j) := by
  have key : ∀ k, k ≤ N + 1 → ∀ r, r = foldN (fun k b => if q k < q b ∧ p k = true then k else b) N k →
      r ≤ N ∧ p r = true ∧ (r < k ∨ r = N) ∧ ∀ j, j < k → p j = true → q r < q j ∨ (q r = q j ∧ r ≤ j) := by
    intro k
    induction k with
    | zero => intro _ r hr; have hr : r = N := hr; subst hr; exact ⟨Nat.le_refl _, hp, Or.inr rfl, fun j hj => absurd hj (by omega)⟩
    | succ k ih =>
      intro hk r hr
      obtain ⟨h1, h2, h3, h4⟩ := ih (by omega) _ rfl
      have hr : r = (if q k < q (foldN (fun k b => if q k < q b ∧ p k = true then k else b) N k) ∧ p k = true then k else (foldN (fun k b => if q k < q b ∧ p k = true then k else b) N k)) := hr
      subst hr
      generalize foldN (fun k b => if q k < q b ∧ p k = true then k else b) N k = b at *
      by_cases c : q k < q b ∧ p k = true
      · rw [if_pos c]
        refine ⟨by omega, c.2, Or.inl (by omega), fun j hj hpj => ?_⟩
        by_cases e : j = k
        · subst e; exact Or.inr ⟨rfl, Nat.le_refl _⟩
        · rcases h4 j (by omega) hpj with h | h <;> exact Or.inl (by omega)
      · rw [if_neg c]
        refine ⟨h1, h2, by omega, fun j hj hpj => ?_⟩
        by_cases e : j = k
        · subst e
          have hb : q b ≤ q j := Nat.le_of_not_lt fun z => c ⟨z, hpj⟩
          rcases Nat.lt_or_eq_of_le hb with z | z
          · exact Or.inl z
          · refine Or.inr ⟨z, ?_⟩
            rcases h3 with h | h
            · omega
            · by_cases e2 : j < N
              · have := hq j e2; rw [h] at z; omega
              · omega
        · exact h4 j (by omega) hpj
  obtain ⟨h1, h2, -, h4⟩ := key (N + 1) (Nat.le_refl _) _ rfl
  exact ⟨h1, h2, fun j hj => h4 j (by omega)⟩
theorem least_down {N : Nat} {p : Nat → Bool} {q : Nat → Nat} (hp : p N = true) :
    let r := foldN (fun k b => if p (N - k) = true ∧ q (N - k) ≤ q b then N - k else b) N (N + 1)
    r ≤ N ∧ p r = true ∧ ∀ j, j ≤ N → p j = true → q r < q j ∨ (q r = q j ∧ r ≤ j) := by
  have key : ∀ k, k ≤ N + 1 → ∀ r, r = foldN (fun k b => if p (N - k) = true ∧ q (N - k) ≤ q b then N - k else b) N k →
      r ≤ N ∧ p r = true ∧ (N < r + k ∨ r = N) ∧ ∀ j, N < j + k → j ≤ N → p j = true → q r < q j ∨ (q r = q j ∧ r ≤ j) := by
    intro k
    induction k with
    | zero => intro _ r hr; have hr : r = N := hr; subst hr; exact ⟨Nat.le_refl _, hp, Or.inr rfl, fun j hj hj2 => absurd hj (by omega)⟩
    | succ k ih =>
      intro hk r hr
      obtain ⟨h1, h2, h3, h4⟩ := ih (by omega) _ rfl
      have hr : r = (if p (N - k) = true ∧ q (N - k) ≤ q (foldN (fun k b => if p (N - k) = true ∧ q (N - k) ≤ q b then N - k else b) N k) then N - k else (foldN (fun k b => if p (N - k) = true ∧ q (N - k) ≤ q b then N - k else b) N k)) := hr
      subst hr
      generalize foldN (fun k b => if p (N - k) = true ∧ q (N - k) ≤ q b then N - k else b) N k = b at *
      by_cases c : p (N - k) = true ∧ q (N - k) ≤ q b
      · rw [if_pos c]
        refine ⟨by omega, c.1, by omega, fun j hj hj2 hpj => ?_⟩
        by_cases e : j = N - k
        · subst e; exact Or.inr ⟨rfl, Nat.le_refl _⟩
        · rcases h4 j (by omega) hj2 hpj with h | h
          · exact Or.inl (by omega)
          · rcases Nat.lt_or_eq_of_le c.2 with z | z
            · exact Or.inl (by omega)
            · exact Or.inr ⟨by omega, by omega⟩
      · rw [if_neg c]
        refine ⟨h1, h2, by omega, fun j hj hj2 hpj => ?_⟩
        by_cases e : j = N - k
        · subst e
          exact Or.inl (Nat.lt_of_not_le fun z => c ⟨hpj, z⟩)
        · exact h4 j (by omega) hj2 hpj
  obtain ⟨h1, h2, -, h4⟩ := key (N + 1) (Nat.le_refl _) _ rfl
  exact ⟨h1, h2, fun j hj => h4 j (by omega) hj⟩
theorem least_eq {N : Nat} {p : Nat → Bool} {q : Nat → Nat} (hp : p N = true) (hq : ∀ k, k < N → q k < q N) :
    foldN (fun k b => if q k < q b ∧ p k = true then k else b) N (N + 1) = foldN (fun k b => if p (N - k) = true ∧ q (N - k) ≤ q b then N - k else b) N (N + 1) := by
  obtain ⟨a1, a2, a3⟩ := least_up hp hq
  obtain ⟨b1, b2, b3⟩ := least_down (q := q) hp
  rcases a3 _ b1 b2 with h | h <;> rcases b3 _ a1 a2 with g | g <;> omega
theorem dn_tab : ∀ N, N < 64 → nI N - nI (N + 1) = nI 0 + (-1) := by decide +kernel
theorem dn_step {N k : Nat} (hk : k ≤ N) (hN : N < 64) : nI N - nI (k + 1) = nI (N - k) + (-1) := by
  by_cases e : k = N
  · subst e
    rw [dn_tab k hN, Nat.sub_self]
  · rw [nsub (by omega), show N - k = (N - (k + 1)) + 1 by omega, pk_m1]
theorem pop_all : ∀ n, n ≤ 6 → ∀ k, k < 2 ^ n - 1 → popN k < popN (2 ^ n - 1) := by decide +kernel
theorem op_cover {mi : MI} {w : WS} (I : Inv mi w) (x1 : Int32) (x2 : Int32) (hb : x2 = 0 ∨ x2 = 1) : ∃ c, F_X10_cover mi w x1 x2 = some c ∧ ∃ e, F_X11_cover mi w x1 x2 = some e ∧ c = e.1 ∧ Inv e.2 w := by
  have key : ∃ c, F_X10_cover mi w x1 x2 = some c ∧ ∃ e, F_X11_cover mi w x1 x2 = some e ∧ c = e.1 := by
    unfold F_X10_cover F_X11_cover
    refine shop_op I x1 (-1) rfl (fun m => ⟨_, if_pos rfl⟩) fun j W H sl n cu we m hj ok hc hd K => ?_
    dsimp only [onO]
    have hn := ok.cnt
    have hpw : 2 ^ n ≤ 64 := Nat.pow_le_pow_right (n := 2) (by omega) hn
    have hpp := Nat.two_pow_pos n
    rw [if_neg ne10]
    have hall : (((1 : Int32) <<< ((m 10 0 27) &&& 31)) - 1) = nI (2 ^ n - 1) := by rw [hd.cnt]; exact n_all (by omega)
    rw [hall]
    have hu : ∀ s, unN (opS W H cu) n s < 33554432 := fun s => un_lt2 ok
    -- the class
    have h1 : F_X1_fewestCovering mi w j = some (nI (foldN (fun k b => if popN k < popN b ∧ decide (unN (opS W H cu) n k = unN (opS W H cu) n (2 ^ n - 1)) = true then k else b) (2 ^ n - 1) (2 ^ n - 1 + 1))) := by
      unfold F_X1_fewestCovering
      rw [c_every hc.cnt hn, c_union w ok hc (by omega), Option.bind_some]
      refine lp_up (L := fun f s k => L_X1_fewestCovering_16 mi w f j (nI (2 ^ n - 1)) (nI (unN (opS W H cu) n (2 ^ n - 1))) (nI s) (nI k)) (N := 2 ^ n - 1 + 1) (f := fun k b => if popN k < popN b ∧ decide (unN (opS W H cu) n k = unN (opS W H cu) n (2 ^ n - 1)) = true then k else b) (post := fun a => some (nI a)) (fun _ s => s < 64) (fun f s _ => ?_) (fun f k s hk hs => ⟨?_, ?_⟩) (F := 1000000) (by omega) (2 ^ n - 1) (by omega)
      · show L_X1_fewestCovering_16 mi w (f + 1) j (nI (2 ^ n - 1)) (nI (unN (opS W H cu) n (2 ^ n - 1))) (nI s) (nI (2 ^ n - 1 + 1)) = _
        rw [L_X1_fewestCovering_16, if_pos (by rw [nlt (by omega) (by omega)]; omega)]
      · have q1 := popN_le k
        have q2 := popN_le s
        show L_X1_fewestCovering_16 mi w (f + 1) j (nI (2 ^ n - 1)) (nI (unN (opS W H cu) n (2 ^ n - 1))) (nI s) (nI k) = _
        rw [L_X1_fewestCovering_16, if_neg (by rw [nlt (by omega) (by omega)]; omega), c_pop (by omega), c_pop (by omega), c_union w ok hc (by omega), i1, nadd]
        by_cases e1 : popN k < popN s
        · rw [if_neg (show ¬ nI (popN s) ≤ nI (popN k) by rw [nle (by omega) (by omega)]; omega), Option.bind_some]
          by_cases e2 : unN (opS W H cu) n k = unN (opS W H cu) n (2 ^ n - 1)
          · rw [if_pos (show nI (unN (opS W H cu) n k) = nI (unN (opS W H cu) n (2 ^ n - 1)) by rw [e2]), if_pos (And.intro e1 (decide_eq_true e2))]
          · rw [if_neg (nne (by have := hu k; omega) (by have := hu (2 ^ n - 1); omega) e2), if_neg (show ¬ (popN k < popN s ∧ _) from fun q => e2 (of_decide_eq_true q.2))]
        · rw [if_pos (show nI (popN s) ≤ nI (popN k) by rw [nle (by omega) (by omega)]; omega), if_neg (show ¬ (popN k < popN s ∧ _) from fun q => e1 q.1)]
      · show (if popN k < popN s ∧ _ then k else s) < 64
        split <;> omega
    rw [h1, Option.bind_some]
    -- the model
    have h2 : L_X11_cover_30 w 1000000 m x1 x2 (nI (2 ^ n - 1)) (nI (2 ^ n - 1)) (nI (2 ^ n - 1)) = (fun b => if x2 = 0 then (F_X11_ones m w (nI b)).bind fun c219 => some (c219, m) else some (nI b, m)) (foldN (fun k b => if decide (unN (opS W H cu) n (2 ^ n - 1 - k) = unN (opS W H cu) n (2 ^ n - 1)) = true ∧ popN (2 ^ n - 1 - k) ≤ popN b then 2 ^ n - 1 - k else b) (2 ^ n - 1) (2 ^ n - 1 + 1)) := by
      have e0 : nI (2 ^ n - 1) - nI 0 = nI (2 ^ n - 1) := by rw [nsub (by omega)]; rfl
      have key2 := (lp_up (L := fun f s k => L_X11_cover_30 w f m x1 x2 (nI (2 ^ n - 1)) (nI s) (nI (2 ^ n - 1) - nI k)) (N := 2 ^ n - 1 + 1) (f := fun k b => if decide (unN (opS W H cu) n (2 ^ n - 1 - k) = unN (opS W H cu) n (2 ^ n - 1)) = true ∧ popN (2 ^ n - 1 - k) ≤ popN b then 2 ^ n - 1 - k else b) (post := fun b => if x2 = 0 then (F_X11_ones m w (nI b)).bind fun c219 => some (c219, m) else some (nI b, m)) (fun _ s => s < 64) (fun f s _ => ?_) (fun f k s hk hs => ⟨?_, ?_⟩) (F := 1000000) (by omega) (2 ^ n - 1) (by omega))
      · rw [e0] at key2
        exact key2
      · show L_X11_cover_30 w (f + 1) m x1 x2 (nI (2 ^ n - 1)) (nI s) (nI (2 ^ n - 1) - nI (2 ^ n - 1 + 1)) = _
        rw [L_X11_cover_30, if_pos (pk_sneg (by omega) (by omega))]
      · have q1 := popN_le (2 ^ n - 1 - k)
        have q2 := popN_le s
        show L_X11_cover_30 w (f + 1) m x1 x2 (nI (2 ^ n - 1)) (nI s) (nI (2 ^ n - 1) - nI k) = L_X11_cover_30 w f m x1 x2 (nI (2 ^ n - 1)) (nI _) (nI (2 ^ n - 1) - nI (k + 1))
        have e9 : nI (2 ^ n - 1) - nI (k + 1) = nI (2 ^ n - 1 - k) + (-1) := by
          exact dn_step (by omega) (by omega)
        rw [e9, nsub (by omega), L_X11_cover_30, if_neg (nI_pos (by omega)), m_openAll w ok hd (by omega), Option.bind_some, m_openAll w ok hd (by omega), Option.bind_some, m_ones m w (by omega), Option.bind_some, m_ones m w (by omega), Option.bind_some]
        by_cases e2 : unN (opS W H cu) n (2 ^ n - 1 - k) = unN (opS W H cu) n (2 ^ n - 1)
        · rw [if_pos (by rw [e2])]
          by_cases e1 : popN (2 ^ n - 1 - k) ≤ popN s
          · rw [if_pos (show _ ∧ popN (2 ^ n - 1 - k) ≤ popN s from ⟨decide_eq_true e2, e1⟩), if_neg (by rw [nlt (by omega) (by omega)]; omega)]
          · rw [if_pos (by rw [nlt (by omega) (by omega)]; omega), if_neg (fun q => e1 q.2)]
        · rw [if_neg (nne (by have := hu (2 ^ n - 1 - k); omega) (by have := hu (2 ^ n - 1); omega) e2), if_neg (fun q => e2 (of_decide_eq_true q.1))]
      · show (if _ ∧ popN (2 ^ n - 1 - k) ≤ popN s then 2 ^ n - 1 - k else s) < 64
        split <;> omega
    rw [h2, ← least_eq (p := fun k => decide (unN (opS W H cu) n k = unN (opS W H cu) n (2 ^ n - 1))) (decide_eq_true rfl) (pop_all n hn)]
    obtain ⟨a1, -, -⟩ := least_up (p := fun k => decide (unN (opS W H cu) n k = unN (opS W H cu) n (2 ^ n - 1))) (q := popN) (decide_eq_true rfl) (pop_all n hn)
    generalize foldN (fun k b => if popN k < popN b ∧ decide (unN (opS W H cu) n k = unN (opS W H cu) n (2 ^ n - 1)) = true then k else b) (2 ^ n - 1) (2 ^ n - 1 + 1) = r at *
    dsimp only
    rcases hb with rfl | rfl
    · rw [if_pos rfl, if_pos rfl, c_pop (by omega), m_ones m w (by omega)]
      exact ⟨_, _, rfl, rfl⟩
    · rw [if_neg ne10, if_neg ne10]
      exact ⟨_, _, rfl, rfl⟩
  obtain ⟨c, h1, e, h2, h3⟩ := key
  exact ⟨c, h1, e, h2, h3, Inv_m I (kp_X11_cover h2)⟩
