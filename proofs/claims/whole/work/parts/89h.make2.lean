/-! MAKE: the class's search -/
def lsF (a b : List Nat) : Nat → Nat → Bool
  | 0, _ => false
  | r + 1, k => if a.getD k 0 = b.getD k 0 then lsF a b r (k + 1) else decide (a.getD k 0 < b.getD k 0)
theorem c_less {m : MI} {w : WS} {l : Nat} {a b : List Nat} (hl : l ≤ 6) (h6 : m 2 0 6 = nI l) (ha : ∀ k, k < l → m 44 0 k = nI (a.getD k 0) ∧ a.getD k 0 < 1000) (hb : ∀ k, k < l → m 43 0 k = nI (b.getD k 0) ∧ b.getD k 0 < 1000) : F_X3_isLessThanFound m w = some (bT (lsF a b l 0)) := by
  have key : ∀ r F k, k + r = l → r < F → L_X3_isLessThanFound_2 m w F (nI k) = some (bT (lsF a b r k)) := by
    intro r
    induction r with
    | zero =>
      intro F k hk hF
      obtain ⟨F, rfl⟩ : ∃ G, F = G + 1 := ⟨F - 1, by omega⟩
      rw [L_X3_isLessThanFound_2, if_pos (by rw [h6, nle (by omega) (by omega)]; omega)]
      rfl
    | succ r ih =>
      intro F k hk hF
      obtain ⟨F, rfl⟩ : ∃ G, F = G + 1 := ⟨F - 1, by omega⟩
      obtain ⟨a1, a2⟩ := ha k (by omega)
      obtain ⟨b1, b2'⟩ := hb k (by omega)
      rw [L_X3_isLessThanFound_2, if_neg (by rw [h6, nle (by omega) (by omega)]; omega), lsF]
      simp (disch := omega) only [ncl, ckJ]
      rw [a1, b1]
      by_cases e : a.getD k 0 = b.getD k 0
      · rw [if_pos (by rw [e]), if_pos e, i1, nadd]
        exact ih F (k + 1) (by omega) (by omega)
      · rw [if_neg (nne (by omega) (by omega) e), if_neg e]
        by_cases q : a.getD k 0 < b.getD k 0
        · rw [decide_eq_true q, b2_pos (by rw [nle (by omega) (by omega)]; omega)]; rfl
        · rw [decide_eq_false q, b2_neg (fun z => z (by rw [nle (by omega) (by omega)]; omega))]; rfl
  exact key l 1000000 0 (by omega) (by omega)
def stQ (mk : List Nat → Bool) (cd : List Nat → List Nat) (l : Nat) (s : Bool × List Nat) (row : List Nat) : Bool × List Nat := if mk row = true then (if s.1 = false then (true, cd row) else if lsF (cd row) s.2 l 0 = true then (true, cd row) else s) else s
theorem stQ_n {mk : List Nat → Bool} {cd : List Nat → List Nat} {l : Nat} {s : Bool × List Nat} {row : List Nat} (h : mk row ≠ true) : stQ mk cd l s row = s := if_neg h
theorem stQ_y {mk : List Nat → Bool} {cd : List Nat → List Nat} {l : Nat} {s : Bool × List Nat} {row : List Nat} (h : mk row = true) (h2 : s.1 = false ∨ lsF (cd row) s.2 l 0 = true) : stQ mk cd l s row = (true, cd row) := by
  unfold stQ
  rw [if_pos h]
  by_cases e : s.1 = false
  · rw [if_pos e]
  · rw [if_neg e, if_pos (h2.resolve_left e)]
theorem stQ_k {mk : List Nat → Bool} {cd : List Nat → List Nat} {l : Nat} {s : Bool × List Nat} {row : List Nat} (h1 : s.1 ≠ false) (h2 : lsF (cd row) s.2 l 0 ≠ true) : stQ mk cd l s row = s := by
  unfold stQ
  by_cases e : mk row = true
  · rw [if_pos e, if_neg h1, if_neg h2]
  · rw [if_neg e]
/-- what stands of the best till now -/
def okK (l : Nat) (s : Bool × List Nat) : Prop := s.1 = true → s.2.length = l ∧ ∀ k, k < l → s.2.getD k 0 < 1000
theorem c_sprays {m0 : MI} {w : WS} {i W H sl n l : Nat} {cu we co : Nat → Nat} (ok : shOK W H sl n cu we) (hc0 : ShC m0 i W H sl n cu we) (hl : l ≤ n) (h9 : ∀ q, coC W co q ≤ 9) (h45 : ∀ c, c < 10 → m0 45 0 c = nI (celN W H co c)) :
    ∀ f row t m s F, (∀ r, r ∈ enC n l f row → gdR n l r = true) → (enC n l f row).length < f → t + (enC n l f row).length ≤ 720 → (enC n l f row).length < F → (∀ c i j, ¬ ((c = 2 ∨ c = 42 ∨ c = 43 ∨ c = 44) ∧ i = 0) → m c i j = m0 c i j) → m 2 0 5 = nI n → m 2 0 6 = nI l → rowM m 42 row → rowM m 43 s.2 → okK l s →
      ∃ m', L_X3_findSprays_17 w F m i (nI l) (bT s.1) 1 (nI t) = some (bT ((enC n l f row).foldl (stQ (fun row => mkF (opS W H cu) (rF row) W H co l 0) (fun row => cdF (opS W H cu) (rF row) W H co l 0) l) s).1, m') ∧ rowM m' 43 ((enC n l f row).foldl (stQ (fun row => mkF (opS W H cu) (rF row) W H co l 0) (fun row => cdF (opS W H cu) (rF row) W H co l 0) l) s).2 ∧ okK l ((enC n l f row).foldl (stQ (fun row => mkF (opS W H cu) (rF row) W H co l 0) (fun row => cdF (opS W H cu) (rF row) W H co l 0) l) s) ∧ m' 2 0 6 = nI l ∧ ∀ c i j, ¬ ((c = 2 ∨ c = 42 ∨ c = 43 ∨ c = 44) ∧ i = 0) → m' c i j = m0 c i j := by
  have hn := ok.cnt
  have hC := ok.cells
  have ck2 : ∀ (b : Bool) (y : Option (Int32 × MI)), ck (bT b = 0 ∨ bT b = 1) y = y := fun b y => if_pos (by cases b; exact Or.inl rfl; exact Or.inr rfl)
  intro f
  induction f with
  | zero => intro row t m s F _ h; omega
  | succ f ih =>
    intro row t m s F hg hf ht hF fr h5 h6 hr h43 hs
    obtain ⟨F, rfl⟩ : ∃ G, F = G + 1 := ⟨F - 1, by omega⟩
    have hl1 : 1 ≤ (enC n l (f + 1) row).length := List.length_pos_of_mem enC_head
    have hg1 := hg row enC_head
    have hlen := gdR_len hg1
    have hc : ShC m i W H sl n cu we := ShC_of (fun k => fr _ _ _ (by omega)) (fun k => fr _ _ _ (by omega)) (fun k => fr _ _ _ (by omega)) (fun k => fr _ _ _ (by omega)) hc0
    have e720 : (720 : Int32) = nI 720 := rfl
    obtain ⟨m1, a1, a2, -, a4⟩ := c_makes (m0 := m) (w := w) (co := co) ok hc (show l ≤ 6 by omega) h6 hr hlen (gdR_lt hg1) h9 (fun c hc => by rw [fr _ _ _ (by omega)]; exact h45 c hc) l 0 m 1000000 (Nat.le_refl _) (by omega) (by omega) (fun _ _ _ _ => rfl)
    have hmk : F_X3_makesWanted m w i = some (bT (mkF (opS W H cu) (rF row) W H co l 0), m1) := by
      unfold F_X3_makesWanted
      rw [h6]
      exact a1
    have fr1 : ∀ c i j, ¬ ((c = 2 ∨ c = 42 ∨ c = 43 ∨ c = 44) ∧ i = 0) → m1 c i j = m0 c i j := fun c i j h => by rw [a4 c i j (by omega)]; exact fr c i j h
    have g5 : m1 2 0 5 = nI n := by rw [a4 _ _ _ (by omega)]; exact h5
    have g6 : m1 2 0 6 = nI l := by rw [a4 _ _ _ (by omega)]; exact h6
    have gr : rowM m1 42 row := fun k hk => by rw [a4 _ _ _ (by omega)]; exact hr k hk
    have g43 : rowM m1 43 s.2 := fun k hk => by rw [a4 _ _ _ (by omega)]; exact h43 k hk
    have hcd : ∀ k, k < l → (cdF (opS W H cu) (rF row) W H co l 0).getD k 0 < 1000 := by
      have gen : ∀ k cov, k ≤ l → ∀ j, j < k → (cdF (opS W H cu) (rF row) W H co k cov).getD j 0 < 1000 := by
        intro k
        induction k with
        | zero => intro _ _ j hj; exact absurd hj (Nat.not_lt_zero j)
        | succ k ihk =>
          intro cov hk j hj
          by_cases e : j = k
          · rw [e, cd_hi]
            have h1 : rF row k < n := gdR_lt hg1 _ (gd_mem row k (by omega))
            have h2 := cl_le (C := W * H) (S := andn (opS W H cu (rF row k)) cov) h9
            omega
          · rw [cd_lo (by omega)]
            exact ihk _ (by omega) j (by omega)
      exact gen l 0 (Nat.le_refl _)
    have nxt : ∀ (m1 : MI) (s1 : Bool × List Nat), (∀ c i j, ¬ ((c = 2 ∨ c = 42 ∨ c = 43 ∨ c = 44) ∧ i = 0) → m1 c i j = m0 c i j) → m1 2 0 5 = nI n → m1 2 0 6 = nI l → rowM m1 42 row → rowM m1 43 s1.2 → okK l s1 → stQ (fun row => mkF (opS W H cu) (rF row) W H co l 0) (fun row => cdF (opS W H cu) (rF row) W H co l 0) l s row = s1 →
        ∃ m', ((F_X3_advance m1 w).bind fun c53 => L_X3_findSprays_17 w F c53.2 i (nI l) (bT s1.1) c53.1 (nI t + 1)) = some (bT ((enC n l (f + 1) row).foldl (stQ (fun row => mkF (opS W H cu) (rF row) W H co l 0) (fun row => cdF (opS W H cu) (rF row) W H co l 0) l) s).1, m') ∧ rowM m' 43 ((enC n l (f + 1) row).foldl (stQ (fun row => mkF (opS W H cu) (rF row) W H co l 0) (fun row => cdF (opS W H cu) (rF row) W H co l 0) l) s).2 ∧ okK l ((enC n l (f + 1) row).foldl (stQ (fun row => mkF (opS W H cu) (rF row) W H co l 0) (fun row => cdF (opS W H cu) (rF row) W H co l 0) l) s) ∧ m' 2 0 6 = nI l ∧ ∀ c i j, ¬ ((c = 2 ∨ c = 42 ∨ c = 43 ∨ c = 44) ∧ i = 0) → m' c i j = m0 c i j := by
      intro m1 s1 fr1 g5 g6 gr g43 gs es
      rcases c_adv (w := w) hn hl g5 g6 gr hlen (gdR_lt hg1) (fun r hr' y hy => gdR_lt (hg r (by
        rw [enC_some hr']
        cases f with
        | zero => omega
        | succ f => exact List.mem_cons_of_mem _ enC_head)) y hy) with ⟨a1, a2⟩ | ⟨r, m2, a1, a2, a3, a4⟩
      · rw [enC_none a1] at hf ht hF ⊢
        rw [a2, Option.bind_some]
        have e : ([row].foldl (stQ (fun row => mkF (opS W H cu) (rF row) W H co l 0) (fun row => cdF (opS W H cu) (rF row) W H co l 0) l) s) = s1 := es
        rw [e]
        have len1 : [row].length = 1 := rfl
        obtain ⟨F, rfl⟩ : ∃ G, F = G + 1 := ⟨F - 1, by omega⟩
        refine ⟨m1, ?_, g43, gs, g6, fr1⟩
        dsimp only
        rw [L_X3_findSprays_17]
        by_cases q : (720 : Int32) ≤ nI t + 1
        · rw [if_pos q, ck2]
        · rw [if_neg q, if_pos rfl, ck2]
      · have len : (enC n l (f + 1) row).length = (enC n l f r).length + 1 := by rw [enC_some a1]; rfl
        obtain ⟨m', b1, b2'⟩ := ih r (t + 1) m2 s1 F (fun r' hr' => hg r' (by rw [enC_some a1]; exact List.mem_cons_of_mem _ hr')) (by omega) (by omega) (by omega) (fun c i j h => by rw [a4 c i j (by omega)]; exact fr1 c i j h) (by rw [a4 _ _ _ (by omega)]; exact g5) (by rw [a4 _ _ _ (by omega)]; exact g6) a3 (fun k hk => by rw [a4 _ _ _ (by omega)]; exact g43 k hk) gs
        have e : (enC n l (f + 1) row).foldl (stQ (fun row => mkF (opS W H cu) (rF row) W H co l 0) (fun row => cdF (opS W H cu) (rF row) W H co l 0) l) s = (enC n l f r).foldl (stQ (fun row => mkF (opS W H cu) (rF row) W H co l 0) (fun row => cdF (opS W H cu) (rF row) W H co l 0) l) s1 := by
          rw [enC_some a1, List.foldl_cons, es]
        rw [e, a2, Option.bind_some]
        dsimp only
        rw [show nI t + 1 = nI (t + 1) by rw [i1, nadd]]
        exact ⟨m', b1, b2'⟩
    rw [L_X3_findSprays_17, if_neg (by rw [e720, nle (by omega) (by omega)]; omega), if_neg ne10, hmk, Option.bind_some]
    dsimp only
    by_cases q : mkF (opS W H cu) (rF row) W H co l 0 = true
    · have hb : bT (mkF (opS W H cu) (rF row) W H co l 0) = 1 := by rw [q]; rfl
      have h44 := a2 q
      have okn : okK l (true, cdF (opS W H cu) (rF row) W H co l 0) := fun _ => ⟨cd_len l 0, hcd⟩
      have cpy : ∀ k, k < (cdF (opS W H cu) (rF row) W H co l 0).length → (u2 m1 43 0 (va_cpy (m1 44 0) (m1 43 0) 0 0 ((m1 2 0 6).toNatClampNeg))) 43 0 k = nI ((cdF (opS W H cu) (rF row) W H co l 0).getD k 0) := fun k hk => by
        rw [cd_len] at hk
        rw [u2_s, pk_cpy_in (Nat.zero_le _) (by rw [g6, ncl (by omega)]; omega), Nat.zero_add, Nat.sub_zero]
        exact h44 k hk
      have ckc : ∀ y : Option (Int32 × MI), ck (¬ (0 : Int32) < 0 ∧ ¬ (0 : Int32) < 0 ∧ ¬ (m1 2 0 6) < 0 ∧ 0 + (m1 2 0 6).toNatClampNeg ≤ 6 ∧ 0 + (m1 2 0 6).toNatClampNeg ≤ 6) y = y := fun y => if_pos ⟨by decide, by decide, by rw [g6]; exact nI_pos (by omega), by rw [g6, ncl (by omega)]; omega, by rw [g6, ncl (by omega)]; omega⟩
      have take := nxt (u2 m1 43 0 (va_cpy (m1 44 0) (m1 43 0) 0 0 ((m1 2 0 6).toNatClampNeg))) (true, cdF (opS W H cu) (rF row) W H co l 0) (fun c i j h => by rw [u2_n (by omega)]; exact fr1 c i j h) (by rw [u2_n (by omega)]; exact g5) (by rw [u2_n (by omega)]; exact g6) (fun k hk => by rw [u2_n (by omega)]; exact gr k hk) cpy okn
      rw [hb, if_neg ne10]
      cases hs1 : s.1 with
      | false =>
        rw [show bT false = 0 from rfl, if_pos rfl, ckc, lt_e]
        exact take (stQ_y q (Or.inl hs1))
      | true =>
        obtain ⟨t1, t2⟩ := hs hs1
        have hls := c_less (m := m1) (w := w) (a := cdF (opS W H cu) (rF row) W H co l 0) (b := s.2) (show l ≤ 6 by omega) g6 (fun k hk => ⟨h44 k hk, hcd k hk⟩) (fun k hk => ⟨g43 k (by omega), t2 k hk⟩)
        rw [show bT true = 1 from rfl, if_neg ne10, hls, Option.bind_some]
        by_cases z : lsF (cdF (opS W H cu) (rF row) W H co l 0) s.2 l 0 = true
        · rw [z, show bT true = 1 from rfl, if_neg ne10, ckc, lt_e]
          exact take (stQ_y q (Or.inr z))
        · have z' : bT (lsF (cdF (opS W H cu) (rF row) W H co l 0) s.2 l 0) = 0 := if_neg z
          rw [z', if_pos rfl]
          have := nxt m1 s fr1 g5 g6 gr g43 hs (stQ_k (by rw [hs1]; decide) z)
          rw [hs1] at this
          exact this
    · have hb : bT (mkF (opS W H cu) (rF row) W H co l 0) = 0 := if_neg q
      rw [hb, if_pos rfl]
      exact nxt m1 s fr1 g5 g6 gr g43 hs (stQ_n q)
def resF (S : Nat → Bool × List Nat) : Nat → Nat → Option (Nat × List Nat)
  | 0, _ => none
  | r + 1, l => if (S l).1 = true then some (l, (S l).2) else resF S r (l + 1)
def SK (W H n : Nat) (cu co : Nat → Nat) (l : Nat) : Bool × List Nat := (genL n l).foldl (stQ (fun row => mkF (opS W H cu) (rF row) W H co l 0) (fun row => cdF (opS W H cu) (rF row) W H co l 0) l) (false, [])
theorem c_fewest2 {m0 : MI} {w : WS} {i p W H sl n : Nat} {cu we co : Nat → Nat} (ok : shOK W H sl n cu we) (hc0 : ShC m0 i W H sl n cu we) (h9 : ∀ q, coC W co q ≤ 9) (h45 : ∀ c, c < 10 → m0 45 0 c = nI (celN W H co c)) :
    ∀ r l m F, l + r = n + 1 → r < F → (∀ c i j, ¬ ((c = 2 ∨ c = 42 ∨ c = 43 ∨ c = 44) ∧ i = 0) → m c i j = m0 c i j) →
      (resF (SK W H n cu co) r l = none ∧ ∃ m', L_X3_fewestSprays_38 w F m i p (nI l) = some (-1, m')) ∨ ∃ l' b m', resF (SK W H n cu co) r l = some (l', b) ∧ L_X3_fewestSprays_38 w F m i p (nI l) = some (nI l', m') ∧ l' ≤ n ∧ b.length = l' ∧ rowM m' 43 b ∧ m' 2 0 6 = nI l' := by
  have hn := ok.cnt
  intro r
  induction r with
  | zero =>
    intro l m F hl hF fr
    obtain ⟨F, rfl⟩ : ∃ G, F = G + 1 := ⟨F - 1, by omega⟩
    refine Or.inl ⟨rfl, m, ?_⟩
    rw [L_X3_fewestSprays_38, if_pos (by rw [fr 5 i 3 (by omega), hc0.cnt, nlt (by omega) (by omega)]; omega)]
  | succ r ih =>
    intro l m F hl hF fr
    obtain ⟨F, rfl⟩ : ∃ G, F = G + 1 := ⟨F - 1, by omega⟩
    obtain ⟨hgood, hlen⟩ := EL_good (n := n) (l := l) hn (by omega)
    have hgood' : ∀ r, r ∈ enC n l 721 (fiL l 8 0 []) → gdR n l r = true := hgood
    have hlen' : (enC n l 721 (fiL l 8 0 [])).length < 721 := hlen
    have hEQ : enC n l 721 (fiL l 8 0 []) = genL n l := EL_gen hn (by omega)
    obtain ⟨mb, b1, b5, b6, br, bf⟩ := c_beginO (m := m) (w := w) hn (show l ≤ n by omega) (gdR_lt (hgood' _ enC_head))
    obtain ⟨mr, r1, r2, r3, r4, r5⟩ := c_sprays (m0 := m0) (w := w) (l := l) (co := co) ok hc0 (by omega) h9 h45 721 (fiL l 8 0 []) 0 mb (false, []) 1000000 hgood' hlen' (by omega) (by omega) (fun c i j h => by rw [bf c i j (by omega) (by omega)]; exact fr c i j h) b5 b6 br (fun k hk => absurd hk (Nat.not_lt_zero k)) (fun q => by cases q)
    rw [hEQ] at r1 r2 r3
    have hfs : F_X3_findSprays m w i (nI l) = some (bT (SK W H n cu co l).1, mr) := by
      unfold F_X3_findSprays
      rw [fr 5 i 3 (by omega), hc0.cnt, b1, Option.bind_some]
      exact r1
    have r2' : rowM mr 43 (SK W H n cu co l).2 := r2
    have r3' : okK l (SK W H n cu co l) := r3
    rw [L_X3_fewestSprays_38, if_neg (by rw [fr 5 i 3 (by omega), hc0.cnt, nlt (by omega) (by omega)]; omega), hfs, Option.bind_some, resF]
    dsimp only
    cases hS : (SK W H n cu co l).1 with
    | false =>
      rw [show bT false = 0 from rfl, if_pos rfl, if_neg (by decide), show nI l + 1 = nI (l + 1) by rw [i1, nadd]]
      exact ih (l + 1) mr F (by omega) (by omega) r5
    | true =>
      rw [show bT true = 1 from rfl, if_neg ne10, if_pos rfl]
      exact Or.inr ⟨l, (SK W H n cu co l).2, mr, rfl, rfl, by omega, (r3' hS).1, r2', r4⟩
