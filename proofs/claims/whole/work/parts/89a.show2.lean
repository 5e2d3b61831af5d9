/-! SHOW, the call -/
def stS (o : Nat → Nat) (n : Nat) (s : Int32 × List Nat) (row : List Nat) : Int32 × List Nat := if nI (shF o (rF row) n 0) ≤ s.1 then s else (nI (shF o (rF row) n 0), row)
theorem enC_none {n l f : Nat} {row : List Nat} (h : adL n l l (usL row) row = none) : enC n l (f + 1) row = [row] := by
  rw [enC, h]
theorem enC_some {n l f : Nat} {row r : List Nat} (h : adL n l l (usL row) row = some r) : enC n l (f + 1) row = row :: enC n l f r := by
  rw [enC, h]
theorem enM_none {n f : Nat} {row : List Nat} (h : n7 n (n - 1) row = none) : enM n (f + 1) row = [row] := by
  rw [enM, h]
theorem enM_some {n f : Nat} {row r : List Nat} (h : n7 n (n - 1) row = some r) : enM n (f + 1) row = row :: enM n f r := by
  rw [enM, h]
theorem enC_head {n l f : Nat} {row : List Nat} : row ∈ enC n l (f + 1) row := by
  rw [enC]; exact List.mem_cons_self
theorem enM_head {n f : Nat} {row : List Nat} : row ∈ enM n (f + 1) row := by
  rw [enM]; exact List.mem_cons_self
theorem c_most {m0 : MI} {w : WS} {i W H sl n : Nat} {cu we : Nat → Nat} (ok : shOK W H sl n cu we) (hc0 : ShC m0 i W H sl n cu we) :
    ∀ f row t m st F, (∀ r, r ∈ enC n n f row → gdR n n r = true) → (enC n n f row).length < f → t + (enC n n f row).length ≤ 720 → (enC n n f row).length < F → (∀ c i j, ¬ ((c = 2 ∨ c = 42 ∨ c = 43) ∧ i = 0) → m c i j = m0 c i j) → m 2 0 5 = nI n → m 2 0 6 = nI n → rowM m 42 row → rowM m 43 st.2 →
      ∃ m', L_X3_mostShown_19 w F m i st.1 1 (nI t) = some (((enC n n f row).foldl (stS (opS W H cu) n) st).1, m') ∧ rowM m' 43 ((enC n n f row).foldl (stS (opS W H cu) n) st).2 ∧ m' 2 0 6 = nI n := by
  have hn := ok.cnt
  intro f
  induction f with
  | zero => intro row t m st F _ h; omega
  | succ f ih =>
    intro row t m st F hg hf ht hF fr h5 h6 hr h43
    obtain ⟨F, rfl⟩ : ∃ G, F = G + 1 := ⟨F - 1, by omega⟩
    have hl1 : 1 ≤ (enC n n (f + 1) row).length := List.length_pos_of_mem enC_head
    have hg1 := hg row enC_head
    have hc : ShC m i W H sl n cu we := ShC_of (fun k => fr _ _ _ (by omega)) (fun k => fr _ _ _ (by omega)) (fun k => fr _ _ _ (by omega)) (fun k => fr _ _ _ (by omega)) hc0
    have e720 : (720 : Int32) = nI 720 := rfl
    rw [L_X3_mostShown_19, if_neg (by rw [e720, nle (by omega) (by omega)]; omega), if_neg ne10, c_shown ok hc h6 hr hg1, Option.bind_some]
    -- what comes next, out of a memory and a state
    have nxt : ∀ (m1 : MI) (s1 : Int32 × List Nat), (∀ c i j, ¬ ((c = 2 ∨ c = 42 ∨ c = 43) ∧ i = 0) → m1 c i j = m0 c i j) → m1 2 0 5 = nI n → m1 2 0 6 = nI n → rowM m1 42 row → rowM m1 43 s1.2 → stS (opS W H cu) n st row = s1 → ∃ m', ((F_X3_advance m1 w).bind fun c58 => L_X3_mostShown_19 w F c58.2 i s1.1 c58.1 (nI t + 1)) = some (((enC n n (f + 1) row).foldl (stS (opS W H cu) n) st).1, m') ∧ rowM m' 43 ((enC n n (f + 1) row).foldl (stS (opS W H cu) n) st).2 ∧ m' 2 0 6 = nI n := by
      intro m1 s1 fr1 g5 g6 gr g43 es
      rcases c_adv (w := w) hn (Nat.le_refl n) g5 g6 gr (gdR_len hg1) (gdR_lt hg1) (fun r hr' y hy => gdR_lt (hg r (by
        rw [enC_some hr']
        cases f with
        | zero => omega
        | succ f => exact List.mem_cons_of_mem _ enC_head)) y hy) with ⟨a1, a2⟩ | ⟨r, m2, a1, a2, a3, a4⟩
      · rw [enC_none a1] at hf ht hF ⊢
        rw [a2, Option.bind_some]
        refine ⟨m1, ?_, ?_, g6⟩
        · obtain ⟨F, rfl⟩ : ∃ G, F = G + 1 := ⟨F - 1, by have : [row].length = 1 := rfl; omega⟩
          have e : ([row].foldl (stS (opS W H cu) n) st) = s1 := es
          rw [e]
          dsimp only
          rw [L_X3_mostShown_19]
          by_cases q : (720 : Int32) ≤ nI t + 1
          · rw [if_pos q]
          · rw [if_neg q, if_pos rfl]
        · have e : ([row].foldl (stS (opS W H cu) n) st) = s1 := es
          rw [e]; exact g43
      · have len : (enC n n (f + 1) row).length = (enC n n f r).length + 1 := by rw [enC_some a1]; rfl
        obtain ⟨m', b1, b2', b3⟩ := ih r (t + 1) m2 s1 F (fun r' hr' => hg r' (by rw [enC_some a1]; exact List.mem_cons_of_mem _ hr')) (by omega) (by omega) (by omega) (fun c i j h => by rw [a4 c i j (by omega)]; exact fr1 c i j h) (by rw [a4 _ _ _ (by omega)]; exact g5) (by rw [a4 _ _ _ (by omega)]; exact g6) a3 (fun k hk => by rw [a4 _ _ _ (by omega)]; exact g43 k hk)
        have e : (enC n n (f + 1) row).foldl (stS (opS W H cu) n) st = (enC n n f r).foldl (stS (opS W H cu) n) s1 := by
          rw [enC_some a1, List.foldl_cons, es]
        rw [e, a2, Option.bind_some]
        dsimp only
        rw [i1, nadd]
        rw [i1] at b1
        exact ⟨m', b1, b2', b3⟩
    by_cases e : nI (shF (opS W H cu) (rF row) n 0) ≤ st.1
    · rw [if_pos e]
      exact nxt m st fr h5 h6 hr h43 (if_pos e)
    · rw [if_neg e, ckT ⟨by decide, by decide, by rw [h6]; exact nI_pos (by omega), by rw [h6, ncl (by omega)]; omega, by rw [h6, ncl (by omega)]; omega⟩, lt_e]
      refine nxt _ (nI (shF (opS W H cu) (rF row) n 0), row) (fun c i j h => by rw [u2_n (by omega)]; exact fr c i j h) (by rw [u2_n (by omega)]; exact h5) (by rw [u2_n (by omega)]; exact h6) (fun k hk => by rw [u2_n (by omega)]; exact hr k hk) (fun k hk => ?_) (if_neg e)
      have hk : k < row.length := hk
      have hlen := gdR_len hg1
      rw [u2_s, pk_cpy_in (Nat.zero_le _) (by rw [h6, ncl (by omega)]; omega), Nat.zero_add, Nat.sub_zero]
      exact hr k hk
theorem m_show {m0 : MI} {w : WS} {W H sl n : Nat} {cu we : Nat → Nat} {x1 x2 : Int32} (ok : shOK W H sl n cu we) (mw : MW m0 W H) (h27 : m0 10 0 27 = nI n) (h62 : ∀ s, s < 6 → m0 62 0 s = nI (opS W H cu s)) :
    ∀ f row m st F, (∀ r, r ∈ enM n f row → gdR n n r = true) → (enM n f row).length < f → (enM n f row).length < F → (∀ c i j, ¬ ((c = 67 ∨ c = 69) ∧ i = 0) → m c i j = m0 c i j) → rowM m 67 row → rowM m 69 st.2 →
      ∃ m', L_X11_show_38 w F m x1 x2 st.1 1 = (if x2 = (-1) then some (((enM n f row).foldl (stS (opS W H cu) n) st).1, m') else ck (¬ (x2 < 0 ∨ 6 ≤ x2.toNatClampNeg)) (some (m' 69 0 x2.toNatClampNeg, m'))) ∧ rowM m' 69 ((enM n f row).foldl (stS (opS W H cu) n) st).2 := by
  have hn := ok.cnt
  intro f
  induction f with
  | zero => intro row m st F _ h; omega
  | succ f ih =>
    intro row m st F hg hf hF fr hr h69
    obtain ⟨F, rfl⟩ : ∃ G, F = G + 1 := ⟨F - 1, by omega⟩
    have hl1 : 1 ≤ (enM n (f + 1) row).length := List.length_pos_of_mem enM_head
    have hg1 := hg row enM_head
    have mwm : MW m W H := MW_of mw fun j _ _ => fr _ _ _ (by omega)
    have h27m : m 10 0 27 = nI n := by rw [fr _ _ _ (by omega)]; exact h27
    rw [L_X11_show_38, if_neg ne10, m_onTop ok mwm h27m (fun s hs => by rw [fr _ _ _ (by omega)]; exact h62 s hs) hr hg1, Option.bind_some]
    have nxt : ∀ (m1 : MI) (s1 : Int32 × List Nat), (∀ c i j, ¬ ((c = 67 ∨ c = 69) ∧ i = 0) → m1 c i j = m0 c i j) → rowM m1 67 row → rowM m1 69 s1.2 → stS (opS W H cu) n st row = s1 → ∃ m', ((F_X11_nextOrder m1 w).bind fun c335 => L_X11_show_38 w F c335.2 x1 x2 s1.1 c335.1) = (if x2 = (-1) then some (((enM n (f + 1) row).foldl (stS (opS W H cu) n) st).1, m') else ck (¬ (x2 < 0 ∨ 6 ≤ x2.toNatClampNeg)) (some (m' 69 0 x2.toNatClampNeg, m'))) ∧ rowM m' 69 ((enM n (f + 1) row).foldl (stS (opS W H cu) n) st).2 := by
      intro m1 s1 fr1 gr g69 es
      rcases m_next (w := w) hn (gdR_len hg1) gr (show m1 10 0 27 = nI n by rw [fr1 _ _ _ (by omega)]; exact h27) (fun x hx => Nat.lt_of_lt_of_le (gdR_lt hg1 x hx) hn) with ⟨a1, a2⟩ | ⟨r, m2, a1, a2, a3, a4⟩
      · rw [enM_none a1] at hf hF ⊢
        rw [a2, Option.bind_some]
        have e : ([row].foldl (stS (opS W H cu) n) st) = s1 := es
        rw [e]
        refine ⟨m1, ?_, g69⟩
        obtain ⟨F, rfl⟩ : ∃ G, F = G + 1 := ⟨F - 1, by have : [row].length = 1 := rfl; omega⟩
        dsimp only
        rw [L_X11_show_38, if_pos rfl]
      · have len : (enM n (f + 1) row).length = (enM n f r).length + 1 := by rw [enM_some a1]; rfl
        obtain ⟨m', b1, b2'⟩ := ih r m2 s1 F (fun r' hr' => hg r' (by rw [enM_some a1]; exact List.mem_cons_of_mem _ hr')) (by omega) (by omega) (fun c i j h => by rw [a4 c i j (by omega)]; exact fr1 c i j h) a3 (fun k hk => by rw [a4 _ _ _ (by omega)]; exact g69 k hk)
        have e : (enM n (f + 1) row).foldl (stS (opS W H cu) n) st = (enM n f r).foldl (stS (opS W H cu) n) s1 := by
          rw [enM_some a1, List.foldl_cons, es]
        rw [e, a2, Option.bind_some]
        exact ⟨m', b1, b2'⟩
    by_cases e : nI (shF (opS W H cu) (rF row) n 0) ≤ st.1
    · have eg : f_X11_greater m st.1 (nI (shF (opS W H cu) (rF row) n 0)) = st.1 := by
        unfold f_X11_greater
        by_cases q : st.1 ≤ nI (shF (opS W H cu) (rF row) n 0)
        · rw [if_pos q]; exact Int32.le_antisymm e q
        · rw [if_neg q]
      have L0 : ∀ G, L_X11_show_52 w (fun mi x1 x2 x3 x4 => L_X11_show_38 w F mi x1 x2 x3 x4) (G + 1) m x1 x2 st.1 1 (nI (shF (opS W H cu) (rF row) n 0)) 0 = (F_X11_nextOrder m w).bind fun c335 => L_X11_show_38 w F c335.2 x1 x2 (f_X11_greater m st.1 (nI (shF (opS W H cu) (rF row) n 0))) c335.1 := fun G => by
        rw [L_X11_show_52, if_neg (by decide), if_pos e]
      rw [show (1000000 : Nat) = 999999 + 1 from rfl, L0, eg]
      exact nxt m st fr hr h69 (if_pos e)
    · have key := lp_inv (L := fun G m k => L_X11_show_52 w (fun mi x1 x2 x3 x4 => L_X11_show_38 w F mi x1 x2 x3 x4) G m x1 x2 st.1 1 (nI (shF (opS W H cu) (rF row) n 0)) (nI k)) (N := 6) (post := fun m => (F_X11_nextOrder m w).bind fun c335 => L_X11_show_38 w F c335.2 x1 x2 (f_X11_greater m st.1 (nI (shF (opS W H cu) (rF row) n 0))) c335.1) (fun k m' => (∀ j, j < k → m' 69 0 j = m 67 0 j) ∧ ∀ c i j, ¬ (c = 69 ∧ i = 0) → m' c i j = m c i j) (fun G m' hI => ?_) (fun G k m' hk hI => ?_) (F := 1000000) (by omega) m ⟨fun j hj => absurd hj (Nat.not_lt_zero j), fun _ _ _ _ => rfl⟩
      · obtain ⟨m1, ⟨g1, g2⟩, g3⟩ := key
        have g3' : L_X11_show_52 w (fun mi x1 x2 x3 x4 => L_X11_show_38 w F mi x1 x2 x3 x4) 1000000 m x1 x2 st.1 1 (nI (shF (opS W H cu) (rF row) n 0)) 0 = _ := g3
        have eg : f_X11_greater m1 st.1 (nI (shF (opS W H cu) (rF row) n 0)) = nI (shF (opS W H cu) (rF row) n 0) := by
          unfold f_X11_greater
          rw [if_pos]
          rcases Int32.le_total st.1 (nI (shF (opS W H cu) (rF row) n 0)) with q | q
          · exact q
          · exact absurd q e
        rw [g3', eg]
        refine nxt m1 (nI (shF (opS W H cu) (rF row) n 0), row) (fun c i j h => by rw [g2 c i j (by omega)]; exact fr c i j h) (fun k hk => by rw [g2 _ _ _ (by omega)]; exact hr k hk) (fun k hk => ?_) (if_neg e)
        have hk : k < row.length := hk
        have hlen := gdR_len hg1
        show m1 69 0 k = nI (row.getD k 0)
        rw [g1 k (by omega)]
        exact hr k hk
      · show L_X11_show_52 w (fun mi x1 x2 x3 x4 => L_X11_show_38 w F mi x1 x2 x3 x4) (G + 1) m' x1 x2 st.1 1 (nI (shF (opS W H cu) (rF row) n 0)) (nI 6) = _
        rw [L_X11_show_52, if_pos (by decide)]
      · show ∃ s', L_X11_show_52 w (fun mi x1 x2 x3 x4 => L_X11_show_38 w F mi x1 x2 x3 x4) (G + 1) m' x1 x2 st.1 1 (nI (shF (opS W H cu) (rF row) n 0)) (nI k) = L_X11_show_52 w (fun mi x1 x2 x3 x4 => L_X11_show_38 w F mi x1 x2 x3 x4) G s' x1 x2 st.1 1 (nI (shF (opS W H cu) (rF row) n 0)) (nI (k + 1)) ∧ _
        rw [L_X11_show_52, if_neg (by rw [i6, nle (by omega) (by omega)]; omega), if_neg e]
        simp (disch := omega) only [ncl, ckJ, lt_e]
        rw [show nI k + 1 = nI (k + 1) by rw [i1, nadd]]
        refine ⟨_, rfl, fun j hj => ?_, fun c i j h => by rw [u3_n (by omega)]; exact hI.2 c i j h⟩
        by_cases q : j = k
        · rw [q, u3_s]; exact hI.2 67 0 k (by omega)
        · rw [u3_n (by omega)]; exact hI.1 j (by omega)
theorem stS_len {o : Nat → Nat} {n : Nat} : ∀ (L : List (List Nat)) (s : Int32 × List Nat), (∀ r, r ∈ L → r.length = n) → s.2.length = n → (L.foldl (stS o n) s).2.length = n
  | [], _, _, h => h
  | r :: L, s, hL, h => by
    refine stS_len L (stS o n s r) (fun r' hr' => hL r' (List.mem_cons_of_mem _ hr')) ?_
    unfold stS
    split
    · exact h
    · exact hL r List.mem_cons_self
theorem op_show {mi : MI} {w : WS} (I : Inv mi w) (x1 : Int32) (x2 : Int32) : ∃ c, F_X10_show mi w x1 x2 = some c ∧ ∃ e, F_X11_show c.2 w x1 x2 = some e ∧ c.1 = e.1 ∧ Inv e.2 w := by
  rcases shop_at I x1 with ⟨h1, h2⟩ | ⟨j, ⟨hj, rfl⟩, h1, W, H, sl, n, cu, we, ok, hc, h2⟩
  · have hcls : F_X10_show mi w x1 x2 = some (-1, mi) := by
      unfold F_X10_show
      rw [h1, Option.bind_some, onO_n]
    have hmod : ∃ m', F_X11_show mi w x1 x2 = some (-1, m') := by
      unfold F_X11_show
      rw [h2 _ w (keep_c mi), Option.bind_some, if_pos rfl]
      exact ⟨_, rfl⟩
    obtain ⟨m', hmod⟩ := hmod
    exact ⟨_, hcls, _, hmod, rfl, Inv_m I (kp_X11_show hmod)⟩
  · have hn := ok.cnt
    obtain ⟨hgood, hlen⟩ := EL_good (n := n) (l := n) hn (Nat.le_refl n)
    have hgood' : ∀ r, r ∈ enC n n 721 (fiL n 8 0 []) → gdR n n r = true := hgood
    have hlen' : (enC n n 721 (fiL n 8 0 [])).length < 721 := hlen
    have hEQ : enC n n 721 (fiL n 8 0 []) = enM n 721 (List.range n) := EL_eq hn
    obtain ⟨mb, b1, b5, b6, br, bf⟩ := c_beginO (m := mi) (w := w) hn (Nat.le_refl n) (gdR_lt (hgood' _ enC_head))
    obtain ⟨mr, r1, r2, r3⟩ := c_most (m0 := mi) (w := w) ok hc 721 (fiL n 8 0 []) 0 mb ((-1 : Int32), []) 1000000 hgood' hlen' (by omega) (by omega) (fun c i j h => bf c i j (by omega) (by omega)) b5 b6 br (fun k hk => absurd hk (Nat.not_lt_zero k))
    have r1' : L_X3_mostShown_19 w 1000000 mb j (-1) 1 0 = _ := r1
    have hms : F_X3_mostShown mi w j = some (((enC n n 721 (fiL n 8 0 [])).foldl (stS (opS W H cu) n) ((-1 : Int32), [])).1, mr) := by
      unfold F_X3_mostShown
      rw [hc.cnt, b1, Option.bind_some, r1']
    have Kr : Keep mi mr := kp_X3_mostShown hms
    obtain ⟨m1, l1, l2, l3⟩ := h2 (u3 mr 10 0 0 0) w (keep_u3 rfl Kr)
    obtain ⟨m2, f1, f2, f3⟩ := m_first m1 w
    have hr2 : rowM m2 67 (List.range n) := fun k hk => by
      rw [List.length_range] at hk
      rw [f2 k (by omega), List.getD_eq_getElem?_getD, List.getElem?_range hk]
      rfl
    obtain ⟨mp, p1, p2⟩ := m_show (m0 := m2) (w := w) (x1 := nI j) (x2 := x2) ok (MW_of l2.mw fun j _ _ => f3 _ _ _ (by omega)) (by rw [f3 _ _ _ (by omega)]; exact l2.cnt) (fun s hs => by rw [f3 _ _ _ (by omega)]; exact l2.op hs) 721 (List.range n) m2 ((-1 : Int32), []) 1000000 (by rw [← hEQ]; exact hgood') (by rw [← hEQ]; exact hlen') (by rw [← hEQ]; omega) (fun _ _ _ _ => rfl) hr2 (fun k hk => absurd hk (Nat.not_lt_zero k))
    rw [← hEQ] at p1 p2
    have hflen : ((enC n n 721 (fiL n 8 0 [])).foldl (stS (opS W H cu) n) ((-1 : Int32), [])).2.length = n := by
      have hall : ∀ r, r ∈ enC n n 721 (fiL n 8 0 []) → r.length = n := fun r hr => gdR_len (hgood' r hr)
      rw [enC] at hall ⊢
      rw [List.foldl_cons]
      refine stS_len _ _ (fun r hr => hall r (List.mem_cons_of_mem _ hr)) ?_
      unfold stS
      rw [if_neg]
      · exact hall _ List.mem_cons_self
      · have := sh_le (opS W H cu) (rF (fiL n 8 0 [])) n 0
        intro q
        rw [Int32.le_iff_toInt_le, nI_toInt (by omega)] at q
        have e : (-1 : Int32).toInt = -1 := by decide
        dsimp only at q
        omega
    generalize (enC n n 721 (fiL n 8 0 [])).foldl (stS (opS W H cu) n) ((-1 : Int32), []) = G at *
    by_cases hk : x2 = -1
    · have hcls : F_X10_show mi w (nI j) x2 = some (G.1, mr) := by
        unfold F_X10_show
        rw [h1, Option.bind_some, onO_s, hms, Option.bind_some, if_pos hk]
      have hmod : F_X11_show mr w (nI j) x2 = some (G.1, mp) := by
        unfold F_X11_show
        rw [l1, Option.bind_some, if_neg ne10]
        dsimp only
        rw [if_pos ⟨by rw [hk]; decide, by rw [l2.cnt, hk, Int32.lt_iff_toInt_lt, i1, pk_sub_toInt (by omega) (by omega)]; have e : (-nI 1 : Int32).toInt = -1 := by decide
                                           omega⟩, f1, Option.bind_some, p1, if_pos hk]
      exact ⟨_, hcls, _, hmod, rfl, Inv_keep (keep_trans Kr (kp_X11_show hmod)) rfl I⟩
    · by_cases hs : ∃ k, k < n ∧ x2 = nI k
      · have hin := (in_sheet (n := n) (by omega) x2).mpr hs
        obtain ⟨k, hkn, rfl⟩ := hs
        have hcls : F_X10_show mi w (nI j) (nI k) = some (nI (G.2.getD k 0), mr) := by
          unfold F_X10_show
          rw [h1, Option.bind_some, onO_s, hms, Option.bind_some, if_neg hk]
          unfold F_X3_foundAt
          dsimp only
          rw [if_neg (nI_pos (by omega)), if_neg (by rw [r3, nle (by omega) (by omega)]; omega), ck6 (by omega), ncl (by omega), r2 k (by omega), Option.bind_some]
        have hmod : F_X11_show mr w (nI j) (nI k) = some (nI (G.2.getD k 0), mp) := by
          unfold F_X11_show
          rw [l1, Option.bind_some, if_neg ne10]
          dsimp only
          rw [if_pos ⟨fun q => by
            rw [Int32.lt_iff_toInt_lt, nI_toInt (by omega)] at q
            have e : (-1 : Int32).toInt = -1 := by decide
            omega, by rw [l2.cnt]; exact hin.2⟩, f1, Option.bind_some, p1, if_neg hk, ck6 (by omega), ncl (by omega), p2 k (by omega)]
        exact ⟨_, hcls, _, hmod, rfl, Inv_keep (keep_trans Kr (kp_X11_show hmod)) rfl I⟩
      · have hcls : F_X10_show mi w (nI j) x2 = some (-1, mr) := by
          unfold F_X10_show
          rw [h1, Option.bind_some, onO_s, hms, Option.bind_some, if_neg hk]
          unfold F_X3_foundAt
          by_cases h0 : x2 < 0
          · rw [if_pos h0, Option.bind_some]
          · rw [if_neg h0]
            obtain ⟨k, hk2, rfl⟩ := nI_of h0
            dsimp only
            rw [if_pos (by rw [r3, nle (by omega) (by omega)]; exact Nat.le_of_not_lt fun q => hs ⟨k, q, rfl⟩), Option.bind_some]
        have hmod : F_X11_show mr w (nI j) x2 = some (-1, m1) := by
          unfold F_X11_show
          rw [l1, Option.bind_some, if_neg ne10]
          dsimp only
          rw [if_neg]
          rintro ⟨q1, q2⟩
          rw [l2.cnt] at q2
          by_cases h0 : x2 < 0
          · refine hk ?_
            rw [Int32.lt_iff_toInt_lt] at q1
            rw [i0, Int32.lt_iff_toInt_lt, nI_toInt (by omega)] at h0
            have e : (-1 : Int32).toInt = -1 := by decide
            apply Int32.toInt_inj.mp
            omega
          · exact hs ((in_sheet (n := n) (by omega) x2).mp ⟨h0, q2⟩)
        exact ⟨_, hcls, _, hmod, rfl, Inv_keep (keep_trans Kr (kp_X11_show hmod)) rfl I⟩
