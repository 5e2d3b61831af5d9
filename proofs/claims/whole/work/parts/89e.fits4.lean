/-! FITS, end -/
theorem stF_inv {ft : List Nat → Bool} {o : Nat → Nat} {n C : Nat} {x : Int32} (hn : n ≤ 6) : ∀ (L : List (List Nat)) (s : FS), (∀ r, r ∈ L → gdR n n r = true) → s.2.1 < 64 → (∀ i, s.2.2.1 i ≤ s.1) → (L.foldl (stF ft o n C x) s).2.1 < 64 ∧ (∀ i, (L.foldl (stF ft o n C x) s).2.2.1 i ≤ (L.foldl (stF ft o n C x) s).1) ∧ (L.foldl (stF ft o n C x) s).1 ≤ s.1 + L.length
  | [], _, _, h1, h2 => ⟨h1, h2, Nat.le_refl _⟩
  | r :: L, s, hL, h1, h2 => by
    have e : (stF ft o n C x s r).2.1 < 64 ∧ (∀ i, (stF ft o n C x s r).2.2.1 i ≤ (stF ft o n C x s r).1) ∧ (stF ft o n C x s r).1 ≤ s.1 + 1 := by
      by_cases q : ft r = true
      · rw [stF_y q]
        exact ⟨Nat.or_lt_two_pow (n := 6) h1 (last_lt hn (hL r List.mem_cons_self)), fun i => tops_le h2 i, Nat.le_refl _⟩
      · rw [stF_n q]
        exact ⟨h1, h2, Nat.le_succ _⟩
    have := stF_inv (ft := ft) (o := o) (C := C) (x := x) hn L (stF ft o n C x s r) (fun r' hr' => hL r' (List.mem_cons_of_mem _ hr')) e.1 e.2.1
    rw [List.foldl_cons, List.length_cons]
    exact ⟨this.1, this.2.1, by omega⟩
theorem c_clear {m0 : MI} {w : WS} : ∃ m, F_X3_clearTops m0 w = some m ∧ (∀ i, i < 175 → m 46 0 i = nI 0) ∧ ∀ c i j, ¬ (c = 46 ∧ i = 0) → m c i j = m0 c i j := by
  have key := lp_inv (L := fun f m k => L_X3_clearTops_2 w f m (nI k)) (N := 175) (post := fun m => some m) (fun k m => (∀ i, i < k → m 46 0 i = nI 0) ∧ ∀ c i j, ¬ (c = 46 ∧ i = 0) → m c i j = m0 c i j) (fun f m hI => ?_) (fun f k m hk hI => ?_) (F := 1000000) (by omega) m0 ⟨fun i hi => absurd hi (Nat.not_lt_zero i), fun _ _ _ _ => rfl⟩
  · obtain ⟨m, ⟨g1, g2⟩, g3⟩ := key
    exact ⟨m, g3, g1, g2⟩
  · show L_X3_clearTops_2 w (f + 1) m (nI 175) = _
    rw [L_X3_clearTops_2, if_pos (by decide)]
  · show ∃ s', L_X3_clearTops_2 w (f + 1) m (nI k) = L_X3_clearTops_2 w f s' (nI (k + 1)) ∧ _
    have e175 : (175 : Int32) = nI 175 := rfl
    rw [L_X3_clearTops_2, if_neg (by rw [e175, nle (by omega) (by omega)]; omega)]
    simp (disch := omega) only [ncl, ckJ, lt_e]
    rw [show nI k + 1 = nI (k + 1) by rw [i1, nadd]]
    refine ⟨_, rfl, fun i hi => ?_, fun c i j h => by rw [u3_n (by omega)]; exact hI.2 c i j h⟩
    by_cases e : i = k
    · rw [e, u3_s]; rfl
    · rw [u3_n (by omega)]; exact hI.1 i (by omega)
theorem m_findStart {m0 : MI} {w : WS} {x : Int32} : ∃ m, F_X11_findOrders m0 w x = L_X11_findOrders_44 w 1000000 m x 1 ∧ (m 10 0 45 = nI 0 ∧ m 10 0 46 = -2 ∧ m 10 0 47 = nI 0) ∧ (∀ i, i < 175 → m 71 0 i = nI 0) ∧ (∀ c, c < 6 → m 67 0 c = nI c) ∧ ∀ c i j, ¬ ((c = 67 ∨ c = 71)) → ¬ (c = 10 ∧ i = 0 ∧ (j = 45 ∨ j = 46 ∨ j = 47)) → m c i j = m0 c i j := by
  have key := lp_inv (L := fun f m k => L_X11_findOrders_18 w f m x (nI k)) (N := 175) (post := fun m => (F_X11_firstOrder m w).bind fun c261 => L_X11_findOrders_44 w 1000000 c261 x 1) (fun k m => (∀ i, i < k → m 71 0 i = nI 0) ∧ ∀ c i j, ¬ (c = 71 ∧ i = 0) → m c i j = (u3 (u3 (u3 m0 10 0 45 0) 10 0 46 (-2)) 10 0 47 0) c i j) (fun f m hI => ?_) (fun f k m hk hI => ?_) (F := 1000000) (by omega) (u3 (u3 (u3 m0 10 0 45 0) 10 0 46 (-2)) 10 0 47 0) ⟨fun i hi => absurd hi (Nat.not_lt_zero i), fun _ _ _ _ => rfl⟩
  · obtain ⟨m1, ⟨g1, g2⟩, g3⟩ := key
    obtain ⟨m2, f1, f2, f3⟩ := m_first m1 w
    refine ⟨m2, ?_, ⟨?_, ?_, ?_⟩, fun i hi => ?_, f2, fun c i j h1 h2 => ?_⟩
    · unfold F_X11_findOrders
      rw [lt_e]
      refine Eq.trans g3 ?_
      rw [f1, Option.bind_some]
    · rw [f3 _ _ _ (by omega), g2 _ _ _ (by omega), u3_n (by omega), u3_n (by omega), u3_s]; rfl
    · rw [f3 _ _ _ (by omega), g2 _ _ _ (by omega), u3_n (by omega), u3_s]
    · rw [f3 _ _ _ (by omega), g2 _ _ _ (by omega), u3_s]; rfl
    · rw [f3 _ _ _ (by omega)]; exact g1 i hi
    · rw [f3 _ _ _ (by omega), g2 _ _ _ (by omega), u3_n (by omega), u3_n (by omega), u3_n (by omega)]
  · show L_X11_findOrders_18 w (f + 1) m x (nI 175) = _
    rw [L_X11_findOrders_18, if_pos (by decide)]
  · show ∃ s', L_X11_findOrders_18 w (f + 1) m x (nI k) = L_X11_findOrders_18 w f s' x (nI (k + 1)) ∧ _
    have e175 : (175 : Int32) = nI 175 := rfl
    rw [L_X11_findOrders_18, if_neg (by rw [e175, nle (by omega) (by omega)]; omega)]
    simp (disch := omega) only [ncl, ckJ, lt_e]
    rw [show nI k + 1 = nI (k + 1) by rw [i1, nadd]]
    refine ⟨_, rfl, fun i hi => ?_, fun c i j h => by rw [u3_n (by omega)]; exact hI.2 c i j h⟩
    by_cases e : i = k
    · rw [e, u3_s]; rfl
    · rw [u3_n (by omega)]; exact hI.1 i (by omega)
theorem op_fits {mi : MI} {w : WS} (I : Inv mi w) (x1 : Int32) (x2 : Int32) (x3 : Int32) : ∃ c, F_X10_fits mi w x1 x2 x3 = some c ∧ ∃ e, F_X11_fits c.2 w x1 x2 x3 = some e ∧ c.1 = e.1 ∧ Inv e.2 w := by
  rcases mark_at I x2 with ⟨h1, h2⟩ | ⟨jm, ⟨hjm, rfl⟩, h1, hmk, h2⟩
  · have hcls : F_X10_fits mi w x1 x2 x3 = some (-2, mi) := by
      unfold F_X10_fits
      rcases shop_at I x1 with ⟨g1, -⟩ | ⟨j, -, g1, -⟩
      · rw [g1, Option.bind_some, onO_n, h1, Option.bind_some, onO_n]
      · rw [g1, Option.bind_some, onO_s, h1, Option.bind_some, onO_n]
    have hmod : ∃ m', F_X11_fits mi w x1 x2 x3 = some (-2, m') := by
      unfold F_X11_fits
      rw [h2 _ w (keep_c mi), Option.bind_some, if_pos rfl]
      exact ⟨_, rfl⟩
    obtain ⟨m', hmod⟩ := hmod
    exact ⟨_, hcls, _, hmod, rfl, Inv_m I (kp_X11_fits hmod)⟩
  · rcases shop_at I x1 with ⟨g1, g2⟩ | ⟨j, ⟨hj, rfl⟩, g1, W, H, sl, n, cu, we, ok, hc, g2⟩
    · have hcls : F_X10_fits mi w x1 (nI jm) x3 = some (-2, mi) := by
        unfold F_X10_fits
        rw [g1, Option.bind_some, onO_n, h1, Option.bind_some, onO_s]
      have hmod : ∃ m', F_X11_fits mi w x1 (nI jm) x3 = some (-2, m') := by
        unfold F_X11_fits
        rw [h2 _ w (keep_c mi), Option.bind_some, if_neg ne10, g2 _ w (keep_u3 rfl (keep_c mi)), Option.bind_some, if_pos rfl]
        exact ⟨_, rfl⟩
      obtain ⟨m', hmod⟩ := hmod
      exact ⟨_, hcls, _, hmod, rfl, Inv_m I (kp_X11_fits hmod)⟩
    · have hn := ok.cnt
      obtain ⟨nm, hnm, k1, k2, k3⟩ := hmk
      have hx : ∀ k, k < nm → mi 31 jm k = nI (mi 31 jm k).toNatClampNeg ∧ (mi 31 jm k).toNatClampNeg < 5 := fun k hk => by
        obtain ⟨⟨x, a, b, -⟩, -⟩ := k3 k hk
        rw [b, ncl (by omega)]
        exact ⟨rfl, a⟩
      have hy : ∀ k, k < nm → mi 32 jm k = nI (mi 32 jm k).toNatClampNeg ∧ (mi 32 jm k).toNatClampNeg < 5 := fun k hk => by
        obtain ⟨-, ⟨x, a, b, -⟩, -⟩ := k3 k hk
        rw [b, ncl (by omega)]
        exact ⟨rfl, a⟩
      obtain ⟨hgood, hlen⟩ := EL_good (n := n) (l := n) hn (Nat.le_refl n)
      have hgood' : ∀ r, r ∈ enC n n 721 (fiL n 8 0 []) → gdR n n r = true := hgood
      have hlen' : (enC n n 721 (fiL n 8 0 [])).length < 721 := hlen
      have hEQ : enC n n 721 (fiL n 8 0 []) = enM n 721 (List.range n) := EL_eq hn
      obtain ⟨mc, c1, c2, c3⟩ := c_clear (m0 := mi) (w := w)
      obtain ⟨mb, b1, b5, b6, br, bf⟩ := c_beginO (m := mc) (w := w) hn (Nat.le_refl n) (gdR_lt (hgood' _ enC_head))
      have fr : ∀ c i j, ¬ ((c = 2 ∨ c = 42 ∨ c = 46) ∧ i = 0) → mb c i j = mi c i j := fun c i j h => by rw [bf c i j (by omega) (by omega), c3 c i j (by omega)]
      obtain ⟨mr, v, r1, r2⟩ := c_find (m0 := mi) (w := w) (si := j) (ms := jm) (x3 := x3) (ft := fun row => fitF W H n (opS W H cu) (fun k => (mi 31 jm k).toNatClampNeg) (fun k => (mi 32 jm k).toNatClampNeg) (mi 33 jm) row nm 0) ok hc (fun m row hf h6 hr hg => by
        have e33 : m 33 jm = mi 33 jm := funext fun k => hf 33 jm k (by omega)
        have := c_fitsAll (m := m) (w := w) (i := j) (j := jm) (xs := fun k => (mi 31 jm k).toNatClampNeg) (ys := fun k => (mi 32 jm k).toNatClampNeg) ok (ShC_of (fun k => hf _ _ _ (by omega)) (fun k => hf _ _ _ (by omega)) (fun k => hf _ _ _ (by omega)) (fun k => hf _ _ _ (by omega)) hc) h6 hr hg hnm (by rw [hf _ _ _ (by omega)]; exact k1) (fun k hk => by rw [hf _ _ _ (by omega)]; exact hx k hk) (fun k hk => by rw [hf _ _ _ (by omega)]; exact hy k hk)
        rw [e33] at this
        exact this) 721 (fiL n 8 0 []) 0 mb (0, 0, (fun _ => 0), -2) (-1) 1000000 hgood' hlen' (by omega) (by omega) fr b5 b6 br (Nat.le_refl _) (fun _ => Nat.le_refl _) (Or.inl ⟨rfl, rfl, rfl⟩) (fun _ i hi => by rw [bf _ _ _ (by omega) (by omega)]; exact c2 i hi) (fun _ => rfl)
      have r1' : L_X3_tellFitting_28 w 1000000 mb j jm x3 0 (-1) 1 0 = _ := r1
      have htf : F_X3_tellFitting mi w j jm x3 = some (v, mr) := by
        unfold F_X3_tellFitting
        rw [c1, Option.bind_some, c3 5 j 3 (by omega), hc.cnt, b1, Option.bind_some, r1']
      have hcls : F_X10_fits mi w (nI j) (nI jm) x3 = some (v, mr) := by
        unfold F_X10_fits
        rw [g1, Option.bind_some, onO_s, h1, Option.bind_some, onO_s, htf, Option.bind_some]
      have Kr : Keep mi mr := kp_X3_tellFitting htf
      have Kr2 : Keep mi (u3 (u3 mr 10 0 0 0) 10 0 44 (nI jm)) := keep_u3 rfl (keep_u3 rfl Kr)
      obtain ⟨m1, l1, l2, l3⟩ := g2 _ w Kr2
      have K1 : Keep mi m1 := keep_trans Kr2 (kp_X11_hand l1)
      have h44 : m1 10 0 44 = nI jm := by rw [l3 _ _ _ ⟨by omega, by omega⟩, u3_s]
      obtain ⟨m2, s1, s2, s3, s4, s5⟩ := m_findStart (m0 := m1) (w := w) (x := x3 - 10)
      have m58 : ∀ k, m1 58 0 k = mi 58 0 k := fun k => K1 58 0 k (st_m (by omega))
      have hr2 : rowM m2 67 (List.range n) := fun k hk => by
        rw [List.length_range] at hk
        rw [s4 k (by omega), List.getD_eq_getElem?_getD, List.getElem?_range hk]
        rfl
      have mw2 : MW m2 W H := MW_of l2.mw fun j _ _ => s5 _ _ _ (by omega) (by omega)
      have h27' : m2 10 0 27 = nI n := by rw [s5 _ _ _ (by omega) (by omega)]; exact l2.cnt
      have h62' : ∀ s, s < 6 → m2 62 0 s = nI (opS W H cu s) := fun s hs => by rw [s5 _ _ _ (by omega) (by omega)]; exact l2.op hs
      obtain ⟨mp, p1, p2⟩ := m_find (m0 := m2) (w := w) (x := x3 - 10) (ft := fun row => fitF W H n (opS W H cu) (fun k => (mi 31 jm k).toNatClampNeg) (fun k => (mi 32 jm k).toNatClampNeg) (mi 33 jm) row nm 0) ok mw2 h27' h62' (fun m row hf hr hg => by
        have f58 : ∀ k, m 58 0 k = mi 58 0 k := fun k => by rw [hf _ _ _ (by omega) (by omega), s5 _ _ _ (by omega) (by omega), m58]
        refine m_isSo (j := jm) ok (MW_of mw2 fun j _ _ => hf _ _ _ (by omega) (by omega)) (by rw [hf _ _ _ (by omega) (by omega)]; exact h27') (fun s hs => by rw [hf _ _ _ (by omega) (by omega)]; exact h62' s hs) hr hg (by omega) (by rw [hf _ _ _ (by omega) (by omega), s5 _ _ _ (by omega) (by omega)]; exact h44) hnm (by rw [f58]; exact k2) (fun k hk => ⟨?_, (hx k hk).2⟩) (fun k hk => ⟨?_, (hy k hk).2⟩) (fun k hk => ?_)
        · obtain ⟨⟨x, a, b, c⟩, -⟩ := k3 k hk
          rw [f58, c, b, ncl (by omega)]
        · obtain ⟨-, ⟨x, a, b, c⟩, -⟩ := k3 k hk
          rw [f58, c, b, ncl (by omega)]
        · rw [f58]; exact (k3 k hk).2.2.1) 721 (List.range n) m2 (0, 0, (fun _ => 0), -2) 1000000 (by rw [← hEQ]; exact hgood') (by rw [← hEQ]; exact hlen') (by rw [← hEQ]; omega) hr2 ⟨s2, s3, fun _ _ _ _ _ => rfl⟩
      rw [← hEQ] at p2
      obtain ⟨i1', i2', i3'⟩ := stF_inv (ft := fun row => fitF W H n (opS W H cu) (fun k => (mi 31 jm k).toNatClampNeg) (fun k => (mi 32 jm k).toNatClampNeg) (mi 33 jm) row nm 0) (o := opS W H cu) (C := W * H) (x := x3 - 10) hn (enC n n 721 (fiL n 8 0 [])) ((0, 0, (fun _ => 0), -2) : FS) hgood' (by decide) (fun _ => Nat.le_refl _)
      generalize (enC n n 721 (fiL n 8 0 [])).foldl (stF (fun row => fitF W H n (opS W H cu) (fun k => (mi 31 jm k).toNatClampNeg) (fun k => (mi 32 jm k).toNatClampNeg) (mi 33 jm) row nm 0) (opS W H cu) n (W * H) (x3 - 10)) ((0, 0, (fun _ => 0), -2) : FS) = S at *
      have i3'' : S.1 ≤ 720 := by
        have : S.1 ≤ 0 + (enC n n 721 (fiL n 8 0 [])).length := i3'
        omega
      have hfo : F_X11_findOrders m1 w (x3 - 10) = some mp := s1.trans p1
      have mwp : MW mp W H := MW_of mw2 fun j _ _ => p2.2.2 _ _ _ (by omega) (by omega)
      have h27p : mp 10 0 27 = nI n := by rw [p2.2.2 _ _ _ (by omega) (by omega)]; exact h27'
      have e10 : (10 : Int32) = nI 10 := rfl
      have start : ∀ y, (if x3 < 10 then if x3 = 0 then some (mp 10 0 45, mp) else if x3 = 1 then (F_X11_sure mp w).bind fun c274 => some (c274, mp) else if x3 = 2 then (F_X11_askWhere mp w).bind fun c275 => some (c275, mp) else some ((-2 : Int32), mp) else some (mp 10 0 46, mp)) = some (y, mp) → y = v → ∃ c, F_X10_fits mi w (nI j) (nI jm) x3 = some c ∧ ∃ e, F_X11_fits c.2 w (nI j) (nI jm) x3 = some e ∧ c.1 = e.1 ∧ Inv e.2 w := by
        intro y hy e
        have hmod : F_X11_fits mr w (nI j) (nI jm) x3 = some (y, mp) := by
          unfold F_X11_fits
          rw [h2 _ w (keep_u3 rfl Kr), Option.bind_some, if_neg ne10]
          dsimp only
          rw [l1, Option.bind_some, if_neg ne10]
          dsimp only
          rw [hfo, Option.bind_some]
          exact hy
        exact ⟨_, hcls, _, hmod, e.symm, Inv_keep (keep_trans Kr (kp_X11_fits hmod)) rfl I⟩
      obtain ⟨o1, o2, o3, o4, o5⟩ := r2
      by_cases hlt : x3 < 10
      · have hge : ¬ 10 ≤ x3 := fun q => ge_nl (n := 10) (by omega) q hlt
        by_cases e0 : x3 = 0
        · exact start (mp 10 0 45) (by rw [if_pos hlt, if_pos e0]) (by rw [o2 e0]; exact p2.1.1)
        · by_cases e1 : x3 = 1
          · exact start v (by rw [if_pos hlt, if_neg e0, if_pos e1, m_sure hn h27p p2.1.2.2 i1' (o3 e1), Option.bind_some]) rfl
          · by_cases e2 : x3 = 2
            · exact start v (by rw [if_pos hlt, if_neg e0, if_neg e1, if_pos e2, m_ask ok.bw mwp (show S.1 < 1000 by omega) p2.1.1 (fun i => Nat.le_trans (i2' i) i3'') p2.2.1, Option.bind_some, o4 e2]) rfl
            · exact start (-2) (by rw [if_pos hlt, if_neg e0, if_neg e1, if_neg e2]) (o5 hge e0 e1 e2).symm
      · have hge : 10 ≤ x3 := by
          rcases Int32.le_total 10 x3 with q | q
          · exact q
          · by_cases e : x3 = 10
            · rw [e]; exact Int32.le_refl _
            · exact absurd (Int32.lt_of_le_of_ne q e) hlt
        exact start (mp 10 0 46) (by rw [if_neg hlt]) (by rw [o1 hge]; exact p2.1.2.1)
