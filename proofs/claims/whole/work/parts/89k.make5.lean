/-! MAKE, end -/
theorem op_make {mi : MI} {w : WS} (I : Inv mi w) (x1 : Int32) (x2 : Int32) (x3 : Int32) : ∃ c, F_X10_make mi w x1 x2 x3 = some c ∧ ∃ e, F_X11_make c.2 w x1 x2 x3 = some e ∧ c.1 = e.1 ∧ Inv e.2 w := by
  rcases pic_at I x2 with ⟨h1, h2⟩ | ⟨p, ⟨hp, rfl⟩, h1, ⟨co0, hco0⟩, h2⟩
  · have hcls : F_X10_make mi w x1 x2 x3 = some (-1, mi) := by
      unfold F_X10_make
      rcases shop_at I x1 with ⟨g1, -⟩ | ⟨j, -, g1, -⟩
      · rw [g1, Option.bind_some, onO_n, h1, Option.bind_some, onO_n]
      · rw [g1, Option.bind_some, onO_s, h1, Option.bind_some, onO_n]
    have hmod : ∃ m', F_X11_make mi w x1 x2 x3 = some (-1, m') := by
      unfold F_X11_make
      rw [h2 _ w (keep_c mi), Option.bind_some, if_pos rfl]
      exact ⟨_, rfl⟩
    obtain ⟨m', hmod⟩ := hmod
    exact ⟨_, hcls, _, hmod, rfl, Inv_m I (kp_X11_make hmod)⟩
  · rcases shop_at I x1 with ⟨g1, g2⟩ | ⟨j, ⟨hj, rfl⟩, g1, W, H, sl, n, cu, we, ok, hc, g2⟩
    · have hcls : F_X10_make mi w x1 (nI p) x3 = some (-1, mi) := by
        unfold F_X10_make
        rw [g1, Option.bind_some, onO_n, h1, Option.bind_some, onO_s]
      have hmod : ∃ m', F_X11_make mi w x1 (nI p) x3 = some (-1, m') := by
        unfold F_X11_make
        rw [h2 _ w (keep_c mi), Option.bind_some, if_neg ne10, g2 _ w (keep_u3 rfl (keep_c mi)), Option.bind_some, if_pos rfl]
        exact ⟨_, rfl⟩
      obtain ⟨m', hmod⟩ := hmod
      exact ⟨_, hcls, _, hmod, rfl, Inv_m I (kp_X11_make hmod)⟩
    · have hn := ok.cnt
      obtain ⟨co, hco, hc9⟩ : ∃ co : Nat → Nat, (∀ k, k < 25 → co k ≤ 9 ∧ mi 30 p k = nI (co k) ∧ mi 57 0 (26 * p + (1 + k)) = nI (co k)) ∧ ∀ k, co k ≤ 9 := by
        refine ⟨fun k => if k < 25 then co0 k else 0, fun k hk => ?_, fun k => ?_⟩
        · show (if k < 25 then co0 k else 0) ≤ 9 ∧ _ = nI (if k < 25 then co0 k else 0) ∧ _ = nI (if k < 25 then co0 k else 0)
          rw [if_pos hk]; exact hco0 k hk
        · show (if k < 25 then co0 k else 0) ≤ 9
          by_cases hk : k < 25
          · rw [if_pos hk]; exact (hco0 k hk).1
          · rw [if_neg hk]; exact Nat.zero_le _
      have h9 : ∀ q, coC W co q ≤ 9 := fun q => hc9 _
      have k30 : ∀ k, k < 25 → co k ≤ 9 ∧ mi 30 p k = nI (co k) := fun k hk => ⟨(hco k hk).1, (hco k hk).2.1⟩
      -- the class, out of its search
      have cls : ∀ (v : Int32) (mr : MI), F_X3_fewestSprays mi w j p = some (v, mr) → F_X10_make mi w (nI j) (nI p) x3 = (if x3 = (-1) then some (v, mr) else if v = (-1) then some (v, mr) else (F_X3_foundAt mr w x3).bind fun c171 => some (c171, mr)) := fun v mr h => by
        unfold F_X10_make
        rw [g1, Option.bind_some, onO_s, h1, Option.bind_some, onO_s, h, Option.bind_some]
      -- the model, out of its search, behind a memory
      have mdl : ∀ (mr : MI), Keep mi mr → ∃ m1, (∀ (v : Int32) (mp : MI), F_X11_fewestSprays m1 w = some (v, mp) → F_X11_make mr w (nI j) (nI p) x3 = (if x3 = (-1) then some (v, mp) else if ¬ (x3 < 0) ∧ (¬ ((v - 1) < x3)) then ck (¬ (x3 < 0 ∨ 6 ≤ x3.toNatClampNeg)) (some (mp 69 0 x3.toNatClampNeg, mp)) else some ((-1 : Int32), mp))) ∧ HD m1 j W H sl n cu we ∧ m1 10 0 38 = nI p ∧ ∀ k, k < 25 → co k ≤ 9 ∧ m1 57 0 (26 * p + (1 + k)) = nI (co k) := fun mr K => by
        have K2 : Keep mi (u3 (u3 mr 10 0 0 0) 10 0 38 (nI p)) := keep_u3 rfl (keep_u3 rfl K)
        obtain ⟨m1, l1, l2, l3⟩ := g2 _ w K2
        have K1 : Keep mi m1 := keep_trans K2 (kp_X11_hand l1)
        refine ⟨m1, fun v mp h => ?_, l2, by rw [l3 _ _ _ ⟨by omega, by omega⟩, u3_s], fun k hk => ⟨(hco k hk).1, by rw [K1 57 0 _ (st_m (by omega))]; exact (hco k hk).2.2⟩⟩
        unfold F_X11_make
        rw [h2 _ w (keep_u3 rfl K), Option.bind_some, if_neg ne10]
        dsimp only
        rw [l1, Option.bind_some, if_neg ne10]
        dsimp only
        rw [h, Option.bind_some]
      have none2 : ∀ (mr : MI), F_X3_fewestSprays mi w j p = some (-1, mr) → (∀ m1, HD m1 j W H sl n cu we → m1 10 0 38 = nI p → (∀ k, k < 25 → co k ≤ 9 ∧ m1 57 0 (26 * p + (1 + k)) = nI (co k)) → ∃ mp, F_X11_fewestSprays m1 w = some (-1, mp)) → ∃ c, F_X10_make mi w (nI j) (nI p) x3 = some c ∧ ∃ e, F_X11_make c.2 w (nI j) (nI p) x3 = some e ∧ c.1 = e.1 ∧ Inv e.2 w := fun mr h hm => by
        have Kr : Keep mi mr := kp_X3_fewestSprays h
        obtain ⟨m1, d1, d2, d3, d4⟩ := mdl mr Kr
        obtain ⟨mp, e⟩ := hm m1 d2 d3 d4
        have hcls : F_X10_make mi w (nI j) (nI p) x3 = some (-1, mr) := by
          rw [cls _ _ h]
          by_cases q : x3 = -1
          · rw [if_pos q]
          · rw [if_neg q, if_pos rfl]
        have hmod : F_X11_make mr w (nI j) (nI p) x3 = some (-1, mp) := by
          rw [d1 _ _ e]
          by_cases q : x3 = -1
          · rw [if_pos q]
          · rw [if_neg q, if_neg]
            rintro ⟨q1, q2⟩
            refine q2 ?_
            obtain ⟨k, hk, rfl⟩ := nI_of q1
            rw [Int32.lt_iff_toInt_lt, nI_toInt (by omega)]
            have e : ((-1 : Int32) - 1).toInt = -2 := by decide
            omega
        exact ⟨_, hcls, _, hmod, rfl, Inv_keep (keep_trans Kr (kp_X11_make hmod)) rfl I⟩
      rcases c_within (w := w) (i := j) (p := p) (co := co) (m := mi) ok.bw ⟨hc.1.1, hc.1.2.1⟩ k30 with ⟨hb, e⟩ | ⟨hb, e⟩
      · refine none2 mi (by unfold F_X3_fewestSprays; rw [e, Option.bind_some, if_pos rfl]) fun m1 d2 d3 d4 => ?_
        rcases m_beyond (m := m1) w (c := 0) ok.bw d2.mw hp d3 d4 (by omega) with ⟨-, e2⟩ | ⟨hno, -⟩
        · have e2' : F_X11_goesBeyond m1 w 0 = some 1 := e2
          exact ⟨m1, by unfold F_X11_fewestSprays; rw [e2', Option.bind_some, if_neg ne10]⟩
        · obtain ⟨i, z1, z2, z3⟩ := hb
          exact absurd ⟨i, z1, z2, z3, Or.inl rfl⟩ hno
      · have key := lp_inv (L := fun f m k => L_X3_fewestSprays_12 w f m j p (nI k)) (N := 10) (post := fun m => L_X3_fewestSprays_38 w 1000000 m j p (nI 0)) (fun k m => (∀ c, c < k → m 45 0 c = nI (celN W H co c)) ∧ ∀ c i j, ¬ (c = 45 ∧ i = 0) → m c i j = mi c i j) (fun f m hI => ?_) (fun f k m hk hI => ?_) (F := 1000000) (by omega) mi ⟨fun c hc => absurd hc (Nat.not_lt_zero c), fun _ _ _ _ => rfl⟩
        · obtain ⟨m1, ⟨s1, s2⟩, s3⟩ := key
          have hfw : F_X3_fewestSprays mi w j p = L_X3_fewestSprays_38 w 1000000 m1 j p (nI 0) := by
            unfold F_X3_fewestSprays
            rw [e, Option.bind_some, if_neg ne10]
            exact s3
          have gb : ∀ m1, HD m1 j W H sl n cu we → m1 10 0 38 = nI p → (∀ k, k < 25 → co k ≤ 9 ∧ m1 57 0 (26 * p + (1 + k)) = nI (co k)) → F_X11_fewestSprays m1 w = L_X11_fewestSprays_14 w 1000000 m1 (nI (6 ^ 0)) (nI 0) := fun m1 d2 d3 d4 => by
            rcases m_beyond (m := m1) w (c := 0) ok.bw d2.mw hp d3 d4 (by omega) with ⟨⟨i, z1, z2, z3, -⟩, -⟩ | ⟨-, e2⟩
            · exact absurd ⟨i, z1, z2, z3⟩ hb
            · have e2' : F_X11_goesBeyond m1 w 0 = some 0 := e2
              unfold F_X11_fewestSprays
              rw [e2', Option.bind_some, if_pos rfl]
              rfl
          have mf : ∀ m1, HD m1 j W H sl n cu we → m1 10 0 38 = nI p → (∀ k, k < 25 → co k ≤ 9 ∧ m1 57 0 (26 * p + (1 + k)) = nI (co k)) → (resF (SK W H n cu co) (n + 1) 0 = none ∧ ∃ m', L_X11_fewestSprays_14 w 1000000 m1 (nI (6 ^ 0)) (nI 0) = some (-1, m')) ∨ ∃ l' b m', resF (SK W H n cu co) (n + 1) 0 = some (l', b) ∧ L_X11_fewestSprays_14 w 1000000 m1 (nI (6 ^ 0)) (nI 0) = some (nI l', m') ∧ rowM m' 69 b := fun m1 d2 d3 d4 =>
            m_fewest2 (m0 := m1) (w := w) (co := co) ok d2.mw d2.cnt (fun s hs => d2.op hs) hp d3 d4 h9 (n + 1) 0 m1 1000000 (by omega) (by omega) (fun _ _ _ _ => rfl)
          rcases c_fewest2 (m0 := m1) (w := w) (p := p) (co := co) ok (ShC_of (fun k => s2 _ _ _ (by omega)) (fun k => s2 _ _ _ (by omega)) (fun k => s2 _ _ _ (by omega)) (fun k => s2 _ _ _ (by omega)) hc) h9 s1 (n + 1) 0 m1 1000000 (by omega) (by omega) (fun _ _ _ _ => rfl) with ⟨r1, m', r2⟩ | ⟨l', bb, mr, r1, r2, r3, r4, r5, r6⟩
          · refine none2 m' (hfw.trans r2) fun m1 d2 d3 d4 => ?_
            rcases mf m1 d2 d3 d4 with ⟨-, mp, e2⟩ | ⟨l', b, mp, e1, -⟩
            · exact ⟨mp, (gb m1 d2 d3 d4).trans e2⟩
            · rw [r1] at e1; cases e1
          · have hf := hfw.trans r2
            have Kr : Keep mi mr := kp_X3_fewestSprays hf
            obtain ⟨m1', d1, d2, d3, d4⟩ := mdl mr Kr
            rcases mf m1' d2 d3 d4 with ⟨e1, -⟩ | ⟨l2, b2', mp, e1, e2, e3⟩
            · rw [r1] at e1; cases e1
            · rw [r1] at e1
              cases e1
              have hmf := (gb m1' d2 d3 d4).trans e2
              have hcl := cls _ _ hf
              have hml := d1 _ _ hmf
              have fin : ∀ v, F_X10_make mi w (nI j) (nI p) x3 = some (v, mr) → F_X11_make mr w (nI j) (nI p) x3 = some (v, mp) → ∃ c, F_X10_make mi w (nI j) (nI p) x3 = some c ∧ ∃ e, F_X11_make c.2 w (nI j) (nI p) x3 = some e ∧ c.1 = e.1 ∧ Inv e.2 w := fun v a b =>
                ⟨_, a, _, b, rfl, Inv_keep (keep_trans Kr (kp_X11_make b)) rfl I⟩
              by_cases q : x3 = -1
              · exact fin (nI l') (by rw [hcl, if_pos q]) (by rw [hml, if_pos q])
              · rw [if_neg q, if_neg (m1_ne (by omega))] at hcl
                rw [if_neg q] at hml
                unfold F_X3_foundAt at hcl
                by_cases hs : ∃ k, k < l' ∧ x3 = nI k
                · have hin := (in_sheet (n := l') (by omega) x3).mpr hs
                  obtain ⟨k, hk, rfl⟩ := hs
                  refine fin (nI (bb.getD k 0)) ?_ ?_
                  · rw [hcl, if_neg (nI_pos (by omega)), if_neg (by rw [r6, nle (by omega) (by omega)]; omega), ck6 (by omega), ncl (by omega), r5 k (by omega), Option.bind_some]
                  · rw [hml, if_pos hin, ck6 (by omega), ncl (by omega), e3 k (by omega)]
                · refine fin (-1) ?_ ?_
                  · rw [hcl]
                    by_cases h0 : x3 < 0
                    · rw [if_pos h0, Option.bind_some]
                    · rw [if_neg h0]
                      obtain ⟨k, hk2, rfl⟩ := nI_of h0
                      rw [if_pos (by rw [r6, nle (by omega) (by omega)]; exact Nat.le_of_not_lt fun z => hs ⟨k, z, rfl⟩), Option.bind_some]
                  · rw [hml, if_neg fun z => hs ((in_sheet (n := l') (by omega) x3).mp z)]
        · show L_X3_fewestSprays_12 w (f + 1) m j p (nI 10) = _
          rw [L_X3_fewestSprays_12, if_pos (by decide)]
          rfl
        · show ∃ s', L_X3_fewestSprays_12 w (f + 1) m j p (nI k) = L_X3_fewestSprays_12 w f s' j p (nI (k + 1)) ∧ _
          have e10 : (10 : Int32) = nI 10 := rfl
          have hcel : F_X4_cellsOf m w p j (nI k) = some (nI (celN W H co k)) := by
            refine c_cells w ok.bw ?_ (by omega) fun q hq => ⟨(k30 q hq).1, by rw [hI.2 _ _ _ (by omega)]; exact (k30 q hq).2⟩
            obtain ⟨⟨z1, z2⟩, z3, z4, z5, z6⟩ := hc.cw
            exact ⟨⟨by rw [hI.2 _ _ _ (by omega)]; exact z1, by rw [hI.2 _ _ _ (by omega)]; exact z2⟩, by rw [hI.2 _ _ _ (by omega)]; exact z3, by rw [hI.2 _ _ _ (by omega)]; exact z4, by rw [hI.2 _ _ _ (by omega)]; exact z5, by rw [hI.2 _ _ _ (by omega)]; exact z6⟩
          rw [L_X3_fewestSprays_12, if_neg (by rw [e10, nle (by omega) (by omega)]; omega), hcel, Option.bind_some]
          simp (disch := omega) only [ncl, ckJ, lt_e]
          rw [show nI k + 1 = nI (k + 1) by rw [i1, nadd]]
          refine ⟨_, rfl, fun c hc => ?_, fun c i j h => by rw [u3_n (by omega)]; exact hI.2 c i j h⟩
          by_cases ec : c = k
          · rw [ec, u3_s]
          · rw [u3_n (by omega)]; exact hI.1 c (by omega)
