/-! TEXT: the call, on both sides -/
theorem ok_k {s c p : Nat} (h : okS s c p) : c = 0 ∨ c = 1 ∨ c = 5 ∨ (26 ≤ c ∧ c ≤ 33) := by
  unfold okS at h
  omega
theorem op_text {mi : MI} {w : WS} (I : Inv mi w) (x1 : Int32) (x2 : Int32) : ∃ c, F_X10_text mi w x1 x2 = some c ∧ ∃ e, F_X11_text c.2.1 c.2.2 x1 x2 = some e ∧ c.1 = e.1 ∧ Inv e.2.1 e.2.2 ∧ e.2.2.2.2.1 = w.2.2.1 := by
  obtain ⟨⟨n, v1, v2, v3, v4⟩, -, cn, v7, v8, v9, v10, v11⟩ := id I.1
  have hcn : ∀ s, s < 4 → cn s ≤ 2 := fun s hs => (v7 s hs).1
  have c21 : ∀ s, s < 4 → mi 21 0 s = nI (cn s) := fun s hs => (v7 s hs).2.1
  have c54 : ∀ s, s < 4 → mi 54 0 s = nI (cn s) := fun s hs => by
    have := (v7 s hs).2.2
    rw [Nat.mul_zero, Nat.zero_add] at this
    exact this
  have o0 : ∀ j, j < cn 0 → ShR mi j (40 * j) := fun j hj => by simpa only [Nat.mul_zero, Nat.zero_add] using v8 j hj
  have o1 : ∀ j, j < cn 1 → DayR mi j (161 * j) := fun j hj => by simpa only [Nat.mul_zero, Nat.zero_add] using v9 j hj
  have o2 : ∀ j, j < cn 2 → PicR mi j (26 * j) := fun j hj => by simpa only [Nat.mul_zero, Nat.zero_add] using v10 j hj
  have o3 : ∀ j, j < cn 3 → MarkR mi j (33 * j) := fun j hj => by simpa only [Nat.mul_zero, Nat.zero_add] using v11 j hj
  have v4' : ∀ k, k < n → mi 20 0 k = mi 50 0 k &&& 255 := fun k hk => by simpa only [Nat.mul_zero, Nat.zero_add] using v4 k hk
  have hby : ∀ k, mi 50 0 k &&& 255 = nI ((mi 50 0 k &&& 255).toNatClampNeg) ∧ (mi 50 0 k &&& 255).toNatClampNeg < 256 := by
    intro k
    obtain ⟨j, hj, e⟩ := pk_andE (mi 50 0 k) (m := 255) 8 (by decide)
    have hj' : j < 256 := hj
    rw [e, ncl (by omega)]
    exact ⟨rfl, hj'⟩
  obtain ⟨b, hb⟩ : ∃ b : Nat → Nat, ∀ k, mi 50 0 k &&& 255 = nI (b k) ∧ b k < 256 := ⟨fun k => (mi 50 0 k &&& 255).toNatClampNeg, hby⟩
  -- no new object
  have none9 : ∀ mF : MI, (∀ c i j, ((c = 0 ∨ c = 1 ∨ c = 5 ∨ (26 ≤ c ∧ c ≤ 33)) ∧ i < 2) ∨ (54 ≤ c ∧ c ≤ 58 ∧ i = 0) ∨ (c = 21 ∧ i = 0) → mF c i j = mi c i j) → mF 7 0 1 = 0 → mF 51 0 0 = 0 → mF 52 0 0 = mF 7 0 2 → mF 53 0 0 = mF 7 0 3 → VRel mF 0 := by
    intro mF fr h7 h51 h52 h53
    obtain ⟨q0, q1, q2, q3⟩ := objs (mi := mi) (mF := mF) (cn := cn) (cn' := cn) (s := 9) (k := 9) (fun c i j h _ _ => fr c i j (by omega)) (fun t ht => ⟨hcn t ht, hcn t ht⟩) (fun t ht j hj => Or.inr ⟨fun z => by omega, hj⟩) o0 o1 o2 o3 (fun z => absurd z (by decide)) (fun z => absurd z (by decide)) (fun z => absurd z (by decide)) (fun z => absurd z (by decide))
    exact VR_gen h7 h51 h52 h53 (fun t ht => ⟨hcn t ht, by rw [fr _ _ _ (by omega)]; exact c21 t ht, by rw [fr _ _ _ (by omega)]; exact c54 t ht⟩) q0 q1 q2 q3
  rcases tx_place hcn x1 x2 with ⟨s, k, hs, rfl, hk, hx, pc, pm⟩ | ⟨pc, pm⟩
  · have hC0 : cc0 mi 21 0 s = nI (cn s) := by rw [cc0_f (by omega)]; exact c21 s hs
    have eq : F_X10_text mi w (nI s) x2 = (F_X5_read (cc0 mi) w (nI n) (nI s)).bind fun c158 => if (c158.1 4 0 4) = 0 then (F_X8_take c158.1 c158.2 0 (nI s) x2).bind fun c159 => some (c159.1, c159.2, c158.2) else some ((-1 : Int32), u3 (u3 c158.1 7 0 2 (c158.1 4 0 4)) 7 0 3 ((u3 c158.1 7 0 2 (c158.1 4 0 4)) 4 0 5), c158.2) := by
      unfold F_X10_text
      rw [lt_e, v2]
      refine (congrArg (fun o => Option.bind o _) (pc (cc0 mi) w hC0)).trans ?_
      rw [Option.bind_some, if_neg (show ¬ (1 : Int32) = 0 by decide)]
      rfl
    have tapeC : ∀ k, k < n → cc0 mi 20 0 k = nI (b k) ∧ b k < 256 := fun k hk => by rw [cc0_f (by omega), v4' k hk]; exact hb k
    have run : ∀ (mM : MI) (wM : WS), (∀ k, mM 50 0 k = mi 50 0 k) → mM 51 0 0 = mi 51 0 0 → ∃ c r, F_X5_read (cc0 mi) w (nI n) (nI s) = some c ∧ F_X11_readText (mm0 mM) wM (nI s) = some r ∧ rnO s (cc0 mi) (mm0 mM) w wM c r := fun mM wM h50 h51 => tx_run hs v1 tapeC (fun k hk => by rw [mm0_f (by omega) (by omega) (by omega) (by omega), h50]; exact hb k) (by rw [mm0_v.1, h51]; exact v3)
    obtain ⟨⟨cm, cw⟩, r0, e1, -, p1⟩ := run mi w (fun _ => rfl) rfl
    rw [eq, e1, Option.bind_some]
    obtain ⟨w1, -, fC, -, -⟩ := p1
    have w1' : cw = (w.1, true, w.2.2) := w1
    have fC' : clF (cc0 mi) cm := fC
    dsimp only
    by_cases hz : cm 4 0 4 = 0
    · rw [if_pos hz]
      have h21 : cm 21 0 s = nI (cn s) := by rw [fC' _ _ _ (by omega) (by omega) (by omega) (by omega) (by omega)]; exact hC0
      obtain ⟨m1, t1, t2, t3, t4⟩ := c_took (w := cw) hs (hcn s hs) h21 hk hx
      rw [t1, Option.bind_some]
      refine ⟨_, rfl, ?_⟩
      dsimp only
      have f1 : ∀ c i j, ¬ (i = k ∧ okS s c j) → ¬ (c = 21 ∧ i = 0) → ¬ c = 4 → ¬ c = 6 → ¬ c = 34 → ¬ c = 35 → ¬ (i = 8 ∧ (c = 0 ∨ c = 1 ∨ c = 5 ∨ (26 ≤ c ∧ c ≤ 33))) → ¬ (c = 7 ∧ i = 0) → m1 c i j = mi c i j := fun c i j z1 z2 z3 z4 z5 z6 z7 z8 => by
        rw [t4 _ _ _ z1 (fun y => z2 ⟨y.1, y.2.1⟩), fC' _ _ _ (fun y => z3 y.1) (fun y => z4 y.1) (fun y => z6 y.1) (fun y => z5 y.1) z7, cc0_f z8]
      have f1m : ∀ c i j, 50 ≤ c → m1 c i j = mi c i j := fun c i j hc => f1 c i j (fun z => by have := ok_k z.2; omega) (by omega) (by omega) (by omega) (by omega) (by omega) (by omega) (by omega)
      obtain ⟨c', ⟨r1, rm, rw1⟩, e2, e3, p2⟩ := run m1 cw (fun k => f1m _ _ _ (by omega)) (f1m _ _ _ (by omega))
      have ec : c' = (cm, cw) := (Option.some.inj (e1.symm.trans e2)).symm
      subst ec
      have h54 : m1 54 0 s = nI (cn s) := by rw [f1m _ _ _ (by omega)]; exact c54 s hs
      rw [pm m1 cw h54, e3, Option.bind_some]
      obtain ⟨-, w2, -, fM, alt⟩ := p2
      have w2' : rw1.2.2.1 = cw.2.2.1 := w2
      have fM' : ∀ c' i j, ¬ (c' = 10 ∧ i = 0) → ¬ (c' = 59 ∧ i = 0) → ¬ (c' = 60 ∧ i = 0) → ¬ (c' = 52 ∧ i = 0 ∧ j = 0) → ¬ (c' = 53 ∧ i = 0 ∧ j = 0) → rm c' i j = mm0 m1 c' i j := fM
      rcases alt with ⟨a, -⟩ | ⟨-, ra, r52, r53, dn⟩
      · exact absurd hz a
      · have ra' : r1 = 1 := ra
        have r52' : rm 52 0 0 = 0 := r52
        have r53' : rm 53 0 0 = -1 := r53
        have dn' : dnS s cm rm := dn
        subst ra'
        have h54r : rm 54 0 s = nI (cn s) := by rw [fM' _ _ _ (by omega) (by omega) (by omega) (by omega) (by omega), mm0_f (by omega) (by omega) (by omega) (by omega)]; exact h54
        obtain ⟨m2, u1, u2', u3', u4⟩ := m_took (w := rw1) hs (hcn s hs) h54r hk hx
        rw [u1]
        have ch : ∀ c i j, ¬ (c = 54 ∧ i = 0 ∧ j = s) → ¬ (c = 55 + s ∧ i = 0 ∧ wdS s * k ≤ j ∧ j < wdS s * k + wdS s) → ¬ c = 10 → ¬ c = 59 → ¬ c = 60 → ¬ (c = 51 ∧ i = 0 ∧ j = 0) → ¬ (c = 52 ∧ i = 0 ∧ j = 0) → ¬ (c = 53 ∧ i = 0 ∧ j = 0) → m2 c i j = m1 c i j := fun c i j z1 z2 z3 z4 z5 z6 z7 z8 => by
          rw [u4 _ _ _ z1 z2, fM' _ _ _ (fun y => z3 y.1) (fun y => z4 y.1) (fun y => z5 y.1) z7 z8, mm0_f (fun y => z3 y.1) z6 z7 z8]
        have ch7 : ∀ j, m2 7 0 j = cc0 mi 7 0 j := fun j => by
          rw [ch _ _ _ (by omega) (by omega) (by omega) (by omega) (by omega) (by omega) (by omega) (by omega), t4 _ _ _ (fun z => by have := ok_k z.2; omega) (by omega), fC' _ _ _ (by omega) (by omega) (by omega) (by omega) (by omega)]
        have k51 : m2 51 0 0 = 0 := by
          rw [u4 _ _ _ (by omega) (by omega), fM' _ _ _ (by omega) (by omega) (by omega) (by omega) (by omega)]; exact mm0_v.2.1
        have k52 : m2 52 0 0 = m2 7 0 2 := by
          rw [u4 _ _ _ (by omega) (by omega), r52', ch7]; exact cc0_v.2.1.symm
        have k53 : m2 53 0 0 = m2 7 0 3 := by
          rw [u4 _ _ _ (by omega) (by omega), r53', ch7]; exact cc0_v.2.2.symm
        have hcn' : ∀ t, t < 4 → cn t ≤ 2 ∧ (if t = s then ncT x2 (cn s) else cn t) ≤ 2 := fun t ht => by
          refine ⟨hcn t ht, ?_⟩
          by_cases e : t = s
          · rw [if_pos e]
            unfold ncT
            rcases hx with ⟨z1, z2⟩ | ⟨z1, z2⟩
            · rw [if_pos z1]; omega
            · rw [z1, if_neg (nI_m1 (by omega))]; exact hcn s hs
          · rw [if_neg e]; exact hcn t ht
        have hold : ∀ t, t < 4 → ∀ j, j < (if t = s then ncT x2 (cn s) else cn t) → (t = s ∧ j = k) ∨ (¬ (t = s ∧ j = k) ∧ j < cn t) := fun t ht j hj => by
          by_cases e : t = s
          · rw [if_pos e] at hj
            unfold ncT at hj
            subst e
            rcases hx with ⟨z1, z2⟩ | ⟨z1, z2⟩
            · rw [if_pos z1] at hj
              by_cases ej : j = k
              · exact Or.inl ⟨rfl, ej⟩
              · exact Or.inr ⟨fun y => ej y.2, by omega⟩
            · rw [z1, if_neg (nI_m1 (by omega))] at hj
              by_cases ej : j = k
              · exact Or.inl ⟨rfl, ej⟩
              · exact Or.inr ⟨fun y => ej y.2, hj⟩
          · rw [if_neg e] at hj
            exact Or.inr ⟨fun y => e y.1, hj⟩
        obtain ⟨n0, n1, n2, n3⟩ := new_obj (mC := cm) (mM := rm) (mF := m2) (s := s) (k := k) dn' (fun c p z => by
          have := ok_k z
          rw [ch _ _ _ (by omega) (by omega) (by omega) (by omega) (by omega) (by omega) (by omega) (by omega)]
          exact t2 c p z) u3'
        obtain ⟨q0, q1, q2, q3⟩ := objs (mi := mi) (mF := m2) (cn := cn) (cn' := fun t => if t = s then ncT x2 (cn s) else cn t) (s := s) (k := k) (fun c i j h z1 z2 => by
          rw [ch _ _ _ (by omega) z2 (by omega) (by omega) (by omega) (by omega) (by omega) (by omega)]
          exact f1 _ _ _ z1 (by omega) (by omega) (by omega) (by omega) (by omega) (by omega) (by omega)) hcn' hold o0 o1 o2 o3 (fun z _ => n0 z) (fun z _ => n1 z) (fun z _ => n2 z) (fun z _ => n3 z)
        have V : VRel m2 0 := VR_gen (by rw [ch7]; exact cc0_v.1) k51 k52 k53 (fun t ht => by
          refine ⟨(hcn' t ht).2, ?_, ?_⟩
          · by_cases e : t = s
            · subst e
              rw [if_pos rfl, ch _ _ _ (by omega) (by omega) (by omega) (by omega) (by omega) (by omega) (by omega) (by omega)]; exact t3
            · rw [if_neg e, ch _ _ _ (by omega) (by omega) (by omega) (by omega) (by omega) (by omega) (by omega) (by omega), t4 _ _ _ (fun z => by have := ok_k z.2; omega) (by omega), fC' _ _ _ (by omega) (by omega) (by omega) (by omega) (by omega), cc0_f (by omega)]; exact c21 t ht
          · by_cases e : t = s
            · subst e
              rw [if_pos rfl]; exact u2'
            · rw [if_neg e, ch _ _ _ (by omega) (by omega) (by omega) (by omega) (by omega) (by omega) (by omega) (by omega), f1m _ _ _ (by omega)]; exact c54 t ht) q0 q1 q2 q3
        have hw : rw1.2.2.1 = w.2.2.1 := by rw [w2', w1']
        refine ⟨_, rfl, rfl, Inv_0 (mi := mi) (w := w) (fun c i j h1 h2 => ?_) (fun j hj => ?_) hw I V, hw⟩
        · obtain ⟨⟨x1, x2', x3, x4, x5⟩, ⟨x6, x7, x8⟩, x9, x10, ⟨x11, x12, x13, x14⟩, x15, x16⟩ := vx (s := s) (k := k) hs hk ⟨h1, h2⟩
          exact (ch c i j x1 x2' x3 x4 x5 x6 x7 x8).trans (f1 c i j x9 x10 x11 x12 x13 x14 x15 x16)
        · exact (ch _ _ _ (by omega) (by omega) (by omega) (by omega) (by omega) (by omega) (by omega) (by omega)).trans (f1m _ _ _ (by omega))
    · rw [if_neg hz]
      refine ⟨_, rfl, ?_⟩
      dsimp only
      have f0 : ∀ c i j, ¬ (c = 7 ∧ i = 0) → u3 (u3 cm 7 0 2 (cm 4 0 4)) 7 0 3 (u3 cm 7 0 2 (cm 4 0 4) 4 0 5) c i j = cm c i j := fun c i j z => by rw [u3_n (by omega), u3_n (by omega)]
      have f71 : u3 (u3 cm 7 0 2 (cm 4 0 4)) 7 0 3 (u3 cm 7 0 2 (cm 4 0 4) 4 0 5) 7 0 1 = 0 := by rw [u3_n (by omega), u3_n (by omega), fC' _ _ _ (by omega) (by omega) (by omega) (by omega) (by omega)]; exact cc0_v.1
      have f72 : u3 (u3 cm 7 0 2 (cm 4 0 4)) 7 0 3 (u3 cm 7 0 2 (cm 4 0 4) 4 0 5) 7 0 2 = cm 4 0 4 := by rw [u3_n (by omega), u3_s]
      have f73 : u3 (u3 cm 7 0 2 (cm 4 0 4)) 7 0 3 (u3 cm 7 0 2 (cm 4 0 4) 4 0 5) 7 0 3 = cm 4 0 5 := by rw [u3_s, u3_n (by omega)]
      generalize u3 (u3 cm 7 0 2 (cm 4 0 4)) 7 0 3 (u3 cm 7 0 2 (cm 4 0 4) 4 0 5) = m1 at *
      have f1 : ∀ c i j, ¬ c = 4 → ¬ c = 6 → ¬ c = 34 → ¬ c = 35 → ¬ (i = 8 ∧ (c = 0 ∨ c = 1 ∨ c = 5 ∨ (26 ≤ c ∧ c ≤ 33))) → ¬ (c = 7 ∧ i = 0) → m1 c i j = mi c i j := fun c i j z3 z4 z5 z6 z7 z8 => by
        rw [f0 _ _ _ z8, fC' _ _ _ (fun y => z3 y.1) (fun y => z4 y.1) (fun y => z6 y.1) (fun y => z5 y.1) z7, cc0_f z8]
      have f1m : ∀ c i j, 50 ≤ c → m1 c i j = mi c i j := fun c i j hc => f1 c i j (by omega) (by omega) (by omega) (by omega) (by omega) (by omega)
      obtain ⟨c', ⟨r1, rm, rw1⟩, e2, e3, p2⟩ := run m1 cw (fun k => f1m _ _ _ (by omega)) (f1m _ _ _ (by omega))
      have ec : c' = (cm, cw) := (Option.some.inj (e1.symm.trans e2)).symm
      subst ec
      have h54 : m1 54 0 s = nI (cn s) := by rw [f1m _ _ _ (by omega)]; exact c54 s hs
      rw [pm m1 cw h54, e3, Option.bind_some]
      obtain ⟨-, w2, -, fM, alt⟩ := p2
      have w2' : rw1.2.2.1 = cw.2.2.1 := w2
      have fM' : ∀ c' i j, ¬ (c' = 10 ∧ i = 0) → ¬ (c' = 59 ∧ i = 0) → ¬ (c' = 60 ∧ i = 0) → ¬ (c' = 52 ∧ i = 0 ∧ j = 0) → ¬ (c' = 53 ∧ i = 0 ∧ j = 0) → rm c' i j = mm0 m1 c' i j := fM
      rcases alt with ⟨-, ra, r52, r53⟩ | ⟨a, -⟩
      · have ra' : r1 = 0 := ra
        have r52' : rm 52 0 0 = cm 4 0 4 := r52
        have r53' : rm 53 0 0 = cm 4 0 5 := r53
        subst ra'
        have eT : txT (nI s) x2 (0, rm, rw1) = some (-1, rm, rw1) := if_pos rfl
        rw [eT]
        have ch : ∀ c i j, ¬ c = 10 → ¬ c = 59 → ¬ c = 60 → ¬ (c = 51 ∧ i = 0 ∧ j = 0) → ¬ (c = 52 ∧ i = 0 ∧ j = 0) → ¬ (c = 53 ∧ i = 0 ∧ j = 0) → rm c i j = m1 c i j := fun c i j z3 z4 z5 z6 z7 z8 => by
          rw [fM' _ _ _ (fun y => z3 y.1) (fun y => z4 y.1) (fun y => z5 y.1) z7 z8, mm0_f (fun y => z3 y.1) z6 z7 z8]
        have k7 : ∀ j, rm 7 0 j = m1 7 0 j := fun j => ch _ _ _ (by omega) (by omega) (by omega) (by omega) (by omega) (by omega)
        have k51 : rm 51 0 0 = 0 := by
          rw [fM' _ _ _ (by omega) (by omega) (by omega) (by omega) (by omega)]; exact mm0_v.2.1
        have V : VRel rm 0 := none9 rm (fun c i j h => (ch c i j (by omega) (by omega) (by omega) (by omega) (by omega) (by omega)).trans (f1 c i j (by omega) (by omega) (by omega) (by omega) (by omega) (by omega))) (by rw [k7]; exact f71) k51 (by rw [k7, f72]; exact r52') (by rw [k7, f73]; exact r53')
        have hw : rw1.2.2.1 = w.2.2.1 := by rw [w2', w1']
        refine ⟨_, rfl, rfl, Inv_0 (mi := mi) (w := w) (fun c i j h1 h2 => ?_) (fun j hj => ?_) hw I V, hw⟩
        · obtain ⟨⟨x1, x2', x3, x4, x5⟩, ⟨x6, x7, x8⟩, x9, x10, ⟨x11, x12, x13, x14⟩, x15, x16⟩ := vx (s := s) (k := k) hs hk ⟨h1, h2⟩
          exact (ch c i j x3 x4 x5 x6 x7 x8).trans (f1 c i j x11 x12 x13 x14 x15 x16)
        · exact (ch _ _ _ (by omega) (by omega) (by omega) (by omega) (by omega) (by omega)).trans (f1m _ _ _ (by omega))
      · exact absurd a hz
  · have eq : F_X10_text mi w x1 x2 = some (-2, cc0 mi, w) := by
      unfold F_X10_text
      rw [lt_e]
      refine (congrArg (fun o => Option.bind o _) (pc (cc0 mi) w (fun s hs => by rw [cc0_f (by omega)]; exact c21 s hs))).trans ?_
      rw [Option.bind_some]
      exact (if_pos rfl).trans rfl
    refine ⟨_, eq, ?_⟩
    dsimp only
    refine ⟨_, pm (cc0 mi) w (fun s hs => by rw [cc0_f (by omega)]; exact c54 s hs), rfl, ?_, rfl⟩
    have k7 : ∀ j, mm0 (cc0 mi) 7 0 j = cc0 mi 7 0 j := fun j => mm0_f (by omega) (by omega) (by omega) (by omega)
    have V : VRel (mm0 (cc0 mi)) 0 := none9 _ (fun c i j h => by rw [mm0_f (by omega) (by omega) (by omega) (by omega), cc0_f (by omega)]) (by rw [k7]; exact cc0_v.1) mm0_v.2.1 (by rw [k7, mm0_v.2.2.1]; exact cc0_v.2.1.symm) (by rw [k7, mm0_v.2.2.2]; exact cc0_v.2.2.symm)
    refine Inv_0 (mi := mi) (w := w) (fun c i j h1 h2 => ?_) (fun j hj => ?_) rfl I V
    · obtain ⟨⟨x1, x2', x3, x4, x5⟩, ⟨x6, x7, x8⟩, x9, x10, ⟨x11, x12, x13, x14⟩, x15, x16⟩ := vx (s := 0) (k := 0) (by omega) (by omega) ⟨h1, h2⟩
      exact (mm0_f (fun z => x3 z.1) x6 x7 x8).trans (cc0_f x16)
    · exact (mm0_f (m := cc0 mi) (c := 72) (i := 0) (j := j) (by omega) (by omega) (by omega) (by omega)).trans (cc0_f (m := mi) (c := 72) (i := 0) (j := j) (by omega))
