/-! DRAWN, the call -/
theorem nI_all (x : Int32) : ∃ v, x = nI v := by
  refine ⟨x.toBitVec.toNat, ?_⟩
  apply Int32.toBitVec_inj.mp
  apply BitVec.eq_of_toNat_eq
  show x.toBitVec.toNat = (BitVec.ofNat 32 x.toBitVec.toNat).toNat
  rw [BitVec.toNat_ofNat]
  exact (Nat.mod_eq_of_lt x.toBitVec.isLt).symm
def simD (D E : DS) : Prop := D.1 = E.1 ∧ D.2.1 = E.2.1 ∧ D.2.2.1 = E.2.2.1
theorem do_sim {W H n : Nat} {we : Nat → Nat} {t : Int32} {D E : DS} {q0 q1 q2 q3 : Int32} (h : simD D E) : (doD W H n we t D q0 q1 q2 q3 = none ∧ doD W H n we t E q0 q1 q2 q3 = none) ∨ ∃ D' E', doD W H n we t D q0 q1 q2 q3 = some D' ∧ doD W H n we t E q0 q1 q2 q3 = some E' ∧ simD D' E' := by
  obtain ⟨d1, wa, nn, r⟩ := D
  obtain ⟨e1, wb, mm, r'⟩ := E
  obtain ⟨h1, h2, h3⟩ := h
  dsimp only at h1 h2 h3
  subst h1 h2 h3
  unfold doD
  dsimp only
  by_cases h5 : q0 = 5
  · rw [if_pos h5, if_pos h5]
    by_cases z : colN wa (W * H) q1.toNatClampNeg = 0
    · rw [if_pos z, if_pos z]; exact Or.inl ⟨rfl, rfl⟩
    · rw [if_neg z, if_neg z]; exact Or.inr ⟨_, _, rfl, rfl, rfl, rfl, rfl⟩
  · rw [if_neg h5, if_neg h5]
    by_cases h6 : n ≤ q1.toNatClampNeg
    · rw [if_pos h6, if_pos h6]; exact Or.inl ⟨rfl, rfl⟩
    · rw [if_neg h6, if_neg h6]
      by_cases h0 : q0 = 0
      · rw [if_pos h0, if_pos h0]
        by_cases z : we q1.toNatClampNeg ≤ d1.2.1 q1.toNatClampNeg
        · rw [if_pos z, if_pos z]; exact Or.inl ⟨rfl, rfl⟩
        · rw [if_neg z, if_neg z]; exact Or.inr ⟨_, _, rfl, rfl, rfl, rfl, rfl⟩
      · rw [if_neg h0, if_neg h0]
        by_cases h1 : q0 = 1
        · rw [if_pos h1, if_pos h1]; exact Or.inr ⟨_, _, rfl, rfl, rfl, rfl, rfl⟩
        · rw [if_neg h1, if_neg h1]
          by_cases h2 : q0 = 2
          · rw [if_pos h2, if_pos h2]; exact Or.inr ⟨_, _, rfl, rfl, rfl, rfl, rfl⟩
          · rw [if_neg h2, if_neg h2]
            by_cases h3 : q0 = 3
            · rw [if_pos h3, if_pos h3]
              by_cases z : d1.2.2.1 q1.toNatClampNeg = q2.toNatClampNeg ∧ d1.2.2.2 q1.toNatClampNeg = q3.toNatClampNeg
              · rw [if_pos z, if_pos z]; exact Or.inl ⟨rfl, rfl⟩
              · rw [if_neg z, if_neg z]; exact Or.inr ⟨_, _, rfl, rfl, rfl, rfl, rfl⟩
            · rw [if_neg h3, if_neg h3]
              by_cases z : q2.toNatClampNeg < W ∧ q3.toNatClampNeg < H ∧ (d1.1 q1.toNatClampNeg).testBit (W * q3.toNatClampNeg + q2.toNatClampNeg) = true
              · rw [if_pos z, if_pos z]; exact Or.inr ⟨_, _, rfl, rfl, rfl, rfl, rfl⟩
              · rw [if_neg z, if_neg z]; exact Or.inl ⟨rfl, rfl⟩
def stepD (dr : Int32 → Nat → Nat) (W H n : Nat) (we : Nat → Nat) (s : DS × Int32) : DS × Int32 :=
  ((match (drQ dr n s.2).1 with
    | none => s.1
    | some q => (doD W H n we (nI 0) s.1 q.1 q.2.1 q.2.2.1 q.2.2.2).getD s.1), (drQ dr n s.2).2)
theorem stD_n {dr : Int32 → Nat → Nat} {W H n : Nat} {we : Nat → Nat} {D : DS} {s s' : Int32} (h : drQ dr n s = (none, s')) : stepD dr W H n we (D, s) = (D, s') := by
  unfold stepD
  dsimp only
  rw [h]
theorem stD_y {dr : Int32 → Nat → Nat} {W H n : Nat} {we : Nat → Nat} {D : DS} {s s' q0 q1 q2 q3 : Int32} (h : drQ dr n s = (some (q0, q1, q2, q3), s')) : stepD dr W H n we (D, s) = ((doD W H n we (nI 0) D q0 q1 q2 q3).getD D, s') := by
  unfold stepD
  dsimp only
  rw [h]
theorem c_step {dr : Int32 → Nat → Nat} (hr : HDR dr) {mi : MI} {w : WS} {W H sl n : Nat} {cu we : Nat → Nat} {D : DS} (ok : shOK W H sl n cu we) (hw : w.1 < 8) (hs : ShC mi w.1 W H sl n cu we) (hd : DC mi W H D) (hD : DOK W H we D) (h6 : mi 8 0 6 = nI 0) :
    ∃ m', (∀ f x1 x2 x3, ¬ x2 ≤ x3 → L_X9_runDrawn_7 w (f + 1) mi x1 x2 x3 = L_X9_runDrawn_7 w f m' x1 x2 (x3 + 1)) ∧ Keep mi m' ∧ DC m' W H (stepD dr W H n we (D, mi 8 0 8)).1 ∧ DOK W H we (stepD dr W H n we (D, mi 8 0 8)).1 ∧ m' 8 0 6 = nI 0 ∧ m' 8 0 8 = (stepD dr W H n we (D, mi 8 0 8)).2 := by
  have seed : ∀ s, DC (u3 mi 8 0 8 s) W H D := fun s => by
    obtain ⟨a1, a2, a3, a4, a5, a6⟩ := hd
    exact ⟨fun s hs => by rw [u3_n (by omega), u3_n (by omega), u3_n (by omega), u3_n (by omega)]; exact a1 s hs, fun c c1 c9 => by rw [u3_n (by omega)]; exact a2 c c1 c9, by rw [u3_n (by omega)]; exact a3, by rw [u3_n (by omega)]; exact a4, by rw [u3_n (by omega)]; exact a5, by rw [u3_n (by omega)]; exact a6⟩
  rcases c_drawn1 hr ok.cnt hs.cnt with ⟨s', h1, h2⟩ | ⟨q0, q1, q2, q3, s', h1, h2⟩
  · rw [stD_n h1]
    exact ⟨_, h2, keep_u3 rfl (keep_refl mi), seed s', hD, by rw [u3_n (by omega)]; exact h6, u3_s⟩
  · rw [stD_y h1]
    have hq : deedOK q0 q1 q2 q3 := drQ_ok hr ok.cnt (q := (q0, q1, q2, q3)) (by rw [h1])
    have e6 : (u3 mi 8 0 8 s') 8 0 6 = nI 0 := by rw [u3_n (by omega)]; exact h6
    have K : Keep mi (u3 mi 8 0 8 s') := keep_u3 rfl (keep_refl mi)
    have ca := c_act (w := w) ok (ShC_keep K hw hs) (seed s') hD (by rw [e6]; exact m1_ne (by omega)) hq
    rw [e6] at ca
    rcases ca with ⟨g1, g2⟩ | ⟨D', m1, g1, g2, g3, g4, g5, g6⟩
    · rw [g1]
      refine ⟨_, fun f x1 x2 x3 hx => ?_, K, seed s', hD, e6, u3_s (m := mi) (c := 8) (i := 0) (k := 8)⟩
      rw [h2 f x1 x2 x3 hx, g2, Option.bind_some]
    · rw [g1]
      refine ⟨_, fun f x1 x2 x3 hx => ?_, keep_trans K (kp_X9_act g2), g3, g4, g5.trans e6, g6.trans u3_s⟩
      rw [h2 f x1 x2 x3 hx, g2, Option.bind_some]
theorem m_step {dr : Int32 → Nat → Nat} (hr : HDR dr) {m : MI} {w : WS} {j W H sl n : Nat} {cu we : Nat → Nat} {D : DS} (ok : shOK W H sl n cu we) (hj : j < 2) (hd : DM m j W H n we D) (hD : DOK W H we D) :
    ∃ m', F_X11_drawDeed m w = some m' ∧ DM m' j W H n we (stepD dr W H n we (D, m 10 0 49)).1 ∧ DOK W H we (stepD dr W H n we (D, m 10 0 49)).1 ∧ m' 10 0 49 = (stepD dr W H n we (D, m 10 0 49)).2 := by
  have seed : ∀ s, DM (u3 m 10 0 49 s) j W H n we D := fun s => dm_of hd fun c i k h => u3_n (by omega)
  rcases m_drawn1 hr ok.cnt hd.2.1.2 with ⟨s', h1, h2⟩ | ⟨q0, q1, q2, q3, s', h1, h2⟩
  · rw [stD_n h1]
    exact ⟨_, h2, seed s', hD, u3_s⟩
  · rw [stD_y h1]
    have hq : deedOK q0 q1 q2 q3 := drQ_ok hr ok.cnt (q := (q0, q1, q2, q3)) (by rw [h1])
    rcases m_act (w := w) ok hj (seed s') hD (nI 0) hq with ⟨g1, m1, g2, g3, g4⟩ | ⟨D', m1, g1, g2, g3, g4⟩
    · rw [h2, g2, g1]
      exact ⟨_, rfl, g3, hD, (g4 10 0 49 ⟨by omega, by omega⟩).trans u3_s⟩
    · rw [h2, g2, g1]
      exact ⟨_, rfl, g3, do_ok ok hD (m1_ne (by omega)) hq g1, (g4 10 0 49 ⟨by omega, by omega⟩).trans u3_s⟩
theorem step_sim {dr : Int32 → Nat → Nat} {W H n : Nat} {we : Nat → Nat} {s t : DS × Int32} (h : simD s.1 t.1 ∧ s.2 = t.2) : simD (stepD dr W H n we s).1 (stepD dr W H n we t).1 ∧ (stepD dr W H n we s).2 = (stepD dr W H n we t).2 := by
  obtain ⟨D, a⟩ := s
  obtain ⟨E, b⟩ := t
  obtain ⟨h1, h2⟩ := h
  dsimp only at h1 h2
  subst h2
  cases hq : drQ dr n a with
  | mk o s' =>
    cases o with
    | none =>
      rw [stD_n hq, stD_n hq]
      exact ⟨h1, rfl⟩
    | some q =>
      obtain ⟨q0, q1, q2, q3⟩ := q
      rw [stD_y hq, stD_y hq]
      refine ⟨?_, rfl⟩
      rcases do_sim (W := W) (H := H) (n := n) (we := we) (t := nI 0) (q0 := q0) (q1 := q1) (q2 := q2) (q3 := q3) h1 with ⟨g1, g2⟩ | ⟨D', E', g1, g2, g3⟩
      · rw [g1, g2]; exact h1
      · rw [g1, g2]; exact g3
theorem op_drawn {mi : MI} {w : WS} (I : Inv mi w) (x1 : Int32) (x2 : Int32) (x3 : Int32) (x4 : Int32) : ∃ c, F_X10_drawn mi w x1 x2 x3 x4 = some c ∧ ∃ e, F_X11_drawn c.2.1 c.2.2 x1 x2 x3 x4 = some e ∧ c.1 = e.1 ∧ Inv e.2 c.2.2 ∧ c.2.2.2.2.1 = w.2.2.1 := by
  obtain ⟨dr, hr⟩ := hdr_ex
  have e60 : (60 : Int32) = nI 60 := rfl
  have hx : (∃ N, N ≤ 60 ∧ x3 = nI N) ∨ ((x3 < 0 ∨ ¬ x3 ≤ 60) ∧ ¬ (¬ (x3 < 0) ∧ (¬ (60 < x3)))) := by
    by_cases h0 : x3 < 0
    · exact Or.inr ⟨Or.inl h0, fun q => q.1 h0⟩
    · obtain ⟨N, hN2, rfl⟩ := nI_of h0
      by_cases hN : N ≤ 60
      · exact Or.inl ⟨N, hN, rfl⟩
      · refine Or.inr ⟨Or.inr ?_, fun q => q.2 ?_⟩
        · rw [e60, nle (by omega) (by omega)]; exact hN
        · rw [e60, nlt (by omega) (by omega)]; omega
  rcases shop_at I x1 with ⟨h1, h2⟩ | ⟨j, ⟨hj, rfl⟩, h1, W, H, sl, n, cu, we, ok, hc, h2⟩
  · have hcls : F_X10_drawn mi w x1 x2 x3 x4 = some (-1, mi, w) := by
      unfold F_X10_drawn
      rw [h1, Option.bind_some, onO_n]
    have hmod : ∃ m', F_X11_drawn mi w x1 x2 x3 x4 = some (-1, m') := by
      unfold F_X11_drawn
      rcases hx with ⟨N, hN, rfl⟩ | ⟨-, hx⟩
      · rw [if_pos ⟨nI_pos (by omega), by rw [e60, nlt (by omega) (by omega)]; omega⟩, h2 _ w (keep_c mi), Option.bind_some, if_pos rfl]
        exact ⟨_, rfl⟩
      · rw [if_neg hx]
        exact ⟨_, rfl⟩
    obtain ⟨m', hmod⟩ := hmod
    exact ⟨_, hcls, _, hmod, rfl, Inv_m I (kp_X11_drawn hmod), rfl⟩
  · rcases hx with ⟨N, hN, rfl⟩ | ⟨hx1, hx2⟩
    · obtain ⟨mb, b1, b4, b3⟩ := c_begin (w := w) hc
      have Kb : Keep mi mb := kp_X9_begin b1
      have Ks : Keep mi (u3 mb 8 0 8 x2) := keep_u3 rfl Kb
      have key := lp_inv (L := fun f m k => L_X9_runDrawn_7 (j, w.2) f m x2 (nI N) (nI k)) (N := N) (post := fun m => some m) (fun k m => Keep mi m ∧ DC m W H (foldN (fun _ s => stepD dr W H n we s) (D0 cu, x2) k).1 ∧ DOK W H we (foldN (fun _ s => stepD dr W H n we s) (D0 cu, x2) k).1 ∧ m 8 0 6 = nI 0 ∧ m 8 0 8 = (foldN (fun _ s => stepD dr W H n we s) (D0 cu, x2) k).2) (fun f m hI => ?_) (fun f k m hk hI => ?_) (F := 1000000) (by omega) (u3 mb 8 0 8 x2) ⟨Ks, ?_, dok_0 ok, by rw [u3_n (by omega)]; exact b3, u3_s⟩
      · obtain ⟨mr, ⟨Kr, r2, r3, r4, r5⟩, r6⟩ := key
        have hcr : ShC mr j W H sl n cu we := ShC_keep Kr (by omega) hc
        have hrun : F_X9_runDrawn mb (j, w.2) x2 (nI N) = some mr := r6
        obtain ⟨m1, l1, l2, l3⟩ := h2 (u3 mr 10 0 0 0) (j, w.2) (keep_u3 rfl Kr)
        obtain ⟨ov, hov⟩ := nI_all (m1 10 0 36)
        obtain ⟨wd, hwd⟩ := nI_all (m1 10 0 37)
        have dm1 : DM (u3 m1 10 0 49 x2) j W H n we ((cu, fun _ => 0, fun _ => 0, fun _ => 0), fun _ => 0, 0, ov, wd, if ov = 0 then (-1 : Int32) else 0) := by
          refine dm_of (m := m1) ⟨l2.1, ⟨l2.2.1.1, l2.2.1.2.1⟩, fun s hs => l2.2.2.1 s hs, fun c hcl => l2.2.2.2.1 c (Nat.lt_of_lt_of_le hcl ok.cells), ⟨l2.2.1.2.2, hov, hwd⟩, l2.2.2.2.2.2⟩ fun c i k h => u3_n (by omega)
        have dk1 : DOK W H we ((cu, fun _ => 0, fun _ => 0, fun _ => 0), fun _ => 0, 0, ov, wd, if ov = 0 then (-1 : Int32) else 0) := by
          refine ⟨(dok_0 ok).1, fun _ => Nat.zero_le _, ?_⟩
          show (if ov = 0 then (-1 : Int32) else 0) = -1 ↔ ov = 0
          by_cases z : ov = 0
          · rw [if_pos z]; exact ⟨fun _ => z, fun _ => rfl⟩
          · rw [if_neg z]; exact ⟨fun y => absurd y (by decide), fun y => absurd y z⟩
        have key2 := lp_inv (L := fun f m k => L_X11_drawn_33 (j, w.2) f m (nI j) x2 (nI N) x4 (nI k)) (N := N) (post := fun m => (F_X11_ofState m (j, w.2) x4).bind fun c286 => some (c286, m)) (fun k m => DM m j W H n we (foldN (fun _ s => stepD dr W H n we s) (((cu, fun _ => 0, fun _ => 0, fun _ => 0), fun _ => 0, 0, ov, wd, if ov = 0 then (-1 : Int32) else 0), x2) k).1 ∧ DOK W H we (foldN (fun _ s => stepD dr W H n we s) (((cu, fun _ => 0, fun _ => 0, fun _ => 0), fun _ => 0, 0, ov, wd, if ov = 0 then (-1 : Int32) else 0), x2) k).1 ∧ m 10 0 49 = (foldN (fun _ s => stepD dr W H n we s) (((cu, fun _ => 0, fun _ => 0, fun _ => 0), fun _ => 0, 0, ov, wd, if ov = 0 then (-1 : Int32) else 0), x2) k).2) (fun f m hI => ?_) (fun f k m hk hI => ?_) (F := 1000000) (by omega) (u3 m1 10 0 49 x2) ⟨dm1, dk1, u3_s⟩
        · obtain ⟨mp, ⟨p1, p2, p3⟩, p4⟩ := key2
          have sim : simD (foldN (fun _ s => stepD dr W H n we s) (D0 cu, x2) N).1 (foldN (fun _ s => stepD dr W H n we s) (((cu, fun _ => 0, fun _ => 0, fun _ => 0), fun _ => 0, 0, ov, wd, if ov = 0 then (-1 : Int32) else 0), x2) N).1 := (foldN_rel (f := fun _ s => stepD dr W H n we s) (g := fun _ s => stepD dr W H n we s) (R := fun s t => simD s.1 t.1 ∧ s.2 = t.2) (n := N) (a := (D0 cu, x2)) (b := (((cu, fun _ => 0, fun _ => 0, fun _ => 0), fun _ => 0, 0, ov, wd, if ov = 0 then (-1 : Int32) else 0), x2)) ⟨⟨rfl, rfl, rfl⟩, rfl⟩ fun k s t _ h => step_sim h).1
          generalize (foldN (fun _ s => stepD dr W H n we s) (D0 cu, x2) N).1 = A at *
          generalize (foldN (fun _ s => stepD dr W H n we s) (((cu, fun _ => 0, fun _ => 0, fun _ => 0), fun _ => 0, 0, ov, wd, if ov = 0 then (-1 : Int32) else 0), x2) N).1 = B at *
          obtain ⟨d1, wa, nn, r⟩ := A
          obtain ⟨e1, wb, mm, r'⟩ := B
          obtain ⟨s1, s2, s3⟩ := sim
          dsimp only at s1 s2 s3
          subst s1 s2 s3
          obtain ⟨v, t1, t2⟩ := tell_eq (w := (j, w.2)) (w' := (j, w.2)) ok hcr r2 p1 r3 p2 x4
          have hcls : F_X10_drawn mi w (nI j) x2 (nI N) x4 = some (v, mr, (j, w.2)) := by
            unfold F_X10_drawn
            rw [h1, Option.bind_some, onO_s, if_neg (nI_pos (by omega)), if_pos (by rw [e60, nle (by omega) (by omega)]; exact hN), b1, Option.bind_some]
            dsimp only
            rw [hrun, Option.bind_some, t1, Option.bind_some]
          have hmod : F_X11_drawn mr (j, w.2) (nI j) x2 (nI N) x4 = some (v, mp) := by
            unfold F_X11_drawn
            rw [if_pos ⟨nI_pos (by omega), by rw [e60, nlt (by omega) (by omega)]; omega⟩, l1, Option.bind_some, if_neg ne10]
            dsimp only
            have p4' : L_X11_drawn_33 (j, w.2) 1000000 (u3 m1 10 0 49 x2) (nI j) x2 (nI N) x4 0 = (F_X11_ofState mp (j, w.2) x4).bind fun c286 => some (c286, mp) := p4
            rw [p4', t2, Option.bind_some]
          exact ⟨_, hcls, _, hmod, rfl, Inv_keep (keep_trans Kr (kp_X11_drawn hmod)) rfl I, rfl⟩
        · show L_X11_drawn_33 (j, w.2) (f + 1) m (nI j) x2 (nI N) x4 (nI N) = _
          rw [L_X11_drawn_33, if_pos (by rw [nle (by omega) (by omega)]; omega)]
        · show ∃ s', L_X11_drawn_33 (j, w.2) (f + 1) m (nI j) x2 (nI N) x4 (nI k) = L_X11_drawn_33 (j, w.2) f s' (nI j) x2 (nI N) x4 (nI (k + 1)) ∧ _
          obtain ⟨g1, g2, g3⟩ := hI
          obtain ⟨m', f1, f2, f3, f4⟩ := m_step (w := (j, w.2)) hr ok (by omega) g1 g2
          rw [g3] at f2 f3 f4
          refine ⟨m', ?_, f2, f3, f4⟩
          rw [L_X11_drawn_33, if_neg (by rw [nle (by omega) (by omega)]; omega), f1, Option.bind_some, i1, nadd]
      · show L_X9_runDrawn_7 (j, w.2) (f + 1) m x2 (nI N) (nI N) = _
        rw [L_X9_runDrawn_7, if_pos (by rw [nle (by omega) (by omega)]; omega)]
      · show ∃ s', L_X9_runDrawn_7 (j, w.2) (f + 1) m x2 (nI N) (nI k) = L_X9_runDrawn_7 (j, w.2) f s' x2 (nI N) (nI (k + 1)) ∧ _
        obtain ⟨g0, g1, g2, g3, g4⟩ := hI
        obtain ⟨m', f1, f0, f2, f3, f4, f5⟩ := c_step (w := (j, w.2)) hr ok (show j < 8 by omega) (ShC_keep g0 (by omega) hc) g1 g2 g3
        rw [g4] at f2 f3 f5
        refine ⟨m', ?_, keep_trans g0 f0, f2, f3, f4, f5⟩
        rw [f1 f x2 (nI N) (nI k) (by rw [nle (by omega) (by omega)]; omega), i1, nadd]
      · obtain ⟨a1, a2, a3, a4, a5, a6⟩ := b4
        exact ⟨fun s hs => by rw [u3_n (by omega), u3_n (by omega), u3_n (by omega), u3_n (by omega)]; exact a1 s hs, fun c c1 c9 => by rw [u3_n (by omega)]; exact a2 c c1 c9, by rw [u3_n (by omega)]; exact a3, by rw [u3_n (by omega)]; exact a4, by rw [u3_n (by omega)]; exact a5, by rw [u3_n (by omega)]; exact a6⟩
    · have hcls : F_X10_drawn mi w (nI j) x2 x3 x4 = some (-1, mi, w) := by
        unfold F_X10_drawn
        rw [h1, Option.bind_some, onO_s]
        rcases hx1 with h | h
        · rw [if_pos h]
        · by_cases h0 : x3 < 0
          · rw [if_pos h0]
          · rw [if_neg h0, if_neg h]
      have hmod : F_X11_drawn mi w (nI j) x2 x3 x4 = some (-1, u3 mi 10 0 0 0) := by
        unfold F_X11_drawn
        rw [if_neg hx2]
      exact ⟨_, hcls, _, hmod, rfl, Inv_m I (kp_X11_drawn hmod), rfl⟩
