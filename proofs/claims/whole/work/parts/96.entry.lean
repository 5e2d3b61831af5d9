/-! THE LAW FROM ITS ENTRY: both objects are made, the loop goes on -/
def hn : PL := [(7, 0), (20, 0), (21, 0), (22, 0), (23, 0), (24, 0), (25, 0), (5, 0), (26, 0), (27, 0), (28, 0), (0, 0), (29, 0), (3, 0), (30, 0), (1, 0), (31, 0), (32, 0), (33, 0), (5, 1), (26, 1), (27, 1), (28, 1), (0, 1), (29, 1), (3, 1), (30, 1), (1, 1), (31, 1), (32, 1), (33, 1), (47, 0), (4, 0), (5, 8), (26, 8), (27, 8), (28, 8), (0, 8), (29, 8), (3, 8), (30, 8), (1, 8), (31, 8), (32, 8), (33, 8), (6, 0), (36, 0), (34, 0), (35, 0), (8, 0), (5, 9), (26, 9), (27, 9), (28, 9), (37, 0), (38, 0), (39, 0), (40, 0), (41, 0), (2, 0), (42, 0), (43, 0), (44, 0), (45, 0), (46, 0)]
def mn : PL := [(50, 0), (51, 0), (52, 0), (53, 0), (54, 0), (55, 0), (56, 0), (57, 0), (58, 0), (59, 0), (60, 0), (61, 0), (62, 0), (63, 0), (64, 0), (65, 0), (66, 0), (67, 0), (68, 0), (69, 0), (70, 0), (71, 0), (72, 0)]
def s0 : MM := (fun _ _ _ => 0, RS w0, fun _ _ => false)
def s1 : MM := N_X10_init_0 (mk s0 9 0)
def s2 : MM := N_X11_init_0 (mk (s1.1, RS w0, s1.2.2) 10 0)
theorem en_1 {gl : Nat} {gx : Nat → Int32} {d : Nat} {P : PL} {Q : PO} (h : Wp gl gx (d + 23) P 319 7 [aR 11 0, aU, aU, aU] [aR 9 0] (s1.1, RS w0, s1.2.2) Q) : Wp gl gx (d + 23) ((9, 0) :: (hn ++ P)) 319 0 [aR 11 0, aU, aU, aU] [] s0 Q := by
  refine wpT row_319 mt_319 [.new 7, .dup, .invokespecial 9] (by decide +kernel) [] (by decide +kernel) 40 (And.intro rfl (And.intro ⟨Nat.le_of_ble_eq_true rfl, rfl, rfl⟩ (s_X10_init_0 (d := d + 19) rfl rfl rfl rfl rfl rfl rfl rfl rfl rfl rfl rfl rfl rfl rfl rfl rfl rfl rfl rfl rfl rfl rfl rfl rfl rfl rfl rfl rfl rfl rfl rfl rfl rfl rfl rfl rfl rfl rfl rfl rfl rfl rfl rfl rfl rfl rfl rfl rfl rfl rfl rfl rfl rfl rfl rfl rfl rfl rfl rfl rfl rfl rfl rfl rfl ?_)))
  exact wp_rs (eo_end (q_X10_init_0 eo_all)) h

theorem lv_s1 : (s1.2.2 10 0 = false) ∧ ∀ q ∈ mn, s1.2.2 q.1 q.2 = false := by decide +kernel
theorem en_2 {gl : Nat} {gx : Nat → Int32} {d : Nat} {P : PL} {Q : PO} {m : MI} {lv : LV} (a0 : lv 10 0 = false) (al : ∀ q ∈ mn, lv q.1 q.2 = false) (h : Wp gl gx (d + 23) P 319 15 [aR 11 0, aR 9 0, aU, aU] [aR 10 0] ((N_X11_init_0 (mk (m, RS w0, lv) 10 0)).1, RS w0, (N_X11_init_0 (mk (m, RS w0, lv) 10 0)).2.2) Q) : Wp gl gx (d + 23) ((10, 0) :: (mn ++ P)) 319 7 [aR 11 0, aU, aU, aU] [aR 9 0] (m, RS w0, lv) Q := by
  refine wpT row_319 mt_319 [.astore_n 1, .new 10, .dup, .invokespecial 12] (by decide +kernel) [] (by decide +kernel) 40 (And.intro a0 (And.intro ⟨Nat.le_of_ble_eq_true rfl, rfl, rfl⟩ (s_X11_init_0 (d := d + 21) (show lv 50 0 = false from al (50, 0) (by decide +kernel)) (show lv 51 0 = false from al (51, 0) (by decide +kernel)) (show lv 52 0 = false from al (52, 0) (by decide +kernel)) (show lv 53 0 = false from al (53, 0) (by decide +kernel)) (show lv 54 0 = false from al (54, 0) (by decide +kernel)) (show lv 55 0 = false from al (55, 0) (by decide +kernel)) (show lv 56 0 = false from al (56, 0) (by decide +kernel)) (show lv 57 0 = false from al (57, 0) (by decide +kernel)) (show lv 58 0 = false from al (58, 0) (by decide +kernel)) (show lv 59 0 = false from al (59, 0) (by decide +kernel)) (show lv 60 0 = false from al (60, 0) (by decide +kernel)) (show lv 61 0 = false from al (61, 0) (by decide +kernel)) (show lv 62 0 = false from al (62, 0) (by decide +kernel)) (show lv 63 0 = false from al (63, 0) (by decide +kernel)) (show lv 64 0 = false from al (64, 0) (by decide +kernel)) (show lv 65 0 = false from al (65, 0) (by decide +kernel)) (show lv 66 0 = false from al (66, 0) (by decide +kernel)) (show lv 67 0 = false from al (67, 0) (by decide +kernel)) (show lv 68 0 = false from al (68, 0) (by decide +kernel)) (show lv 69 0 = false from al (69, 0) (by decide +kernel)) (show lv 70 0 = false from al (70, 0) (by decide +kernel)) (show lv 71 0 = false from al (71, 0) (by decide +kernel)) (show lv 72 0 = false from al (72, 0) (by decide +kernel)) ?_)))
  exact wp_rs (eo_end (q_X11_init_0 eo_all)) h

theorem en_3 {gl : Nat} {gx : Nat → Int32} {d : Nat} {P : PL} {Q : PO} {M : MM} (h : Wp gl gx (d + 23) P 319 18 [aR 11 0, aR 9 0, aR 10 0, aI (nI 0)] [] M Q) : Wp gl gx (d + 23) P 319 15 [aR 11 0, aR 9 0, aU, aU] [aR 10 0] M Q := wpT row_319 mt_319 [.astore_n 2, .iconst 0, .istore_n 3] (by decide +kernel) [] (by decide +kernel) 40 h

theorem nol_s2 (t : Nat) (h1 : 1 ≤ t) (h3 : t ≤ 3) : nol s2.2.2 t := by
  rcases (by omega : t = 1 ∨ t = 2 ∨ t = 3) with rfl | rfl | rfl
  · show ∀ q ∈ (7, 1) :: tn 1, s2.2.2 q.1 q.2 = false
    decide +kernel
  · show ∀ q ∈ (7, 2) :: tn 2, s2.2.2 q.1 q.2 = false
    decide +kernel
  · show ∀ q ∈ (7, 3) :: tn 3, s2.2.2 q.1 q.2 = false
    decide +kernel
theorem s2_0 : s2.1 7 0 1 = nI 0 ∧ s2.1 51 0 0 = nI 0 ∧ s2.1 52 0 0 = s2.1 7 0 2 ∧ s2.1 53 0 0 = s2.1 7 0 3 ∧ (∀ s, s < 4 → s2.1 21 0 s = nI 0 ∧ s2.1 54 0 (4 * 0 + s) = nI 0) ∧ ∀ k, k < 3 → s2.1 72 0 k = 0 := by decide +kernel
theorem Inv_s2 : Inv s2.1 w0 := by
  obtain ⟨h1, h2, h3, h4, h5, h6⟩ := s2_0
  exact ⟨⟨⟨0, by omega, h1, h2, fun k hk => absurd hk (by omega)⟩, ⟨h3, h4⟩, fun _ => 0, fun s hs => ⟨Nat.zero_le 2, h5 s hs⟩, fun j hj => absurd hj (Nat.not_lt_zero j), fun j hj => absurd hj (Nat.not_lt_zero j), fun j hj => absurd hj (Nat.not_lt_zero j), fun j hj => absurd hj (Nat.not_lt_zero j)⟩, fun k hk => ⟨fun q => absurd q (by simp [w0]), fun _ => h6 k hk⟩⟩
theorem law_all {gl : Nat} {gx : Nat → Int32} {d : Nat} (hg : gl ≤ 3072) : ∃ P : PL, P.length ≤ 20000 ∧ psz P ≤ 2000000 ∧ Wp gl gx (d + 23) P 319 0 [aR 11 0, aU, aU, aU] [] s0 (fun v _ => v = aI 1) := by
  obtain ⟨P, b1, b2, b3⟩ := law_loop (gx := gx) (d := d) hg 512 0 s2.1 w0 s2.2.2 (by omega) (by omega) Inv_s2 (fun k hk _ => nol_s2 (k + 1) (by omega) (by omega))
  refine ⟨(9, 0) :: (hn ++ ((10, 0) :: (mn ++ P))), ?_, ?_, en_1 (en_2 lv_s1.1 lv_s1.2 (en_3 b3))⟩
  · simp only [List.length_cons, List.length_append]
    have e1 : hn.length = 65 := rfl
    have e2 : mn.length = 23 := rfl
    omega
  · have e : psz ((9, 0) :: (hn ++ ((10, 0) :: (mn ++ P)))) = psz ((9, 0) :: (hn ++ ((10, 0) :: mn))) + psz P := by
      rw [← psz_app]
      simp
    rw [e]
    have e3 : psz ((9, 0) :: (hn ++ ((10, 0) :: mn))) ≤ 1000000 := by decide +kernel
    omega

