/-! ONE STEP: arrays -/
section STEP5
variable {gl : Nat} {gx : Nat → Int32} {z : Nat} {D : va_G} {tA : Nat → ClassId} {l : Launch} {p : Program} {e : Env} {R : Room} {s : State} {m : MethodId} {args : Array Value} {below : List Frame} {meth : Method} {c : Code} {Zq : State → Prop} {r : MT} {Q : PO} {d : Nat}
variable {K J : Nat → PL → List AV → List AV → MM → Prop} {pc n : Nat} {P : PL} {L S T : List AV} {M : MM} {X : XT}
theorem ak_le {k : Nat} {q : FieldType × Nat} (hk : ak k = some q) : Nat.ble 20 k = true := by
  unfold ak at hk
  split at hk
  · assumption
  · cases hk
theorem ak_st {k : Nat} {q : FieldType × Nat} (hk : ak k = some q) : stk k = false := by
  have := Nat.le_of_ble_eq_true (ak_le hk)
  unfold stk
  rcases hq : Nat.ble k 19 with _ | _
  · simp
  · have := Nat.le_of_ble_eq_true hq
    omega
theorem ak_ft {k : Nat} {q : FieldType × Nat} (hk : ak k = some q) (j : Nat) : ftk k j = q.1 := by
  have hb := ak_le hk
  unfold ftk
  unfold ak at hk
  rw [hb] at hk ⊢
  simp only [] at hk ⊢
  rw [hk]
theorem ar_at {ad : Nat → Nat → Nat} {H : Heap} {k i : Nat} {q : FieldType × Nat} (hk : ak k = some q) (h : cellR D tA ad M H k i) : H[ad k i]? = some (arrV (tA k) q.2 (fun j => mv ad M k i j)) := by
  unfold cellR at h
  rw [ak_le hk] at h
  obtain ⟨q', e1, e2⟩ := h
  cases e1.symm.trans hk
  exact e2
theorem sz1_ak {k : Nat} {q : FieldType × Nat} (hk : ak k = some q) : sz1 k = q.2 := by
  unfold sz1
  rw [ak_le hk, hk]
  rfl
theorem isInt_eq {t : FieldType} (h : isInt t = true) : t = .int := by
  cases t <;> first | rfl | (exfalso; revert h; decide) | (simp [isInt] at h)
theorem isB_eq {t : FieldType} (h : (isIT t && !isInt t) = true) : t = .byte ∨ t = .boolean := by
  cases t <;> first | exact Or.inl rfl | exact Or.inr rfl | (exfalso; revert h; decide) | (simp [isIT] at h)
/-- what a live array is on the heap -/
theorem arr_live {ad : Nat → Nat → Nat} {H : Heap} {locs : List Loc} {cells slots : Nat} {ls : Array Slot} {k i : Nat} {q : FieldType × Nat} (hD : Dx gl gx z D tA R s r ad H locs cells slots ls P L S M) (hm : aR k i ∈ S) (hk : ak k = some q) : M.2.2 k i = true ∧ z ≤ ad k i ∧ H[ad k i]? = some (arrV (tA k) q.2 (fun j => mv ad M k i j)) := by
  have hlv := lv_of hD hm (ak_st hk)
  obtain ⟨-, g2, g3⟩ := hD.2.2.1.1 k i hlv
  exact ⟨hlv, g2, ar_at hk g3⟩
theorem arr_put {ad : Nat → Nat → Nat} {H H1 : Heap} {locs : List Loc} {cells slots : Nat} {ls : Array Slot} {k i j0 : Nat} {w : Value} {q : FieldType × Nat} {M1 : MM} (hD : Dx gl gx z D tA R s r ad H locs cells slots ls P L S M) (hlv : M.2.2 k i = true) (hk : ak k = some q) (e2 : M1.2.2 = M.2.2) (e0 : ∀ k' i' j, ¬ (k' = k ∧ i' = i) → M1.1 k' i' j = M.1 k' i' j ∧ M1.2.1 k' i' j = M.2.1 k' i' j) (hok : ∀ j, j < sz1 k → okA M.2.2 (M1.2.1 k i j)) (hm : ∀ j, mv ad M1 k i j = updV (fun j => mv ad M k i j) j0 w j)
    (he : H1[ad k i]? = some ((arrV (tA k) q.2 (fun j => mv ad M k i j)).setSlot j0 w)) (z1 : H1.size = H.size) (oq : ∀ x, x ≠ ad k i → H1[x]? = H[x]?) (hT : ∀ v ∈ T, v ∈ S) : Dx gl gx z D tA R s r ad H1 (locs ++ [⟨ad k i, j0⟩]) cells slots ls P L T M1 := by
  have hc : cellR D tA ad M1 H1 k i := by
    unfold cellR
    rw [ak_le hk]
    refine ⟨q, hk, ?_⟩
    rw [he, arrV_store]
    congr 2
    funext j
    exact (hm j).symm
  exact hD.mem e2 (hD.2.2.1.put hlv e2 e0 hok oq hc) (hD.2.1.put z1 oq (hD.2.2.1.1 k i hlv).2.1) hT
theorem mv_I {ad : Nat → Nat → Nat} {k i j : Nat} {q : FieldType × Nat} (hk : ak k = some q) (hI : isIT q.1 = true) : mv ad M k i j = .int (M.1 k i j) := by
  unfold mv
  rw [ak_ft hk, hI]
theorem mv_A {ad : Nat → Nat → Nat} {k i j : Nat} {q : FieldType × Nat} (hk : ak k = some q) (hI : isIT q.1 = false) : mv ad M k i j = cv ad (M.2.1 k i j) := by
  unfold mv
  rw [ak_ft hk, hI]
theorem arr_in {j : Int32} {n : Nat} {cA : ClassId} {f : Nat → Value} (h : vp_in j n) : ¬ (j < 0 ∨ (arrV cA n f).slots.size ≤ j.toNatClampNeg) := by rw [arrV_size]; exact h
theorem vp_lt {j : Int32} {n : Nat} (h : vp_in j n) : j.toNatClampNeg < n := Nat.not_le.mp fun q => h (Or.inr q)
theorem go_loadA {i : Instr} (C : Cx z D tA p R s m args meth c r d) (hK : ∀ pc' P L S M, pc' = pc + n → K pc' P L S M → Go gl gx z D tA l p e R s m args below meth c Zq r Q pc' P L S M) (hd : decode r.2.1 pc = .ok (i, n)) (ho : okI i pc n = true) (h : stepI gl gx X d r.2.2.2.2.2 r.2.2.2.1 r.2.2.2.2.1 r.1.cls Q K J i pc P L S M) (hi : i = .iaload ∨ i = .baload ∨ i = .aaload ∨ i = .arraylength) : Go gl gx z D tA l p e R s m args below meth c Zq r Q pc P L S M := by
  have hkf := C.2.2.2.2.2.2.1
  have hx := C.1
  have hb := C.2.1
  rcases hi with rfl | rfl | rfl | rfl
  all_goals (have en : n = 1 := by simpa [okI] using ho)
  all_goals subst en
  all_goals unfold stepI at h
  all_goals dsimp only at h
  · obtain ⟨j, T0, rfl, h0⟩ := pI_inv h
    obtain ⟨k, i, T1, rfl, h1⟩ := pR_inv h0
    intro ad H locs cells slots ls hD hR
    split at h1
    · rename_i q hk
      obtain ⟨hI, hin, h2⟩ := pB_inv h1
      obtain ⟨hlv, hz, ha⟩ := arr_live hD (List.mem_cons_of_mem _ List.mem_cons_self) hk
      have hI2 : q.1 = .int := isInt_eq hI
      have harr := (hkf.2.1 k q hk).1 q.2 (fun j => mv ad M k i j)
      rw [hI2] at harr
      exact W.iald (v := .int (M.1 k i j.toNatClampNeg)) hx hb ha harr (fun q => by cases q) (arr_in hin) (by rw [arrV_read _ _ (vp_lt hin), mv_I hk (by rw [hI2]; rfl)]) rfl rfl hd (hK _ _ _ _ _ rfl h2 ad H locs cells slots ls (hD.stk (hv1 mem2 trivial)) hR)
    · split at h1
      · rename_i t ht
        obtain ⟨hin, h2⟩ := h1
        have hT := (hD.1.2.1 k t ht).2
        have hi0 : i = 0 := by
          rcases hD.2.2.2.2.2.2.1 (aR k i) (List.mem_cons_of_mem _ List.mem_cons_self) with q | q
          · have q2 := (hD.2.2.1.1 k i q).1
            rw [(sta_v ht).1] at q2
            cases q2
          · exact stv_lo q (sta_v ht).2.1
        subst hi0
        exact va_ti hx hb hT hD.2.1 hin rfl hd (hK _ _ _ _ _ rfl h2 ad H locs cells slots ls (hD.stk (hv1 mem2 trivial)) hR)
      · obtain ⟨h11, hin, h2⟩ := pB_inv h1
        have h11 : k = 11 := Nat.eq_of_beq_eq_true h11
        subst h11
        have hi0 : i = 0 := by
          rcases hD.2.2.2.2.2.2.1 (aR 11 i) (List.mem_cons_of_mem _ List.mem_cons_self) with q | q
          · exact absurd (hD.2.2.1.1 11 i q).1 (by decide)
          · exact stv_lo q rfl
        subst hi0
        have hlt := hD.1.1.2
        exact va_sld hx hb hD.1.1.1 (Nat.lt_of_lt_of_le hlt C.2.2.2.2.2.2.2.1) (Nat.not_le.mpr hlt) hD.2.1 hin hd (hK _ _ _ _ _ rfl h2 ad H locs cells slots ls (hD.stk (hv1 mem2 trivial)) hR)
  · obtain ⟨j, T0, rfl, h0⟩ := pI_inv h
    obtain ⟨k, i, T1, rfl, h1⟩ := pR_inv h0
    intro ad H locs cells slots ls hD hR
    split at h1
    · rename_i q hk
      obtain ⟨hI, hin, h2⟩ := pB_inv h1
      obtain ⟨hlv, hz, ha⟩ := arr_live hD (List.mem_cons_of_mem _ List.mem_cons_self) hk
      have hIT : isIT q.1 = true := by
        simp only [Bool.and_eq_true] at hI
        exact hI.1
      have harr := (hkf.2.1 k q hk).1 q.2 (fun j => mv ad M k i j)
      have hv : (arrV (tA k) q.2 (fun j => mv ad M k i j)).slots[j.toNatClampNeg]? = some (.int (M.1 k i j.toNatClampNeg)) := by rw [arrV_read _ _ (vp_lt hin), mv_I hk hIT]
      rcases isB_eq hI with hI2 | hI2
      · rw [hI2] at harr
        exact W.bald hx hb ha harr (fun q => by cases q) (arr_in hin) hv rfl rfl hd (hK _ _ _ _ _ rfl h2 ad H locs cells slots ls (hD.stk (hv1 mem2 trivial)) hR)
      · rw [hI2] at harr
        exact W.zald hx hb ha harr (fun q => by cases q) (arr_in hin) hv rfl rfl hd (hK _ _ _ _ _ rfl h2 ad H locs cells slots ls (hD.stk (hv1 mem2 trivial)) hR)
    · obtain ⟨h17, hin, h2⟩ := pB_inv h1
      have h17 : k = 17 := Nat.eq_of_beq_eq_true h17
      subst h17
      have hi13 : i < 13 := by
        rcases hD.2.2.2.2.2.2.1 (aR 17 i) (List.mem_cons_of_mem _ List.mem_cons_self) with q | q
        · exact absurd (hD.2.2.1.1 17 i q).1 (by decide)
        · exact stv_hi q rfl
      have hE := (hD.1.2.2.1.1 i hi13).2.2.2
      have hln : (stx.map List.length).getD i 0 = (stx.getD i []).length := by
        rw [List.getD_eq_getElem?_getD, List.getD_eq_getElem?_getD, List.getElem?_map]
        cases stx[i]? <;> rfl
      rw [hln] at hE
      exact va_tb hx hb hE hD.2.1 hin rfl hd (hK _ _ _ _ _ rfl h2 ad H locs cells slots ls (hD.stk (hv1 mem2 trivial)) hR)
  · obtain ⟨j, T0, rfl, h0⟩ := pI_inv h
    obtain ⟨k, i, T1, rfl, h1⟩ := pR_inv h0
    obtain ⟨q, hk, h2⟩ := pO_inv h1
    intro ad H locs cells slots ls hD hR
    split at h2
    · rename_i C0 hty
      obtain ⟨hin, h3⟩ := h2
      obtain ⟨hlv, hz, ha⟩ := arr_live hD (List.mem_cons_of_mem _ List.mem_cons_self) hk
      have harr := (hkf.2.1 k q hk).1 q.2 (fun j => mv ad M k i j)
      exact W.aald (ty := q.1) hx hb ha harr (by rw [hty]; rfl) (fun q => by cases q) (arr_in hin) (by rw [arrV_read _ _ (vp_lt hin), mv_A hk (by rw [hty]; rfl)]) rfl rfl hd (hK _ _ _ _ _ rfl h3 ad H locs cells slots ls (hD.stk (hv1 mem2 (hD.2.2.1.2.2 k i _ hlv (by rw [sz1_ak hk]; exact vp_lt hin)))) hR)
    · exact h2.elim
  · obtain ⟨k, i, T1, rfl, h1⟩ := pR_inv h
    intro ad H locs cells slots ls hD hR
    split at h1
    · rename_i q hk
      obtain ⟨hlv, hz, ha⟩ := arr_live hD List.mem_cons_self hk
      have harr := (hkf.2.1 k q hk).1 q.2 (fun j => mv ad M k i j)
      exact W.alen (n := Int32.ofNat q.2) hx hb ha harr (by rw [arrV_size]) rfl rfl hd (hK _ _ _ _ _ rfl h1 ad H locs cells slots ls (hD.stk (hv1 mem1 trivial)) hR)
    · split at h1
      · rename_i t ht
        have hT := (hD.1.2.1 k t ht).2
        have hi0 : i = 0 := by
          rcases hD.2.2.2.2.2.2.1 (aR k i) List.mem_cons_self with q | q
          · have q2 := (hD.2.2.1.1 k i q).1
            rw [(sta_v ht).1] at q2
            cases q2
          · exact stv_lo q (sta_v ht).2.1
        subst hi0
        exact va_tlen hx hb hT hD.2.1 rfl hd (hK _ _ _ _ _ rfl h1 ad H locs cells slots ls (hD.stk (hv1 mem1 trivial)) hR)
      · split at h1
        · rename_i h11
          have h11 : k = 11 := Nat.eq_of_beq_eq_true h11
          subst h11
          have hi0 : i = 0 := by
            rcases hD.2.2.2.2.2.2.1 (aR 11 i) List.mem_cons_self with q | q
            · exact absurd (hD.2.2.1.1 11 i q).1 (by decide)
            · exact stv_lo q rfl
          subst hi0
          have hlt := hD.1.1.2
          exact va_slen hx hb hD.1.1.1 (Nat.lt_of_lt_of_le hlt C.2.2.2.2.2.2.2.1) (Nat.not_le.mpr hlt) hD.2.1 hd (hK _ _ _ _ _ rfl h1 ad H locs cells slots ls (hD.stk (hv1 mem1 trivial)) hR)
        · obtain ⟨h17, h2⟩ := pB_inv h1
          have h17 : k = 17 := Nat.eq_of_beq_eq_true h17
          subst h17
          have hi13 : i < 13 := by
            rcases hD.2.2.2.2.2.2.1 (aR 17 i) List.mem_cons_self with q | q
            · exact absurd (hD.2.2.1.1 17 i q).1 (by decide)
            · exact stv_hi q rfl
          have hE := (hD.1.2.2.1.1 i hi13).2.2.2
          have hln : (stx.map List.length).getD i 0 = (stx.getD i []).length := by
            rw [List.getD_eq_getElem?_getD, List.getD_eq_getElem?_getD, List.getElem?_map]
            cases stx[i]? <;> rfl
          rw [hln] at hE
          exact va_tlen hx hb hE hD.2.1 rfl hd (hK _ _ _ _ _ rfl h2 ad H locs cells slots ls (hD.stk (hv1 mem1 trivial)) hR)
theorem go_storeA {i : Instr} (C : Cx z D tA p R s m args meth c r d) (hK : ∀ pc' P L S M, pc' = pc + n → K pc' P L S M → Go gl gx z D tA l p e R s m args below meth c Zq r Q pc' P L S M) (hd : decode r.2.1 pc = .ok (i, n)) (ho : okI i pc n = true) (h : stepI gl gx X d r.2.2.2.2.2 r.2.2.2.1 r.2.2.2.2.1 r.1.cls Q K J i pc P L S M) (hi : i = .iastore ∨ i = .bastore ∨ i = .aastore) : Go gl gx z D tA l p e R s m args below meth c Zq r Q pc P L S M := by
  have hkf := C.2.2.2.2.2.2.1
  have hx := C.1
  have hb := C.2.1
  rcases hi with rfl | rfl | rfl
  all_goals (have en : n = 1 := by simpa [okI] using ho)
  all_goals subst en
  all_goals unfold stepI at h
  all_goals dsimp only at h
  · obtain ⟨x, T9, rfl, h9⟩ := pI_inv h
    obtain ⟨j, T0, rfl, h0⟩ := pI_inv h9
    obtain ⟨k, i, T1, rfl, h1⟩ := pR_inv h0
    obtain ⟨q, hk, h2⟩ := pO_inv h1
    obtain ⟨hI, hin, h3⟩ := pB_inv h2
    intro ad H locs cells slots ls hD hR
    obtain ⟨hlv, hz, ha⟩ := arr_live hD (mem2 _ List.mem_cons_self) hk
    have hI2 : q.1 = .int := isInt_eq hI
    have harr := (hkf.2.1 k q hk).1 q.2 (fun j => mv ad M k i j)
    rw [hI2] at harr
    refine W.iast hx hb ha harr (fun q => by cases q) (arr_in hin) rfl rfl hd fun H1 e z1 oq => ?_
    refine hK _ _ _ _ _ rfl h3 ad H1 _ cells slots ls (arr_put hD hlv hk rfl (fun k' i' j' hh => ⟨u3_ne hh, rfl⟩) (fun j' hj' => hD.2.2.1.2.2 k i j' hlv hj') (fun j' => ?_) e z1 oq (fun v hv => mem2 v (mem1 v hv))) hR
    have hI3 : isIT q.1 = true := by rw [hI2]; rfl
    rw [mv_I hk hI3]
    show Value.int (u3 M.1 k i j.toNatClampNeg x k i j') = _
    rw [u3_at]
    unfold updV
    by_cases hj : j' = j.toNatClampNeg
    · simp [hj]
    · simp [hj, mv_I hk hI3]
  · obtain ⟨x, T9, rfl, h9⟩ := pI_inv h
    obtain ⟨j, T0, rfl, h0⟩ := pI_inv h9
    obtain ⟨k, i, T1, rfl, h1⟩ := pR_inv h0
    obtain ⟨q, hk, h2⟩ := pO_inv h1
    obtain ⟨hI, hin, h3⟩ := pB_inv h2
    intro ad H locs cells slots ls hD hR
    obtain ⟨hlv, hz, ha⟩ := arr_live hD (mem2 _ List.mem_cons_self) hk
    have hIT : isIT q.1 = true := by
      simp only [Bool.and_eq_true] at hI
      exact hI.1
    have harr := (hkf.2.1 k q hk).1 q.2 (fun j => mv ad M k i j)
    have mvs : ∀ j', mv ad (u3 M.1 k i j.toNatClampNeg (vp_nar q.1 x), M.2) k i j' = updV (fun j => mv ad M k i j) j.toNatClampNeg (.int (vp_nar q.1 x)) j' := by
      intro j'
      rw [mv_I hk hIT]
      show Value.int (u3 M.1 k i j.toNatClampNeg (vp_nar q.1 x) k i j') = _
      rw [u3_at]
      unfold updV
      by_cases hj : j' = j.toNatClampNeg
      · simp [hj]
      · simp [hj, mv_I hk hIT]
    rcases isB_eq hI with hI2 | hI2
    · rw [hI2] at harr
      refine W.bast hx hb ha harr (fun q => by cases q) (arr_in hin) rfl rfl hd fun H1 e z1 oq => ?_
      refine hK _ _ _ _ _ rfl h3 ad H1 _ cells slots ls (arr_put hD hlv hk rfl (fun k' i' j' hh => ⟨u3_ne hh, rfl⟩) (fun j' hj' => hD.2.2.1.2.2 k i j' hlv hj') mvs ?_ z1 oq (fun v hv => mem2 v (mem1 v hv))) hR
      rw [e, hI2]
      rfl
    · rw [hI2] at harr
      refine W.zast hx hb ha harr (fun q => by cases q) (arr_in hin) rfl rfl hd fun H1 e z1 oq => ?_
      refine hK _ _ _ _ _ rfl h3 ad H1 _ cells slots ls (arr_put hD hlv hk rfl (fun k' i' j' hh => ⟨u3_ne hh, rfl⟩) (fun j' hj' => hD.2.2.1.2.2 k i j' hlv hj') mvs ?_ z1 oq (fun v hv => mem2 v (mem1 v hv))) hR
      rw [e, hI2]
      rfl
  · obtain ⟨k', i', T9, rfl, h9⟩ := pR_inv h
    obtain ⟨j, T0, rfl, h0⟩ := pI_inv h9
    obtain ⟨k, i, T1, rfl, h1⟩ := pR_inv h0
    obtain ⟨q, hk, h2⟩ := pO_inv h1
    intro ad H locs cells slots ls hD hR
    split at h2
    · rename_i C0 hty
      obtain ⟨⟨hcl, hk11⟩, hin, h3⟩ := h2
      obtain ⟨hlv, hz, ha⟩ := arr_live hD (mem2 _ List.mem_cons_self) hk
      obtain ⟨harr, hra⟩ := hkf.2.1 k q hk
      have hst : stk k' = false := by
        unfold stk
        rcases hq : Nat.ble 11 k' with _ | _
        · rfl
        · have := Nat.le_of_ble_eq_true hq
          omega
      have hlv' := lv_of hD List.mem_cons_self hst
      obtain ⟨-, -, g3⟩ := hD.2.2.1.1 k' i' hlv'
      have hb20 : Nat.ble 20 k' = false := by
        rcases hq : Nat.ble 20 k' with _ | _
        · rfl
        · have := Nat.le_of_ble_eq_true hq
          omega
      unfold cellR at g3
      rw [hb20] at g3
      obtain ⟨q', e1, cellV, b1, b2, b3, -⟩ := g3
      have hC0 : q'.1 = C0 := by
        rw [← hcl, List.getD_eq_getElem?_getD, e1]
        rfl
      have hcls := (hkf.1.1 k' q' e1).2
      rw [hC0] at hcls
      rw [hty] at hra
      obtain ⟨kA, comp, k1, k2, k3, -⟩ := hra
      have hcomp : comp = D.1 k' := Option.some.inj (k3.symm.trans hcls.1)
      subst hcomp
      obtain ⟨kC, hkC, -⟩ := hcls.2
      have hlt := vp_lt hin
      have h00 : ¬ j < 0 := fun q => hin (Or.inl q)
      refine W.aast hx hb ha (fun q h => by cases h) (fun h => by cases h) k1 k2 rfl hkC ⟨h00, by rw [arrV_size]; exact hlt⟩ b1 (fun q h => by rw [b3] at h; cases h) (by rw [b2]; exact hkC) (by rw [b2]; exact va_assign hcls) rfl rfl hd fun H1 e z1 oq => ?_
      have hIT : isIT q.1 = false := by rw [hty]; rfl
      refine hK _ _ _ _ _ rfl h3 ad H1 _ cells slots ls (arr_put hD hlv hk rfl (fun k' i' j' hh => ⟨rfl, u3_ne hh⟩) (fun j' hj' => ?_) (fun j' => ?_) e z1 oq (fun v hv => mem2 v (mem1 v hv))) hR
      · show okA M.2.2 (u3 M.2.1 k i j.toNatClampNeg (aR k' i') k i j')
        rw [u3_at]
        split
        · exact Or.inl hlv'
        · exact hD.2.2.1.2.2 k i j' hlv hj'
      · rw [mv_A hk hIT]
        show cv ad (u3 M.2.1 k i j.toNatClampNeg (aR k' i') k i j') = _
        rw [u3_at]
        unfold updV
        by_cases hj : j' = j.toNatClampNeg
        · simp [hj, cv]
        · simp [hj, mv_A hk hIT]
    · exact h2.elim
end STEP5
