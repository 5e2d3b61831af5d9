/-! ONE STEP: new objects -/
section STEP10
variable {gl : Nat} {gx : Nat → Int32} {z : Nat} {D : va_G} {tA : Nat → ClassId} {l : Launch} {p : Program} {e : Env} {R : Room} {s : State} {m : MethodId} {args : Array Value} {below : List Frame} {meth : Method} {c : Code} {Zq : State → Prop} {r : MT} {Q : PO} {d : Nat}
variable {K J : Nat → PL → List AV → List AV → MM → Prop} {pc n : Nat} {P : PL} {L S T : List AV} {M : MM} {X : XT}
def adN (ad : Nat → Nat → Nat) (k i a : Nat) : Nat → Nat → Nat := fun k' i' => if k' = k ∧ i' = i then a else ad k' i'
theorem adN_self {ad : Nat → Nat → Nat} {k i a : Nat} : adN ad k i a k i = a := by simp [adN]
theorem adN_ne {ad : Nat → Nat → Nat} {k i a k' i' : Nat} (h : ¬ (k' = k ∧ i' = i)) : adN ad k i a k' i' = ad k' i' := by unfold adN; rw [if_neg h]
theorem adN_ext {ad : Nat → Nat → Nat} {k i a : Nat} (hl : M.2.2 k i = false) (hs : stk k = false) : Ext M.2.2 ad (adN ad k i a) := by
  intro k' i' h
  refine adN_ne fun q => ?_
  obtain ⟨rfl, rfl⟩ := q
  rcases h with h | h
  · rw [hl] at h; cases h
  · rw [hs] at h; cases h
theorem mk_1 {k i : Nat} : (mk M k i).1 = u2 M.1 k i (fun _ => 0) := rfl
theorem mk_2 {k i : Nat} : (mk M k i).2.1 = u2 M.2.1 k i (fun j => if j < sz1 k then dv (ftk k j) else M.2.1 k i j) := rfl
theorem mk_lv {k i k' i' : Nat} : (mk M k i).2.2 k' i' = true ↔ (k' = k ∧ i' = i) ∨ M.2.2 k' i' = true := by
  show u1 M.2.2 k i true k' i' = true ↔ _
  unfold u1
  by_cases h : k' = k ∧ i' = i
  · simp [h]
  · simp [h]
theorem mv_mk {ad : Nat → Nat → Nat} {k i j : Nat} (hj : j < sz1 k) (ht : tyK (ftk k j) = true) : mv ad (mk M k i) k i j = defaultValue (ftk k j) := by
  unfold mv
  have e1 : (mk M k i).1 k i j = 0 := by rw [mk_1]; simp [u2]
  have e2 : (mk M k i).2.1 k i j = dv (ftk k j) := by rw [mk_2]; simp [u2, hj]
  rw [e1, e2]
  revert ht
  cases ftk k j <;> intro ht <;> first | rfl | (exfalso; revert ht; decide)
theorem arrV_congr {cI : ClassId} {N : Nat} {f g : Nat → Value} (h : ∀ j, j < N → f j = g j) : arrV cI N f = arrV cI N g := by
  unfold arrV
  congr 2
  funext j
  exact h j.val j.isLt
theorem cellR.congr2 {ad ad' : Nat → Nat → Nat} {M M1 : MM} {H H1 : Heap} {k i : Nat} (h : cellR D tA ad M H k i) (ha : ad' k i = ad k i) (hq : H1[ad k i]? = H[ad k i]?) (hm : ∀ j, j < sz1 k → mv ad' M1 k i j = mv ad M k i j) : cellR D tA ad' M1 H1 k i := by
  unfold cellR at h ⊢
  rw [ha]
  split at h
  · obtain ⟨q, h1, h2⟩ := h
    refine ⟨q, h1, hq.trans (h2.trans ?_)⟩
    rw [arrV_congr fun j hj => (hm j (by rw [sz1_ak h1]; exact hj)).symm]
  · obtain ⟨q, h1, h2⟩ := h
    exact ⟨q, h1, (h2.kept hq).to fun j hj => (hm j (by rw [sz1_cl h1]; exact hj)).symm⟩
theorem cellR_lt {ad : Nat → Nat → Nat} {H : Heap} {k i : Nat} (h : cellR D tA ad M H k i) : ad k i < H.size := by
  unfold cellR at h
  split at h
  · obtain ⟨q, -, h2⟩ := h
    exact (Array.getElem?_eq_some_iff.mp h2).1
  · obtain ⟨q, -, cell, h2, -⟩ := h
    exact (Array.getElem?_eq_some_iff.mp h2).1
theorem alloc_ok {ad : Nat → Nat → Nat} {H H1 : Heap} {locs : List Loc} {cells slots : Nat} {ls : Array Slot} {k i : Nat} (C : Cx z D tA p R s m args meth c r d) (hD : Dx gl gx z D tA R s r ad H locs cells slots ls ((k, i) :: P) L S M) (hT : ∀ v ∈ T, v ∈ S) (hl : M.2.2 k i = false) (hs : stk k = false) (z1 : H1.size = H.size + 1) (ho : ∀ q, q < H.size → H1[q]? = H[q]?) (hc : cellR D tA (adN ad k i H.size) (mk M k i) H1 k i)
    (hR : Ret z D tA l p e R s m args below meth c Zq r Q M.2.2 ad) : Dx gl gx z D tA R s r (adN ad k i H.size) H1 locs (cells + 1) (slots + sz1 k) ls P L (aR k i :: T) (mk M k i) ∧ Ret z D tA l p e R s m args below meth c Zq r Q (mk M k i).2.2 (adN ad k i H.size) ∧ T.map (cv (adN ad k i H.size)) = T.map (cv ad) := by
  obtain ⟨d1, d2, d3, d4, d5, d6, d7, d8, d9⟩ := hD
  have he : Ext M.2.2 ad (adN ad k i H.size) := adN_ext hl hs
  have hlv : ∀ k' i', M.2.2 k' i' = true → (mk M k i).2.2 k' i' = true := fun k' i' h => mk_lv.mpr (Or.inr h)
  have hne : ∀ k' i', M.2.2 k' i' = true → ¬ (k' = k ∧ i' = i) := by
    rintro k' i' h ⟨rfl, rfl⟩
    rw [hl] at h; cases h
  have hz := C.2.2.2.2.2.2.2.1
  have hsz : z ≤ H.size := Nat.le_trans hz d2.1
  refine ⟨⟨d1.ext he, ?_, ⟨?_, ?_, ?_⟩, lvl_ext he d6 d4, d5, fun v hv => okA_mono hlv (d6 v hv), ?_, ?_, ?_⟩, hR.mono hlv he, ?_⟩
  · exact ⟨by rw [z1]; exact Nat.le_trans d2.1 (Nat.le_succ _), fun q h1 h2 => (ho q (Nat.lt_of_lt_of_le h1 d2.1)).trans (d2.2.1 q h1 h2), d2.2.2⟩
  · intro k' i' h
    by_cases hkk : k' = k ∧ i' = i
    · obtain ⟨rfl, rfl⟩ := hkk
      exact ⟨hs, by rw [adN_self]; exact hsz, hc⟩
    · have hold : M.2.2 k' i' = true := (mk_lv.mp h).resolve_left hkk
      obtain ⟨g1, g2, g3⟩ := d3.1 k' i' hold
      refine ⟨g1, by rw [adN_ne hkk]; exact g2, g3.congr2 (adN_ne hkk) (ho _ (cellR_lt g3)) fun j hj => ?_⟩
      unfold mv
      have e1 : (mk M k i).1 k' i' j = M.1 k' i' j := by rw [mk_1]; unfold u2; rw [if_neg hkk]
      have e2 : (mk M k i).2.1 k' i' j = M.2.1 k' i' j := by rw [mk_2]; unfold u2; rw [if_neg hkk]
      rw [e1, e2, cv_ext he (d3.2.2 k' i' j hold hj)]
  · intro k1 i1 k2 i2 h1 h2 heq
    by_cases hk1 : k1 = k ∧ i1 = i
    · by_cases hk2 : k2 = k ∧ i2 = i
      · exact ⟨hk1.1.trans hk2.1.symm, hk1.2.trans hk2.2.symm⟩
      · exfalso
        rw [adN_ne hk2] at heq
        obtain ⟨rfl, rfl⟩ := hk1
        rw [adN_self] at heq
        have := cellR_lt (d3.1 k2 i2 ((mk_lv.mp h2).resolve_left hk2)).2.2
        omega
    · by_cases hk2 : k2 = k ∧ i2 = i
      · exfalso
        rw [adN_ne hk1] at heq
        obtain ⟨rfl, rfl⟩ := hk2
        rw [adN_self] at heq
        have := cellR_lt (d3.1 k1 i1 ((mk_lv.mp h1).resolve_left hk1)).2.2
        omega
      · rw [adN_ne hk1, adN_ne hk2] at heq
        exact d3.2.1 k1 i1 k2 i2 ((mk_lv.mp h1).resolve_left hk1) ((mk_lv.mp h2).resolve_left hk2) heq
  · intro k' i' j h hj
    by_cases hkk : k' = k ∧ i' = i
    · obtain ⟨rfl, rfl⟩ := hkk
      have e2 : (mk M k' i').2.1 k' i' j = dv (ftk k' j) := by rw [mk_2]; simp [u2, hj]
      rw [e2]
      unfold dv
      split <;> trivial
    · have e2 : (mk M k i).2.1 k' i' j = M.2.1 k' i' j := by rw [mk_2]; unfold u2; rw [if_neg hkk]
      rw [e2]
      exact okA_mono hlv (d3.2.2 k' i' j ((mk_lv.mp h).resolve_left hkk) hj)
  · intro v hv
    rcases List.mem_cons.mp hv with rfl | hv
    · exact Or.inl (mk_lv.mpr (Or.inl ⟨rfl, rfl⟩))
    · exact okA_mono hlv (d7 v (hT v hv))
  · simp only [List.length_cons] at d8
    omega
  · have : psz ((k, i) :: P) = sz1 k + psz P := by simp [psz]
    omega
  · exact List.map_congr_left fun v hv => cv_ext he (d7 v (hT v hv))
theorem aks_ok : aks.all (fun q => decide (q.2 ≤ 200000) && (match q.1 with
  | .int | .byte | .boolean | .object _ => true
  | _ => false)) = true := by decide +kernel
theorem ak_ok {k : Nat} {q : FieldType × Nat} (hk : ak k = some q) : q.2 ≤ 200000 ∧ (q.1 = .int ∨ q.1 = .byte ∨ q.1 = .boolean ∨ ∃ C, q.1 = .object C) := by
  unfold ak at hk
  split at hk
  · have h := List.all_eq_true.mp aks_ok q (List.mem_of_getElem? hk)
    simp only [Bool.and_eq_true, decide_eq_true_eq] at h
    refine ⟨h.1, ?_⟩
    have h2 := h.2
    split at h2
    · rename_i e; exact Or.inl e
    · rename_i e; exact Or.inr (Or.inl e)
    · rename_i e; exact Or.inr (Or.inr (Or.inl e))
    · rename_i C0 e; exact Or.inr (Or.inr (Or.inr ⟨C0, e⟩))
    · cases h2
  · cases hk
theorem tyK_ak {k j : Nat} {q : FieldType × Nat} (hk : ak k = some q) : tyK (ftk k j) = true := by
  rw [ak_ft hk]
  rcases (ak_ok hk).2 with h | h | h | ⟨C0, h⟩ <;> rw [h] <;> rfl
theorem go_alloc {i0 : Instr} (C : Cx z D tA p R s m args meth c r d) (hK : ∀ pc' P L S M, pc' = pc + n → K pc' P L S M → Go gl gx z D tA l p e R s m args below meth c Zq r Q pc' P L S M) (hd : decode r.2.1 pc = .ok (i0, n)) (ho : okI i0 pc n = true) (h : stepI gl gx X d r.2.2.2.2.2 r.2.2.2.1 r.2.2.2.2.1 r.1.cls Q K J i0 pc P L S M) (hi : (∃ k, i0 = .new k) ∨ (∃ k, i0 = .newarray k) ∨ (∃ k, i0 = .anewarray k)) : Go gl gx z D tA l p e R s m args below meth c Zq r Q pc P L S M := by
  have hkf := C.2.2.2.2.2.2.1
  have hw := C.2.2.2.2.1
  rcases hi with ⟨k, rfl⟩ | ⟨k, rfl⟩ | ⟨k, rfl⟩
  · have en : n = 3 := by simpa [okI] using ho
    subst en
    unfold stepI at h
    dsimp only at h
    obtain ⟨kk, i, P', rfl, h1⟩ := pP_inv h
    obtain ⟨c', hm, h2⟩ := pK_inv h1
    obtain ⟨hb, hl, h3⟩ := pB_inv h2
    have hb : kk = c' := Nat.eq_of_beq_eq_true hb
    subst hb
    obtain ⟨ps, hq⟩ := C.2.2.2.2.2.2.2.2.2.2.2.2.2.1 _ hm
    unfold nOK at hq
    dsimp only at hq
    split at hq
    · rename_i q hcq
      have hws := inTs_mem hq
      have w1 := hw _ (lw_g_of (hws (.classLink r.1.cls k q.1) (by simp)) rfl)
      have w2 := hw _ (lw_g_of (hws (.instantiable q.1 q.2.2) (by simp)) rfl)
      have w3 := hw _ (lw_g_of (hws (.initialized q.1) (by simp)) rfl)
      have hk11 : kk < 11 := (List.getElem?_eq_some_iff.mp hcq).1
      have hb20 : Nat.ble 20 kk = false := by
        rcases hq' : Nat.ble 20 kk with _ | _
        · rfl
        · have := Nat.le_of_ble_eq_true hq'
          omega
      have hst : stk kk = false := by
        unfold stk
        rcases hq' : Nat.ble 11 kk with _ | _
        · rfl
        · have := Nat.le_of_ble_eq_true hq'
          omega
      have hsz : sz1 kk = q.2.2 := by
        unfold sz1
        rw [hb20]
        show (classes.getD kk _).2.2 = _
        rw [List.getD_eq_getElem?_getD, hcq]
        rfl
      intro ad H locs cells slots ls hD hR
      have hKn := hkf.1.1 kk q hcq
      have h8 := hD.2.2.2.2.2.2.2.1
      have h9 := hD.2.2.2.2.2.2.2.2
      have hp2 : psz ((kk, i) :: P') = sz1 kk + psz P' := by simp [psz]
      simp only [List.length_cons] at h8
      refine W.newcK C.1 C.2.1 C.2.2.2.1 w1 w2 w3 rfl hd (by omega) (by omega) hKn.2.1 rfl fun H1 kC hkC e1 z1 o1 => ?_
      have ht := u_born (fun j => ftk kk j) hw (uwg kk q hcq) hKn hkC e1 (tyg kk q hcq)
      have hc : cellR D tA (adN ad kk i H.size) (mk M kk i) H1 kk i := by
        unfold cellR
        rw [hb20, adN_self]
        exact ⟨q, hcq, ht.to fun j hj => (mv_mk (by rw [sz1_cl hcq]; exact hj) (tyK_at hb20)).symm⟩
      obtain ⟨a1, a2, a3⟩ := alloc_ok C hD (fun v hv => hv) hl hst z1 o1 hc hR
      rw [hsz] at a1
      have := hK _ _ _ _ _ rfl h3 _ H1 locs (cells + 1) (slots + q.2.2) ls a1 a2
      rw [List.map_cons, a3] at this
      have e2 : cv (adN ad kk i H.size) (aR kk i) = .ref H.size := congrArg Value.ref adN_self
      rw [e2] at this
      exact this
    · cases hq
  · have en : n = 2 := by simpa [okI] using ho
    subst en
    unfold stepI at h
    dsimp only at h
    obtain ⟨x, S1, rfl, h1⟩ := pI_inv h
    obtain ⟨kk, i, P', rfl, h2⟩ := pP_inv h1
    obtain ⟨q, hak, ⟨hty, rfl⟩, hl, h3⟩ := pO_inv h2
    intro ad H locs cells slots ls hD hR
    obtain ⟨hN, hT⟩ := ak_ok hak
    have h8 := hD.2.2.2.2.2.2.2.1
    have h9 := hD.2.2.2.2.2.2.2.2
    have hp2 : psz ((kk, i) :: P') = sz1 kk + psz P' := by simp [psz]
    have hsz := sz1_ak hak
    simp only [List.length_cons] at h8
    have harr : (Cond.arrayClass (newarray.typeOf k)).before args s = true ∧ componentBytes q.1 ≤ 8 ∧ s.vm.findClass ("[" ++ q.1.toString) = some (tA kk) := by
      have hra := (hkf.2.1 kk q hak).2
      rw [hty]
      rcases hT with h | h | h | ⟨C0, h⟩
      · rw [h] at hra ⊢; exact ⟨hw _ wp_arr_int, by decide, hra⟩
      · rw [h] at hra ⊢; exact ⟨hw _ wp_arr_byte, by decide, hra⟩
      · rw [h] at hra ⊢; exact ⟨hw _ wp_arr_boolean, by decide, hra⟩
      · rw [h] at hty; cases k <;> cases hty
    refine va_newaK (l := l) C.1 C.2.1 harr.1 rfl hd rfl (nI_pos (n := q.2) (by omega)) (nI_clamp (n := q.2) (by omega)) (by rw [hty]; have := Nat.mul_le_mul hN harr.2.1; omega) (by omega) (by omega) rfl fun H1 cA e1 z1 o1 _ hfc => ?_
    rw [hty] at hfc e1
    have hcA : cA = tA kk := Option.some.inj (hfc.symm.trans harr.2.2)
    subst hcA
    have hc : cellR D tA (adN ad kk i H.size) (mk M kk i) H1 kk i := by
      unfold cellR
      rw [ak_le hak, adN_self]
      refine ⟨q, hak, ?_⟩
      rw [e1]
      refine congrArg some (arrV_congr fun j hj => ?_)
      rw [mv_mk (by rw [sz1_ak hak]; exact hj) (tyK_ak hak), ak_ft hak]
    obtain ⟨a1, a2, a3⟩ := alloc_ok C hD mem1 hl (ak_st hak) z1 o1 hc hR
    rw [hsz] at a1
    have := hK _ _ _ _ _ rfl h3 _ H1 locs (cells + 1) (slots + q.2) ls a1 a2
    rw [List.map_cons, a3] at this
    have e2 : cv (adN ad kk i H.size) (aR kk i) = .ref H.size := congrArg Value.ref adN_self
    rw [e2] at this
    exact this
  · have en : n = 3 := by simpa [okI] using ho
    subst en
    unfold stepI at h
    dsimp only at h
    obtain ⟨x, S1, rfl, h1⟩ := pI_inv h
    obtain ⟨kk, i, P', rfl, h2⟩ := pP_inv h1
    obtain ⟨q, hak, ⟨hty, rfl⟩, hl, h3⟩ := pO_inv h2
    obtain ⟨v', hm, hv'⟩ := pK_inv (f := fun v => v = q.1) (show pK _ k _ from by unfold pK; rw [hty])
    subst hv'
    obtain ⟨w, hq⟩ := C.2.2.2.2.2.2.2.2.2.2.2.2.2.2.1 _ hm
    unfold aOK at hq
    dsimp only at hq
    split at hq
    · rename_i C0 hC0
      simp only [Bool.and_eq_true, decide_eq_true_eq] at hq
      obtain ⟨f1, f2⟩ := hq
      intro ad H locs cells slots ls hD hR
      obtain ⟨hN, -⟩ := ak_ok hak
      have h8 := hD.2.2.2.2.2.2.2.1
      have h9 := hD.2.2.2.2.2.2.2.2
      have hp2 : psz ((kk, i) :: P') = sz1 kk + psz P' := by simp [psz]
      have hsz := sz1_ak hak
      simp only [List.length_cons] at h8
      have hra := (hkf.2.1 kk q hak).2
      rw [hC0] at hra
      obtain ⟨kA, comp, -, -, -, hfc⟩ := hra
      have hcl : (Int32.ofNat q.2).toNatClampNeg = q.2 := nI_clamp (n := q.2) (by omega)
      refine W.anew (l := l) C.1 C.2.1 C.2.2.2.1 (word_of hw f1 rfl) (va_AO.use (hkf.2.2.1 C0 f2)) rfl hd rfl (nI_pos (n := q.2) (by omega)) (by rw [hcl]; omega) (by omega) (by rw [hcl]; omega) fun cA kA' comp' g1 g2 g3 g4 => ?_
      have hcA : cA = tA kk := Option.some.inj (g1.symm.trans hfc)
      subst hcA
      rw [hcl]
      generalize hH1 : H.push ({ cls := tA kk, slots := Array.replicate q.2 .null, vm := .none } : Cell) = H1
      have z1 : H1.size = H.size + 1 := by rw [← hH1, Array.size_push]
      have e1 : H1[H.size]? = some (arrV (tA kk) q.2 (fun _ => .null)) := by rw [← hH1, Array.getElem?_push_size, ← arrV_new]
      have o1 : ∀ x, x < H.size → H1[x]? = H[x]? := fun x hx => by rw [← hH1, Array.getElem?_push, if_neg (Nat.ne_of_lt hx)]
      have hc : cellR D tA (adN ad kk i H.size) (mk M kk i) H1 kk i := by
        unfold cellR
        rw [ak_le hak, adN_self]
        refine ⟨q, hak, ?_⟩
        rw [e1]
        refine congrArg some (arrV_congr fun j hj => ?_)
        rw [mv_mk (by rw [sz1_ak hak]; exact hj) (tyK_ak hak), ak_ft hak, hC0]
        rfl
      obtain ⟨a1, a2, a3⟩ := alloc_ok C hD mem1 hl (ak_st hak) z1 o1 hc hR
      rw [hsz] at a1
      have := hK _ _ _ _ _ rfl h3 _ H1 locs (cells + 1) (slots + q.2) ls a1 a2
      rw [List.map_cons, a3] at this
      have e2 : cv (adN ad kk i H.size) (aR kk i) = .ref H.size := congrArg Value.ref adN_self
      rw [e2] at this
      exact this
    · cases hq
end STEP10
