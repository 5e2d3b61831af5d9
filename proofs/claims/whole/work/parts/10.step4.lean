/-! ONE STEP: objects' places and arrays' -/
section STEP4
variable {gl : Nat} {gx : Nat → Int32} {z : Nat} {D : va_G} {tA : Nat → ClassId} {l : Launch} {p : Program} {e : Env} {R : Room} {s : State} {m : MethodId} {args : Array Value} {below : List Frame} {meth : Method} {c : Code} {Zq : State → Prop} {r : MT} {Q : PO} {d : Nat}
variable {K J : Nat → PL → List AV → List AV → MM → Prop} {pc n : Nat} {P : PL} {L S T : List AV} {M : MM} {X : XT}
theorem cellR.congr {ad : Nat → Nat → Nat} {M M1 : MM} {H H1 : Heap} {k i : Nat} (h : cellR D tA ad M H k i) (hq : H1[ad k i]? = H[ad k i]?) (hm : ∀ j, mv ad M1 k i j = mv ad M k i j) : cellR D tA ad M1 H1 k i := by
  have hf : (fun j => mv ad M1 k i j) = fun j => mv ad M k i j := funext hm
  unfold cellR at h ⊢
  rw [hf]
  split at h
  · obtain ⟨q, h1, h2⟩ := h
    exact ⟨q, h1, hq.trans h2⟩
  · obtain ⟨q, h1, h2⟩ := h
    exact ⟨q, h1, h2.kept hq⟩
/-- one object is written -/
theorem Rep.put {ad : Nat → Nat → Nat} {M M1 : MM} {H H1 : Heap} {k i : Nat} (h : Rep D tA z ad M H) (hl : M.2.2 k i = true) (e2 : M1.2.2 = M.2.2) (e0 : ∀ k' i' j, ¬ (k' = k ∧ i' = i) → M1.1 k' i' j = M.1 k' i' j ∧ M1.2.1 k' i' j = M.2.1 k' i' j)
    (hok : ∀ j, j < sz1 k → okA M.2.2 (M1.2.1 k i j)) (hq : ∀ q, q ≠ ad k i → H1[q]? = H[q]?) (hc : cellR D tA ad M1 H1 k i) : Rep D tA z ad M1 H1 := by
  obtain ⟨h1, h2, h3⟩ := h
  refine ⟨fun k' i' hl' => ?_, ?_, ?_⟩
  · rw [e2] at hl'
    obtain ⟨g1, g2, g3⟩ := h1 k' i' hl'
    refine ⟨g1, g2, ?_⟩
    by_cases hkk : k' = k ∧ i' = i
    · rw [hkk.1, hkk.2]; exact hc
    · refine g3.congr (hq _ fun e => hkk (h2 k' i' k i hl' hl e)) fun j => ?_
      unfold mv
      rw [(e0 k' i' j hkk).1, (e0 k' i' j hkk).2]
  · rw [e2]; exact h2
  · rw [e2]
    intro k' i' j hl' hj
    by_cases hkk : k' = k ∧ i' = i
    · rw [hkk.1] at hj ⊢; rw [hkk.2]; exact hok j hj
    · rw [(e0 k' i' j hkk).2]; exact h3 k' i' j hl' hj
theorem u3_self {α : Type} {f : Nat → Nat → Nat → α} {c i k : Nat} {v : α} : u3 f c i k v c i k = v := by simp [u3]
theorem u3_at {α : Type} {f : Nat → Nat → Nat → α} {c i k j : Nat} {v : α} : u3 f c i k v c i j = if j = k then v else f c i j := by simp [u3]
theorem u3_ne {α : Type} {f : Nat → Nat → Nat → α} {c i k c' i' k' : Nat} {v : α} (h : ¬ (c' = c ∧ i' = i)) : u3 f c i k v c' i' k' = f c' i' k' := by
  unfold u3
  rw [if_neg]
  exact fun q => h ⟨q.1, q.2.1⟩
theorem sz1_cl {k : Nat} {q : vw_C} (hcq : classes[k]? = some q) : sz1 k = q.2.2 := by
  have hk11 : k < 11 := (List.getElem?_eq_some_iff.mp hcq).1
  have hb20 : Nat.ble 20 k = false := by
    rcases hq' : Nat.ble 20 k with _ | _
    · rfl
    · have := Nat.le_of_ble_eq_true hq'
      omega
  unfold sz1
  rw [hb20]
  show (classes.getD k _).2.2 = _
  rw [List.getD_eq_getElem?_getD, hcq]
  rfl
theorem row_get (C : Cx z D tA p R s m args meth c r d) {H : Heap} {locs : List Loc} {cells slots a k j idx : Nat} {V : Nat → Value} {ls : Array Slot} {rest : List Value} {q : vw_C} (hcq : classes[k]? = some q) (ht : t_OB a (D.1 k) q.2.2 (D.2 k) H V) (hk : j < q.2.2) (hlink : (Cond.fieldLink r.1.cls idx q.1 (q.2.1 j).2.1 (q.2.1 j).2.2.1).before args s = true) (hself : (q.2.1 j).1 = q.1) (hd : decode r.2.1 pc = .ok (.getfield idx, 3))
    (kk : W p l e R s m args below meth c H locs cells slots Zq (F0 m (pc + 3) ls (V j :: rest))) : W p l e R s m args below meth c H locs cells slots Zq (F0 m pc ls (.ref a :: rest)) := by
  obtain ⟨hx, hb, -, hown, hw, -, hkf, -⟩ := C
  obtain ⟨C0, T0, N0⟩ := q
  refine va_get (D := D) (cl := classes) (tys := []) (ws := [(a, .inr (k, (List.range N0).map V))]) (C := C0) (T := T0) (N := N0) (ref := C0) hx hb hw (uwg k _ hcq) hown hkf.1 ?_ 0 rfl hcq j hk hlink (fun x h9 => by have e9 : (T0 j).1 = C0 := hself; rw [e9] at h9; exact h9) (v := V j) ?_ hd kk
  · intro k' q' h'
    cases k' with
    | zero =>
      cases h'
      exact ⟨_, hcq, ht.to fun j hj => by simp [vp_V, hj]⟩
    | succ k' => simp at h'
  · simp only [] at hk
    simp [hk]
theorem row_put (C : Cx z D tA p R s m args meth c r d) {H : Heap} {locs : List Loc} {cells slots a k j idx : Nat} {V : Nat → Value} {ls : Array Slot} {rest : List Value} {q : vw_C} (hS : va_S (aA z) s.heap H locs) (ha : z ≤ a) (hcq : classes[k]? = some q) (ht : t_OB a (D.1 k) q.2.2 (D.2 k) H V) (hk : j < q.2.2) (hlink : (Cond.fieldLink r.1.cls idx q.1 (q.2.1 j).2.1 (q.2.1 j).2.2.1).before args s = true) (hself : (q.2.1 j).1 = q.1)
    (hfin : (q.2.1 j).2.2.2 = true → r.1.name = "<init>" ∧ q.1 = r.1.cls) {ty : FieldType} {v : Value} (hdc : parseFieldDescriptor (q.2.1 j).2.2.1 = some ty) (hn : narrow ty v = v) (hfit : fits ty v = true) (hd : decode r.2.1 pc = .ok (.putfield idx, 3))
    (kk : ∀ (H1 : Heap) (locs1 : List Loc), t_OB a (D.1 k) q.2.2 (D.2 k) H1 (updV V j v) → (∀ x, x ≠ a → H1[x]? = H[x]?) → va_S (aA z) s.heap H1 locs1 → W p l e R s m args below meth c H1 locs1 cells slots Zq (F0 m (pc + 3) ls rest)) : W p l e R s m args below meth c H locs cells slots Zq (F0 m pc ls (v :: .ref a :: rest)) := by
  obtain ⟨hx, hb, -, hown, hw, hini, hkf, -⟩ := C
  obtain ⟨C0, T0, N0⟩ := q
  have hap := va_apart (own := r.1.cls) hw (uwg k _ hcq) (ftk k) (tyg k _ hcq) (nmg k _ hcq) hkf.1 hcq
  obtain ⟨cell, q1, q2, q3, q4⟩ := ht
  obtain ⟨hSl, hfc, kC, hkC, hkind⟩ := hkf.1.1 k _ hcq
  obtain ⟨cf, kf, fi, f, hi, hsl⟩ := hSl j hk
  have hlay := hw _ (uwg k _ hcq _ (u_in_lay hk))
  have hst := (u_facts hfc hkC (u_lays hw (uwg k _ hcq) hk) hi).1
  have hi2 : s.fieldFound? C0 (T0 j).2.1 (T0 j).2.2.1 = some (cf, kf, fi, f) := by rw [show (T0 j).1 = C0 from hself] at hi; exact hi
  by_cases hf : (T0 j).2.2.2 = true
  · obtain ⟨hn1, hn2⟩ := hfin hf
    have h6 := u_fits hfc hkC hkind (u_lays hw (uwg k _ hcq) hk) hi hdc hn hfit
    unfold u_lay at hlay
    rw [if_pos hf] at hlay
    have hcf : m.cls = cf := by
      obtain ⟨_, _, c', _, _, _, -, -, hf', -, -, -, hown2, -⟩ := Cond.laysFinal_spec hlay
      have e1 : c' = cf := by have := hi.symm.trans hf'; simp at this; exact this.1.symm
      rw [show (T0 j).1 = r.1.cls from hself.trans hn2] at hown2
      rw [← e1]; exact Option.some.inj (hown.symm.trans hown2)
    refine W.putFinK hx hb hown hlink hi2 hst hcf (hini hn1) (by rw [q2]; exact h6) q1 q3 (by rw [hsl]; exact k2_hasslot (q4 j hk)) rfl rfl hd fun H' e1 e2 e3 => ?_
    rw [hsl] at e1 ⊢
    exact kk H' _ ⟨_, e1, q2, q3, t_set q4 hap hk v⟩ e3 (hS.put e2 e3 ha)
  · have hf : (T0 j).2.2.2 = false := by simpa using hf
    unfold u_lay at hlay
    rw [if_neg (by rw [hf]; decide)] at hlay
    have h6 := u_store hfc hkC hkind hlay hi hdc hn hfit
    refine W.putK hx hb (f := f) ⟨hown, hlink, ⟨_, _, _, hi2⟩, hst⟩ (by rw [q2]; exact h6) q1 q3 (by rw [hsl]; exact k2_hasslot (q4 j hk)) rfl rfl hd fun H' e1 e2 e3 => ?_
    rw [hsl] at e1 ⊢
    exact kk H' _ ⟨_, e1, q2, q3, t_set q4 hap hk v⟩ e3 (hS.put e2 e3 ha)
theorem mem_single {D : va_G} {cl : List vw_C} {q : Nat × va_E} {H : Heap} (h : va_at D cl q H) : va_P D cl [q] H := by
  intro k q' h'
  cases k with
  | zero => cases h'; exact h
  | succ k => simp at h'
/-- an array as the kit has it -/
theorem ar_I {ad : Nat → Nat → Nat} {H : Heap} {k i : Nat} {q : FieldType × Nat} (hk : ak k = some q) (h : cellR D tA ad M H k i) (hI : isIT q.1 = true) : va_P D classes [(ad k i, .inl (tA k, q.2, .inl (M.1 k i)))] H := by
  have hb : Nat.ble 20 k = true := by
    unfold ak at hk
    split at hk
    · assumption
    · cases hk
  unfold cellR at h
  rw [hb] at h
  obtain ⟨q', e1, e2⟩ := h
  cases e1.symm.trans hk
  have hf : ∀ j, ftk k j = q.1 := fun j => by
    unfold ftk
    unfold ak at hk
    rw [hb] at hk ⊢
    simp only [] at hk ⊢
    rw [hk]
  refine mem_single ?_
  show H[ad k i]? = some (vp_cell _ _)
  rw [e2, vp_cell_i]
  congr 2
  funext j
  unfold mv
  rw [hf j, hI]
theorem kf_arr {U : State} (h : KF D tA U) {k : Nat} {q : FieldType × Nat} (hk : ak k = some q) : va_K D classes [(tA k, q.1)] U := by
  refine ⟨h.1.1, fun j q' h' => ?_⟩
  cases j with
  | zero => cases h'; exact h.2.1 k q hk
  | succ j => simp at h'
theorem go_getfield {k : Nat} (C : Cx z D tA p R s m args meth c r d) (hK : ∀ pc' P L S M, pc' = pc + n → K pc' P L S M → Go gl gx z D tA l p e R s m args below meth c Zq r Q pc' P L S M) (hd : decode r.2.1 pc = .ok (.getfield k, n)) (ho : okI (.getfield k) pc n = true) (h : stepI gl gx X d r.2.2.2.2.2 r.2.2.2.1 r.2.2.2.2.1 r.1.cls Q K J (.getfield k) pc P L S M) : Go gl gx z D tA l p e R s m args below meth c Zq r Q pc P L S M := by
  have en : n = 3 := by simpa [okI] using ho
  subst en
  unfold stepI at h
  dsimp only at h
  obtain ⟨k0, i, T1, rfl, h1⟩ := pR_inv h
  obtain ⟨⟨ci, j, b⟩, hm, h2⟩ := pK_inv h1
  obtain ⟨hb, h3⟩ := pB_inv h2
  have hb : k0 = ci := Nat.eq_of_beq_eq_true hb
  subst hb
  obtain ⟨w, hf⟩ := C.2.2.2.2.2.2.2.2.2.2.1 _ hm
  clear h h1 h2
  unfold fOK at hf
  dsimp only at hf h3
  split at hf
  · rename_i h16
    rw [h16] at h3
    have e16 : k0 = 16 := Nat.eq_of_beq_eq_true h16
    subst e16
    intro ad H locs cells slots ls hD hR
    have hi13 : i < 13 := by
      rcases hD.2.2.2.2.2.2.1 (aR 16 i) List.mem_cons_self with q | q
      · exact absurd (hD.2.2.1.1 16 i q).1 (by decide)
      · exact stv_hi q rfl
    have h17 : okA M.2.2 (aR 17 i) := Or.inr (stv_16 hi13).2
    have hE := hD.1.2.2.1.1 i hi13
    cases j with
    | zero =>
      simp only [Bool.and_eq_true, Bool.not_eq_true'] at hf
      obtain ⟨f1, rfl⟩ := hf
      exact vk_getf C.1 C.2.1 hE.2.2.1 hD.2.1 C.2.2.2.1 (word_of C.2.2.2.2.1 f1 rfl) (fun _ h => h) hd (hK _ _ _ _ _ rfl h3 ad H locs cells slots ls (hD.stk (hv1 mem1 h17)) hR)
    | succ j =>
      simp only [Bool.and_eq_true] at hf
      obtain ⟨f1, rfl⟩ := hf
      exact vk_getf C.1 C.2.1 hE.2.1 hD.2.1 C.2.2.2.1 (word_of C.2.2.2.2.1 f1 rfl) (fun _ h => h) hd (hK _ _ _ _ _ rfl h3 ad H locs cells slots ls (hD.stk (hv1 mem1 trivial)) hR)
  · rename_i h16
    rw [h16] at h3
    split at hf
    · rename_i q hcq
      simp only [Bool.and_eq_true, decide_eq_true_eq, beq_iff_eq] at hf
      obtain ⟨⟨⟨⟨f1, f2⟩, f3⟩, f4⟩, f5⟩ := hf
      have f1 : j < q.2.2 := Nat.le_of_ble_eq_true f1
      have hk11 : k0 < 11 := (List.getElem?_eq_some_iff.mp hcq).1
      have hb20 : Nat.ble 20 k0 = false := by
        rcases hq : Nat.ble 20 k0 with _ | _
        · rfl
        · have := Nat.le_of_ble_eq_true hq
          omega
      intro ad H locs cells slots ls hD hR
      have hlv : M.2.2 k0 i = true := by
        rcases hD.2.2.2.2.2.2.1 (aR k0 i) List.mem_cons_self with q | q
        · exact q
        · have q := stv_k q
          unfold stk at q
          simp only [Bool.and_eq_true] at q
          have := Nat.le_of_ble_eq_true q.1
          omega
      obtain ⟨-, g2, g3⟩ := hD.2.2.1.1 k0 i hlv
      unfold cellR at g3
      rw [hb20] at g3
      obtain ⟨q', e1, e2⟩ := g3
      cases e1.symm.trans hcq
      have row := row_get (Zq := Zq) (locs := locs) (cells := cells) (slots := slots) (l := l) (e := e) (below := below) (ls := ls) (rest := T1.map (cv ad)) C hcq e2 f1 (word_of C.2.2.2.2.1 f2 rfl) f3 hd
      refine row ?_
      unfold mv
      cases b with
      | true =>
        rw [f4]
        exact hK _ _ _ _ _ rfl h3 ad H locs cells slots ls (hD.stk (hv1 mem1 trivial)) hR
      | false =>
        rw [f4]
        exact hK _ _ _ _ _ rfl h3 ad H locs cells slots ls (hD.stk (hv1 mem1 (hD.2.2.1.2.2 k0 i j hlv (by rw [sz1_cl hcq]; exact f1)))) hR
    · cases hf
theorem lv_of {ad : Nat → Nat → Nat} {H : Heap} {locs : List Loc} {cells slots : Nat} {ls : Array Slot} {k i : Nat} (hD : Dx gl gx z D tA R s r ad H locs cells slots ls P L S M) (hm : aR k i ∈ S) (hk : stk k = false) : M.2.2 k i = true := by
  rcases hD.2.2.2.2.2.2.1 _ hm with q | q
  · exact q
  · have q := stv_k q
    rw [hk] at q
    cases q
theorem Dx.mem {M1 : MM} {ad : Nat → Nat → Nat} {H H1 : Heap} {locs locs1 : List Loc} {cells slots : Nat} {ls : Array Slot} (h : Dx gl gx z D tA R s r ad H locs cells slots ls P L S M) (e2 : M1.2.2 = M.2.2) (hR : Rep D tA z ad M1 H1) (hS : va_S (aA z) s.heap H1 locs1) (hT : ∀ v ∈ T, v ∈ S) : Dx gl gx z D tA R s r ad H1 locs1 cells slots ls P L T M1 := by
  obtain ⟨h1, h2, h3, h4, h5, h6, h7, h8, h9⟩ := h
  exact ⟨h1, hS, hR, h4, h5, by rw [e2]; exact h6, by rw [e2]; exact fun v hv => h7 v (hT v hv), h8, h9⟩
def tyK (t : FieldType) : Bool := match t with
  | .int | .boolean | .byte | .long | .object _ | .array _ => true
  | _ => false
theorem ty_ref : ∀ t : FieldType, isIT t = false → (t = .long → False) → tyK t = true → ∀ v : Value, (v = .null ∨ ∃ a, v = .ref a) → narrow t v = v ∧ fits t v = true := by
  intro t h1 h2 h3 v h4
  cases t
  case long => exact (h2 rfl).elim
  case object => rcases h4 with rfl | ⟨a, rfl⟩ <;> exact ⟨by simp [narrow], by simp [fits]⟩
  case array => rcases h4 with rfl | ⟨a, rfl⟩ <;> exact ⟨by simp [narrow], by simp [fits]⟩
  all_goals first | (exfalso; revert h1; decide) | (exfalso; revert h3; decide)
theorem tyK_all : fts.all (fun l => l.all tyK) = true := by decide +kernel
theorem tyK_at {k j : Nat} (h : Nat.ble 20 k = false) : tyK (ftk k j) = true := by
  unfold ftk
  rw [h]
  show tyK ((fts.getD k []).getD j .int) = true
  rw [List.getD_eq_getElem?_getD, List.getD_eq_getElem?_getD]
  cases hk : fts[k]? with
  | none => rfl
  | some l =>
    have hl := List.all_eq_true.mp tyK_all l (List.mem_of_getElem? hk)
    show tyK (l[j]?.getD .int) = true
    cases hj : l[j]? with
    | none => rfl
    | some t => exact List.all_eq_true.mp hl t (List.mem_of_getElem? hj)
theorem finB_eq {k j : Nat} {q : vw_C} (hq : classes[k]? = some q) : finB k j = (q.2.1 j).2.2.2 := by
  unfold finB
  rw [List.getD_eq_getElem?_getD, hq]
  rfl
theorem go_putfield {k : Nat} (C : Cx z D tA p R s m args meth c r d) (hmk : r.2.2.2.2.1 = 2 → r.1.name = "<init>") (hK : ∀ pc' P L S M, pc' = pc + n → K pc' P L S M → Go gl gx z D tA l p e R s m args below meth c Zq r Q pc' P L S M) (hd : decode r.2.1 pc = .ok (.putfield k, n)) (ho : okI (.putfield k) pc n = true) (h : stepI gl gx X d r.2.2.2.2.2 r.2.2.2.1 r.2.2.2.2.1 r.1.cls Q K J (.putfield k) pc P L S M) : Go gl gx z D tA l p e R s m args below meth c Zq r Q pc P L S M := by
  have en : n = 3 := by simpa [okI] using ho
  subst en
  unfold stepI at h
  dsimp only at h
  obtain ⟨v, T0, rfl, h0⟩ := pV_inv h
  obtain ⟨k0, i, T1, rfl, h1⟩ := pR_inv h0
  obtain ⟨⟨ci, j, b⟩, hm, h2⟩ := pK_inv h1
  obtain ⟨hb, h3⟩ := pB_inv h2
  have hb : k0 = ci := Nat.eq_of_beq_eq_true hb
  subst hb
  obtain ⟨hfb, h4⟩ := pB_inv h3
  obtain ⟨w, hf⟩ := C.2.2.2.2.2.2.2.2.2.2.1 _ hm
  clear h h0 h1 h2 h3
  unfold fOK at hf
  dsimp only at hf h4 hfb
  intro ad H locs cells slots ls hD hR
  split at hf
  · rename_i h16
    have e16 : k0 = 16 := Nat.eq_of_beq_eq_true h16
    subst e16
    exfalso
    rw [show finB 16 j = false from rfl] at hfb
    cases hfb
  · split at hf
    · rename_i q hcq
      simp only [Bool.and_eq_true, decide_eq_true_eq, beq_iff_eq] at hf
      obtain ⟨⟨⟨⟨f1, f2⟩, f3⟩, f4⟩, f5⟩ := hf
      have f1 : j < q.2.2 := Nat.le_of_ble_eq_true f1
      have hk11 : k0 < 11 := (List.getElem?_eq_some_iff.mp hcq).1
      have hb20 : Nat.ble 20 k0 = false := by
        rcases hq : Nat.ble 20 k0 with _ | _
        · rfl
        · have := Nat.le_of_ble_eq_true hq
          omega
      have hst : stk k0 = false := by
        unfold stk
        rcases hq : Nat.ble 11 k0 with _ | _
        · rfl
        · have := Nat.le_of_ble_eq_true hq
          omega
      have hlv := lv_of hD (List.mem_cons_of_mem _ List.mem_cons_self) hst
      obtain ⟨-, g2, g3⟩ := hD.2.2.1.1 k0 i hlv
      have g3' := g3
      unfold cellR at g3
      rw [hb20] at g3
      obtain ⟨q', e1, e2⟩ := g3
      cases e1.symm.trans hcq
      have hfin : (q.2.1 j).2.2.2 = true → r.1.name = "<init>" ∧ q.1 = r.1.cls := by
        intro e
        rw [finB_eq hcq, e] at hfb
        simp only [Bool.and_eq_true, decide_eq_true_eq] at hfb
        refine ⟨hmk (Nat.eq_of_beq_eq_true hfb.1), ?_⟩
        rw [hfb.2, List.getD_eq_getElem?_getD, hcq]
        rfl
      -- the write, for any value that fits
      have go : ∀ (v : AV) (M1 : MM), narrow (ftk k0 j) (cv ad v) = cv ad v → fits (ftk k0 j) (cv ad v) = true → M1.2.2 = M.2.2 → (∀ k' i' j', ¬ (k' = k0 ∧ i' = i) → M1.1 k' i' j' = M.1 k' i' j' ∧ M1.2.1 k' i' j' = M.2.1 k' i' j') → (∀ j', j' < sz1 k0 → okA M.2.2 (M1.2.1 k0 i j')) → (∀ j', mv ad M1 k0 i j' = updV (fun j => mv ad M k0 i j) j (cv ad v) j') → K (pc + 3) P L T1 M1 →
          W p l e R s m args below meth c H locs cells slots Zq (F0 m pc ls (cv ad v :: .ref (ad k0 i) :: T1.map (cv ad))) := by
        intro v M1 a1 a2 a3 a4 a5 a6 a7
        refine row_put C hD.2.1 g2 hcq e2 f1 (word_of C.2.2.2.2.1 f2 rfl) f3 hfin f5 a1 a2 hd fun H1 locs1 b1 b2 b3 => ?_
        have hc1 : cellR D tA ad M1 H1 k0 i := by
          unfold cellR
          rw [hb20]
          exact ⟨q, hcq, b1.to fun j' _ => (a6 j').symm⟩
        exact hK _ _ _ _ _ rfl a7 ad H1 locs1 cells slots ls (hD.mem a3 (hD.2.2.1.put hlv a3 a4 a5 b2 hc1) b3 mem2) (by rw [a3]; exact hR)
      have old := hD.2.2.1.2.2 k0 i
      cases b with
      | true =>
        obtain ⟨x, T9, e9, h5⟩ := pI_inv h4
        obtain rfl : v = aI x := (List.cons.inj e9).1
        have wr : ∀ (hn : narrow (ftk k0 j) (.int x) = .int x) (hft : fits (ftk k0 j) (.int x) = true), K (pc + 3) P L T1 (u3 M.1 k0 i j x, M.2) → W p l e R s m args below meth c H locs cells slots Zq (F0 m pc ls (cv ad (aI x) :: .ref (ad k0 i) :: T1.map (cv ad))) := by
          intro hn hft hk
          refine go (aI x) (u3 M.1 k0 i j x, M.2) hn hft rfl (fun k' i' j' hh => ⟨u3_ne hh, rfl⟩) (fun j' hj' => old j' hlv hj') (fun j' => ?_) hk
          · unfold mv updV
            by_cases hj : j' = j
            · subst hj
              simp [f4, u3_at, cv]
            · simp [hj, u3_at]
        split at h5
        · rename_i ht
          exact wr (by rw [ht]; rfl) (by rw [ht]; rfl) h5
        · exact wr h5.1.1 h5.1.2 h5.2
      | false =>
        dsimp only at h4
        have wr : ∀ (v : AV), okA M.2.2 v → narrow (ftk k0 j) (cv ad v) = cv ad v → fits (ftk k0 j) (cv ad v) = true → K (pc + 3) P L T1 (M.1, u3 M.2.1 k0 i j v, M.2.2) → W p l e R s m args below meth c H locs cells slots Zq (F0 m pc ls (cv ad v :: .ref (ad k0 i) :: T1.map (cv ad))) := by
          intro v hv hn hf hk
          refine go v (M.1, u3 M.2.1 k0 i j v, M.2.2) hn hf rfl (fun k' i' j' hh => ⟨rfl, u3_ne hh⟩) (fun j' hj' => ?_) (fun j' => ?_) hk
          · show okA M.2.2 (u3 M.2.1 k0 i j v k0 i j')
            rw [u3_at]
            split
            · exact hv
            · exact old j' hlv hj'
          · unfold mv updV
            by_cases hj : j' = j
            · subst hj
              simp [f4, u3_at]
            · simp [hj, u3_at]
        have hvS := hD.2.2.2.2.2.2.1 v List.mem_cons_self
        split at h4
        · rename_i ht
          obtain ⟨x, T9, e9, h5⟩ := pL_inv h4
          obtain rfl : v = aL x := (List.cons.inj e9).1
          exact wr _ trivial (by rw [ht]; rfl) (by rw [ht]; rfl) h5
        · rename_i hnl
          have hty := ty_ref
          rcases pA_inv h4 with ⟨c', i', T9, e9, h5⟩ | ⟨T9, e9, h5⟩
          · obtain rfl : v = aR c' i' := (List.cons.inj e9).1
            have := hty _ f4 hnl (tyK_at hb20) (cv ad (aR c' i')) (Or.inr ⟨_, rfl⟩)
            exact wr _ hvS this.1 this.2 h5
          · obtain rfl : v = aN := (List.cons.inj e9).1
            have := hty _ f4 hnl (tyK_at hb20) (cv ad aN) (Or.inl rfl)
            exact wr _ trivial this.1 this.2 h5
    · cases hf
end STEP4
