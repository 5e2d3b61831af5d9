/-! ONE STEP: constants, arithmetic, branches, answers -/
section STEP2
variable {gl : Nat} {gx : Nat → Int32} {z : Nat} {D : va_G} {tA : Nat → ClassId} {l : Launch} {p : Program} {e : Env} {R : Room} {s : State} {m : MethodId} {args : Array Value} {below : List Frame} {meth : Method} {c : Code} {Zq : State → Prop} {r : MT} {Q : PO} {d : Nat}
variable {K J : Nat → PL → List AV → List AV → MM → Prop} {pc n : Nat} {P : PL} {L S T : List AV} {M : MM} {X : XT}
theorem go_row {pc' : Nat} (hc : Go gl gx z D tA l p e R s m args below meth c Zq r Q pc' P L T M) (hv : ∀ v ∈ T, v ∈ S ∨ okA M.2.2 v)
    (row : ∀ (H : Heap) (locs : List Loc) (cells slots : Nat) (ad : Nat → Nat → Nat) (ls : Array Slot), W p l e R s m args below meth c H locs cells slots Zq (F0 m pc' ls (T.map (cv ad))) → W p l e R s m args below meth c H locs cells slots Zq (F0 m pc ls (S.map (cv ad)))) :
    Go gl gx z D tA l p e R s m args below meth c Zq r Q pc P L S M := by
  intro ad H locs cells slots ls hD hR
  exact row H locs cells slots ad ls (hc ad H locs cells slots ls (hD.stk hv) hR)
theorem hv1 {lv : LV} {v : AV} {A B : List AV} (hA : ∀ w ∈ A, w ∈ B) (h : okA lv v) : ∀ w ∈ v :: A, w ∈ B ∨ okA lv w := fun w hw => (List.mem_cons.mp hw).elim (fun q => Or.inr (by rw [q]; exact h)) (fun q => Or.inl (hA w q))
theorem mem1 {v : AV} {A : List AV} : ∀ w ∈ A, w ∈ v :: A := fun _ h => List.mem_cons_of_mem _ h
theorem mem2 {u v : AV} {A : List AV} : ∀ w ∈ A, w ∈ u :: v :: A := fun _ h => List.mem_cons_of_mem _ (List.mem_cons_of_mem _ h)
theorem go_const {i : Instr} (C : Cx z D tA p R s m args meth c r d) (hK : ∀ pc' P L S M, pc' = pc + n → K pc' P L S M → Go gl gx z D tA l p e R s m args below meth c Zq r Q pc' P L S M) (hd : decode r.2.1 pc = .ok (i, n)) (ho : okI i pc n = true) (h : stepI gl gx X d r.2.2.2.2.2 r.2.2.2.1 r.2.2.2.2.1 r.1.cls Q K J i pc P L S M)
    (hi : (∃ k, i = .iconst k) ∨ (∃ k, i = .bipush k) ∨ (∃ k, i = .sipush k) ∨ (∃ k, i = .lconst k) ∨ i = .aconst_null) : Go gl gx z D tA l p e R s m args below meth c Zq r Q pc P L S M := by
  obtain ⟨hx, hb, -⟩ := C
  rcases hi with ⟨k, rfl⟩ | ⟨k, rfl⟩ | ⟨k, rfl⟩ | ⟨k, rfl⟩ | rfl
  · have en : n = 1 := by simpa [okI] using ho
    subst en
    exact go_row (hK _ _ _ _ _ rfl h) (hv1 (fun _ h => h) trivial) fun H locs cells slots ad ls w => lv_iconst hx hb hd (cI_eq k).symm w
  · simp only [okI, Bool.and_eq_true, beq_iff_eq, decide_eq_true_eq] at ho
    obtain ⟨rfl, ho⟩ := ho
    exact go_row (hK _ _ _ _ _ rfl h) (hv1 (fun _ h => h) trivial) fun H locs cells slots ad ls w => lv_bipush hx hb hd ho w
  · simp only [okI, Bool.and_eq_true, beq_iff_eq, decide_eq_true_eq] at ho
    obtain ⟨rfl, ho⟩ := ho
    exact go_row (hK _ _ _ _ _ rfl h) (hv1 (fun _ h => h) trivial) fun H locs cells slots ad ls w => lv_sipush hx hb hd ho w
  · have en : n = 1 := by simpa [okI] using ho
    subst en
    exact go_row (hK _ _ _ _ _ rfl h) (hv1 (fun _ h => h) trivial) fun H locs cells slots ad ls w => lv_lconst hx hb hd rfl w
  · have en : n = 1 := by simpa [okI] using ho
    subst en
    exact go_row (hK _ _ _ _ _ rfl h) (hv1 (fun _ h => h) trivial) fun H locs cells slots ad ls w => lv_null hx hb hd w
theorem go_arith {i : Instr} (C : Cx z D tA p R s m args meth c r d) (hK : ∀ pc' P L S M, pc' = pc + n → K pc' P L S M → Go gl gx z D tA l p e R s m args below meth c Zq r Q pc' P L S M) (hd : decode r.2.1 pc = .ok (i, n)) (ho : okI i pc n = true) (h : stepI gl gx X d r.2.2.2.2.2 r.2.2.2.1 r.2.2.2.2.1 r.1.cls Q K J i pc P L S M)
    (hi : i ∈ [Instr.iadd, .isub, .imul, .iand, .ior, .ixor, .ishl, .ishr, .iushr, .idiv, .irem, .ineg, .i2l, .i2b, .i2c, .lshl, .lor, .lcmp]) : Go gl gx z D tA l p e R s m args below meth c Zq r Q pc P L S M := by
  obtain ⟨hx, hb, -⟩ := C
  simp only [List.mem_cons, List.not_mem_nil, or_false] at hi
  rcases hi with rfl | rfl | rfl | rfl | rfl | rfl | rfl | rfl | rfl | rfl | rfl | rfl | rfl | rfl | rfl | rfl | rfl | rfl
  all_goals (have en : n = 1 := by simpa [okI] using ho)
  all_goals subst en
  · obtain ⟨y, T1, rfl, h⟩ := pI_inv h
    obtain ⟨x, T2, rfl, h⟩ := pI_inv h
    exact go_row (hK _ _ _ _ _ rfl h) (hv1 mem2 trivial) fun H locs cells slots ad ls w => lv_iadd hx hb hd w
  · obtain ⟨y, T1, rfl, h⟩ := pI_inv h
    obtain ⟨x, T2, rfl, h⟩ := pI_inv h
    exact go_row (hK _ _ _ _ _ rfl h) (hv1 mem2 trivial) fun H locs cells slots ad ls w => lv_isub hx hb hd w
  · obtain ⟨y, T1, rfl, h⟩ := pI_inv h
    obtain ⟨x, T2, rfl, h⟩ := pI_inv h
    exact go_row (hK _ _ _ _ _ rfl h) (hv1 mem2 trivial) fun H locs cells slots ad ls w => lv_imul hx hb hd w
  · obtain ⟨y, T1, rfl, h⟩ := pI_inv h
    obtain ⟨x, T2, rfl, h⟩ := pI_inv h
    exact go_row (hK _ _ _ _ _ rfl h) (hv1 mem2 trivial) fun H locs cells slots ad ls w => lv_iand hx hb hd w
  · obtain ⟨y, T1, rfl, h⟩ := pI_inv h
    obtain ⟨x, T2, rfl, h⟩ := pI_inv h
    exact go_row (hK _ _ _ _ _ rfl h) (hv1 mem2 trivial) fun H locs cells slots ad ls w => lv_ior hx hb hd w
  · obtain ⟨y, T1, rfl, h⟩ := pI_inv h
    obtain ⟨x, T2, rfl, h⟩ := pI_inv h
    exact go_row (hK _ _ _ _ _ rfl h) (hv1 mem2 trivial) fun H locs cells slots ad ls w => lv_ixor hx hb hd w
  · obtain ⟨y, T1, rfl, h⟩ := pI_inv h
    obtain ⟨x, T2, rfl, h⟩ := pI_inv h
    exact go_row (hK _ _ _ _ _ rfl h) (hv1 mem2 trivial) fun H locs cells slots ad ls w => lv_ishl hx hb hd w
  · obtain ⟨y, T1, rfl, h⟩ := pI_inv h
    obtain ⟨x, T2, rfl, h⟩ := pI_inv h
    exact go_row (hK _ _ _ _ _ rfl h) (hv1 mem2 trivial) fun H locs cells slots ad ls w => lv_ishr hx hb hd w
  · obtain ⟨y, T1, rfl, h⟩ := pI_inv h
    obtain ⟨x, T2, rfl, h⟩ := pI_inv h
    exact go_row (hK _ _ _ _ _ rfl h) (hv1 mem2 trivial) fun H locs cells slots ad ls w => lv_iushr hx hb hd rfl w
  · obtain ⟨y, T1, rfl, h⟩ := pI_inv h
    obtain ⟨x, T2, rfl, h⟩ := pI_inv h
    exact go_row (hK _ _ _ _ _ rfl h.2) (hv1 mem2 trivial) fun H locs cells slots ad ls w => lv_idiv hx hb hd h.1 w
  · obtain ⟨y, T1, rfl, h⟩ := pI_inv h
    obtain ⟨x, T2, rfl, h⟩ := pI_inv h
    exact go_row (hK _ _ _ _ _ rfl h.2) (hv1 mem2 trivial) fun H locs cells slots ad ls w => lv_irem hx hb hd h.1 w
  · obtain ⟨x, T2, rfl, h⟩ := pI_inv h
    exact go_row (hK _ _ _ _ _ rfl h) (hv1 mem1 trivial) fun H locs cells slots ad ls w => lv_ineg hx hb hd w
  · obtain ⟨x, T2, rfl, h⟩ := pI_inv h
    exact go_row (hK _ _ _ _ _ rfl h) (hv1 mem1 trivial) fun H locs cells slots ad ls w => lv_i2l hx hb hd rfl w
  · obtain ⟨x, T2, rfl, h⟩ := pI_inv h
    exact go_row (hK _ _ _ _ _ rfl h) (hv1 mem1 trivial) fun H locs cells slots ad ls w => lv_i2b hx hb hd rfl w
  · obtain ⟨x, T2, rfl, h⟩ := pI_inv h
    exact go_row (hK _ _ _ _ _ rfl h) (hv1 mem1 trivial) fun H locs cells slots ad ls w => lv_i2c hx hb hd rfl w
  · obtain ⟨y, T1, rfl, h⟩ := pI_inv h
    obtain ⟨x, T2, rfl, h⟩ := pL_inv h
    exact go_row (hK _ _ _ _ _ rfl h) (hv1 mem2 trivial) fun H locs cells slots ad ls w => lv_lshl hx hb hd rfl w
  · obtain ⟨y, T1, rfl, h⟩ := pL_inv h
    obtain ⟨x, T2, rfl, h⟩ := pL_inv h
    exact go_row (hK _ _ _ _ _ rfl h) (hv1 mem2 trivial) fun H locs cells slots ad ls w => lv_lor hx hb hd w
  · obtain ⟨y, T1, rfl, h⟩ := pL_inv h
    obtain ⟨x, T2, rfl, h⟩ := pL_inv h
    exact go_row (hK _ _ _ _ _ rfl h) (hv1 mem2 trivial) fun H locs cells slots ad ls w => W.lcmp hx hb hd w
theorem tg_eq {off : Int} (h : 0 ≤ (pc : Int) + off) : (pc : Int) + off = ((tg pc off : Nat) : Int) := by
  cases off with
  | ofNat n => show (pc : Int) + (n : Int) = ((pc + n : Nat) : Int); omega
  | negSucc n => show (pc : Int) + Int.negSucc n = ((pc - (n + 1) : Nat) : Int); omega
theorem go_branch {i : Instr} (C : Cx z D tA p R s m args meth c r d) (hK : ∀ pc' P L S M, pc' = pc + n → K pc' P L S M → Go gl gx z D tA l p e R s m args below meth c Zq r Q pc' P L S M) (hJ : ∀ pc P L S M, J pc P L S M → Go gl gx z D tA l p e R s m args below meth c Zq r Q pc P L S M) (hd : decode r.2.1 pc = .ok (i, n)) (ho : okI i pc n = true) (h : stepI gl gx X d r.2.2.2.2.2 r.2.2.2.1 r.2.2.2.2.1 r.1.cls Q K J i pc P L S M)
    (hi : (∃ o, i = .goto o) ∨ (∃ q o, i = .if_icmp q o) ∨ (∃ q o, i = .ifCond q o) ∨ (∃ o, i = .ifnull o) ∨ (∃ o, i = .ifnonnull o)) : Go gl gx z D tA l p e R s m args below meth c Zq r Q pc P L S M := by
  obtain ⟨hx, hb, -⟩ := C
  rcases hi with ⟨o, rfl⟩ | ⟨q, o, rfl⟩ | ⟨q, o, rfl⟩ | ⟨o, rfl⟩ | ⟨o, rfl⟩
  all_goals simp only [okI, Bool.and_eq_true, beq_iff_eq, decide_eq_true_eq] at ho
  all_goals obtain ⟨rfl, ho⟩ := ho
  · exact go_row (hJ _ _ _ _ _ h) (fun v hv => Or.inl hv) fun H locs cells slots ad ls w => lv_goto hx hb hd (tg_eq ho) w
  · obtain ⟨y, T1, rfl, h⟩ := pI_inv h
    obtain ⟨x, T2, rfl, h⟩ := pI_inv h
    intro ad H locs cells slots ls hD hR
    have hD2 := hD.stk (T := T2) (fun v hv => Or.inl (mem2 v hv))
    have tJ := fun (a : J (tg pc o) P L T2 M) => hJ _ _ _ _ _ a ad H locs cells slots ls hD2 hR
    have tK := fun (a : K (pc + 3) P L T2 M) => hK _ _ _ _ _ rfl a ad H locs cells slots ls hD2 hR
    cases q with
    | eq => exact lv_icmp_eq hx hb hd (tg_eq ho) (fun a => tJ (h.1 a)) (fun a => tK (h.2 a))
    | ne => exact lv_icmp_ne hx hb hd (tg_eq ho) (fun a => tJ (h.1 a)) (fun a => tK (h.2 a))
    | lt => exact lv_icmp_lt hx hb hd (tg_eq ho) (fun a => tJ (h.1 a)) (fun a => tK (h.2 a))
    | ge => exact lv_icmp_ge hx hb hd (tg_eq ho) (fun a => tJ (h.1 a)) (fun a => tK (h.2 a))
    | gt => exact lv_icmp_gt hx hb hd (tg_eq ho) (fun a => tJ (h.1 a)) (fun a => tK (h.2 a))
    | le => exact lv_icmp_le hx hb hd (tg_eq ho) (fun a => tJ (h.1 a)) (fun a => tK (h.2 a))
  · obtain ⟨x, T2, rfl, h⟩ := pI_inv h
    intro ad H locs cells slots ls hD hR
    have hD2 := hD.stk (T := T2) (fun v hv => Or.inl (mem1 v hv))
    have tJ := fun (a : J (tg pc o) P L T2 M) => hJ _ _ _ _ _ a ad H locs cells slots ls hD2 hR
    have tK := fun (a : K (pc + 3) P L T2 M) => hK _ _ _ _ _ rfl a ad H locs cells slots ls hD2 hR
    cases q with
    | eq => exact lv_if_eq hx hb hd (tg_eq ho) (fun a => tJ (h.1 a)) (fun a => tK (h.2 a))
    | ne => exact lv_if_ne hx hb hd (tg_eq ho) (fun a => tJ (h.1 a)) (fun a => tK (h.2 a))
    | lt => exact lv_if_lt hx hb hd (tg_eq ho) (fun a => tJ (h.1 a)) (fun a => tK (h.2 a))
    | ge => exact lv_if_ge hx hb hd (tg_eq ho) (fun a => tJ (h.1 a)) (fun a => tK (h.2 a))
    | gt => exact lv_if_gt hx hb hd (tg_eq ho) (fun a => tJ (h.1 a)) (fun a => tK (h.2 a))
    | le => exact lv_if_le hx hb hd (tg_eq ho) (fun a => tJ (h.1 a)) (fun a => tK (h.2 a))
  · have h : pN S (fun S => K (pc + 3) P L S M) (fun S => J (tg pc o) P L S M) := h
    unfold pN at h
    split at h
    · exact go_row (hK _ _ _ _ _ rfl h) (fun v hv => Or.inl (mem1 v hv)) fun H locs cells slots ad ls w => lv_ifnull hx hb hd w
    · exact go_row (hJ _ _ _ _ _ h) (fun v hv => Or.inl (mem1 v hv)) fun H locs cells slots ad ls w => lv_ifnullN hx hb hd (tg_eq ho) w
    · exact h.elim
  · have h : pN S (fun S => J (tg pc o) P L S M) (fun S => K (pc + 3) P L S M) := h
    unfold pN at h
    split at h
    · exact go_row (hJ _ _ _ _ _ h) (fun v hv => Or.inl (mem1 v hv)) fun H locs cells slots ad ls w => lv_ifnonnull hx hb hd (tg_eq ho) w
    · exact go_row (hK _ _ _ _ _ rfl h) (fun v hv => Or.inl (mem1 v hv)) fun H locs cells slots ad ls w => lv_ifnonnullN hx hb hd w
    · exact h.elim
theorem swT_at {x : Int32} {J : Nat → Prop} : ∀ {os : List Int} {lo : Int} {k : Nat} {o : Int}, swT x pc J lo os → os[k]? = some o → x = cI (lo + k) → J (tg pc o) := by
  intro os
  induction os with
  | nil => intro lo k o _ h; simp at h
  | cons a os ih =>
    intro lo k o h hk hx
    cases k with
    | zero =>
      have : a = o := by simpa using hk
      subst this
      exact h.1 (by simpa using hx)
    | succ k => exact ih h.2 (by simpa using hk) (by rw [hx]; congr 1; omega)
theorem swL_at {x : Int32} {J : Nat → Prop} {dflt : Int} : ∀ {os : List (Int × Int)}, (∀ q ∈ os, (cI q.1).toInt = q.1) → swL x pc J dflt os → J (tg pc (Op.lookupswitch.offset os dflt x.toInt)) := by
  intro os
  induction os with
  | nil => intro _ h; exact h
  | cons a os ih =>
    intro hq h
    obtain ⟨v, o⟩ := a
    by_cases hx : x = cI v
    · have := h.1 hx
      have e : x.toInt = v := by rw [hx]; exact hq (v, o) List.mem_cons_self
      simp only [Op.lookupswitch.offset, e]
      simpa using this
    · have h2 := ih (fun q hm => hq q (List.mem_cons_of_mem _ hm)) (h.2 hx)
      have e : ¬ x.toInt = v := by
        intro e
        apply hx
        rw [cI_eq, ← e]
        simp
      have e' : ¬ v = x.toInt := fun q => e q.symm
      have : Op.lookupswitch.offset ((v, o) :: os) dflt x.toInt = Op.lookupswitch.offset os dflt x.toInt := by
        simp [Op.lookupswitch.offset, List.find?, e, e']
      rw [this]
      exact h2
theorem go_switch {i : Instr} (C : Cx z D tA p R s m args meth c r d) (hJ : ∀ pc P L S M, J pc P L S M → Go gl gx z D tA l p e R s m args below meth c Zq r Q pc P L S M) (hd : decode r.2.1 pc = .ok (i, n)) (ho : okI i pc n = true) (h : stepI gl gx X d r.2.2.2.2.2 r.2.2.2.1 r.2.2.2.2.1 r.1.cls Q K J i pc P L S M)
    (hi : (∃ o lo hi os, i = .tableswitch o lo hi os) ∨ (∃ o ps, i = .lookupswitch o ps)) : Go gl gx z D tA l p e R s m args below meth c Zq r Q pc P L S M := by
  obtain ⟨hx, hb, -⟩ := C
  rcases hi with ⟨o, lo, hi, os, rfl⟩ | ⟨o, ps, rfl⟩
  · simp only [okI, Bool.and_eq_true, decide_eq_true_eq] at ho
    obtain ⟨⟨⟨ho1, ho2⟩, ho3⟩, ho4, ho5⟩ := ho
    obtain ⟨x, T2, rfl, h⟩ := pI_inv h
    obtain ⟨h1, h2⟩ := h
    intro ad H locs cells slots ls hD hR
    have hD2 := hD.stk (T := T2) (fun v hv => Or.inl (mem1 v hv))
    have tJ := fun {t : Nat} (a : J t P L T2 M) => hJ _ _ _ _ _ a ad H locs cells slots ls hD2 hR
    by_cases ha : x.toInt < lo
    · exact lv_tableOut hx hb hd (Or.inl ha) (tg_eq ho1) (tJ (h1 (Or.inl (Int32.lt_iff_toInt_lt.mpr (by rw [ho4]; exact ha)))))
    · by_cases hb2 : hi < x.toInt
      · exact lv_tableOut hx hb hd (Or.inr hb2) (tg_eq ho1) (tJ (h1 (Or.inr (Int32.lt_iff_toInt_lt.mpr (by rw [ho5]; exact hb2)))))
      · have hlt : (x.toInt - lo).toNat < os.toList.length := by omega
        obtain ⟨off, hoff⟩ : ∃ off, os.toList[(x.toInt - lo).toNat]? = some off := ⟨_, List.getElem?_eq_getElem hlt⟩
        have hoff2 : os[(x.toInt - lo).toNat]? = some off := by rw [← Array.getElem?_toList]; exact hoff
        have hnn := of_decide_eq_true (List.all_eq_true.mp ho2 off (List.mem_of_getElem? hoff))
        refine lv_tableIn hx hb hd ha hb2 hoff2 (tg_eq hnn) (tJ (swT_at (J := fun t => J t P L T2 M) h2 hoff ?_))
        rw [cI_eq, show lo + ((x.toInt - lo).toNat : Int) = x.toInt by omega]
        simp
  · simp only [okI, Bool.and_eq_true, decide_eq_true_eq, List.all_eq_true] at ho
    obtain ⟨⟨ho1, ho2⟩, ho3⟩ := ho
    obtain ⟨x, T2, rfl, h⟩ := pI_inv h
    intro ad H locs cells slots ls hD hR
    have hD2 := hD.stk (T := T2) (fun v hv => Or.inl (mem1 v hv))
    refine lv_lookup hx hb hd (List.all_eq_true.mpr fun x hx => by obtain ⟨⟨a, b⟩, ⟨c, d⟩⟩ := x; exact decide_eq_true (ho3 _ hx)) rfl (tg_eq ?_) (hJ _ _ _ _ _ (swL_at (J := fun t => J t P L T2 M) (fun q hq => (ho2 q hq).2) h) ad H locs cells slots ls hD2 hR)
    have key : ∀ os : List (Int × Int), (∀ q ∈ os, 0 ≤ (pc : Int) + q.2) → 0 ≤ (pc : Int) + Op.lookupswitch.offset os o x.toInt := by
      intro os
      induction os with
      | nil => intro _; exact ho1
      | cons a os ih =>
        intro hq
        obtain ⟨v, o'⟩ := a
        by_cases e : v = x.toInt
        · simp only [Op.lookupswitch.offset, e]
          simpa using hq (v, o') List.mem_cons_self
        · have e' : ¬ x.toInt = v := fun q => e q.symm
          have : Op.lookupswitch.offset ((v, o') :: os) o x.toInt = Op.lookupswitch.offset os o x.toInt := by
            simp [Op.lookupswitch.offset, List.find?, e, e']
          rw [this]
          exact ih (fun q hm => hq q (List.mem_cons_of_mem _ hm))
    exact key ps.toList (fun q hq => (ho2 q hq).1)
end STEP2
