/-! ONE STEP: stack, constants of the pool, statics, fields -/
section STEP3
variable {gl : Nat} {gx : Nat → Int32} {z : Nat} {D : va_G} {tA : Nat → ClassId} {l : Launch} {p : Program} {e : Env} {R : Room} {s : State} {m : MethodId} {args : Array Value} {below : List Frame} {meth : Method} {c : Code} {Zq : State → Prop} {r : MT} {Q : PO} {d : Nat}
variable {K J : Nat → PL → List AV → List AV → MM → Prop} {pc n : Nat} {P : PL} {L S T : List AV} {M : MM} {X : XT}
theorem pV_inv {S : List AV} {f : AV → List AV → Prop} (h : pV S f) : ∃ v T, S = v :: T ∧ f v T := by
  unfold pV at h
  split at h
  · exact ⟨_, _, rfl, h⟩
  · exact h.elim
theorem pK_inv {α : Type} {t : List (Nat × α)} {k : Nat} {f : α → Prop} (h : pK t k f) : ∃ v, (k, v) ∈ t ∧ f v := by
  unfold pK at h
  split at h
  · rename_i v hv
    refine ⟨v, ?_, h⟩
    clear h
    induction t with
    | nil => cases hv
    | cons a t ih =>
      obtain ⟨k', v'⟩ := a
      by_cases hk : k = k'
      · subst hk
        simp [List.lookup] at hv
        subst hv
        exact List.mem_cons_self
      · have hk2 : (k == k') = false := by simpa using hk
        simp [List.lookup, hk2] at hv
        exact List.mem_cons_of_mem _ (ih hv)
  · exact h.elim
theorem pB_inv {b : Bool} {A : Prop} (h : pB b A) : b = true ∧ A := by
  unfold pB at h
  split at h
  · exact ⟨rfl, h⟩
  · exact h.elim
theorem pO_inv {α : Type} {o : Option α} {f : α → Prop} (h : pO o f) : ∃ v, o = some v ∧ f v := by
  unfold pO at h
  split at h
  · exact ⟨_, rfl, h⟩
  · exact h.elim
theorem pP_inv {P : PL} {f : Nat → Nat → PL → Prop} (h : pP P f) : ∃ c i P', P = (c, i) :: P' ∧ f c i P' := by
  unfold pP at h
  split at h
  · rename_i q P'
    exact ⟨q.1, q.2, P', rfl, h⟩
  · exact h.elim
theorem pD_inv {d : Nat} {f : Nat → Prop} (h : pD d f) : ∃ d', d = d' + 1 ∧ f d' := by
  unfold pD at h
  split at h
  · exact h.elim
  · exact ⟨_, rfl, h⟩
theorem go_stack {i : Instr} (C : Cx z D tA p R s m args meth c r d) (hK : ∀ pc' P L S M, pc' = pc + n → K pc' P L S M → Go gl gx z D tA l p e R s m args below meth c Zq r Q pc' P L S M) (hd : decode r.2.1 pc = .ok (i, n)) (ho : okI i pc n = true) (h : stepI gl gx X d r.2.2.2.2.2 r.2.2.2.1 r.2.2.2.2.1 r.1.cls Q K J i pc P L S M)
    (hi : i = .dup ∨ i = .dup2 ∨ i = .pop) : Go gl gx z D tA l p e R s m args below meth c Zq r Q pc P L S M := by
  obtain ⟨hx, hb, -⟩ := C
  rcases hi with rfl | rfl | rfl
  all_goals (have en : n = 1 := by simpa [okI] using ho)
  all_goals subst en
  · have g : pV S (fun v S => p1 v fun v => K (pc + 1) P L (v :: v :: S) M) := h
    clear h
    obtain ⟨v, T1, rfl, g1⟩ := pV_inv g
    obtain ⟨g2, -, hc⟩ := p1_inv g1
    exact go_row (hK _ _ _ _ _ rfl g2) (fun w hw => Or.inl ((List.mem_cons.mp hw).elim (fun q => q ▸ List.mem_cons_self) id)) fun H locs cells slots ad ls w => lv_dup hx hb hd (hc ad) w
  · have g : pV S (fun w S => pV S fun v S => p1 w fun w => p1 v fun v => K (pc + 1) P L (w :: v :: w :: v :: S) M) := h
    clear h
    obtain ⟨w, T1, rfl, g1⟩ := pV_inv g
    obtain ⟨v, T2, rfl, g2⟩ := pV_inv g1
    obtain ⟨g3, -, hw⟩ := p1_inv g2
    obtain ⟨g4, -, hv⟩ := p1_inv g3
    exact go_row (hK _ _ _ _ _ rfl g4) (fun u hu => Or.inl (by
      rcases List.mem_cons.mp hu with rfl | hu
      · exact List.mem_cons_self
      · rcases List.mem_cons.mp hu with rfl | hu
        · exact mem1 _ List.mem_cons_self
        · exact hu)) fun H locs cells slots ad ls k => lv_dup2_11 hx hb hd (hw ad) (hv ad) k
  · have g : pV S (fun v S => p1 v fun _ => K (pc + 1) P L S M) := h
    clear h
    obtain ⟨v, T1, rfl, g1⟩ := pV_inv g
    obtain ⟨g2, -, hc⟩ := p1_inv g1
    exact go_row (hK _ _ _ _ _ rfl g2) (fun w hw => Or.inl (mem1 w hw)) fun H locs cells slots ad ls w => lv_pop hx hb hd (hc ad) w
theorem word_of {w : Cond} {q : Nat × Nat} (hw : ∀ w ∈ lw_g, w.before args s = true) (h : inT w q = true) (hg : goodWord w = true) : w.before args s = true := hw _ (lw_g_of (inT_mem h) hg)
theorem go_pool {i : Instr} (C : Cx z D tA p R s m args meth c r d) (hK : ∀ pc' P L S M, pc' = pc + n → K pc' P L S M → Go gl gx z D tA l p e R s m args below meth c Zq r Q pc' P L S M) (hd : decode r.2.1 pc = .ok (i, n)) (ho : okI i pc n = true) (h : stepI gl gx X d r.2.2.2.2.2 r.2.2.2.1 r.2.2.2.2.1 r.1.cls Q K J i pc P L S M)
    (hi : (∃ k, i = .ldc k) ∨ (∃ k, i = .ldc_w k) ∨ (∃ k, i = .ldc2_w k) ∨ (∃ k, i = .getstatic k)) : Go gl gx z D tA l p e R s m args below meth c Zq r Q pc P L S M := by
  obtain ⟨hx, hb, -, hown, hw, -, -, -, -, -, -, -, hk, -, -, hs⟩ := C
  rcases hi with ⟨k, rfl⟩ | ⟨k, rfl⟩ | ⟨k, rfl⟩ | ⟨k, rfl⟩
  · have en : n = 2 := by simpa [okI] using ho
    subst en
    obtain ⟨v, hm, h1⟩ := pK_inv h
    obtain ⟨h2, hu, -⟩ := p1_inv h1
    obtain ⟨q, hq⟩ := hk _ hm
    clear h
    match v, hq, h1, h2 with
    | .inl x, hq, _, h => exact go_row (hK _ _ _ _ _ rfl h) (hv1 (fun _ h => h) trivial) fun H locs cells slots ad ls w => lv_ldc hx hb hown (word_of hw hq rfl) hd w
    | .inr (.inr (.inl q)), hq, _, h =>
      obtain ⟨qc, qi⟩ := q
      change stK r.1.cls k (aR qc qi) = true at hq
      simp only [stK, Bool.and_eq_true, decide_eq_true_eq, beq_iff_eq] at hq
      obtain ⟨⟨⟨e1, e2⟩, e3⟩, e4⟩ := hq
      have e2 : qc = 16 := Nat.eq_of_beq_eq_true e2
      have e3 : qi < 13 := Nat.le_of_ble_eq_true e3
      subst e2; subst e4
      intro ad H locs cells slots ls hD hR
      have hZ := hD.1.2.2.2.1 qi e3
      rw [← e1] at hZ
      exact va_ldcS hx hb hown hZ hd (hK _ _ _ _ _ rfl h ad H locs cells slots ls (hD.stk (hv1 (fun _ h => h) (Or.inr (stv_16 e3).1))) hR)
    | .inr (.inl x), hq, h1, h => exact h1.elim
    | .inr (.inr (.inr b)), hq, _, h => cases hq
  · have en : n = 3 := by simpa [okI] using ho
    subst en
    obtain ⟨v, hm, h1⟩ := pK_inv h
    obtain ⟨x, T1, e1, h⟩ := pI_inv h1
    obtain rfl : v = aI x := (List.cons.inj e1).1
    obtain ⟨q, hq⟩ := hk _ hm
    exact go_row (hK _ _ _ _ _ rfl h) (hv1 (fun _ h => h) trivial) fun H locs cells slots ad ls w => lv_ldcw hx hb hown (word_of hw hq rfl) hd w
  · have en : n = 3 := by simpa [okI] using ho
    subst en
    obtain ⟨v, hm, h1⟩ := pK_inv h
    obtain ⟨x, T1, e1, h⟩ := pL_inv h1
    obtain rfl : v = aL x := (List.cons.inj e1).1
    obtain ⟨q, hq⟩ := hk _ hm
    exact go_row (hK _ _ _ _ _ rfl h) (hv1 (fun _ h => h) trivial) fun H locs cells slots ad ls w => lv_ldc2 hx hb hown (word_of hw hq rfl) hd w
  · have en : n = 3 := by simpa [okI] using ho
    subst en
    obtain ⟨v, hm, h1⟩ := pK_inv h
    obtain ⟨h2, hu, -⟩ := p1_inv h1
    obtain ⟨q, hq⟩ := hs _ hm
    clear h
    match v, hq, h2 with
    | .inl x, hq, h =>
      change (inT (.fieldLink r.1.cls k "java/lang/String" "COMPACT_STRINGS" "Z") q && decide (x = 1)) = true at hq
      simp only [Bool.and_eq_true, decide_eq_true_eq] at hq
      obtain ⟨hq, rfl⟩ := hq
      intro ad H locs cells slots ls hD hR
      exact va_gets hx hb hD.1.2.2.2.2.1 hD.2.1 hown (word_of hw hq rfl) (fun _ h => h) hd (hK _ _ _ _ _ rfl h ad H locs cells slots ls (hD.stk (hv1 (fun _ h => h) trivial)) hR)
    | .inr (.inr (.inl q')), hq, h =>
      obtain ⟨qc, qi⟩ := q'
      change (inT (.fieldLink r.1.cls k (stO.getD (qc - 12) "") (stN.getD (qc - 12) "") "[I") q && (sta qc).isSome && (qi == 0)) = true at hq
      simp only [Bool.and_eq_true, beq_iff_eq] at hq
      obtain ⟨⟨hq, e1⟩, rfl⟩ := hq
      obtain ⟨t, ht⟩ := Option.isSome_iff_exists.mp e1
      have hst : stv qc 0 = true := (sta_v ht).2.2
      intro ad H locs cells slots ls hD hR
      exact va_gets hx hb (hD.1.2.1 qc t ht).1 hD.2.1 hown (word_of hw hq rfl) (fun _ h => h) hd (hK _ _ _ _ _ rfl h ad H locs cells slots ls (hD.stk (hv1 (fun _ h => h) (Or.inr hst))) hR)
    | .inr (.inl x), hq, h => cases hq
    | .inr (.inr (.inr b)), hq, h => cases hq
end STEP3
