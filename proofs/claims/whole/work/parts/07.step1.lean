/-! ONE STEP of the abstract machine is steps of the machine: locals, constants, arithmetic, branches, answers -/
section STEP1
variable {gl : Nat} {gx : Nat → Int32} {z : Nat} {D : va_G} {tA : Nat → ClassId} {l : Launch} {p : Program} {e : Env} {R : Room} {s : State} {m : MethodId} {args : Array Value} {below : List Frame} {meth : Method} {c : Code} {Zq : State → Prop} {r : MT} {Q : PO} {d : Nat}
variable {K J : Nat → PL → List AV → List AV → MM → Prop} {pc n : Nat} {P : PL} {L S T : List AV} {M : MM} {X : XT}
/-- the stack changes by known values -/
theorem Dx.stk {ad : Nat → Nat → Nat} {H : Heap} {locs : List Loc} {cells slots : Nat} {ls : Array Slot} (h : Dx gl gx z D tA R s r ad H locs cells slots ls P L S M) (hT : ∀ v ∈ T, v ∈ S ∨ okA M.2.2 v) : Dx gl gx z D tA R s r ad H locs cells slots ls P L T M := by
  obtain ⟨h1, h2, h3, h4, h5, h6, h7, h8, h9⟩ := h
  exact ⟨h1, h2, h3, h4, h5, h6, fun v hv => (hT v hv).elim (h7 v) id, h8, h9⟩
theorem Dx.loc {ad : Nat → Nat → Nat} {H : Heap} {locs : List Loc} {cells slots : Nat} {ls ls' : Array Slot} {k : Nat} {v : AV} {A : List AV → Prop} (h : Dx gl gx z D tA R s r ad H locs cells slots ls P L S M) (hs : sL L k v A) (hl : lv_has ls' r.2.2.1 ((k, cv ad v) :: (lvl ad 0 L).filter (fun q => !(q.1 == k) && !(q.1 + 1 == k && q.2.category == 2)))) (hv : okA M.2.2 v) (hT : ∀ w ∈ T, w ∈ S) : Dx gl gx z D tA R s r ad H locs cells slots ls' P (L.set k v) T M := by
  obtain ⟨h1, h2, h3, h4, h5, h6, h7, h8, h9⟩ := h
  refine ⟨h1, h2, h3, lvl_sub hl (lvl_set hs).2.2, by rw [List.length_set]; exact h5, fun w hw => ?_, fun w hw => h7 w (hT w hw), h8, h9⟩
  rcases List.mem_or_eq_of_mem_set hw with h | h
  · exact h6 w h
  · rw [h]; exact hv
theorem okA_I {lv : LV} {x : Int32} : okA lv (aI x) := trivial
theorem gL_mem {v : AV} {k : Nat} (h : gL L k = v) (hu : v ≠ aU) : v ∈ L := by
  unfold gL at h
  rw [List.getD_eq_getElem?_getD] at h
  cases hq : L[k]? with
  | none => rw [hq] at h; exact absurd h.symm hu
  | some w => rw [hq] at h; rw [← show w = v from h]; exact List.mem_of_getElem? hq
theorem go_pushI {v : AV} {n : Nat} (hc : K (pc + n) P L (v :: S) M) (hv : okA M.2.2 v) (hK : ∀ pc' P L S M, pc' = pc + n → K pc' P L S M → Go gl gx z D tA l p e R s m args below meth c Zq r Q pc' P L S M)
    (row : ∀ (H : Heap) (locs : List Loc) (cells slots : Nat) (ad : Nat → Nat → Nat) (ls : Array Slot) (rest : List Value), lv_has ls r.2.2.1 (lvl ad 0 L) → W p l e R s m args below meth c H locs cells slots Zq (F0 m (pc + n) ls (cv ad v :: rest)) → W p l e R s m args below meth c H locs cells slots Zq (F0 m pc ls rest)) :
    Go gl gx z D tA l p e R s m args below meth c Zq r Q pc P L S M := by
  intro ad H locs cells slots ls hD hR
  exact row H locs cells slots ad ls _ hD.2.2.2.1 (hK _ _ _ _ _ rfl hc ad H locs cells slots ls (hD.stk fun w hw => by
    rcases List.mem_cons.mp hw with rfl | h
    · exact Or.inr hv
    · exact Or.inl h) hR)
theorem go_loads {i : Instr} (C : Cx z D tA p R s m args meth c r d) (hK : ∀ pc' P L S M, pc' = pc + n → K pc' P L S M → Go gl gx z D tA l p e R s m args below meth c Zq r Q pc' P L S M) (hd : decode r.2.1 pc = .ok (i, n)) (ho : okI i pc n = true) (h : stepI gl gx X d r.2.2.2.2.2 r.2.2.2.1 r.2.2.2.2.1 r.1.cls Q K J i pc P L S M)
    (hi : (∃ k, i = .aload_n k) ∨ (∃ k, i = .aload k) ∨ (∃ k, i = .iload_n k) ∨ (∃ k, i = .iload k) ∨ (∃ k, i = .lload_n k) ∨ (∃ k, i = .lload k)) : Go gl gx z D tA l p e R s m args below meth c Zq r Q pc P L S M := by
  obtain ⟨hx, hb, -⟩ := C
  have okL : ∀ {ad H locs cells slots ls v k}, Dx gl gx z D tA R s r ad H locs cells slots ls P L S M → gL L k = v → v ≠ aU → okA M.2.2 v := fun hD hv hu => hD.2.2.2.2.2.1 _ (gL_mem hv hu)
  rcases hi with ⟨k, rfl⟩ | ⟨k, rfl⟩ | ⟨k, rfl⟩ | ⟨k, rfl⟩ | ⟨k, rfl⟩ | ⟨k, rfl⟩
  · have en : n = 1 := by simpa [okI] using ho
    subst en
    have h : pA [gL L k.val] (fun v _ => K (pc + 1) P L (v :: S) M) := h
    rcases pA_inv h with ⟨c', i', T', e1, h1⟩ | ⟨T', e1, h1⟩
    · have e2 : gL L k.val = aR c' i' := (List.cons.inj e1).1
      intro ad H locs cells slots ls hD hR
      exact lv_aload_n hx hb hd rfl (lvl_at hD.2.2.2.1 e2 (by intro q; cases q)) (hK _ _ _ _ _ rfl h1 ad H locs cells slots ls (hD.stk fun w hw => (List.mem_cons.mp hw).elim (fun q => Or.inr (q ▸ okL hD e2 (by intro q; cases q))) Or.inl) hR)
    · have e2 : gL L k.val = aN := (List.cons.inj e1).1
      intro ad H locs cells slots ls hD hR
      exact lv_aload_nN hx hb hd rfl (lvl_at hD.2.2.2.1 e2 (by intro q; cases q)) (hK _ _ _ _ _ rfl h1 ad H locs cells slots ls (hD.stk fun w hw => (List.mem_cons.mp hw).elim (fun q => Or.inr (by rw [q]; trivial)) Or.inl) hR)
  · have en : n = 2 := by simpa [okI] using ho
    subst en
    have h : pA [gL L k] (fun v _ => K (pc + 2) P L (v :: S) M) := h
    rcases pA_inv h with ⟨c', i', T', e1, h1⟩ | ⟨T', e1, h1⟩
    · have e2 : gL L k = aR c' i' := (List.cons.inj e1).1
      intro ad H locs cells slots ls hD hR
      exact lv_aload hx hb hd (lvl_at hD.2.2.2.1 e2 (by intro q; cases q)) (hK _ _ _ _ _ rfl h1 ad H locs cells slots ls (hD.stk fun w hw => (List.mem_cons.mp hw).elim (fun q => Or.inr (q ▸ okL hD e2 (by intro q; cases q))) Or.inl) hR)
    · have e2 : gL L k = aN := (List.cons.inj e1).1
      intro ad H locs cells slots ls hD hR
      exact lv_aloadN hx hb hd (lvl_at hD.2.2.2.1 e2 (by intro q; cases q)) (hK _ _ _ _ _ rfl h1 ad H locs cells slots ls (hD.stk fun w hw => (List.mem_cons.mp hw).elim (fun q => Or.inr (by rw [q]; trivial)) Or.inl) hR)
  · have en : n = 1 := by simpa [okI] using ho
    subst en
    obtain ⟨x, T', e1, h1⟩ := pI_inv h
    have e2 : gL L k.val = aI x := (List.cons.inj e1).1
    exact go_pushI h1 trivial hK fun H locs cells slots ad ls rest hl w => lv_iload_n hx hb hd rfl (lvl_at hl e2 (by intro q; cases q)) w
  · have en : n = 2 := by simpa [okI] using ho
    subst en
    obtain ⟨x, T', e1, h1⟩ := pI_inv h
    have e2 : gL L k = aI x := (List.cons.inj e1).1
    exact go_pushI h1 trivial hK fun H locs cells slots ad ls rest hl w => lv_iload hx hb hd (lvl_at hl e2 (by intro q; cases q)) w
  · have en : n = 1 := by simpa [okI] using ho
    subst en
    obtain ⟨x, T', e1, h1⟩ := pL_inv h
    have e2 : gL L k.val = aL x := (List.cons.inj e1).1
    exact go_pushI h1 trivial hK fun H locs cells slots ad ls rest hl w => lv_lload_n hx hb hd rfl (lvl_at hl e2 (by intro q; cases q)) w
  · have en : n = 2 := by simpa [okI] using ho
    subst en
    obtain ⟨x, T', e1, h1⟩ := pL_inv h
    have e2 : gL L k = aL x := (List.cons.inj e1).1
    exact go_pushI h1 trivial hK fun H locs cells slots ad ls rest hl w => lv_lload hx hb hd (lvl_at hl e2 (by intro q; cases q)) w
/-- behind a store of a long -/
theorem lvl_set2 {ad : Nat → Nat → Nat} {k : Nat} {x : Int64} {A : List AV → Prop} (h : sL2 L k x A) : A ((L.set k (aL x)).set (k + 1) aU) ∧ k + 1 < L.length ∧ ∀ q ∈ lvl ad 0 ((L.set k (aL x)).set (k + 1) aU), q ∈ (k, Value.long x) :: (lvl ad 0 L).filter (fun q => !(q.1 == k) && (!(q.1 == k + 1) && !(q.1 + 1 == k && q.2.category == 2))) := by
  unfold sL2 at h
  split at h
  · rename_i hlt
    have hk : k + 1 < L.length := by
      have := Nat.le_of_ble_eq_true hlt
      omega
    have main : (∀ j, k = j + 1 → ∀ x, gL L j ≠ aL x) → ∀ q ∈ lvl ad 0 ((L.set k (aL x)).set (k + 1) aU), q ∈ (k, Value.long x) :: (lvl ad 0 L).filter (fun q => !(q.1 == k) && (!(q.1 == k + 1) && !(q.1 + 1 == k && q.2.category == 2))) := by
      intro hno q hq
      obtain ⟨j, w, h1, h2, rfl⟩ := lvl_mem.mp hq
      by_cases hj1 : k + 1 = j
      · subst hj1
        rw [List.getElem?_set_self (by rw [List.length_set]; exact hk)] at h1
        cases h1
        exact absurd rfl h2
      rw [List.getElem?_set_ne hj1] at h1
      by_cases hj : k = j
      · subst hj
        rw [List.getElem?_set_self (by omega)] at h1
        cases h1
        simp [cv]
      · rw [List.getElem?_set_ne hj] at h1
        refine List.mem_cons_of_mem _ (List.mem_filter.mpr ⟨lvl_mem.mpr ⟨j, w, h1, h2, rfl⟩, ?_⟩)
        have e0 : ¬ j = k + 1 := by omega
        have e1 : ¬ j = k := by omega
        by_cases e2 : j + 1 = k
        · have e3 : ¬ (cv ad w).category = 2 := by
            intro hc
            obtain ⟨x, rfl⟩ := cv_cat.mp hc
            refine hno j (by omega) x ?_
            unfold gL
            rw [List.getD_eq_getElem?_getD, h1]
            rfl
          simp [e0, e1, e3]
        · simp [e0, e1, e2]
    cases k with
    | zero => exact ⟨h, hk, main (fun j e => by omega)⟩
    | succ j =>
      dsimp only at h
      split at h
      · exact h.elim
      · rename_i hno
        refine ⟨h, hk, main (fun j' e x hx => ?_)⟩
        have : j' = j := by omega
        subst this
        exact hno x hx
  · exact h.elim
theorem go_stores {i : Instr} (C : Cx z D tA p R s m args meth c r d) (hK : ∀ pc' P L S M, pc' = pc + n → K pc' P L S M → Go gl gx z D tA l p e R s m args below meth c Zq r Q pc' P L S M) (hd : decode r.2.1 pc = .ok (i, n)) (ho : okI i pc n = true) (h : stepI gl gx X d r.2.2.2.2.2 r.2.2.2.1 r.2.2.2.2.1 r.1.cls Q K J i pc P L S M)
    (hi : (∃ k, i = .astore_n k) ∨ (∃ k, i = .astore k) ∨ (∃ k, i = .istore_n k) ∨ (∃ k, i = .istore k) ∨ (∃ k, i = .lstore k) ∨ (∃ k a, i = .iinc k a)) : Go gl gx z D tA l p e R s m args below meth c Zq r Q pc P L S M := by
  obtain ⟨hx, hb, -⟩ := C
  have tl : ∀ {v : AV} {T : List AV}, ∀ w ∈ T, w ∈ v :: T := fun w hw => List.mem_cons_of_mem _ hw
  rcases hi with ⟨k, rfl⟩ | ⟨k, rfl⟩ | ⟨k, rfl⟩ | ⟨k, rfl⟩ | ⟨k, rfl⟩ | ⟨k, a, rfl⟩
  · have en : n = 1 := by simpa [okI] using ho
    subst en
    have h : pA S (fun v S => sL L k.val v fun L => K (pc + 1) P L S M) := h
    rcases pA_inv h with ⟨c', i', T', rfl, h1⟩ | ⟨T', rfl, h1⟩
    · intro ad H locs cells slots ls hD hR
      have h2 := lvl_set (ad := ad) h1
      exact lv_astore_n hx hb hd rfl hD.2.2.2.1 (hD.2.2.2.2.1 ▸ h2.2.1) rfl (fun ls' hl' => hK _ _ _ _ _ rfl h2.1 ad H locs cells slots ls' (hD.loc h1 hl' (hD.2.2.2.2.2.2.1 _ List.mem_cons_self) tl) hR)
    · intro ad H locs cells slots ls hD hR
      have h2 := lvl_set (ad := ad) h1
      exact lv_astore_nN hx hb hd rfl hD.2.2.2.1 (hD.2.2.2.2.1 ▸ h2.2.1) rfl (fun ls' hl' => hK _ _ _ _ _ rfl h2.1 ad H locs cells slots ls' (hD.loc h1 hl' trivial tl) hR)
  · have en : n = 2 := by simpa [okI] using ho
    subst en
    have h : pA S (fun v S => sL L k v fun L => K (pc + 2) P L S M) := h
    rcases pA_inv h with ⟨c', i', T', rfl, h1⟩ | ⟨T', rfl, h1⟩
    · intro ad H locs cells slots ls hD hR
      have h2 := lvl_set (ad := ad) h1
      exact lv_astore hx hb hd hD.2.2.2.1 (hD.2.2.2.2.1 ▸ h2.2.1) rfl (fun ls' hl' => hK _ _ _ _ _ rfl h2.1 ad H locs cells slots ls' (hD.loc h1 hl' (hD.2.2.2.2.2.2.1 _ List.mem_cons_self) tl) hR)
    · intro ad H locs cells slots ls hD hR
      have h2 := lvl_set (ad := ad) h1
      exact lv_astoreN hx hb hd hD.2.2.2.1 (hD.2.2.2.2.1 ▸ h2.2.1) rfl (fun ls' hl' => hK _ _ _ _ _ rfl h2.1 ad H locs cells slots ls' (hD.loc h1 hl' trivial tl) hR)
  · have en : n = 1 := by simpa [okI] using ho
    subst en
    obtain ⟨x, T', rfl, h1⟩ := pI_inv h
    intro ad H locs cells slots ls hD hR
    have h2 := lvl_set (ad := ad) h1
    exact lv_istore_n hx hb hd rfl hD.2.2.2.1 (hD.2.2.2.2.1 ▸ h2.2.1) rfl (fun ls' hl' => hK _ _ _ _ _ rfl h2.1 ad H locs cells slots ls' (hD.loc h1 hl' trivial tl) hR)
  · have en : n = 2 := by simpa [okI] using ho
    subst en
    obtain ⟨x, T', rfl, h1⟩ := pI_inv h
    intro ad H locs cells slots ls hD hR
    have h2 := lvl_set (ad := ad) h1
    exact lv_istore hx hb hd hD.2.2.2.1 (hD.2.2.2.2.1 ▸ h2.2.1) rfl (fun ls' hl' => hK _ _ _ _ _ rfl h2.1 ad H locs cells slots ls' (hD.loc h1 hl' trivial tl) hR)
  · have en : n = 2 := by simpa [okI] using ho
    subst en
    obtain ⟨x, T', rfl, h1⟩ := pL_inv h
    intro ad H locs cells slots ls hD hR
    have h2 := lvl_set2 (ad := ad) h1
    refine lv_lstore hx hb hd hD.2.2.2.1 (hD.2.2.2.2.1 ▸ h2.2.1) rfl (fun ls' hl' => hK _ _ _ _ _ rfl h2.1 ad H locs cells slots ls' ?_ hR)
    obtain ⟨d1, d2, d3, d4, d5, d6, d7, d8, d9⟩ := hD
    refine ⟨d1, d2, d3, lvl_sub hl' h2.2.2, by rw [List.length_set, List.length_set]; exact d5, fun w hw => ?_, fun w hw => d7 w (tl w hw), d8, d9⟩
    rcases List.mem_or_eq_of_mem_set hw with hw | rfl
    · rcases List.mem_or_eq_of_mem_set hw with hw | rfl
      · exact d6 w hw
      · trivial
    · trivial
  · have en : n = 3 := by simpa [okI] using ho
    subst en
    obtain ⟨x, T', e1, h1⟩ := pI_inv h
    have e2 : gL L k = aI x := (List.cons.inj e1).1
    intro ad H locs cells slots ls hD hR
    have h2 := lvl_set (ad := ad) h1
    have hmem : (k, Value.int x) ∈ lvl ad 0 L := by
      have h3 : L[k]? = some (aI x) := by
        unfold gL at e2
        rw [List.getD_eq_getElem?_getD] at e2
        cases hq : L[k]? with
        | none => rw [hq] at e2; cases e2
        | some w => rw [hq] at e2; exact congrArg some e2
      exact lvl_mem.mpr ⟨k, aI x, h3, (by intro q; cases q), by simp [cv]⟩
    obtain ⟨j, hj⟩ := List.getElem?_of_mem hmem
    exact lv_iinc hx hb hd hD.2.2.2.1 (k := j) hj (by rw [cI_eq]) (hD.2.2.2.2.1 ▸ h2.2.1) rfl (fun ls' hl' => hK _ _ _ _ _ rfl h2.1 ad H locs cells slots ls' (hD.loc h1 hl' trivial (fun w hw => hw)) hR)
end STEP1
