/-! ONE STEP: invocations -/
section STEP7
variable {gl : Nat} {gx : Nat → Int32} {z : Nat} {D : va_G} {tA : Nat → ClassId} {l : Launch} {p : Program} {e : Env} {R : Room} {s : State} {m : MethodId} {args : Array Value} {below : List Frame} {meth : Method} {c : Code} {Zq : State → Prop} {r : MT} {Q : PO} {d : Nat}
variable {K J : Nat → PL → List AV → List AV → MM → Prop} {pc n : Nat} {P : PL} {L S T : List AV} {M : MM}
theorem rcd0 {t : Option FieldType} (h : rcd t = 0) : t = none := by
  unfold rcd at h
  split at h
  · rfl
  · split at h <;> omega
  · cases h
theorem cOK_virt {own : String} {k y n nl rr np c0 : Nat} {q : Nat × Nat} (h : cOK own (k, c0 + 10, y, n, nl, rr, np) q = true) : ∃ r, mt y = some r ∧ inT (.methodLink own k r.1) q = true ∧ (parseMethodDescriptor r.1.desc).map (fun d => d.parameters.length) = some n ∧ r.2.2.1 = nl ∧ rcd r.2.2.2.1 = rr ∧ r.2.2.2.2.1 = 1 ∧ kcls c0 = r.1.cls ∧ (c0 < 11 ∨ c0 = 16) := by
  unfold cOK at h
  dsimp only at h
  split at h
  case h_7 =>
    split at h
    · rename_i r hr
      split at h
      · omega
      · omega
      · simp only [Bool.and_eq_true, decide_eq_true_eq, beq_iff_eq, Bool.or_eq_true] at h
        obtain ⟨⟨⟨⟨h1, h2⟩, h3⟩, h4⟩, ⟨⟨h5, h6⟩, h7⟩, h8⟩ := h
        refine ⟨r, hr, h1, h2, h3, h4, h6, by simpa using h7, h8.imp (fun q => ?_) (fun q => by omega)⟩
        have := Nat.le_of_ble_eq_true q
        omega
    · cases h
  all_goals omega
theorem cOK_stat {own : String} {k y n nl rr np : Nat} {q : Nat × Nat} (h : cOK own (k, 1, y, n, nl, rr, np) q = true) : ∃ r, mt y = some r ∧ inT (.methodLink own k r.1) q = true ∧ (parseMethodDescriptor r.1.desc).map (fun d => d.parameters.length) = some n ∧ r.2.2.1 = nl ∧ rcd r.2.2.2.1 = rr ∧ r.2.2.2.2.1 = 0 := by
  rw [show cOK own (k, 1, y, n, nl, rr, np) q = (match mt y with
    | some r => inT (.methodLink own k r.1) q && decide ((parseMethodDescriptor r.1.desc).map (fun d => d.parameters.length) = some n) && (r.2.2.1 == nl) && (rcd r.2.2.2.1 == rr) && (r.2.2.2.2.1 == 0)
    | none => false) from rfl] at h
  split at h
  · rename_i r hr
    simp only [Bool.and_eq_true, decide_eq_true_eq, beq_iff_eq] at h
    obtain ⟨⟨⟨⟨h1, h2⟩, h3⟩, h4⟩, h5⟩ := h
    exact ⟨r, hr, h1, h2, h3, h4, h5⟩
  · cases h
theorem cOK_spec {own : String} {k y n nl rr np : Nat} {q : Nat × Nat} (h : cOK own (k, 2, y, n, nl, rr, np) q = true) : ∃ r, mt y = some r ∧ inT (.methodLink own k r.1) q = true ∧ (parseMethodDescriptor r.1.desc).map (fun d => d.parameters.length) = some n ∧ r.2.2.1 = nl ∧ r.2.2.2.2.1 = 2 := by
  rw [show cOK own (k, 2, y, n, nl, rr, np) q = (match mt y with
    | some r => inT (.methodLink own k r.1) q && decide ((parseMethodDescriptor r.1.desc).map (fun d => d.parameters.length) = some n) && (r.2.2.1 == nl) && (rcd r.2.2.2.1 == rr) && (r.2.2.2.2.1 == 2)
    | none => false) from rfl] at h
  split at h
  · rename_i r hr
    simp only [Bool.and_eq_true, decide_eq_true_eq, beq_iff_eq] at h
    obtain ⟨⟨⟨⟨h1, h2⟩, h3⟩, h4⟩, h5⟩ := h
    exact ⟨r, hr, h1, h2, h3, h5⟩
  · cases h
theorem cOK_nest {own : String} {k y n nl rr np : Nat} {q : Nat × Nat} (h : cOK own (k, 3, y, n, nl, rr, np) q = true) : ∃ r, mt y = some r ∧ inT (.methodLinkNest own k r.1 "StencilHouse") q = true ∧ (parseMethodDescriptor r.1.desc).map (fun d => d.parameters.length) = some n ∧ r.2.2.1 = nl ∧ r.2.2.2.2.1 = 2 := by
  rw [show cOK own (k, 3, y, n, nl, rr, np) q = (match mt y with
    | some r => inT (.methodLinkNest own k r.1 "StencilHouse") q && decide ((parseMethodDescriptor r.1.desc).map (fun d => d.parameters.length) = some n) && (r.2.2.1 == nl) && (r.2.2.2.2.1 == 2)
    | none => false) from rfl] at h
  split at h
  · rename_i r hr
    simp only [Bool.and_eq_true, decide_eq_true_eq, beq_iff_eq] at h
    obtain ⟨⟨⟨h1, h2⟩, h3⟩, h4⟩ := h
    exact ⟨r, hr, h1, h2, h3, h4⟩
  · cases h
theorem recv_ok (C : Cx z D tA p R s m args meth c r d) {ad : Nat → Nat → Nat} {H : Heap} {locs : List Loc} {cells slots : Nat} {ls : Array Slot} (hD : Dx gl gx z D tA R s r ad H locs cells slots ls P L S M) {k i : Nat} (hm : aR k i ∈ S) (hk : k < 11 ∨ k = 16) : ∃ cell : Cell, H[ad k i]? = some cell ∧ cell.vm.isStatics = false ∧ s.vm.findClass (kcls k) = some cell.cls := by
  have hkf := C.2.2.2.2.2.2.1
  rcases hk with hk | rfl
  · have hst : stk k = false := by
      unfold stk
      rcases hq : Nat.ble 11 k with _ | _
      · rfl
      · have := Nat.le_of_ble_eq_true hq
        omega
    have hlv := lv_of hD hm hst
    obtain ⟨-, -, g3⟩ := hD.2.2.1.1 k i hlv
    have hb20 : Nat.ble 20 k = false := by
      rcases hq : Nat.ble 20 k with _ | _
      · rfl
      · have := Nat.le_of_ble_eq_true hq
        omega
    unfold cellR at g3
    rw [hb20] at g3
    obtain ⟨q, e1, cell, b1, b2, b3, -⟩ := g3
    have hb16 : Nat.beq k 16 = false := by
      rcases hq : Nat.beq k 16 with _ | _
      · rfl
      · have := Nat.eq_of_beq_eq_true hq
        omega
    have hkc : kcls k = q.1 := by
      unfold kcls
      rw [hb16]
      show (classes.getD k _).1 = q.1
      rw [List.getD_eq_getElem?_getD, e1]
      rfl
    exact ⟨cell, b1, by rw [b3]; rfl, by rw [hkc, b2]; exact (hkf.1.1 k q e1).2.1⟩
  · have hi13 : i < 13 := by
      rcases hD.2.2.2.2.2.2.1 _ hm with q | q
      · exact absurd (hD.2.2.1.1 16 i q).1 (by decide)
      · exact stv_hi q rfl
    exact vk_recv hD.1.2.2.1 hi13 hD.2.1
theorem take_rev (S : List AV) (n : Nat) (f : AV → Value) : ((S.take n).reverse.map f).reverse ++ (S.drop n).map f = S.map f := by
  rw [← List.map_reverse, List.reverse_reverse, ← List.map_append, List.take_append_drop]
/-- the room of a call -/
theorem room_call {d : Nat} {r' : MT} (h1 : d + 1 ≤ R.frames) (h2 : 64 * (d + 1) ≤ R.locals) (h3 : r'.2.2.1 ≤ 45) : d + 1 ≤ R.frames ∧ 8 + (r'.2.2.1 + 11) + 64 * d ≤ R.locals := ⟨h1, by omega⟩
theorem go_virtual {k : Nat} (C : Cx z D tA p R s m args meth c r d) (hK : ∀ pc' P L S M, pc' = pc + n → K pc' P L S M → Go gl gx z D tA l p e R s m args below meth c Zq r Q pc' P L S M) (hd : decode r.2.1 pc = .ok (.invokevirtual k, n)) (ho : okI (.invokevirtual k) pc n = true) (h : stepI gl gx (Sim gl gx z D tA l) d r.2.2.2.2.2 r.2.2.2.1 r.2.2.2.2.1 r.1.cls Q K J (.invokevirtual k) pc P L S M) : Go gl gx z D tA l p e R s m args below meth c Zq r Q pc P L S M := by
  have en : n = 3 := by simpa [okI] using ho
  subst en
  unfold stepI at h
  dsimp only at h
  obtain ⟨⟨w, y, na, nl, rr, np⟩, hm, h1⟩ := pK_inv h
  dsimp only at h1
  obtain ⟨k0, i, T1, hT1, h2⟩ := pR_inv h1
  obtain ⟨hw, h3⟩ := pB_inv h2
  have hw : k0 + 10 = w := Nat.eq_of_beq_eq_true hw
  subst hw
  obtain ⟨d', rfl, ⟨g1, g2, g3⟩, g4⟩ := pD_inv h3
  obtain ⟨q, hq⟩ := C.2.2.2.2.2.2.2.2.2.2.2.1 _ hm
  obtain ⟨r', hr, f1, f2, f3, f4, f5, f6, f7⟩ := cOK_virt hq
  subst f3
  have h3n : r'.2.2.2.2.1 ≠ 3 := by rw [f5]; decide
  have hmk := mok_in y r' hr h3n
  intro ad H locs cells slots ls hD hR
  have hS : S = S.take na ++ (aR k0 i :: T1) := by rw [← hT1, List.take_append_drop]
  have hmem : aR k0 i ∈ S := by rw [hS]; simp
  have hA : ∀ v ∈ aR k0 i :: (S.take na).reverse, okA M.2.2 v := by
    intro v hv
    refine hD.2.2.2.2.2.2.1 v ?_
    rcases List.mem_cons.mp hv with rfl | hv
    · exact hmem
    · rw [hS]; exact List.mem_append_left _ (List.mem_reverse.mp hv)
  have hM := met_of (ad := ad) hr h3n g4 g3 hA
  have hwords : ∀ w ∈ mneed r', w.before args s = true := fun w hw => C.2.2.2.2.1 _ (hmk.1 w hw)
  have hi := hwords (.initialized r'.1.cls) List.mem_cons_self
  have hin := hwords (.instanceMethod r'.1) (by unfold mneed; rw [f5]; simp)
  have hsel := hwords (.selects r'.1.cls r'.1 r'.1) (by unfold mneed; rw [f5]; simp)
  have hrecv := recv_ok C hD hmem f7
  rw [f6] at hrecv
  have cb := callB_of (R := R) (s := s) (args := args) (own := r.1.cls) (index := k) (y := r'.1) (bytes := r'.2.1) (maxL := r'.2.2.1) (ret := r'.2.2.2.1) (ws := wsM r') (rm := { frames := d', cells := (P.take np).length, slots := psz (P.take np), locals := 64 * d' }) (mc := (P.take np).length) (ms := psz (P.take np)) na C.2.2.2.2.1 (wsM_good hr h3n) rfl rfl rfl hi (word_of C.2.2.2.2.1 f1 rfl) ⟨hmk.2.2.1.1, hmk.2.2.1.2, f2⟩ (room_call C.2.2.2.2.2.2.2.2.1 C.2.2.2.2.2.2.2.2.2.1 hmk.2.2.2.1)
  have hcell : cells + (P.take np).length ≤ R.cells ∧ slots + psz (P.take np) ≤ R.slots := by
    have e1 : (P.take np).length + (P.drop np).length = P.length := by rw [← List.length_append, List.take_append_drop]
    have e2 : psz (P.take np) + psz (P.drop np) = psz P := by rw [← psz_app, List.take_append_drop]
    have h8 := hD.2.2.2.2.2.2.2.1
    have h9 := hD.2.2.2.2.2.2.2.2
    omega
  have hrun := va_runV (l := l) (e := e) (below := below) (meth := meth) (H := H) (locs := locs) (cells := cells) (slots := slots) (g := F0 m pc ls (S.map (cv ad))) (As := (S.take na).reverse.map (cv ad)) (b := ad k0 i) (rest := T1.map (cv ad)) ⟨C.1, C.2.1, C.2.2.1, C.2.2.2.1, C.2.2.2.2.1⟩ hM ⟨cb, hin, hsel⟩ ⟨PG_blind, hrecv, fun U hU hW => ⟨rfl, PG_at C hD hU hW⟩⟩ rfl (by rw [List.length_map, List.length_reverse, g2]) hD.2.2.2.1.1
    (by
      show S.map (cv ad) = _
      have e1 := take_rev S na (cv ad)
      rw [hT1] at e1
      exact e1.symm) (lv_room (by rw [show ((T1.map (cv ad)).map fun v => v.category).sum ≤ 8 ↔ _ from Iff.rfl]; have := cat_sum (T1.map (cv ad)); rw [List.length_map] at this; omega)) hd hcell
  exact go_back hD (fun v hv => by rw [hS]; simp [hv]) hR hrun (fun h0 => rcd0 (f4.trans h0)) (fun M' hf => hK _ _ _ _ _ rfl hf) (fun v M' hf => hK _ _ _ _ _ rfl hf)
end STEP7
