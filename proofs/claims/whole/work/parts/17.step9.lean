/-! ONE STEP: constructors' calls, new objects -/
section STEP9
variable {gl : Nat} {gx : Nat → Int32} {z : Nat} {D : va_G} {tA : Nat → ClassId} {l : Launch} {p : Program} {e : Env} {R : Room} {s : State} {m : MethodId} {args : Array Value} {below : List Frame} {meth : Method} {c : Code} {Zq : State → Prop} {r : MT} {Q : PO} {d : Nat}
variable {K J : Nat → PL → List AV → List AV → MM → Prop} {pc n : Nat} {P : PL} {L S T : List AV} {M : MM}
theorem go_special {k : Nat} (C : Cx z D tA p R s m args meth c r d) (hK : ∀ pc' P L S M, pc' = pc + n → K pc' P L S M → Go gl gx z D tA l p e R s m args below meth c Zq r Q pc' P L S M) (hd : decode r.2.1 pc = .ok (.invokespecial k, n)) (ho : okI (.invokespecial k) pc n = true) (h : stepI gl gx (Sim gl gx z D tA l) d r.2.2.2.2.2 r.2.2.2.1 r.2.2.2.2.1 r.1.cls Q K J (.invokespecial k) pc P L S M) : Go gl gx z D tA l p e R s m args below meth c Zq r Q pc P L S M := by
  have en : n = 3 := by simpa [okI] using ho
  subst en
  unfold stepI at h
  dsimp only at h
  obtain ⟨⟨w, y, na, nl, rr, np⟩, hm, h1⟩ := pK_inv h
  clear h
  dsimp only at h1
  obtain ⟨q, hq⟩ := C.2.2.2.2.2.2.2.2.2.2.2.1 _ hm
  have hw := C.2.2.2.2.1
  split at h1
  · obtain ⟨k0, i, T1, hT1, h2⟩ := pR_inv h1
    obtain ⟨d', rfl, ⟨g1, g2, g3⟩, g4⟩ := pD_inv h2
    obtain ⟨r', hr, f1, f2, f3, f5⟩ := cOK_spec hq
    subst f3
    have h3n : r'.2.2.2.2.1 ≠ 3 := by rw [f5]; decide
    have hmk := mok_in y r' hr h3n
    obtain ⟨hini, hret⟩ := hmk.2.2.2.2 f5
    intro ad H locs cells slots ls hD hR
    have hS : S = S.take na ++ (aR k0 i :: T1) := by rw [← hT1, List.take_append_drop]
    have hmem : aR k0 i ∈ S := by rw [hS]; simp
    have hA : ∀ v ∈ aR k0 i :: (S.take na).reverse, okA M.2.2 v := by
      intro v hv
      refine hD.2.2.2.2.2.2.1 v ?_
      rcases List.mem_cons.mp hv with rfl | hv
      · exact hmem
      · rw [hS]; exact List.mem_append_left _ (List.mem_reverse.mp hv)
    have hM := met_of (ad := ad) (Q := onR 0 (fun M => K (pc + 3) (P.drop np) L T1 M) (fun _ _ => False)) hr h3n g4 g3 hA
    have hwords : ∀ w ∈ mneed r', w.before args s = true := fun w hw' => hw _ (hmk.1 w hw')
    have hi := hwords (.initialized r'.1.cls) List.mem_cons_self
    have hin := hwords (.instanceMethod r'.1) (by unfold mneed; rw [f5]; simp)
    have cb := callB_of (R := R) (s := s) (args := args) (own := r.1.cls) (index := k) (y := r'.1) (bytes := r'.2.1) (maxL := r'.2.2.1) (ret := none) (ws := wsM r') (ws' := lw_g) (rm := { frames := d', cells := (P.take np).length, slots := psz (P.take np), locals := 64 * d' }) (mc := (P.take np).length) (ms := psz (P.take np)) na hw (wsM_good hr h3n) (by unfold wsM; rw [hret]) rfl rfl hi (word_of hw f1 rfl) ⟨hmk.2.2.1.1, hmk.2.2.1.2, f2⟩ (room_call C.2.2.2.2.2.2.2.2.1 C.2.2.2.2.2.2.2.2.2.1 hmk.2.2.2.1)
    have hrun := va_runI (l := l) (e := e) (below := below) (meth := meth) (H := H) (locs := locs) (cells := cells) (slots := slots) (g := F0 m pc ls (S.map (cv ad))) (As := (S.take na).reverse.map (cv ad)) (b := ad k0 i) (rest := T1.map (cv ad)) ⟨C.1, C.2.1, C.2.2.1, C.2.2.2.1, hw⟩ hM ⟨cb, hini, hin⟩ ⟨PG_blind, fun U hU hW => ⟨rfl, PG_at C hD hU hW⟩⟩ rfl (by rw [List.length_map, List.length_reverse, g2]) hD.2.2.2.1.1
      (by
        show S.map (cv ad) = _
        have e1 := take_rev S na (cv ad)
        rw [hT1] at e1
        exact e1.symm) (lv_room (rest_ok g1)) hd (hcell_of hD)
    exact go_back hD (fun v hv => by rw [hS]; simp [hv]) hR hrun (fun _ => hret) (fun M' hf => hK _ _ _ _ _ rfl hf) (fun v M' hf => hf.elim)
  · obtain ⟨k0, i, T1, hT1, h2⟩ := pR_inv h1
    obtain ⟨d', rfl, ⟨g1, g2, g3⟩, g4⟩ := pD_inv h2
    obtain ⟨r', hr, f1, f2, f3, f5⟩ := cOK_nest hq
    subst f3
    have h3n : r'.2.2.2.2.1 ≠ 3 := by rw [f5]; decide
    have hmk := mok_in y r' hr h3n
    obtain ⟨hini, hret⟩ := hmk.2.2.2.2 f5
    intro ad H locs cells slots ls hD hR
    have hS : S = S.take na ++ (aR k0 i :: T1) := by rw [← hT1, List.take_append_drop]
    have hmem : aR k0 i ∈ S := by rw [hS]; simp
    have hA : ∀ v ∈ aR k0 i :: (S.take na).reverse, okA M.2.2 v := by
      intro v hv
      refine hD.2.2.2.2.2.2.1 v ?_
      rcases List.mem_cons.mp hv with rfl | hv
      · exact hmem
      · rw [hS]; exact List.mem_append_left _ (List.mem_reverse.mp hv)
    have hM := met_of (ad := ad) (Q := onR 0 (fun M => K (pc + 3) (P.drop np) L T1 M) (fun _ _ => False)) hr h3n g4 g3 hA
    have hwords : ∀ w ∈ mneed r', w.before args s = true := fun w hw' => hw _ (hmk.1 w hw')
    have hi := hwords (.initialized r'.1.cls) List.mem_cons_self
    have hin := hwords (.instanceMethod r'.1) (by unfold mneed; rw [f5]; simp)
    have hnw := C.2.2.2.2.2.2.1.2.2.2 _ _ _ _ (inT_mem f1)
    have cb := va_cnB (R := R) (s := s) (args := args) (own := r.1.cls) (host := "StencilHouse") (index := k) (y := r'.1) (bytes := r'.2.1) (maxL := r'.2.2.1) (ret := none) (ws := wsM r') (ws' := lw_g) (rm := { frames := d', cells := (P.take np).length, slots := psz (P.take np), locals := 64 * d' }) (mc := (P.take np).length) (ms := psz (P.take np)) na hw (wsM_good hr h3n) (by unfold wsM; rw [hret]) rfl rfl hnw hi ⟨hmk.2.2.1.1, hmk.2.2.1.2, f2⟩ (room_call C.2.2.2.2.2.2.2.2.1 C.2.2.2.2.2.2.2.2.2.1 hmk.2.2.2.1)
    have hrun := va_runIN (l := l) (e := e) (below := below) (meth := meth) (H := H) (locs := locs) (cells := cells) (slots := slots) (g := F0 m pc ls (S.map (cv ad))) (As := (S.take na).reverse.map (cv ad)) (b := ad k0 i) (rest := T1.map (cv ad)) ⟨C.1, C.2.1, C.2.2.1, C.2.2.2.1, hw⟩ hM ⟨cb, hini, hin⟩ ⟨PG_blind, fun U hU hW => ⟨rfl, PG_at C hD hU hW⟩⟩ rfl (by rw [List.length_map, List.length_reverse, g2]) hD.2.2.2.1.1
      (by
        show S.map (cv ad) = _
        have e1 := take_rev S na (cv ad)
        rw [hT1] at e1
        exact e1.symm) (lv_room (rest_ok g1)) hd (hcell_of hD)
    exact go_back hD (fun v hv => by rw [hS]; simp [hv]) hR hrun (fun _ => hret) (fun M' hf => hK _ _ _ _ _ rfl hf) (fun v M' hf => hf.elim)
  · obtain ⟨d', rfl, g1⟩ := pD_inv h1
    obtain ⟨k0, i, T1, rfl, g2, g3⟩ := pR_inv g1
    have hq : inT (.methodLink r.1.cls k objectInit) q = true := hq
    intro ad H locs cells slots ls hD hR
    have h64 := C.2.2.2.2.2.2.2.2.2.1
    have hfr := C.2.2.2.2.2.2.2.2.1
    have h5 := rest_ok (T := T1) (ad := ad) g2
    refine W.objInit C.1 C.2.1 C.2.2.2.1 (word_of hw hq rfl) (hw _ wp_oii) (hw _ wp_oic) rfl (by show ls.size = _; rw [C.2.2.1, hD.2.2.2.1.1]) rfl hd (by omega) (by show 2 * 0 + _ + 12 ≤ _; omega) ?_
    exact hK _ _ _ _ _ rfl g3 ad H locs cells slots ls (hD.stk fun v hv => Or.inl (mem1 v hv)) hR
  · exact h1.elim
end STEP9
