/-! ONE STEP: the rest of the invocations -/
section CKI
variable {z : Nat} {l : Launch}
def QN (ok : Option Value → Prop) : Array Value → State → Outcome → State → Prop := fun _ st o t => (∃ v, o = .returned v ∧ ok v) ∧ t.heap = st.heap
theorem wsp_good {w : Cond} (h : w ∈ lw_g) : GoodIn lw_g (w :: lw_g) := fun x hx => (List.mem_cons.mp hx).elim (fun e => by rw [e]; exact lw_g_good _ h) (lw_g_good x)
theorem met_pk (x n : Int32) (v : Value) (h0 : ¬ x < 0) (h1 : x < n) : Met l pkName (.code pkName prog_20_method_11_code 3 (some .int) :: lw_g) ({ frames := 0, cells := 0, slots := 0, locals := 0 }) (va_Pc [.int x, .int n, v] (fun _ => v = .null ∨ ∃ a, v = .ref a)) (QN (fun v => v = some (.int x))) 0 0 (fun _ => False) := by
  refine Met.ofW (cc := prog_20_method_11_code) (maxL := 3) (ret := some .int) (by decide +kernel) rfl ?_
  intro p e s m args below meth c s₁ B hml hv
  obtain ⟨rfl, hcat⟩ := hv
  have hx := B.exec
  have hb := B.bytes
  have hr := B.returns
  have hlocks := B.notSynchronized
  have hl := lv_entry ([.int x, .int n, v]) (n := 3) (by rcases hcat with rfl | ⟨a, rfl⟩ <;> exact Nat.le_of_ble_eq_true rfl)
  rw [lg_entry_eq]
  generalize (lg_sl ([.int x, .int n, v]) ++ List.replicate (3 - (lg_sl ([.int x, .int n, v])).length) Slot.unset).toArray = ls at hl ⊢
  have hl : lv_has ls 3 [(0, .int x), (1, .int n), (2, v)] := hl
  refine lv_iload_n hx hb dpk_0 rfl (lv_at hl 0 rfl) ?_
  refine lv_if_lt (tgt := 9) hx hb dpk_1 (by decide) (fun q => absurd q h0) (fun _ => ?_)
  refine lv_iload_n hx hb dpk_4 rfl (lv_at hl 0 rfl) ?_
  refine lv_iload_n hx hb dpk_5 rfl (lv_at hl 1 rfl) ?_
  refine lv_icmp_lt (tgt := 16) hx hb dpk_6 (by decide) (fun _ => ?_) (fun q => absurd h1 q)
  refine lv_iload_n hx hb dpk_16 rfl (lv_at hl 0 rfl) ?_
  exact W.iret hx hb hr (fun t ht hW => ⟨⟨_, rfl, rfl⟩, ht⟩) (fun _ h => by cases h) dpk_17
section
variable {p : Program} {e : Env} {R : Room} {s : State} {m : MethodId} {args : Array Value} {below : List Frame} {meth : Method} {c : Code} {Zq : State → Prop}
theorem row_backN {cells slots pc : Nat} {H : Heap} {locs : List Loc} {ls : Array Slot} {st0 rest : List Value} {a : Array Value} {ok : Option Value → Prop} (hr : va_Run p l e R s m args below meth c H locs cells slots 0 0 (F0 m pc ls st0) rest (QN ok a) (fun _ => False))
    (kk : ∀ v, ok v → W p l e R s m args below meth c H locs cells slots Zq (F0 m (pc + 3) ls (v.toList ++ rest))) : W p l e R s m args below meth c H locs cells slots Zq (F0 m pc ls st0) := by
  intro T hT X
  obtain ⟨v, st₀, t, T', L, h0, X', hL, e1, e2, ⟨⟨w, hw, hok⟩, hz⟩, st⟩ := hr T hT X
  cases hw
  have hL0 : L = [] := by
    cases L with
    | nil => rfl
    | cons q L => exact (hL q List.mem_cons_self).elim
  subst hL0
  rw [List.append_nil] at X'
  obtain ⟨t2, a1, b1⟩ := kk v hok T' (by rw [e1, hz, h0]) X'
  exact ⟨t2, st t2 a1, b1⟩
end
def PK (z : Nat) (U : State) : Prop := ∃ v, va_Z "jdk/internal/util/Preconditions" "SIOOBE_FORMATTER" "Ljava/util/function/BiFunction;" v (aA z) U U.heap ∧ (v = .null ∨ ∃ a, v = .ref a)
theorem met_ck (x n : Int32) (h0 : ¬ x < 0) (h1 : x < n) : Met l ciName (.code ciName prog_16_method_155_code 2 none :: lw_g) ({ frames := 1, cells := 0, slots := 0, locals := 40 }) (va_Pc [.int x, .int n] (PK z)) (QN (fun v => v = none)) 0 0 (fun _ => False) := by
  refine Met.ofW (cc := prog_16_method_155_code) (maxL := 2) (ret := none) (by decide +kernel) rfl ?_
  intro p e s m args below meth c s₁ B hml hv
  obtain ⟨rfl, v, hZ, hv⟩ := hv
  have hx := B.exec
  have hb := B.bytes
  have hr := B.returns
  have hts := atoms_spec (ws := .code ciName prog_16_method_155_code 2 none :: lw_g) B.pre
  have hw : ∀ w ∈ lw_g, w.before (List.toArray [Value.int x, Value.int n]) s = true := fun w h => hts w (List.mem_cons_of_mem _ h)
  have hown : s.vm.findClass "java/lang/String" = some m.cls := findClass_of_methodNamed B.named
  have hlocks := B.notSynchronized
  have hl := lv_entry ([.int x, .int n]) (n := 2) (Nat.le_of_ble_eq_true rfl)
  rw [lg_entry_eq]
  generalize (lg_sl ([.int x, .int n]) ++ List.replicate (2 - (lg_sl ([.int x, .int n])).length) Slot.unset).toArray = ls at hl ⊢
  have hl : lv_has ls 2 [(0, .int x), (1, .int n)] := hl
  refine lv_iload_n hx hb dck_0 rfl (lv_at hl 0 rfl) ?_
  refine lv_iload_n hx hb dck_1 rfl (lv_at hl 1 rfl) ?_
  refine va_gets hx hb hZ va_S.rf hown (hw _ wp_sio) (fun _ h => h) dck_2 ?_
  have cb := callB_of (R := ({ frames := 1, cells := 0, slots := 0, locals := 40 } : Room)) (s := s) (args := List.toArray [Value.int x, Value.int n]) (own := "java/lang/String") (index := 1059) (y := pkName) (bytes := prog_20_method_11_code) (maxL := 3) (ret := some .int) (ws := .code pkName prog_20_method_11_code 3 (some .int) :: lw_g) (rm := { frames := 0, cells := 0, slots := 0, locals := 0 }) (mc := 0) (ms := 0) 3 hw (wsp_good wp_pkc) rfl rfl rfl (hw _ wp_pre) (hw _ wp_pkl) (by decide +kernel) ⟨Nat.le_refl _, by decide⟩
  refine row_backN (l := l) (va_runS (l := l) (e := e) (below := below) (meth := meth) (H := s.heap) (locs := []) (cells := 0) (slots := 0) (g := F0 m 5 ls [v, .int n, .int x]) (As := [.int x, .int n, v]) (rest := []) ⟨hx, hb, hml, hown, hw⟩ (met_pk x n v h0 h1) ⟨cb, hw _ wp_pks⟩ ⟨fun a U g mk q => q, fun U hU hW => ⟨rfl, hv⟩⟩ rfl rfl hl.1 rfl (Nat.zero_le _) dck_5 ⟨Nat.le_refl _, Nat.le_refl _⟩) fun w hw2 => ?_
  subst hw2
  refine lv_pop hx hb dck_8 rfl ?_
  exact W.vret hx hb hr (fun t ht hW => ⟨⟨_, rfl, rfl⟩, ht⟩) (fun _ h => by cases h) dck_9
end CKI
section STEP8
variable {gl : Nat} {gx : Nat → Int32} {z : Nat} {D : va_G} {tA : Nat → ClassId} {l : Launch} {p : Program} {e : Env} {R : Room} {s : State} {m : MethodId} {args : Array Value} {below : List Frame} {meth : Method} {c : Code} {Zq : State → Prop} {r : MT} {Q : PO} {d : Nat}
variable {K J : Nat → PL → List AV → List AV → MM → Prop} {pc n : Nat} {P : PL} {L S T : List AV} {M : MM}
theorem hcell_of {np cells slots : Nat} {ad : Nat → Nat → Nat} {H : Heap} {locs : List Loc} {ls : Array Slot} (hD : Dx gl gx z D tA R s r ad H locs cells slots ls P L S M) : cells + (P.take np).length ≤ R.cells ∧ slots + psz (P.take np) ≤ R.slots := by
  have e1 : (P.take np).length + (P.drop np).length = P.length := by rw [← List.length_append, List.take_append_drop]
  have e2 : psz (P.take np) + psz (P.drop np) = psz P := by rw [← psz_app, List.take_append_drop]
  have h8 := hD.2.2.2.2.2.2.2.1
  have h9 := hD.2.2.2.2.2.2.2.2
  omega
theorem rest_ok {T : List AV} {ad : Nat → Nat → Nat} (h : T.length ≤ 4) : ((T.map (cv ad)).map fun v => v.category).sum ≤ 8 := by
  have := cat_sum (T.map (cv ad))
  rw [List.length_map] at this
  omega
theorem go_static {k : Nat} (C : Cx z D tA p R s m args meth c r d) (hK : ∀ pc' P L S M, pc' = pc + n → K pc' P L S M → Go gl gx z D tA l p e R s m args below meth c Zq r Q pc' P L S M) (hd : decode r.2.1 pc = .ok (.invokestatic k, n)) (ho : okI (.invokestatic k) pc n = true) (h : stepI gl gx (Sim gl gx z D tA l) d r.2.2.2.2.2 r.2.2.2.1 r.2.2.2.2.1 r.1.cls Q K J (.invokestatic k) pc P L S M) : Go gl gx z D tA l p e R s m args below meth c Zq r Q pc P L S M := by
  have en : n = 3 := by simpa [okI] using ho
  subst en
  unfold stepI at h
  dsimp only at h
  obtain ⟨⟨w, y, na, nl, rr, np⟩, hm, h1⟩ := pK_inv h
  dsimp only at h1
  obtain ⟨q, hq⟩ := C.2.2.2.2.2.2.2.2.2.2.2.1 _ hm
  have hw := C.2.2.2.2.1
  split at h1
  · obtain ⟨d', rfl, ⟨g1, g2, g3⟩, g4⟩ := pD_inv h1
    obtain ⟨r', hr, f1, f2, f3, f4, f5⟩ := cOK_stat hq
    subst f3
    have h3n : r'.2.2.2.2.1 ≠ 3 := by rw [f5]; decide
    have hmk := mok_in y r' hr h3n
    intro ad H locs cells slots ls hD hR
    have hS : S = S.take na ++ S.drop na := (List.take_append_drop na S).symm
    have hA : ∀ v ∈ (S.take na).reverse, okA M.2.2 v := fun v hv => hD.2.2.2.2.2.2.1 v (List.mem_of_mem_take (List.mem_reverse.mp hv))
    have hM := met_of (ad := ad) hr h3n g4 g3 hA
    have hwords : ∀ w ∈ mneed r', w.before args s = true := fun w hw' => hw _ (hmk.1 w hw')
    have hi := hwords (.initialized r'.1.cls) List.mem_cons_self
    have hst := hwords (.static r'.1) (by unfold mneed; rw [f5]; simp)
    have cb := callB_of (R := R) (s := s) (args := args) (own := r.1.cls) (index := k) (y := r'.1) (bytes := r'.2.1) (maxL := r'.2.2.1) (ret := r'.2.2.2.1) (ws := wsM r') (rm := { frames := d', cells := (P.take np).length, slots := psz (P.take np), locals := 64 * d' }) (mc := (P.take np).length) (ms := psz (P.take np)) na hw (wsM_good hr h3n) rfl rfl rfl hi (word_of hw f1 rfl) ⟨hmk.2.2.1.1, hmk.2.2.1.2, f2⟩ (room_call C.2.2.2.2.2.2.2.2.1 C.2.2.2.2.2.2.2.2.2.1 hmk.2.2.2.1)
    have hrun := va_runS (l := l) (e := e) (below := below) (meth := meth) (H := H) (locs := locs) (cells := cells) (slots := slots) (g := F0 m pc ls (S.map (cv ad))) (As := (S.take na).reverse.map (cv ad)) (rest := (S.drop na).map (cv ad)) ⟨C.1, C.2.1, C.2.2.1, C.2.2.2.1, hw⟩ hM ⟨cb, hst⟩ ⟨PG_blind, fun U hU hW => ⟨rfl, PG_at C hD hU hW⟩⟩ rfl (by rw [List.length_map, List.length_reverse, g2]) hD.2.2.2.1.1
      (by
        show S.map (cv ad) = _
        exact (take_rev S na (cv ad)).symm) (lv_room (rest_ok g1)) hd (hcell_of hD)
    exact go_back hD (fun v hv => List.mem_of_mem_drop hv) hR hrun (fun h0 => rcd0 (f4.trans h0)) (fun M' hf => hK _ _ _ _ _ rfl hf) (fun v M' hf => hK _ _ _ _ _ rfl hf)
  · obtain ⟨d', rfl, ga1⟩ := pD_inv h1
    obtain ⟨x, S1, rfl, ga2⟩ := pI_inv ga1
    obtain ⟨dp, S2, rfl, ga3⟩ := pI_inv ga2
    obtain ⟨k', i', S3, rfl, ga4⟩ := pR_inv ga3
    obtain ⟨sp, S4, rfl, ga5⟩ := pI_inv ga4
    obtain ⟨k0, i0, S5, rfl, ga6⟩ := pR_inv ga5
    obtain ⟨q0, hk0, ga7⟩ := pO_inv ga6
    obtain ⟨q1, hk1, ga8⟩ := pO_inv ga7
    obtain ⟨hI, ⟨g1, g2, g3, g4, g5, g6⟩, g7⟩ := pB_inv ga8
    simp only [Bool.and_eq_true] at hI
    have hI0 := isInt_eq hI.1
    have hI1 := isInt_eq hI.2
    have hq : inT (.methodLink r.1.cls k arraycopyName) q = true := hq
    intro ad H locs cells slots ls hD hR
    have hkf := C.2.2.2.2.2.2.1
    obtain ⟨lv0, z0, a0⟩ := arr_live hD (k := k0) (i := i0) (by simp) hk0
    obtain ⟨lv1, z1, a1⟩ := arr_live hD (k := k') (i := i') (by simp) hk1
    have e0 : H[ad k0 i0]? = some (vp_cell (tA k0) (q0.2, .inl (M.1 k0 i0))) := by
      rw [a0, vp_cell_i]; congr 2; funext j; exact mv_I hk0 (by rw [hI0]; rfl)
    have e1 : H[ad k' i']? = some (vp_cell (tA k') (q1.2, .inl (M.1 k' i'))) := by
      rw [a1, vp_cell_i]; congr 2; funext j; exact mv_I hk1 (by rw [hI1]; rfl)
    have t0 := (hkf.2.1 k0 q0 hk0).1
    have t1 := (hkf.2.1 k' q1 hk1).1
    rw [hI0] at t0
    rw [hI1] at t1
    have hR5 := rest_ok (T := S5) (ad := ad) g1
    have hlocals : ((S5.map (cv ad)).map fun v => v.category).sum + (nativeFrameWords "java/lang/System" "arraycopy" 5 + 11) ≤ R.locals := by
      have h64 := C.2.2.2.2.2.2.2.2.2.1
      have : nativeFrameWords "java/lang/System" "arraycopy" 5 = 7 := by decide +kernel
      omega
    have hfr : 1 ≤ R.frames := by have := C.2.2.2.2.2.2.2.2.1; omega
    refine row_copy (l := l) (Zq := Zq) (e := e) (below := below) (meth := meth) (z := z) (cells := cells) (slots := slots) (ty := .int) C.1 C.2.1 (by rw [C.2.2.1, hD.2.2.2.1.1]) C.2.2.2.1 (word_of hw hq rfl) (hw _ wp_acn) (hw _ wp_acs) (hw _ wp_sys) e0 e1 t0 t1 rfl hD.2.1 z1 g2 g3 g4 g5 g6 (fun _ _ => rfl) hfr hlocals hd fun H1 locs1 b1 b2 b3 => ?_
    have hne : ∀ (A : Nat → Int32) (k'' i'' j : Nat), ¬ (k'' = k' ∧ i'' = i') → u2 M.1 k' i' A k'' i'' j = M.1 k'' i'' j := fun A k'' i'' j hh => by unfold u2; rw [if_neg hh]
    have hc : cellR D tA ad (u2 M.1 k' i' (va_cpy (M.1 k0 i0) (M.1 k' i') sp.toNatClampNeg dp.toNatClampNeg x.toNatClampNeg), M.2) H1 k' i' := by
      unfold cellR
      rw [ak_le hk1]
      refine ⟨q1, hk1, ?_⟩
      rw [b1, vp_cell_i]
      congr 2
      funext j
      rw [mv_I hk1 (by rw [hI1]; rfl)]
      simp [u2]
    exact hK _ _ _ _ _ rfl g7 ad H1 locs1 cells slots ls (hD.mem rfl (hD.2.2.1.put lv1 rfl (fun k'' i'' j hh => ⟨hne _ _ _ _ hh, rfl⟩) (fun j hj => hD.2.2.1.2.2 k' i' j lv1 hj) b2 hc) b3 (fun v hv => by simp [hv])) hR
  · obtain ⟨d1, rfl, ga9⟩ := pD_inv h1
    obtain ⟨d2, rfl, ga10⟩ := pD_inv ga9
    obtain ⟨x, S1, rfl, ga11⟩ := pI_inv ga10
    obtain ⟨y2, S2, rfl, ga12⟩ := pI_inv ga11
    obtain ⟨⟨g1, g2, g3⟩, g4⟩ := ga12
    have hq : inT (.methodLink r.1.cls k ciName) q = true := hq
    intro ad H locs cells slots ls hD hR
    have hf2 := C.2.2.2.2.2.2.2.2.1
    have hl2 := C.2.2.2.2.2.2.2.2.2.1
    have cb := callB_of (R := R) (s := s) (args := args) (own := r.1.cls) (index := k) (y := ciName) (bytes := prog_16_method_155_code) (maxL := 2) (ret := none) (ws := .code ciName prog_16_method_155_code 2 none :: lw_g) (rm := { frames := 1, cells := 0, slots := 0, locals := 40 }) (mc := 0) (ms := 0) 2 hw (wsp_good wp_ckc) rfl rfl rfl (hw _ wp_str) (word_of hw hq rfl) (by decide +kernel) ⟨by show 1 + 1 ≤ _; omega, by show 8 + (2 + 11) + 40 ≤ _; omega⟩
    refine row_backN (l := l) (va_runS (l := l) (e := e) (below := below) (meth := meth) (H := H) (locs := locs) (cells := cells) (slots := slots) (g := F0 m pc ls (.int x :: .int y2 :: S2.map (cv ad))) (As := [.int y2, .int x]) (rest := S2.map (cv ad)) ⟨C.1, C.2.1, C.2.2.1, C.2.2.2.1, hw⟩ (met_ck (z := z) y2 x g2 g3) ⟨cb, hw _ wp_cks⟩ ⟨?_, ?_⟩ rfl rfl hD.2.2.2.1.1 rfl (lv_room (rest_ok g1)) hd ⟨?_, ?_⟩) fun w hw2 => ?_
    · intro a U g mk ⟨h1, v, h2, h3⟩
      exact ⟨h1, v, h2.moved (U := U.calling g mk a) (Vm.Alike.refl U.vm), h3⟩
    · intro U hU hW
      obtain ⟨-, -, -, -, -, v, h6, h7⟩ := (PG_at C hD hU hW).1
      exact ⟨rfl, v, h6, h7⟩
    · have := hD.2.2.2.2.2.2.2.1; omega
    · have := hD.2.2.2.2.2.2.2.2; omega
    · subst hw2
      exact hK _ _ _ _ _ rfl g4 ad H locs cells slots ls (hD.stk fun v hv => Or.inl (mem2 v hv)) hR
  · obtain ⟨d', rfl, ga13⟩ := pD_inv h1
    obtain ⟨x, S1, rfl, ga14⟩ := pI_inv ga13
    obtain ⟨y2, S2, rfl, ga15⟩ := pI_inv ga14
    obtain ⟨g1, g4⟩ := ga15
    have hq : inT (.methodLink r.1.cls k Lib.Math.max.name) q = true := hq
    intro ad H locs cells slots ls hD hR
    have h64 := C.2.2.2.2.2.2.2.2.2.1
    have hfr := C.2.2.2.2.2.2.2.2.1
    have h8 := hD.2.2.2.2.2.2.2.1
    have h9 := hD.2.2.2.2.2.2.2.2
    have h5 := rest_ok (T := S2) (ad := ad) g1
    exact va_mmax C.1 C.2.1 (by rw [C.2.2.1, hD.2.2.2.1.1]) C.2.2.2.1 (word_of hw hq rfl) (hw _ wp_maxs) (hw _ wp_math) (hw _ wp_maxc) (by omega) (by omega) (by omega) (by omega) hd (hK _ _ _ _ _ rfl g4 ad H locs cells slots ls (hD.stk (hv1 mem2 trivial)) hR)
  · obtain ⟨d', rfl, ga16⟩ := pD_inv h1
    obtain ⟨x, S1, rfl, ga17⟩ := pI_inv ga16
    obtain ⟨y2, S2, rfl, ga18⟩ := pI_inv ga17
    obtain ⟨g1, g4⟩ := ga18
    have hq : inT (.methodLink r.1.cls k Lib.Math.min.name) q = true := hq
    intro ad H locs cells slots ls hD hR
    have h64 := C.2.2.2.2.2.2.2.2.2.1
    have hfr := C.2.2.2.2.2.2.2.2.1
    have h8 := hD.2.2.2.2.2.2.2.1
    have h9 := hD.2.2.2.2.2.2.2.2
    have h5 := rest_ok (T := S2) (ad := ad) g1
    exact va_mmin C.1 C.2.1 (by rw [C.2.2.1, hD.2.2.2.1.1]) C.2.2.2.1 (word_of hw hq rfl) (hw _ wp_mins) (hw _ wp_math) (hw _ wp_minc) (by omega) (by omega) (by omega) (by omega) hd (hK _ _ _ _ _ rfl g4 ad H locs cells slots ls (hD.stk (hv1 mem2 trivial)) hR)
  · exact h1.elim
end STEP8
