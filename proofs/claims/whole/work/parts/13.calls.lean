/-! ONE STEP: calls of methods of the table -/
section CALLS
variable {gl : Nat} {gx : Nat → Int32} {z : Nat} {D : va_G} {tA : Nat → ClassId} {l : Launch}
/-- a method's answer, and the memory behind it -/
def QG (D : va_G) (tA : Nat → ClassId) (z : Nat) (rt : Option FieldType) (Q : PO) (lv : LV) (ad : Nat → Nat → Nat) : Array Value → State → Outcome → State → Prop := fun _ st o t =>
  ∃ (v : AV) (M' : MM) (ad' : Nat → Nat → Nat), (Q v M' ∧ (rt = none → v = aU)) ∧ o = .returned (rst ad' v).head? ∧ Rep D tA z ad' M' t.heap ∧ okA M'.2.2 v ∧ Ext lv ad ad' ∧ (∀ c i, lv c i = true → M'.2.2 c i = true) ∧ va_F (aA z) st t
def PG (gl : Nat) (gx : Nat → Int32) (D : va_G) (tA : Nat → ClassId) (z : Nat) (ad : Nat → Nat → Nat) (M : MM) (U : State) : Prop := SF gl gx z ad U U.heap ∧ Rep D tA z ad M U.heap ∧ KF D tA U ∧ z ≤ U.heap.size
abbrev wsM (r : MT) : List Cond := Cond.code r.1 r.2.1 r.2.2.1 r.2.2.2.1 :: lw_g
theorem lvl_args {ad : Nat → Nat → Nat} : ∀ (A : List AV) (n i : Nat), ∀ q ∈ lvl ad i (ent A n), q ∈ lv_args i (A.map (cv ad)) := by
  intro A
  induction A with
  | nil =>
    intro n i q hq
    obtain ⟨j, v, h1, h2, -⟩ := lvl_mem.mp hq
    exact absurd (List.mem_replicate.mp (List.mem_of_getElem? h1)).2 h2
  | cons a A ih =>
    intro n i q hq
    match a with
    | .inr (.inl x) =>
      show q ∈ (i, Value.long x) :: lv_args (if (Value.long x).category = 2 then i + 2 else i + 1) (A.map (cv ad))
      have hq : q ∈ (i, Value.long x) :: lvl ad (i + 1 + 1) (ent A (n - 2)) := hq
      rcases List.mem_cons.mp hq with h | h
      · exact List.mem_cons.mpr (Or.inl h)
      · exact List.mem_cons_of_mem _ (ih (n - 2) (i + 2) q h)
    | .inl x =>
      have hq : q ∈ (i, Value.int x) :: lvl ad (i + 1) (ent A (n - 1)) := hq
      show q ∈ (i, Value.int x) :: lv_args (i + 1) (A.map (cv ad))
      rcases List.mem_cons.mp hq with h | h
      · exact List.mem_cons.mpr (Or.inl h)
      · exact List.mem_cons_of_mem _ (ih (n - 1) (i + 1) q h)
    | .inr (.inr (.inl x)) =>
      have hq : q ∈ (i, Value.ref (ad x.1 x.2)) :: lvl ad (i + 1) (ent A (n - 1)) := hq
      show q ∈ (i, Value.ref (ad x.1 x.2)) :: lv_args (i + 1) (A.map (cv ad))
      rcases List.mem_cons.mp hq with h | h
      · exact List.mem_cons.mpr (Or.inl h)
      · exact List.mem_cons_of_mem _ (ih (n - 1) (i + 1) q h)
    | .inr (.inr (.inr true)) =>
      have hq : q ∈ (i, Value.null) :: lvl ad (i + 1) (ent A (n - 1)) := hq
      show q ∈ (i, Value.null) :: lv_args (i + 1) (A.map (cv ad))
      rcases List.mem_cons.mp hq with h | h
      · exact List.mem_cons.mpr (Or.inl h)
      · exact List.mem_cons_of_mem _ (ih (n - 1) (i + 1) q h)
    | .inr (.inr (.inr false)) =>
      have hq : q ∈ lvl ad (i + 1) (ent A (n - 1)) := hq
      show q ∈ (i, Value.null) :: lv_args (i + 1) (A.map (cv ad))
      exact List.mem_cons_of_mem _ (ih (n - 1) (i + 1) q hq)
theorem ent_size {ad : Nat → Nat → Nat} : ∀ (A : List AV) (n : Nat), (lg_sl (A.map (cv ad))).length ≤ (ent A n).length := by
  intro A
  induction A with
  | nil => intro n; simp [lg_sl]
  | cons a A ih =>
    intro n
    match a with
    | .inr (.inl x) =>
      have := ih (n - 2)
      show (Slot.val (.long x) :: Slot.second :: lg_sl (A.map (cv ad))).length ≤ (aL x :: aU :: ent A (n - 2)).length
      simp only [List.length_cons]
      omega
    | .inl x =>
      have := ih (n - 1)
      show (Slot.val (.int x) :: lg_sl (A.map (cv ad))).length ≤ (aI x :: ent A (n - 1)).length
      simp only [List.length_cons]
      omega
    | .inr (.inr (.inl x)) =>
      have := ih (n - 1)
      show (Slot.val (.ref (ad x.1 x.2)) :: lg_sl (A.map (cv ad))).length ≤ ((.inr (.inr (.inl x)) : AV) :: ent A (n - 1)).length
      simp only [List.length_cons]
      omega
    | .inr (.inr (.inr b)) =>
      have := ih (n - 1)
      show (Slot.val .null :: lg_sl (A.map (cv ad))).length ≤ ((.inr (.inr (.inr b)) : AV) :: ent A (n - 1)).length
      simp only [List.length_cons]
      omega
theorem ent_ok {lv : LV} : ∀ (A : List AV) (n : Nat), (∀ v ∈ A, okA lv v) → ∀ v ∈ ent A n, okA lv v := by
  intro A
  induction A with
  | nil => intro n _ v hv; rw [(List.mem_replicate.mp hv).2]; trivial
  | cons a A ih =>
    intro n h v hv
    have h1 := h a List.mem_cons_self
    have h2 : ∀ v ∈ A, okA lv v := fun v hv => h v (List.mem_cons_of_mem _ hv)
    match a with
    | .inr (.inl x) =>
      have hv : v ∈ aL x :: aU :: ent A (n - 2) := hv
      rcases List.mem_cons.mp hv with rfl | hv
      · trivial
      · rcases List.mem_cons.mp hv with rfl | hv
        · trivial
        · exact ih _ h2 v hv
    | .inl x =>
      have hv : v ∈ aI x :: ent A (n - 1) := hv
      rcases List.mem_cons.mp hv with rfl | hv
      · trivial
      · exact ih _ h2 v hv
    | .inr (.inr (.inl x)) =>
      have hv : v ∈ (.inr (.inr (.inl x)) : AV) :: ent A (n - 1) := hv
      rcases List.mem_cons.mp hv with rfl | hv
      · exact h1
      · exact ih _ h2 v hv
    | .inr (.inr (.inr b)) =>
      have hv : v ∈ (.inr (.inr (.inr b)) : AV) :: ent A (n - 1) := hv
      rcases List.mem_cons.mp hv with rfl | hv
      · trivial
      · exact ih _ h2 v hv
/-- a run of the abstract machine from a method's entry is a contract of the method -/
theorem met_of {d y : Nat} {P : PL} {A : List AV} {M : MM} {Q : PO} {r : MT} {ad : Nat → Nat → Nat} (hr : mt y = some r) (h3 : r.2.2.2.2.1 ≠ 3) (h : Sim gl gx z D tA l d P y 0 (ent A r.2.2.1) [] M Q) (hlen : (ent A r.2.2.1).length = r.2.2.1) (hA : ∀ v ∈ A, okA M.2.2 v) :
    Met l r.1 (wsM r) ({ frames := d, cells := P.length, slots := psz P, locals := 64 * d }) (va_Pc (A.map (cv ad)) (PG gl gx D tA z ad M)) (QG D tA z r.2.2.2.1 Q M.2.2 ad) P.length (psz P) (aA z) := by
  have hmk := mok_in y r hr h3
  refine Met.ofW (cc := r.2.1) (maxL := r.2.2.1) (ret := r.2.2.2.1) hmk.2.1 rfl ?_
  intro p e s m args below meth c s₁ B hml hv
  obtain ⟨rfl, hSF, hRep, hKF, hz⟩ := hv
  have hx := B.exec
  have hb := B.bytes
  have hret := B.returns
  have hts := atoms_spec (ws := wsM r) B.pre
  have hown : s.vm.findClass r.1.cls = some m.cls := findClass_of_methodNamed B.named
  have hlocks := B.notSynchronized
  have hl := lv_entry (A.map (cv ad)) (n := r.2.2.1) (Nat.le_trans (ent_size A r.2.2.1) (Nat.le_of_eq hlen))
  rw [lg_entry_eq]
  generalize (lg_sl (A.map (cv ad)) ++ List.replicate (r.2.2.1 - (lg_sl (A.map (cv ad))).length) Slot.unset).toArray = ls at hl ⊢
  have C : Cx z D tA p ({ frames := d, cells := P.length, slots := psz P, locals := 64 * d }) s m (A.map (cv ad)).toArray meth c r d :=
    ⟨hx, hb, hml, hown, fun w hw => hts w (List.mem_cons_of_mem _ hw), fun hi => by rw [(name_of_methodNamed B.named B.method).1]; exact hi, hKF, hz, Nat.le_refl _, Nat.le_refl _, lok_in y r hr⟩
  refine h p e _ s m _ below meth c _ r hr C ad s.heap [] 0 0 ls ⟨hSF, va_S.rf, hRep, lvl_sub hl (lvl_args A _ 0), hlen, ent_ok A _ hA, fun v hv => absurd hv List.not_mem_nil, by show 0 + P.length ≤ P.length; omega, by show 0 + psz P ≤ psz P; omega⟩ ?_
  intro v M' ad' H' locs' cells' slots' pc' ls' g1 g2 g3 g4 g5 g6 g7 g8 g9
  refine W.widen (k := P.length) (n := psz P) g7 g8 ?_
  have hvU : r.2.2.2.1 = none → v = aU := by
    intro h0
    rcases g9 with ⟨e1, e2, e3⟩ | ⟨x, ty, e1, e2, e3, e4⟩ | ⟨C0, e1, e2, e3⟩
    · exact e2
    · rw [h0] at e1; cases e1
    · rw [h0] at e1; cases e1
  have fin : ∀ (o : Option Value), o = (rst ad' v).head? → ∀ t : State, t.heap = H' → s.WarmedH t.vm → QG D tA z r.2.2.2.1 Q M.2.2 ad (A.map (cv ad)).toArray s (.returned o) t := fun o ho t ht hW =>
    ⟨v, M', ad', ⟨g1, hvU⟩, by rw [ho], by rw [ht]; exact g2, g3, g4, g5, g6.F ht⟩
  rcases g9 with ⟨e1, rfl, e3⟩ | ⟨x, ty, e1, rfl, e3, e4⟩ | ⟨C0, e1, e2, e3⟩
  · exact W.vret hx hb (hret.trans e1) (fin none rfl) g6.2.2 e3
  · exact W.zret hx hb (hret.trans e1) e3 (fin (some (.int x)) rfl) g6.2.2 e4
  · rcases e2 with ⟨q, rfl⟩ | rfl
    · exact W.aret hx hb (hret.trans e1) (Or.inl ⟨_, rfl⟩) (Or.inr ⟨_, rfl⟩) (fin _ rfl) g6.2.2 e3
    · exact W.aret hx hb (hret.trans e1) (Or.inl ⟨_, rfl⟩) (Or.inl rfl) (fin _ rfl) g6.2.2 e3
variable {p : Program} {e : Env} {R : Room} {s : State} {m : MethodId} {args : Array Value} {below : List Frame} {meth : Method} {c : Code} {Zq : State → Prop} {r : MT} {Q : PO} {d : Nat}
variable {K J : Nat → PL → List AV → List AV → MM → Prop} {pc n : Nat} {P : PL} {L S T : List AV} {M : MM} {X : XT}
theorem row_back {rt : Option FieldType} {mc ms cells slots : Nat} {H : Heap} {locs : List Loc} {ls : Array Slot} {st0 rest : List Value} {a : Array Value} {Q' : PO} {lv : LV} {ad : Nat → Nat → Nat} (hr : va_Run p l e R s m args below meth c H locs cells slots mc ms (F0 m pc ls st0) rest (QG D tA z rt Q' lv ad a) (aA z)) (hS : va_S (aA z) s.heap H locs)
    (kk : ∀ (v : AV) (M' : MM) (ad' : Nat → Nat → Nat) (H1 : Heap) (locs1 : List Loc), (Q' v M' ∧ (rt = none → v = aU)) → Rep D tA z ad' M' H1 → okA M'.2.2 v → Ext lv ad ad' → (∀ c i, lv c i = true → M'.2.2 c i = true) → va_S (aA z) s.heap H1 locs1 → W p l e R s m args below meth c H1 locs1 (cells + mc) (slots + ms) Zq (F0 m (pc + 3) ls ((rst ad' v).head?.toList ++ rest))) : W p l e R s m args below meth c H locs cells slots Zq (F0 m pc ls st0) := by
  intro T hT X
  obtain ⟨v, st₀, t, T', L, h0, X', hL, e1, e2, ⟨w, M', ad', q1, q2, q3, q4, q5, q6, hz, hk⟩, st⟩ := hr T hT X
  cases q2
  rw [h0] at hz hk
  obtain ⟨t2, a1, b1⟩ := kk w M' ad' T'.heap (locs ++ L) q1 (by rw [e1]; exact q3) q4 q5 q6
    ⟨Nat.le_trans hS.1 (by rw [e1]; exact hz), fun q h1 h2 => by rw [e1, hk q (Nat.lt_of_lt_of_le h1 hS.1) h2]; exact hS.2.1 q h1 h2, fun q hq => by
      rcases List.mem_append.mp hq with h | h
      · exact hS.2.2 q h
      · exact hL q h⟩ T' rfl X'
  exact ⟨t2, st t2 a1, b1⟩
theorem PG_blind {A : List Value} {ad : Nat → Nat → Nat} : FrameBlind (va_Pc A (PG gl gx D tA z ad M)) := by
  intro a U g mk ⟨h1, h2, h3, h4, h5⟩
  exact ⟨h1, SF.same (u := U) (U := U.calling g mk a) rfl h2, h3, KF.same (u := U) (U := U.calling g mk a) rfl h4, h5⟩
theorem PG_at {ad : Nat → Nat → Nat} {H : Heap} {locs : List Loc} {cells slots : Nat} {ls : Array Slot} (C : Cx z D tA p R s m args meth c r d) (hD : Dx gl gx z D tA R s r ad H locs cells slots ls P L S M) {U : State} (hU : U.heap = H) (hW : s.WarmedH U.vm) : PG gl gx D tA z ad M U := by
  have hz := C.2.2.2.2.2.2.2.1
  refine ⟨SF.moved hW ?_, by rw [hU]; exact hD.2.2.1, C.2.2.2.2.2.2.1.moved hW, by rw [hU]; exact Nat.le_trans hz hD.2.1.1⟩
  rw [hU]
  exact hD.1.kept hz hD.2.1.2.1
theorem wsM_good {y : Nat} (hr : mt y = some r) (h3 : r.2.2.2.2.1 ≠ 3) : GoodIn lw_g (wsM r) := by
  intro w hw
  rcases List.mem_cons.mp hw with rfl | h
  · exact lw_g_good _ (lw_g_of (code_in y r hr h3) rfl)
  · exact lw_g_good _ h
theorem psz_app {A B : PL} : psz (A ++ B) = psz A + psz B := by simp [psz]
/-- behind a call: what comes back goes on -/
theorem go_back {rt : Option FieldType} {cells slots : Nat} {H : Heap} {locs : List Loc} {ls : Array Slot} {ad : Nat → Nat → Nat} {np : Nat} {T : List AV} {a : Array Value} {st0 : List Value} {rk : Nat} {fv : MM → Prop} {f : AV → MM → Prop} (hD : Dx gl gx z D tA R s r ad H locs cells slots ls P L S M) (hT : ∀ v ∈ T, v ∈ S) (hR : Ret z D tA l p e R s m args below meth c Zq r Q M.2.2 ad)
    (hr : va_Run p l e R s m args below meth c H locs cells slots (P.take np).length (psz (P.take np)) (F0 m pc ls st0) (T.map (cv ad)) (QG D tA z rt (onR rk fv f) M.2.2 ad a) (aA z))
    (hv0 : rk = 0 → rt = none)
    (h0 : ∀ M', fv M' → Go gl gx z D tA l p e R s m args below meth c Zq r Q (pc + 3) (P.drop np) L T M') (h1 : ∀ v M', f v M' → Go gl gx z D tA l p e R s m args below meth c Zq r Q (pc + 3) (P.drop np) L (v :: T) M') : W p l e R s m args below meth c H locs cells slots Zq (F0 m pc ls st0) := by
  refine row_back hr hD.2.1 fun v M' ad' H1 locs1 qq q2 q3 q4 q5 q6 => ?_
  obtain ⟨q1, qU⟩ := qq
  have eT : T.map (cv ad) = T.map (cv ad') := List.map_congr_left fun v hv => (cv_ext q4 (hD.2.2.2.2.2.2.1 v (hT v hv))).symm
  have hc : cells + (P.take np).length + (P.drop np).length ≤ R.cells := by
    have h8 := hD.2.2.2.2.2.2.2.1
    have : (P.take np).length + (P.drop np).length = P.length := by rw [← List.length_append, List.take_append_drop]
    omega
  have hs : slots + psz (P.take np) + psz (P.drop np) ≤ R.slots := by
    have h9 := hD.2.2.2.2.2.2.2.2
    have : psz (P.take np) + psz (P.drop np) = psz P := by rw [← psz_app, List.take_append_drop]
    omega
  have hDn : ∀ U : List AV, (∀ v ∈ U, v ∈ T ∨ okA M'.2.2 v) → Dx gl gx z D tA R s r ad' H1 locs1 (cells + (P.take np).length) (slots + psz (P.take np)) ls (P.drop np) L U M' := fun U hU =>
    ⟨hD.1.ext q4, q6, q2, lvl_ext q4 hD.2.2.2.2.2.1 hD.2.2.2.1, hD.2.2.2.2.1, fun v hv => okA_mono q5 (hD.2.2.2.2.2.1 v hv), fun v hv => (hU v hv).elim (fun q => okA_mono q5 (hD.2.2.2.2.2.2.1 v (hT v q))) id, hc, hs⟩
  have hRn := hR.mono q5 q4
  match rk, q1, hv0 with
  | 0, q1, hv0 =>
    have : v = aU := qU (hv0 rfl)
    subst this
    show W p l e R s m args below meth c H1 locs1 _ _ Zq (F0 m (pc + 3) ls (T.map (cv ad)))
    rw [eT]
    exact h0 M' q1 ad' H1 locs1 _ _ ls (hDn T fun v hv => Or.inl hv) hRn
  | 1, q1, _ =>
    match v, q1, q3 with
    | .inl x, q1, _ =>
      show W p l e R s m args below meth c H1 locs1 _ _ Zq (F0 m (pc + 3) ls (Value.int x :: T.map (cv ad)))
      rw [eT]
      exact h1 (aI x) M' q1 ad' H1 locs1 _ _ ls (hDn (aI x :: T) fun v hv => (List.mem_cons.mp hv).elim (fun q => Or.inr (by rw [q]; trivial)) Or.inl) hRn
  | k + 2, q1, _ =>
    match v, q1, q3 with
    | .inr (.inr (.inl q)), q1, q3 =>
      obtain ⟨qc, qi⟩ := q
      obtain ⟨e1, q1⟩ := q1
      have e1 : qc = k := e1
      subst e1
      show W p l e R s m args below meth c H1 locs1 _ _ Zq (F0 m (pc + 3) ls (Value.ref (ad' qc qi) :: T.map (cv ad)))
      rw [eT]
      exact h1 (aR qc qi) M' q1 ad' H1 locs1 _ _ ls (hDn (aR qc qi :: T) fun v hv => (List.mem_cons.mp hv).elim (fun q => Or.inr (by rw [q]; exact q3)) Or.inl) hRn
    | .inr (.inr (.inr true)), q1, _ =>
      show W p l e R s m args below meth c H1 locs1 _ _ Zq (F0 m (pc + 3) ls (Value.null :: T.map (cv ad)))
      rw [eT]
      exact h1 aN M' q1 ad' H1 locs1 _ _ ls (hDn (aN :: T) fun v hv => (List.mem_cons.mp hv).elim (fun q => Or.inr (by rw [q]; trivial)) Or.inl) hRn
end CALLS
