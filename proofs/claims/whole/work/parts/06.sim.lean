/-! WHAT A MEMORY OF THE ABSTRACT MACHINE IS ON THE HEAP, and what a run of it says of the machine -/
theorem ofNat_ofInt (n : Nat) : Int32.ofNat n = Int32.ofInt (n : Int) := by
  apply Int32.toBitVec_inj.mp
  simp
theorem cI_eq (n : Int) : cI n = Int32.ofInt n := by
  cases n with
  | ofNat n => exact ofNat_ofInt n
  | negSucc n =>
    show - Int32.ofNat (n + 1) = _
    rw [ofNat_ofInt, Int.negSucc_eq, Int32.ofInt_neg]
    rfl
def okI (i : Instr) (pc n : Nat) : Bool := match i with
  | .bipush v => (n == 2) && decide ((Int8.ofInt v).toInt32 = cI v)
  | .sipush v => (n == 3) && decide ((Int16.ofInt v).toInt32 = cI v)
  | .aload _ | .iload _ | .lload _ | .astore _ | .istore _ | .lstore _ | .newarray _ | .ldc _ => n == 2
  | .goto o | .if_icmp _ o | .ifCond _ o | .ifnull o | .ifnonnull o => (n == 3) && decide (0 ≤ (pc : Int) + o)
  | .iinc _ _ | .getfield _ | .putfield _ | .getstatic _ | .invokevirtual _ | .invokestatic _ | .invokespecial _ | .new _ | .anewarray _ | .ldc_w _ | .ldc2_w _ => n == 3
  | .tableswitch o lo hi os => decide (0 ≤ (pc : Int) + o) && os.toList.all (fun o => decide (0 ≤ (pc : Int) + o)) && decide ((os.toList.length : Int) = hi - lo + 1) && decide ((cI lo).toInt = lo ∧ (cI hi).toInt = hi)
  | .lookupswitch o ps => decide (0 ≤ (pc : Int) + o) && ps.toList.all (fun e => decide (0 ≤ (pc : Int) + e.2) && decide ((cI e.1).toInt = e.1)) && (ps.toList.zip (ps.toList.drop 1)).all (fun (a, next) => a.1 < next.1)
  | _ => n == 1
def cv (ad : Nat → Nat → Nat) (v : AV) : Value := match v with
  | .inl x => .int x
  | .inr (.inl x) => .long x
  | .inr (.inr (.inl q)) => .ref (ad q.1 q.2)
  | .inr (.inr (.inr _)) => .null
def mv (ad : Nat → Nat → Nat) (M : MM) (c i k : Nat) : Value := match isIT (ftk c k) with
  | true => .int (M.1 c i k)
  | false => cv ad (M.2.1 c i k)
def cellR (D : va_G) (tA : Nat → ClassId) (ad : Nat → Nat → Nat) (M : MM) (H : Heap) (c i : Nat) : Prop := match Nat.ble 20 c with
  | true => ∃ q, ak c = some q ∧ H[ad c i]? = some (arrV (tA c) q.2 (fun j => mv ad M c i j))
  | false => ∃ q : vw_C, classes[c]? = some q ∧ t_OB (ad c i) (D.1 c) q.2.2 (D.2 c) H (fun k => mv ad M c i k)
def stw (c : Nat) : Bool := Nat.ble 16 c && Nat.ble c 17
def stv (c i : Nat) : Bool := stk c && (match stw c with
  | true => Nat.blt i 13
  | false => Nat.beq i 0)
theorem stv_k {c i : Nat} (h : stv c i = true) : stk c = true := by
  unfold stv at h
  simp only [Bool.and_eq_true] at h
  exact h.1
theorem stv_hi {c i : Nat} (h : stv c i = true) (hc : stw c = true) : i < 13 := by
  unfold stv at h
  rw [hc] at h
  simp only [Bool.and_eq_true] at h
  exact Nat.le_of_ble_eq_true h.2
theorem stv_lo {c i : Nat} (h : stv c i = true) (hc : stw c = false) : i = 0 := by
  unfold stv at h
  rw [hc] at h
  simp only [Bool.and_eq_true] at h
  exact Nat.eq_of_beq_eq_true h.2
theorem sta_k {c : Nat} {l : List Int32} (h : sta c = some l) : c = 12 ∨ c = 13 ∨ c = 14 ∨ c = 15 ∨ c = 18 := by
  unfold sta at h
  split at h <;> first | (cases h; done) | omega
theorem sta_v {c : Nat} {l : List Int32} (h : sta c = some l) : stk c = true ∧ stw c = false ∧ stv c 0 = true := by
  rcases sta_k h with rfl | rfl | rfl | rfl | rfl <;> exact ⟨rfl, rfl, rfl⟩
theorem stv_16 {i : Nat} (h : i < 13) : stv 16 i = true ∧ stv 17 i = true := by
  have e : Nat.blt i 13 = true := Nat.ble_eq_true_of_le h
  constructor
  · show (stk 16 && Nat.blt i 13) = true
    rw [e]; rfl
  · show (stk 17 && Nat.blt i 13) = true
    rw [e]; rfl
def okA (lv : LV) (v : AV) : Prop := match v with
  | .inr (.inr (.inl q)) => lv q.1 q.2 = true ∨ stv q.1 q.2 = true
  | _ => True
def Rep (D : va_G) (tA : Nat → ClassId) (z : Nat) (ad : Nat → Nat → Nat) (M : MM) (H : Heap) : Prop :=
  (∀ c i, M.2.2 c i = true → stk c = false ∧ z ≤ ad c i ∧ cellR D tA ad M H c i) ∧
  (∀ c i c' i', M.2.2 c i = true → M.2.2 c' i' = true → ad c i = ad c' i' → c = c' ∧ i = i') ∧
  (∀ c i k, M.2.2 c i = true → k < sz1 c → okA M.2.2 (M.2.1 c i k))
def KF (D : va_G) (tA : Nat → ClassId) (U : State) : Prop := va_K D classes [] U ∧ (∀ c q, ak c = some q → ArrOfT U (tA c) q.1 ∧ va_RA U (tA c) q.1) ∧ (∀ C ∈ ["StencilHouse$Shop", "StencilHouse$Day", "StencilHouse$Picture", "StencilHouse$Marks", "StencilHouse$Told"], va_AO C U) ∧ (∀ a i y h, Cond.methodLinkNest a i y h ∈ lw_tbl → va_Nw (.methodLinkNest a i y h) U)
abbrev aA (z : Nat) : Nat → Prop := fun q => z ≤ q
def SF (gl : Nat) (gx : Nat → Int32) (z : Nat) (ad : Nat → Nat → Nat) (U : State) (H : Heap) : Prop :=
  (va_X (ad 11 0) gl gx U H ∧ ad 11 0 < z) ∧
  (∀ c l, sta c = some l → va_Z (stO.getD (c - 12) "") (stN.getD (c - 12) "") "[I" (.ref (ad c 0)) (aA z) U H ∧ va_T .int (ad c 0) l.length (fun j => .int (l.getD j 0)) (aA z) U H) ∧
  vk_S 13 (stx.map List.length) stx (ad 16) (ad 17) (aA z) U H ∧
  (∀ j, j < 13 → vk_R "StencilHouse$Reader" (stIx.getD j 0) (stTx.getD j "") (ad 16 j) U) ∧
  va_Z "java/lang/String" "COMPACT_STRINGS" "Z" (.int 1) (aA z) U H ∧
  ∃ v, va_Z "jdk/internal/util/Preconditions" "SIOOBE_FORMATTER" "Ljava/util/function/BiFunction;" v (aA z) U H ∧ (v = .null ∨ ∃ a, v = .ref a)
theorem KF.moved {D : va_G} {tA : Nat → ClassId} {u U : State} (hW : u.WarmedH U.vm) (h : KF D tA u) : KF D tA U :=
  ⟨va_K.moved hW.alike h.1, fun c q hq => ⟨arrOfT_moved hW.alike (h.2.1 c q hq).1, (h.2.1 c q hq).2.moved hW.alike⟩, fun C hC => va_AO.moved hW.alike (h.2.2.1 C hC), fun a i y k hk => va_Nw.warmM hW (h.2.2.2 a i y k hk)⟩
theorem KF.same {D : va_G} {tA : Nat → ClassId} {u U : State} (hv : U.vm = u.vm) (h : KF D tA u) : KF D tA U :=
  have ha : u.vm.Alike U.vm := by rw [hv]; exact Vm.Alike.refl _
  ⟨va_K.moved ha h.1, fun c q hq => ⟨arrOfT_moved ha (h.2.1 c q hq).1, (h.2.1 c q hq).2.moved ha⟩, fun C hC => va_AO.moved ha (h.2.2.1 C hC), fun a i y k hk => va_Nw.same rfl hv.symm (h.2.2.2 a i y k hk)⟩
theorem SF.kept {gl : Nat} {gx : Nat → Int32} {z : Nat} {ad : Nat → Nat → Nat} {U : State} {H H1 : Heap} (h : SF gl gx z ad U H) (hz : z ≤ H.size) (hq : ∀ a : Nat, a < H.size → ¬ aA z a → H1[a]? = H[a]?) : SF gl gx z ad U H1 := by
  obtain ⟨⟨h1, h1'⟩, h2, h3, h4, h5, v, h6, h7⟩ := h
  exact ⟨⟨h1.kept (hq _ (Nat.lt_of_lt_of_le h1' hz) (Nat.not_le.mpr h1')), h1'⟩, fun c l hc => ⟨(h2 c l hc).1.kept hq, (h2 c l hc).2.kept hq⟩, h3.kept hq, h4, h5.kept hq, v, h6.kept hq, h7⟩
theorem SF.moved {gl : Nat} {gx : Nat → Int32} {z : Nat} {ad : Nat → Nat → Nat} {u U : State} {H : Heap} (hW : u.WarmedH U.vm) (h : SF gl gx z ad u H) : SF gl gx z ad U H := by
  obtain ⟨⟨h1, h1'⟩, h2, h3, h4, h5, v, h6, h7⟩ := h
  exact ⟨⟨h1.moved hW.alike, h1'⟩, fun c l hc => ⟨(h2 c l hc).1.moved hW.alike, (h2 c l hc).2.moved hW.alike⟩, h3.moved hW.alike, fun j hj => (h4 j hj).warm hW, h5.moved hW.alike, v, h6.moved hW.alike, h7⟩
theorem SF.same {gl : Nat} {gx : Nat → Int32} {z : Nat} {ad : Nat → Nat → Nat} {u U : State} {H : Heap} (hv : U.vm = u.vm) (h : SF gl gx z ad u H) : SF gl gx z ad U H := by
  have ha : u.vm.Alike U.vm := by rw [hv]; exact Vm.Alike.refl _
  obtain ⟨⟨h1, h1'⟩, h2, h3, h4, h5, v, h6, h7⟩ := h
  exact ⟨⟨h1.moved ha, h1'⟩, fun c l hc => ⟨(h2 c l hc).1.moved ha, (h2 c l hc).2.moved ha⟩, h3.moved ha, fun j hj => (h4 j hj).same hv, h5.moved ha, v, h6.moved ha, h7⟩
/-- the names that were, mean what they meant -/
def Ext (lv : LV) (ad ad' : Nat → Nat → Nat) : Prop := ∀ c i, lv c i = true ∨ stk c = true → ad' c i = ad c i
theorem SF.ext {gl : Nat} {gx : Nat → Int32} {z : Nat} {lv : LV} {ad ad' : Nat → Nat → Nat} {U : State} {H : Heap} (h : SF gl gx z ad U H) (he : Ext lv ad ad') : SF gl gx z ad' U H := by
  have e : ∀ c i, stk c = true → ad' c i = ad c i := fun c i hc => he c i (Or.inr hc)
  obtain ⟨⟨h1, h1'⟩, h2, h3, h4, h5, v, h6, h7⟩ := h
  have e16 : ad' 16 = ad 16 := funext fun i => e 16 i rfl
  have e17 : ad' 17 = ad 17 := funext fun i => e 17 i rfl
  refine ⟨by rw [e 11 0 rfl]; exact ⟨h1, h1'⟩, fun c l hc => ?_, by rw [e16, e17]; exact h3, by rw [e16]; exact h4, h5, v, h6, h7⟩
  have hs : stk c = true := (sta_v hc).1
  rw [e c 0 hs]
  exact h2 c l hc
theorem cv_ext {lv : LV} {ad ad' : Nat → Nat → Nat} (he : Ext lv ad ad') {v : AV} (h : okA lv v) : cv ad' v = cv ad v := by
  match v, h with
  | .inl x, _ => rfl
  | .inr (.inl x), _ => rfl
  | .inr (.inr (.inl q)), h => exact congrArg Value.ref (he q.1 q.2 (h.imp id stv_k))
  | .inr (.inr (.inr _)), _ => rfl
theorem okA_mono {lv lv' : LV} (h : ∀ c i, lv c i = true → lv' c i = true) {v : AV} (hv : okA lv v) : okA lv' v := by
  match v, hv with
  | .inl x, _ => trivial
  | .inr (.inl x), _ => trivial
  | .inr (.inr (.inl q)), hv => exact hv.imp (h q.1 q.2) id
  | .inr (.inr (.inr _)), _ => trivial
/-- the locals whose values are known -/
def lvl (ad : Nat → Nat → Nat) : Nat → List AV → List (Nat × Value)
  | _, [] => []
  | i, .inr (.inr (.inr false)) :: L => lvl ad (i + 1) L
  | i, v :: L => (i, cv ad v) :: lvl ad (i + 1) L
theorem lvl_mem {ad : Nat → Nat → Nat} {q : Nat × Value} : ∀ {L : List AV} {i : Nat}, q ∈ lvl ad i L ↔ ∃ j v, L[j]? = some v ∧ v ≠ aU ∧ q = (i + j, cv ad v) := by
  intro L
  induction L with
  | nil => intro i; simp [lvl]
  | cons a L ih =>
    intro i
    have tail : (∃ j v, L[j]? = some v ∧ v ≠ aU ∧ q = (i + 1 + j, cv ad v)) ↔ ∃ j v, (a :: L)[j + 1]? = some v ∧ v ≠ aU ∧ q = (i + (j + 1), cv ad v) := by
      constructor
      · rintro ⟨j, v, h1, h2, h3⟩
        exact ⟨j, v, by simpa using h1, h2, by rw [h3]; congr 1; omega⟩
      · rintro ⟨j, v, h1, h2, h3⟩
        exact ⟨j, v, by simpa using h1, h2, by rw [h3]; congr 1; omega⟩
    by_cases ha : a = aU
    · subst ha
      show q ∈ lvl ad (i + 1) L ↔ _
      rw [ih, tail]
      constructor
      · rintro ⟨j, v, h⟩
        exact ⟨j + 1, v, h⟩
      · rintro ⟨j, v, h1, h2, h3⟩
        cases j with
        | zero => exact absurd (by simpa using h1.symm) h2
        | succ j => exact ⟨j, v, h1, h2, h3⟩
    · have e : lvl ad i (a :: L) = (i, cv ad a) :: lvl ad (i + 1) L := by
        match a, ha with
        | .inl x, _ => rfl
        | .inr (.inl x), _ => rfl
        | .inr (.inr (.inl x)), _ => rfl
        | .inr (.inr (.inr true)), _ => rfl
        | .inr (.inr (.inr false)), ha => exact absurd rfl ha
      rw [e, List.mem_cons, ih, tail]
      constructor
      · rintro (h | ⟨j, v, h⟩)
        · exact ⟨0, a, by simp, ha, by simpa using h⟩
        · exact ⟨j + 1, v, h⟩
      · rintro ⟨j, v, h1, h2, h3⟩
        cases j with
        | zero =>
          have : a = v := by simpa using h1
          subst this
          exact Or.inl (by simpa using h3)
        | succ j => exact Or.inr ⟨j, v, h1, h2, h3⟩
theorem lvl_at {ad : Nat → Nat → Nat} {ls : Array Slot} {n : Nat} {L : List AV} (h : lv_has ls n (lvl ad 0 L)) {k : Nat} {v : AV} (hv : gL L k = v) (hu : v ≠ aU) : ls[k]? = some (.val (cv ad v)) := by
  have h1 : L[k]? = some v := by
    unfold gL at hv
    rw [List.getD_eq_getElem?_getD] at hv
    cases hq : L[k]? with
    | none => rw [hq] at hv; exact absurd hv.symm hu
    | some w => rw [hq] at hv; simpa using hv
  have h2 := h.2.2 (k, cv ad v) (lvl_mem.mpr ⟨k, v, h1, hu, by simp⟩)
  exact h2
theorem lvl_sub {ls : Array Slot} {n : Nat} {l l' : List (Nat × Value)} (h : lv_has ls n l) (hs : ∀ q ∈ l', q ∈ l) : lv_has ls n l' := ⟨h.1, h.2.1, fun q hq => h.2.2 q (hs q hq)⟩
theorem lvl_ext {lv : LV} {ad ad' : Nat → Nat → Nat} (he : Ext lv ad ad') {L : List AV} (hL : ∀ v ∈ L, okA lv v) {ls : Array Slot} {n : Nat} (h : lv_has ls n (lvl ad 0 L)) : lv_has ls n (lvl ad' 0 L) := by
  refine lvl_sub h fun q hq => ?_
  obtain ⟨j, v, h1, h2, rfl⟩ := lvl_mem.mp hq
  rw [cv_ext he (hL v (List.mem_of_getElem? h1))]
  exact lvl_mem.mpr ⟨j, v, h1, h2, rfl⟩
theorem cv_cat {ad : Nat → Nat → Nat} {v : AV} : (cv ad v).category = 2 ↔ ∃ x, v = aL x := by
  match v with
  | .inl x => simp [cv, Value.category]
  | .inr (.inl x) => simp [cv, Value.category]
  | .inr (.inr (.inl q)) => simp [cv, Value.category]
  | .inr (.inr (.inr b)) => simp [cv, Value.category]
/-- behind a store of one word -/
theorem lvl_set {ad : Nat → Nat → Nat} {L : List AV} {k : Nat} {v : AV} {P : List AV → Prop} (h : sL L k v P) : P (L.set k v) ∧ k < L.length ∧ ∀ q ∈ lvl ad 0 (L.set k v), q ∈ (k, cv ad v) :: (lvl ad 0 L).filter (fun q => !(q.1 == k) && !(q.1 + 1 == k && q.2.category == 2)) := by
  unfold sL at h
  split at h
  · rename_i hlt
    have hk : k < L.length := by
      have := Nat.le_of_ble_eq_true hlt
      omega
    have main : (∀ j, k = j + 1 → ∀ x, gL L j ≠ aL x) → ∀ q ∈ lvl ad 0 (L.set k v), q ∈ (k, cv ad v) :: (lvl ad 0 L).filter (fun q => !(q.1 == k) && !(q.1 + 1 == k && q.2.category == 2)) := by
      intro hno q hq
      obtain ⟨j, w, h1, h2, rfl⟩ := lvl_mem.mp hq
      by_cases hj : k = j
      · subst hj
        rw [List.getElem?_set_self hk] at h1
        cases h1
        simp
      · rw [List.getElem?_set_ne hj] at h1
        refine List.mem_cons_of_mem _ (List.mem_filter.mpr ⟨lvl_mem.mpr ⟨j, w, h1, h2, rfl⟩, ?_⟩)
        have e1 : ¬ (0 + j = k) := by omega
        by_cases e2 : 0 + j + 1 = k
        · have e3 : ¬ (cv ad w).category = 2 := by
            intro hc
            obtain ⟨x, rfl⟩ := cv_cat.mp hc
            refine hno j (by omega) x ?_
            unfold gL
            rw [List.getD_eq_getElem?_getD, h1]
            rfl
          have e1' : ¬ j = k := by omega
          simp [e1', e3]
        · have e1' : ¬ j = k := by omega
          have e2' : ¬ j + 1 = k := by omega
          simp [e1', e2']
    cases k with
    | zero => exact ⟨h, hk, main (fun j e => by omega)⟩
    | succ j =>
      dsimp only at h
      split at h
      · exact h.elim
      · rename_i hno
        refine ⟨h, hk, main (fun j' e x hx => ?_)⟩
        have : j' = j := by omega
        subst this
        exact hno x hx
  · exact h.elim
theorem pI_inv {S : List AV} {f : Int32 → List AV → Prop} (h : pI S f) : ∃ x T, S = aI x :: T ∧ f x T := by
  unfold pI at h
  split at h
  · exact ⟨_, _, rfl, h⟩
  · exact h.elim
theorem pL_inv {S : List AV} {f : Int64 → List AV → Prop} (h : pL S f) : ∃ x T, S = aL x :: T ∧ f x T := by
  unfold pL at h
  split at h
  · exact ⟨_, _, rfl, h⟩
  · exact h.elim
theorem pR_inv {S : List AV} {f : Nat → Nat → List AV → Prop} (h : pR S f) : ∃ c i T, S = aR c i :: T ∧ f c i T := by
  unfold pR at h
  split at h
  · exact ⟨_, _, _, rfl, h⟩
  · exact h.elim
theorem pA_inv {S : List AV} {f : AV → List AV → Prop} (h : pA S f) : (∃ c i T, S = aR c i :: T ∧ f (aR c i) T) ∨ ∃ T, S = aN :: T ∧ f aN T := by
  unfold pA at h
  split at h
  · exact Or.inl ⟨_, _, _, rfl, h⟩
  · exact Or.inr ⟨_, rfl, h⟩
  · exact h.elim
/-- a value of one word that is known -/
theorem p1_inv {v : AV} {f : AV → Prop} (h : p1 v f) : f v ∧ v ≠ aU ∧ ∀ ad : Nat → Nat → Nat, (cv ad v).category = 1 := by
  unfold p1 at h
  split at h
  · exact ⟨h, (by intro e; cases e), fun _ => rfl⟩
  · exact ⟨h, (by intro e; cases e), fun _ => rfl⟩
  · exact ⟨h, (by intro e; cases e), fun _ => rfl⟩
  · exact h.elim
def psz (P : PL) : Nat := (P.map fun q => sz1 q.1).sum
def rst (ad : Nat → Nat → Nat) (v : AV) : List Value := match v with
  | .inr (.inr (.inr false)) => []
  | v => [cv ad v]
def retAt (r : MT) (pc : Nat) (v : AV) : Prop := (r.2.2.2.1 = none ∧ v = aU ∧ decode r.2.1 pc = .ok (.return_, 1)) ∨ (∃ x ty, r.2.2.2.1 = some ty ∧ v = aI x ∧ narrow ty (.int x) = .int x ∧ decode r.2.1 pc = .ok (.ireturn, 1)) ∨ (∃ C, r.2.2.2.1 = some (.object C) ∧ ((∃ q, v = .inr (.inr (.inl q))) ∨ v = aN) ∧ decode r.2.1 pc = .ok (.areturn, 1))
def Cx (z : Nat) (D : va_G) (tA : Nat → ClassId) (p : Program) (R : Room) (s : State) (m : MethodId) (args : Array Value) (meth : Method) (c : Code) (r : MT) (d : Nat) : Prop :=
  p.tables.exec = Jvm.exec ∧ c.code = r.2.1 ∧ c.maxLocals = r.2.2.1 ∧ s.vm.findClass r.1.cls = some m.cls ∧ (∀ w ∈ lw_g, w.before args s = true) ∧ (r.1.name = "<init>" → meth.name = "<init>") ∧ KF D tA s ∧ z ≤ s.heap.size ∧ d ≤ R.frames ∧ 64 * d ≤ R.locals ∧ LOK r.1.cls r.2.2.2.2.2
def Dx (gl : Nat) (gx : Nat → Int32) (z : Nat) (D : va_G) (tA : Nat → ClassId) (R : Room) (s : State) (r : MT) (ad : Nat → Nat → Nat) (H : Heap) (locs : List Loc) (cells slots : Nat) (ls : Array Slot) (P : PL) (L S : List AV) (M : MM) : Prop :=
  SF gl gx z ad s s.heap ∧ va_S (aA z) s.heap H locs ∧ Rep D tA z ad M H ∧ lv_has ls r.2.2.1 (lvl ad 0 L) ∧ L.length = r.2.2.1 ∧ (∀ v ∈ L, okA M.2.2 v) ∧ (∀ v ∈ S, okA M.2.2 v) ∧ cells + P.length ≤ R.cells ∧ slots + psz P ≤ R.slots
def Ret (z : Nat) (D : va_G) (tA : Nat → ClassId) (l : Launch) (p : Program) (e : Env) (R : Room) (s : State) (m : MethodId) (args : Array Value) (below : List Frame) (meth : Method) (c : Code) (Zq : State → Prop) (r : MT) (Q : PO) (lv : LV) (ad : Nat → Nat → Nat) : Prop :=
  ∀ (v : AV) (M' : MM) (ad' : Nat → Nat → Nat) (H' : Heap) (locs' : List Loc) (cells' slots' pc' : Nat) (ls' : Array Slot), Q v M' → Rep D tA z ad' M' H' → okA M'.2.2 v → Ext lv ad ad' → (∀ c i, lv c i = true → M'.2.2 c i = true) → va_S (aA z) s.heap H' locs' → cells' ≤ R.cells → slots' ≤ R.slots → retAt r pc' v → W p l e R s m args below meth c H' locs' cells' slots' Zq (F0 m pc' ls' (rst ad' v))
def Go (gl : Nat) (gx : Nat → Int32) (z : Nat) (D : va_G) (tA : Nat → ClassId) (l : Launch) (p : Program) (e : Env) (R : Room) (s : State) (m : MethodId) (args : Array Value) (below : List Frame) (meth : Method) (c : Code) (Zq : State → Prop) (r : MT) (Q : PO) (pc : Nat) (P : PL) (L S : List AV) (M : MM) : Prop :=
  ∀ (ad : Nat → Nat → Nat) (H : Heap) (locs : List Loc) (cells slots : Nat) (ls : Array Slot), Dx gl gx z D tA R s r ad H locs cells slots ls P L S M → Ret z D tA l p e R s m args below meth c Zq r Q M.2.2 ad → W p l e R s m args below meth c H locs cells slots Zq (F0 m pc ls (S.map (cv ad)))
def Sim (gl : Nat) (gx : Nat → Int32) (z : Nat) (D : va_G) (tA : Nat → ClassId) (l : Launch) : XT := fun d P y pc L S M Q =>
  ∀ (p : Program) (e : Env) (R : Room) (s : State) (m : MethodId) (args : Array Value) (below : List Frame) (meth : Method) (c : Code) (Zq : State → Prop) (r : MT), mt y = some r → Cx z D tA p R s m args meth c r d → Go gl gx z D tA l p e R s m args below meth c Zq r Q pc P L S M
theorem Ret.mono {z : Nat} {D : va_G} {tA : Nat → ClassId} {l : Launch} {p : Program} {e : Env} {R : Room} {s : State} {m : MethodId} {args : Array Value} {below : List Frame} {meth : Method} {c : Code} {Zq : State → Prop} {r : MT} {Q : PO} {lv lv1 : LV} {ad ad1 : Nat → Nat → Nat} (h : Ret z D tA l p e R s m args below meth c Zq r Q lv ad) (hl : ∀ c i, lv c i = true → lv1 c i = true) (he : Ext lv ad ad1) : Ret z D tA l p e R s m args below meth c Zq r Q lv1 ad1 := by
  intro v M' ad' H' locs' cells' slots' pc' ls' h1 h2 h3 h4 h5 h6 h7 h8 h9
  refine h v M' ad' H' locs' cells' slots' pc' ls' h1 h2 h3 (fun c i hc => ?_) (fun c i hc => h5 c i (hl c i hc)) h6 h7 h8 h9
  rw [h4 c i (hc.imp (hl c i) id), he c i hc]
