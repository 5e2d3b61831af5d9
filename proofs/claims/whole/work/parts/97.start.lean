/-! THE START: what the Statement gives of it, as the abstract machine wants it -/
def nwC : Cond := Jvm.Cond.and given_1 narrow_1
def zK : List Nat := [12, 13, 14, 15, 18]
def zT (c : Nat) : Term := .static (stO.getD (zK.getD c 0 - 12) "") (stN.getD (zK.getD c 0 - 12) "") "[I"
def zL (c : Nat) : List Int32 := (sta (zK.getD c 0)).getD []
def sT (i : Nat) : Term := .string "StencilHouse$Reader" (stIx.getD i 0)
def sV (i : Nat) : Term := .field (sT i) "java/lang/String" "value" "[B"
def zP : List Nat := [5, 18, 34, 76, 118]
def sP : List Nat := [185, 193, 202, 213, 224, 237, 250, 264, 280, 297, 314, 331, 349]
def nP : List Nat := [0, 201, 211, 221, 233, 245, 258, 273, 289, 305, 321, 338, 357]
def nwat (p : Nat) (w : Cond) : Bool := decide (nthC (flatC nwC) p = some w)
theorem nwm {p : Nat} {w : Cond} (h : nwat p w = true) : w ∈ flatC nwC := nthC_mem _ _ (of_decide_eq_true h)
set_option maxRecDepth 100000 in
theorem nw_z1 : ∀ c, c < 5 → nwat (zP.getD c 0) (Cond.arrayOf (zT c) .int) = true ∧ nwat (zP.getD c 0 + 1) (Cond.eq (.length (zT c)) (.int (Int32.ofNat (zL c).length))) = true := by decide +kernel
set_option maxRecDepth 100000 in
theorem nw_z2_0 : ∀ j, j < (zL 0).length → nwat (zP.getD 0 0 + 2 + j) (Cond.eq (.elem (zT 0) (.int (Int32.ofNat j))) (.int ((zL 0).getD j 0))) = true := by decide +kernel
set_option maxRecDepth 100000 in
theorem nw_z2_1 : ∀ j, j < (zL 1).length → nwat (zP.getD 1 0 + 2 + j) (Cond.eq (.elem (zT 1) (.int (Int32.ofNat j))) (.int ((zL 1).getD j 0))) = true := by decide +kernel
set_option maxRecDepth 100000 in
theorem nw_z2_2 : ∀ j, j < (zL 2).length → nwat (zP.getD 2 0 + 2 + j) (Cond.eq (.elem (zT 2) (.int (Int32.ofNat j))) (.int ((zL 2).getD j 0))) = true := by decide +kernel
set_option maxRecDepth 100000 in
theorem nw_z2_3 : ∀ j, j < (zL 3).length → nwat (zP.getD 3 0 + 2 + j) (Cond.eq (.elem (zT 3) (.int (Int32.ofNat j))) (.int ((zL 3).getD j 0))) = true := by decide +kernel
set_option maxRecDepth 100000 in
theorem nw_z2_4 : ∀ j, j < (zL 4).length → nwat (zP.getD 4 0 + 2 + j) (Cond.eq (.elem (zT 4) (.int (Int32.ofNat j))) (.int ((zL 4).getD j 0))) = true := by decide +kernel
theorem nw_z : ∀ c, c < 5 → (Cond.arrayOf (zT c) .int) ∈ flatC nwC ∧ (Cond.eq (.length (zT c)) (.int (Int32.ofNat (zL c).length))) ∈ flatC nwC ∧ ∀ j, j < (zL c).length → (Cond.eq (.elem (zT c) (.int (Int32.ofNat j))) (.int ((zL c).getD j 0))) ∈ flatC nwC := by
  intro c hc
  refine ⟨nwm (nw_z1 c hc).1, nwm (nw_z1 c hc).2, fun j hj => ?_⟩
  match c, hc, j, hj with
  | 0, _, j, hj => exact nwm (nw_z2_0 j hj)
  | 1, _, j, hj => exact nwm (nw_z2_1 j hj)
  | 2, _, j, hj => exact nwm (nw_z2_2 j hj)
  | 3, _, j, hj => exact nwm (nw_z2_3 j hj)
  | 4, _, j, hj => exact nwm (nw_z2_4 j hj)
  | c + 5, hc, _, _ => exact absurd hc (by omega)
set_option maxRecDepth 100000 in
theorem nw_s1 : ∀ i, i < 13 → nwat (sP.getD i 0) (Cond.exactly (sT i) "java/lang/String") = true ∧ nwat (sP.getD i 0 + 1) (Cond.eq (.field (sT i) "java/lang/String" "coder" "B") (.int 0)) = true ∧ nwat (sP.getD i 0 + 2) (Cond.arrayOf (sV i) .byte) = true ∧ nwat (sP.getD i 0 + 3) (Cond.eq (.length (sV i)) (.int (Int32.ofNat ((stx.map List.length).getD i 0)))) = true := by decide +kernel
theorem nw_s : ∀ i, i < 13 → (Cond.exactly (sT i) "java/lang/String") ∈ flatC nwC ∧ (Cond.eq (.field (sT i) "java/lang/String" "coder" "B") (.int 0)) ∈ flatC nwC ∧ (Cond.arrayOf (sV i) .byte) ∈ flatC nwC ∧ (Cond.eq (.length (sV i)) (.int (Int32.ofNat ((stx.map List.length).getD i 0)))) ∈ flatC nwC := fun i hi => ⟨nwm (nw_s1 i hi).1, nwm (nw_s1 i hi).2.1, nwm (nw_s1 i hi).2.2.1, nwm (nw_s1 i hi).2.2.2⟩
set_option maxRecDepth 100000 in
theorem nw_e1 : ∀ i, i < 13 → ∀ j, j < (stx.map List.length).getD i 0 → nwat (sP.getD i 0 + 4 + j) (Cond.eq (.elem (sV i) (.int (Int32.ofNat j))) (.int ((stx.getD i []).getD j 0))) = true := by decide +kernel
theorem nw_e : ∀ i, i < 13 → ∀ j, j < (stx.map List.length).getD i 0 → (Cond.eq (.elem (sV i) (.int (Int32.ofNat j))) (.int ((stx.getD i []).getD j 0))) ∈ flatC nwC := fun i hi j hj => nwm (nw_e1 i hi j hj)
set_option maxRecDepth 100000 in
theorem nw_n_1 : ∀ i, i < 1 → nwat (nP.getD 1 0 + i) (Cond.not (Cond.eq (sT i) (sT 1))) = true := by decide +kernel
set_option maxRecDepth 100000 in
theorem nw_n_2 : ∀ i, i < 2 → nwat (nP.getD 2 0 + i) (Cond.not (Cond.eq (sT i) (sT 2))) = true := by decide +kernel
set_option maxRecDepth 100000 in
theorem nw_n_3 : ∀ i, i < 3 → nwat (nP.getD 3 0 + i) (Cond.not (Cond.eq (sT i) (sT 3))) = true := by decide +kernel
set_option maxRecDepth 100000 in
theorem nw_n_4 : ∀ i, i < 4 → nwat (nP.getD 4 0 + i) (Cond.not (Cond.eq (sT i) (sT 4))) = true := by decide +kernel
set_option maxRecDepth 100000 in
theorem nw_n_5 : ∀ i, i < 5 → nwat (nP.getD 5 0 + i) (Cond.not (Cond.eq (sT i) (sT 5))) = true := by decide +kernel
set_option maxRecDepth 100000 in
theorem nw_n_6 : ∀ i, i < 6 → nwat (nP.getD 6 0 + i) (Cond.not (Cond.eq (sT i) (sT 6))) = true := by decide +kernel
set_option maxRecDepth 100000 in
theorem nw_n_7 : ∀ i, i < 7 → nwat (nP.getD 7 0 + i) (Cond.not (Cond.eq (sT i) (sT 7))) = true := by decide +kernel
set_option maxRecDepth 100000 in
theorem nw_n_8 : ∀ i, i < 8 → nwat (nP.getD 8 0 + i) (Cond.not (Cond.eq (sT i) (sT 8))) = true := by decide +kernel
set_option maxRecDepth 100000 in
theorem nw_n_9 : ∀ i, i < 9 → nwat (nP.getD 9 0 + i) (Cond.not (Cond.eq (sT i) (sT 9))) = true := by decide +kernel
set_option maxRecDepth 100000 in
theorem nw_n_10 : ∀ i, i < 10 → nwat (nP.getD 10 0 + i) (Cond.not (Cond.eq (sT i) (sT 10))) = true := by decide +kernel
set_option maxRecDepth 100000 in
theorem nw_n_11 : ∀ i, i < 11 → nwat (nP.getD 11 0 + i) (Cond.not (Cond.eq (sT i) (sT 11))) = true := by decide +kernel
set_option maxRecDepth 100000 in
theorem nw_n_12 : ∀ i, i < 12 → nwat (nP.getD 12 0 + i) (Cond.not (Cond.eq (sT i) (sT 12))) = true := by decide +kernel
theorem nw_n1 : ∀ i j, i < j → j < 13 → (Cond.not (Cond.eq (sT i) (sT j))) ∈ flatC nwC := by
  intro i j hij hj
  match j, hj, hij with
  | 0, _, hij => exact absurd hij (by omega)
  | 1, _, hij => exact nwm (nw_n_1 i hij)
  | 2, _, hij => exact nwm (nw_n_2 i hij)
  | 3, _, hij => exact nwm (nw_n_3 i hij)
  | 4, _, hij => exact nwm (nw_n_4 i hij)
  | 5, _, hij => exact nwm (nw_n_5 i hij)
  | 6, _, hij => exact nwm (nw_n_6 i hij)
  | 7, _, hij => exact nwm (nw_n_7 i hij)
  | 8, _, hij => exact nwm (nw_n_8 i hij)
  | 9, _, hij => exact nwm (nw_n_9 i hij)
  | 10, _, hij => exact nwm (nw_n_10 i hij)
  | 11, _, hij => exact nwm (nw_n_11 i hij)
  | 12, _, hij => exact nwm (nw_n_12 i hij)
  | j + 13, hj, _ => exact absurd hj (by omega)
theorem nw_n : ∀ i, i < 13 → ∀ j, j < 13 → i ≠ j → (Cond.not (Cond.eq (sT i) (sT j))) ∈ flatC nwC ∨ (Cond.not (Cond.eq (sT j) (sT i))) ∈ flatC nwC := by
  intro i hi j hj hij
  rcases Nat.lt_or_gt_of_ne hij with h | h
  · exact Or.inl (nw_n1 i j h hj)
  · exact Or.inr (nw_n1 j i h hi)
set_option maxRecDepth 100000 in
theorem nw_o1 : nwat 12 (Cond.eq (.static "java/lang/String" "COMPACT_STRINGS" "Z") (.int 1)) = true ∧ nwat 13 (Cond.isRef (.static "jdk/internal/util/Preconditions" "SIOOBE_FORMATTER" "Ljava/util/function/BiFunction;")) = true := by decide +kernel
theorem nw_o : (Cond.eq (.static "java/lang/String" "COMPACT_STRINGS" "Z") (.int 1)) ∈ flatC nwC ∧ (Cond.isRef (.static "jdk/internal/util/Preconditions" "SIOOBE_FORMATTER" "Ljava/util/function/BiFunction;")) ∈ flatC nwC := ⟨nwm nw_o1.1, nwm nw_o1.2⟩
theorem zL_lt : ∀ c, c < 5 → (zL c).length < 2 ^ 31 := by decide +kernel
def tyl : List FieldType := [.int, .byte, .boolean, .object "StencilHouse$Shop", .object "StencilHouse$Day", .object "StencilHouse$Picture", .object "StencilHouse$Marks", .object "StencilHouse$Told"]
theorem ak_ty : ∀ (c : Nat) (q : FieldType × Nat), ak c = some q → q.1 ∈ tyl := by
  intro c q h
  unfold ak at h
  split at h
  · have hm := List.mem_of_getElem? h
    have hall : aks.all (fun q => decide (q.1 ∈ tyl)) = true := by decide +kernel
    exact of_decide_eq_true (List.all_eq_true.mp hall q hm)
  · cases h
theorem ty_p {args : Array Value} {s : State} {ty : FieldType} (h : (Cond.arrayClass ty).before args s = true) (hn : ∀ C, ty ≠ .object C) : ∃ cA, ArrOfT s cA ty ∧ va_RA s cA ty := by
  obtain ⟨c, k, comp, h1, h2, h3⟩ := Cond.arrayClass_spec h
  refine ⟨c, fun n z => ⟨fun k h => (by cases h), k, h2, comp, h3⟩, ?_⟩
  cases ty <;> first | exact h1 | exact absurd rfl (hn _)
theorem ty_o {args : Array Value} {s : State} {C : String} (h : (Cond.arrayOver (.object C)).before args s = true) : ∃ cA, ArrOfT s cA (.object C) ∧ va_RA s cA (.object C) := by
  obtain ⟨comp, c, k, h1, h2, h3, h4, h5⟩ := Cond.arrayOver_spec h
  exact ⟨c, fun n z => ⟨fun k h => (by cases h), k, h3, comp, h4⟩, k, comp, h3, h4, h1, h5⟩

theorem ty_all {args : Array Value} {s : State} (hts : ∀ w ∈ lw_tbl, w.before args s = true) : ∀ ty ∈ tyl, ∃ cA, ArrOfT s cA ty ∧ va_RA s cA ty := by
  refine List.forall_mem_cons.mpr ⟨ty_p (hts _ (inT_mem (w := .arrayClass FieldType.int) (p := (0, 112)) (by decide +kernel))) (fun C e => by cases e), List.forall_mem_cons.mpr ⟨ty_p (hts _ (inT_mem (w := .arrayClass FieldType.byte) (p := (2, 137)) (by decide +kernel))) (fun C e => by cases e), List.forall_mem_cons.mpr ⟨ty_p (hts _ (inT_mem (w := .arrayClass FieldType.boolean) (p := (5, 79)) (by decide +kernel))) (fun C e => by cases e), ?_⟩⟩⟩
  exact List.forall_mem_cons.mpr ⟨ty_o (hts _ (inT_mem (w := .arrayOver (FieldType.object "StencilHouse$Shop")) (p := (0, 35)) (by decide +kernel))), List.forall_mem_cons.mpr ⟨ty_o (hts _ (inT_mem (w := .arrayOver (FieldType.object "StencilHouse$Day")) (p := (0, 37)) (by decide +kernel))), List.forall_mem_cons.mpr ⟨ty_o (hts _ (inT_mem (w := .arrayOver (FieldType.object "StencilHouse$Picture")) (p := (0, 39)) (by decide +kernel))), List.forall_mem_cons.mpr ⟨ty_o (hts _ (inT_mem (w := .arrayOver (FieldType.object "StencilHouse$Marks")) (p := (0, 41)) (by decide +kernel))), List.forall_mem_cons.mpr ⟨ty_o (hts _ (inT_mem (w := .arrayOver (FieldType.object "StencilHouse$Told")) (p := (0, 198)) (by decide +kernel))), fun _ h => absurd h List.not_mem_nil⟩⟩⟩⟩⟩
theorem tA_ex {args : Array Value} {s : State} (hts : ∀ w ∈ lw_tbl, w.before args s = true) : ∃ tA : Nat → ClassId, ∀ c q, ak c = some q → ArrOfT s (tA c) q.1 ∧ va_RA s (tA c) q.1 := by
  have h : ∀ c, ∃ cA : ClassId, ∀ q, ak c = some q → ArrOfT s cA q.1 ∧ va_RA s cA q.1 := by
    intro c
    cases e : ak c with
    | none => exact ⟨0, fun q h => by cases h⟩
    | some q =>
      obtain ⟨cA, h⟩ := ty_all hts q.1 (ak_ty c q e)
      exact ⟨cA, fun q' h' => by cases h'; exact h⟩
  obtain ⟨f, hf⟩ := Classical.axiomOfChoice h
  exact ⟨f, hf⟩

theorem in_all {args : Array Value} {s : State} (hts : ∀ w ∈ lw_tbl, w.before args s = true) : ∀ (c : Nat) (q : vw_C), classes[c]? = some q → ∃ n, (Cond.instantiable q.1 n).before args s = true := by
  intro c q hq
  match c, hq with
  | 0, hq => cases hq; exact ⟨_, (hts _ (inT_mem (w := .instantiable "StencilHouse$Day" (2)) (p := (0, 113)) (by decide +kernel)))⟩
  | 1, hq => cases hq; exact ⟨_, (hts _ (inT_mem (w := .instantiable "StencilHouse$Marks" (4)) (p := (0, 138)) (by decide +kernel)))⟩
  | 2, hq => cases hq; exact ⟨_, (hts _ (inT_mem (w := .instantiable "StencilHouse$Orders" (7)) (p := (1, 90)) (by decide +kernel)))⟩
  | 3, hq => cases hq; exact ⟨_, (hts _ (inT_mem (w := .instantiable "StencilHouse$Picture" (1)) (p := (0, 128)) (by decide +kernel)))⟩
  | 4, hq => cases hq; exact ⟨_, (hts _ (inT_mem (w := .instantiable "StencilHouse$Reader" (11)) (p := (0, 200)) (by decide +kernel)))⟩
  | 5, hq => cases hq; exact ⟨_, (hts _ (inT_mem (w := .instantiable "StencilHouse$Shop" (11)) (p := (0, 42)) (by decide +kernel)))⟩
  | 6, hq => cases hq; exact ⟨_, (hts _ (inT_mem (w := .instantiable "StencilHouse$Tokens" (6)) (p := (0, 214)) (by decide +kernel)))⟩
  | 7, hq => cases hq; exact ⟨_, (hts _ (inT_mem (w := .instantiable "StencilHouse$Told" (9)) (p := (0, 29)) (by decide +kernel)))⟩
  | 8, hq => cases hq; exact ⟨_, (hts _ (inT_mem (w := .instantiable "StencilHouse$Wall" (12)) (p := (1, 42)) (by decide +kernel)))⟩
  | 9, hq => cases hq; exact ⟨_, (hts _ (inT_mem (w := .instantiable "StencilHouse" (5)) (p := (0, 21)) (by decide +kernel)))⟩
  | 10, hq => cases hq; exact ⟨_, (hts _ (inT_mem (w := .instantiable "StencilHouseModel" (51)) (p := (4, 159)) (by decide +kernel)))⟩
  | c + 11, hq => simp [classes] at hq
theorem D_ex {args : Array Value} {s : State} (hts : ∀ w ∈ lw_tbl, w.before args s = true) : ∃ D : va_G, va_K D classes [] s := by
  have h : ∀ c : Nat, ∃ d : ClassId × (Nat → Nat), ∀ q : vw_C, classes[c]? = some q → u_Kn s q.1 q.2.1 q.2.2 d.1 d.2 := by
    intro c
    cases e : classes[c]? with
    | none => exact ⟨(0, fun _ => 0), fun q h => by cases h⟩
    | some q =>
      obtain ⟨n, hn⟩ := in_all hts c q e
      obtain ⟨cC, iS, hK⟩ := u_known (C := q.1) (T := q.2.1) (N := q.2.2) (n := n) hts (fun w hw => (List.mem_filter.mp (uwg c q e w hw)).1) hn
      exact ⟨(cC, iS), fun q' h' => by cases h'; exact hK⟩
  obtain ⟨f, hf⟩ := Classical.axiomOfChoice h
  exact ⟨(fun c => (f c).1, fun c => (f c).2), fun c q hq => hf c q hq, fun k q hq => by simp at hq⟩

theorem KF_ex {args : Array Value} {s : State} (hts : ∀ w ∈ lw_tbl, w.before args s = true) : ∃ (D : va_G) (tA : Nat → ClassId), KF D tA s := by
  obtain ⟨D, hD⟩ := D_ex hts
  obtain ⟨tA, hA⟩ := tA_ex hts
  refine ⟨D, tA, hD, hA, ?_, fun a i y h hm => va_Nw.of rfl (hts _ hm)⟩
  exact List.forall_mem_cons.mpr ⟨va_AO.of (hts _ (inT_mem (w := .arrayOver (FieldType.object "StencilHouse$Shop")) (p := (0, 35)) (by decide +kernel))), List.forall_mem_cons.mpr ⟨va_AO.of (hts _ (inT_mem (w := .arrayOver (FieldType.object "StencilHouse$Day")) (p := (0, 37)) (by decide +kernel))), List.forall_mem_cons.mpr ⟨va_AO.of (hts _ (inT_mem (w := .arrayOver (FieldType.object "StencilHouse$Picture")) (p := (0, 39)) (by decide +kernel))), List.forall_mem_cons.mpr ⟨va_AO.of (hts _ (inT_mem (w := .arrayOver (FieldType.object "StencilHouse$Marks")) (p := (0, 41)) (by decide +kernel))), List.forall_mem_cons.mpr ⟨va_AO.of (hts _ (inT_mem (w := .arrayOver (FieldType.object "StencilHouse$Told")) (p := (0, 198)) (by decide +kernel))), fun _ h => absurd h List.not_mem_nil⟩⟩⟩⟩⟩

theorem ls_all {args : Array Value} {s : State} (hts : ∀ w ∈ lw_tbl, w.before args s = true) : ∀ c, c < 5 → (Cond.laysStatic (stO.getD (zK.getD c 0 - 12) "") (stN.getD (zK.getD c 0 - 12) "") "[I").before args s = true := by
  intro c hc
  match c, hc with
  | 0, _ => exact (hts _ (inT_mem (w := .laysStatic "StencilHouse$Reader" "FIRST_WORD_OF_SORT" "[I") (p := (1, 210)) (by decide +kernel)))
  | 1, _ => exact (hts _ (inT_mem (w := .laysStatic "StencilHouse$Reader" "NUMBERS_OF_WORD" "[I") (p := (2, 49)) (by decide +kernel)))
  | 2, _ => exact (hts _ (inT_mem (w := .laysStatic "StencilHouse$Reader" "LEAST" "[I") (p := (2, 55)) (by decide +kernel)))
  | 3, _ => exact (hts _ (inT_mem (w := .laysStatic "StencilHouse$Reader" "GREATEST" "[I") (p := (2, 57)) (by decide +kernel)))
  | 4, _ => exact (hts _ (inT_mem (w := .laysStatic "StencilHouse$Wall" "KIND_DRAWN" "[I") (p := (3, 231)) (by decide +kernel)))
  | c + 5, hc => exact absurd hc (by omega)
theorem ini_all {args : Array Value} {s : State} (hts : ∀ w ∈ lw_tbl, w.before args s = true) : ∀ c, c < 5 → (Cond.initialized (stO.getD (zK.getD c 0 - 12) "")).before args s = true := by
  intro c hc
  match c, hc with
  | 0, _ => exact (hts _ (inT_mem (w := .initialized "StencilHouse$Reader") (p := (0, 7)) (by decide +kernel)))
  | 1, _ => exact (hts _ (inT_mem (w := .initialized "StencilHouse$Reader") (p := (0, 7)) (by decide +kernel)))
  | 2, _ => exact (hts _ (inT_mem (w := .initialized "StencilHouse$Reader") (p := (0, 7)) (by decide +kernel)))
  | 3, _ => exact (hts _ (inT_mem (w := .initialized "StencilHouse$Reader") (p := (0, 7)) (by decide +kernel)))
  | 4, _ => exact (hts _ (inT_mem (w := .initialized "StencilHouse$Wall") (p := (0, 9)) (by decide +kernel)))
  | c + 5, hc => exact absurd hc (by omega)
theorem sr_all {args : Array Value} {s : State} (hts : ∀ w ∈ lw_tbl, w.before args s = true) : ∀ i, i < 13 → (Cond.stringRef "StencilHouse$Reader" (stIx.getD i 0) (stTx.getD i "")).before args s = true := by
  intro i hi
  match i, hi with
  | 0, _ => exact (hts _ (inT_mem (w := .stringRef "StencilHouse$Reader" (135) "size") (p := (1, 214)) (by decide +kernel)))
  | 1, _ => exact (hts _ (inT_mem (w := .stringRef "StencilHouse$Reader" (137) "slip") (p := (1, 215)) (by decide +kernel)))
  | 2, _ => exact (hts _ (inT_mem (w := .stringRef "StencilHouse$Reader" (139) "sheet") (p := (1, 216)) (by decide +kernel)))
  | 3, _ => exact (hts _ (inT_mem (w := .stringRef "StencilHouse$Reader" (141) "wear") (p := (1, 217)) (by decide +kernel)))
  | 4, _ => exact (hts _ (inT_mem (w := .stringRef "StencilHouse$Reader" (143) "spray") (p := (1, 218)) (by decide +kernel)))
  | 5, _ => exact (hts _ (inT_mem (w := .stringRef "StencilHouse$Reader" (145) "flip") (p := (1, 219)) (by decide +kernel)))
  | 6, _ => exact (hts _ (inT_mem (w := .stringRef "StencilHouse$Reader" (147) "turn") (p := (1, 220)) (by decide +kernel)))
  | 7, _ => exact (hts _ (inT_mem (w := .stringRef "StencilHouse$Reader" (149) "slide") (p := (1, 221)) (by decide +kernel)))
  | 8, _ => exact (hts _ (inT_mem (w := .stringRef "StencilHouse$Reader" (151) "patch") (p := (1, 222)) (by decide +kernel)))
  | 9, _ => exact (hts _ (inT_mem (w := .stringRef "StencilHouse$Reader" (153) "wash") (p := (1, 223)) (by decide +kernel)))
  | 10, _ => exact (hts _ (inT_mem (w := .stringRef "StencilHouse$Reader" (155) "row") (p := (1, 224)) (by decide +kernel)))
  | 11, _ => exact (hts _ (inT_mem (w := .stringRef "StencilHouse$Reader" (157) "top") (p := (1, 225)) (by decide +kernel)))
  | 12, _ => exact (hts _ (inT_mem (w := .stringRef "StencilHouse$Reader" (159) "bare") (p := (1, 226)) (by decide +kernel)))
  | i + 13, hi => exact absurd hi (by omega)
theorem SF_ex {args : Array Value} {s : State} (hts : ∀ w ∈ lw_tbl, w.before args s = true) (hg : nwC.before args s = true) {b L : Nat} {xs : Nat → Int32} (hX : va_X b L xs s s.heap) (hbl : b < s.heap.size) : ∃ ad : Nat → Nat → Nat, ad 11 0 = b ∧ SF L xs s.heap.size ad s s.heap := by
  have hs := flat_of_before nwC hg
  have hA : ∀ a : Nat, a < s.heap.size → ¬ aA s.heap.size a := fun a h => Nat.not_le.mpr h
  have hz : ∀ c : Nat, ∃ t : Nat, c < 5 → va_Z (stO.getD (zK.getD c 0 - 12) "") (stN.getD (zK.getD c 0 - 12) "") "[I" (.ref t) (aA s.heap.size) s s.heap ∧ va_T .int t (zL c).length (fun j => .int ((zL c).getD j 0)) (aA s.heap.size) s s.heap := by
    intro c
    by_cases hc : c < 5
    · obtain ⟨h1, h2, h3⟩ := nw_z c hc
      obtain ⟨t, e1, e2⟩ := va_Tof (f := fun j => .int ((zL c).getD j 0)) (A := aA s.heap.size) (N := (zL c).length) (zL_lt c hc) (hs _ h1) (va_eqt (hs _ h2)) (fun j hj => va_eqt (hs _ (h3 j hj))) hA
      exact ⟨t, fun _ => ⟨va_Zof (ls_all hts c hc) (ini_all hts c hc) e1 hA, e2⟩⟩
    · exact ⟨0, fun h => absurd h hc⟩
  obtain ⟨zt, hzt⟩ := Classical.axiomOfChoice hz
  obtain ⟨adK, adV, k1, k2⟩ := vk_Sof (N := 13) (tm := sT) (len := stx.map List.length) (byt := stx) (A := aA s.heap.size) (args := args) (s := s) (by decide +kernel) (fun i hi => hs _ (nw_s i hi).1) (fun i hi => hs _ (nw_s i hi).2.1) (fun i hi => hs _ (nw_s i hi).2.2.1) (fun i hi => hs _ (nw_s i hi).2.2.2) (fun i hi j hj => hs _ (nw_e i hi j hj)) (fun i j hi hj hij => (nw_n i hi j hj hij).imp (hs _) (hs _)) hA
  obtain ⟨v, hv1, hv2⟩ := Cond.isRef_spec (hs _ nw_o.2)
  refine ⟨fun c i => match c with
    | 11 => b
    | 12 => zt 0
    | 13 => zt 1
    | 14 => zt 2
    | 15 => zt 3
    | 18 => zt 4
    | 16 => adK i
    | _ => adV i, rfl, ⟨hX, hbl⟩, ?_, k1, fun j hj => ⟨?_, ?_⟩, va_Zof (hts _ (inT_mem (w := .laysStatic "java/lang/String" "COMPACT_STRINGS" "Z") (p := (2, 0)) (by decide +kernel))) (hts _ (inT_mem (w := .initialized "java/lang/String") (p := (0, 13)) (by decide +kernel))) (va_eqi (hs _ nw_o.1)) hA, v, va_Zof (hts _ (inT_mem (w := .laysStatic "jdk/internal/util/Preconditions" "SIOOBE_FORMATTER" "Ljava/util/function/BiFunction;") (p := (2, 16)) (by decide +kernel))) (hts _ (inT_mem (w := .initialized "jdk/internal/util/Preconditions") (p := (0, 15)) (by decide +kernel))) hv1 hA, ?_⟩
  · intro c l hc
    unfold sta at hc
    split at hc
    · cases hc; exact hzt 0 (by omega)
    · cases hc; exact hzt 1 (by omega)
    · cases hc; exact hzt 2 (by omega)
    · cases hc; exact hzt 3 (by omega)
    · cases hc; exact hzt 4 (by omega)
    · cases hc
  · exact (vk_R.of (sr_all hts j hj) (k2 j hj)).1
  · exact (vk_R.of (sr_all hts j hj) (k2 j hj)).2
  · cases v with
    | null => exact Or.inl rfl
    | ref a => exact Or.inr ⟨a, rfl⟩
    | _ => simp [Value.isRef] at hv2

