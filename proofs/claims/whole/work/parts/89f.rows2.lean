/-! MAKE: rows of l sheets, by numbers to the base 6 -/
def addR (n : Nat) (r : List Nat) (d : Nat) : Option (List Nat) := if n ≤ d then none else if r.contains d = true then none else some (r ++ [d])
def genL (n : Nat) : Nat → List (List Nat)
  | 0 => [[]]
  | l + 1 => (genL n l).flatMap fun r => (List.range 6).filterMap (addR n r)
theorem gen_tab : ((List.range 7).all fun n => (List.range 7).all fun l => Nat.blt n l || ELc n l == genL n l) = true := by decide +kernel
theorem EL_gen {n l : Nat} (hn : n ≤ 6) (hl : l ≤ n) : ELc n l = genL n l := by
  have h := List.all_eq_true.mp (List.all_eq_true.mp gen_tab n (List.mem_range.mpr (by omega))) l (List.mem_range.mpr (by omega))
  have hb : Nat.blt n l = false := by
    cases q : Nat.blt n l
    · rfl
    · exact absurd (Nat.le_of_ble_eq_true q) (by omega)
  rw [hb, Bool.false_or] at h
  exact eq_of_beq h
/-- what is read last stays -/
theorem la_acc {n : Nat} : ∀ l x used t, laL n l x used t = (laL n l x used []).bind fun r => some (r ++ t) := by
  intro l
  induction l with
  | zero => intro x used t; rfl
  | succ l ih =>
    intro x used t
    rw [laL, laL]
    by_cases h1 : n ≤ x % 6
    · rw [if_pos h1, if_pos h1]; rfl
    · rw [if_neg h1, if_neg h1]
      by_cases h2 : used.testBit (x % 6) = true
      · rw [if_pos h2, if_pos h2]; rfl
      · rw [if_neg h2, if_neg h2, ih _ _ (x % 6 :: t), ih _ _ [x % 6]]
        cases laL n l (x / 6) (used ||| 1 <<< (x % 6)) [] with
        | none => rfl
        | some r =>
          show some (r ++ (x % 6 :: t)) = some ((r ++ [x % 6]) ++ t)
          rw [List.append_assoc]
          rfl
/-- one sheet more that may not be there -/
theorem la_used {n d : Nat} : ∀ l x used, laL n l x (used ||| 1 <<< d) [] = (laL n l x used []).bind fun r => if r.contains d = true then none else some r := by
  intro l
  induction l with
  | zero => intro x used; rfl
  | succ l ih =>
    intro x used
    rw [laL, laL]
    by_cases h1 : n ≤ x % 6
    · rw [if_pos h1, if_pos h1]; rfl
    · rw [if_neg h1, if_neg h1, Nat.testBit_or]
      by_cases h2 : used.testBit (x % 6) = true
      · rw [if_pos (by rw [h2]; rfl), if_pos h2]; rfl
      · have h2' : used.testBit (x % 6) = false := by cases q : used.testBit (x % 6); rfl; exact absurd q h2
        rw [h2', Bool.false_or, if_neg (by decide : ¬ false = true)]
        rw [la_acc l _ (used ||| 1 <<< (x % 6)) [x % 6]]
        by_cases h3 : d = x % 6
        · rw [if_pos (one_tb.mpr h3)]
          cases laL n l (x / 6) (used ||| 1 <<< (x % 6)) [] with
          | none => rfl
          | some r =>
            show none = if (r ++ [x % 6]).contains d = true then none else some (r ++ [x % 6])
            rw [if_pos (by rw [List.contains_iff_mem, h3]; exact List.mem_append_right _ (List.mem_singleton.mpr rfl))]
        · rw [if_neg (fun q => h3 (one_tb.mp q)), la_acc l _ ((used ||| 1 <<< d) ||| 1 <<< (x % 6)) [x % 6]]
          rw [show (used ||| 1 <<< d) ||| 1 <<< (x % 6) = (used ||| 1 <<< (x % 6)) ||| 1 <<< d by rw [Nat.or_assoc, Nat.or_assoc, Nat.or_comm (1 <<< d)], ih]
          cases laL n l (x / 6) (used ||| 1 <<< (x % 6)) [] with
          | none => rfl
          | some r =>
            show ((if r.contains d = true then none else some r).bind fun r => some (r ++ [x % 6])) = if (r ++ [x % 6]).contains d = true then none else some (r ++ [x % 6])
            by_cases h4 : d ∈ r
            · rw [if_pos (List.contains_iff_mem.mpr h4), if_pos (List.contains_iff_mem.mpr (List.mem_append_left _ h4))]; rfl
            · rw [if_neg (fun q => h4 (List.contains_iff_mem.mp q)), if_neg]
              · rfl
              · intro q
                rcases List.mem_append.mp (List.contains_iff_mem.mp q) with q | q
                · exact h4 q
                · exact h3 (List.mem_singleton.mp q)
theorem la_step {n : Nat} (l y d : Nat) (hd : d < 6) : laL n (l + 1) (6 * y + d) 0 [] = (laL n l y 0 []).bind fun r => addR n r d := by
  have e1 : (6 * y + d) % 6 = d := by omega
  have e2 : (6 * y + d) / 6 = y := by omega
  rw [laL, e1, e2]
  by_cases h1 : n ≤ d
  · rw [if_pos h1]
    cases laL n l y 0 [] with
    | none => rfl
    | some r => exact (if_pos h1).symm
  · rw [if_neg h1, if_neg (by rw [Nat.zero_testBit]; decide), la_acc, la_used]
    cases laL n l y 0 [] with
    | none => rfl
    | some r =>
      show ((if r.contains d = true then none else some r).bind fun r => some (r ++ [d])) = addR n r d
      unfold addR
      rw [if_neg h1]
      by_cases h2 : r.contains d = true
      · rw [if_pos h2, if_pos h2]; rfl
      · rw [if_neg h2, if_neg h2]; rfl
/-- one by one through all numbers -/
def nuF {α : Type} (f : Nat → α → α) (N : Nat) (a : α) : α := foldN f a N
theorem nu_six {α : Type} (f : Nat → α → α) (a : α) : ∀ N, foldN f a (6 * N) = foldN (fun y a => foldN (fun d a => f (6 * y + d) a) a 6) a N := by
  intro N
  induction N with
  | zero => rfl
  | succ N ih =>
    show f (6 * N + 5) (f (6 * N + 4) (f (6 * N + 3) (f (6 * N + 2) (f (6 * N + 1) (f (6 * N + 0) (foldN f a (6 * N))))))) = foldN (fun d a => f (6 * N + d) a) (foldN (fun y a => foldN (fun d a => f (6 * y + d) a) a 6) a N) 6
    rw [ih]
    rfl
def stOp {α : Type} (st : α → List Nat → α) (o : Option (List Nat)) (a : α) : α := match o with
  | none => a
  | some r => st a r
theorem fold_fm {α : Type} (st : α → List Nat → α) (g : Nat → Option (List Nat)) : ∀ N a, ((List.range N).filterMap g).foldl st a = foldN (fun d a => stOp st (g d) a) a N := by
  intro N
  induction N with
  | zero => intro a; rfl
  | succ N ih =>
    intro a
    rw [List.range_succ, List.filterMap_append, List.foldl_append, ih]
    show _ = stOp st (g N) (foldN (fun d a => stOp st (g d) a) a N)
    cases h : g N with
    | none =>
      rw [List.filterMap_cons_none h]
      rfl
    | some r =>
      rw [List.filterMap_cons_some h]
      rfl
theorem fold_la {α : Type} (n : Nat) : ∀ l (st : α → List Nat → α) a, (genL n l).foldl st a = foldN (fun x a => stOp st (laL n l x 0 []) a) a (6 ^ l) := by
  intro l
  induction l with
  | zero => intro st a; rfl
  | succ l ih =>
    intro st a
    rw [genL, List.foldl_flatMap, ih (fun a r => ((List.range 6).filterMap (addR n r)).foldl st a) a, Nat.pow_succ, Nat.mul_comm, nu_six]
    congr 1
    funext y a
    have e : ∀ d, d < 6 → (fun d a => stOp st (laL n (l + 1) (6 * y + d) 0 []) a) d = (fun a => stOp st ((laL n l y 0 []).bind fun r => addR n r d) a) := fun d hd => by
      funext a
      show stOp st (laL n (l + 1) (6 * y + d) 0 []) a = _
      rw [la_step l y d hd]
    cases h : laL n l y 0 [] with
    | none =>
      have z : ∀ N, N ≤ 6 → foldN (fun d a => stOp st (laL n (l + 1) (6 * y + d) 0 []) a) a N = a := by
        intro N
        induction N with
        | zero => intro _; rfl
        | succ N ihN =>
          intro hN
          show (fun d a => stOp st (laL n (l + 1) (6 * y + d) 0 []) a) N (foldN _ a N) = a
          rw [ihN (by omega), e N (by omega), h]
          rfl
      rw [z 6 (Nat.le_refl _)]
      rfl
    | some r =>
      show ((List.range 6).filterMap (addR n r)).foldl st a = _
      rw [fold_fm]
      have z : ∀ N, N ≤ 6 → foldN (fun d a => stOp st (addR n r d) a) a N = foldN (fun d a => stOp st (laL n (l + 1) (6 * y + d) 0 []) a) a N := by
        intro N
        induction N with
        | zero => intro _; rfl
        | succ N ihN =>
          intro hN
          show stOp st (addR n r N) (foldN _ a N) = (fun d a => stOp st (laL n (l + 1) (6 * y + d) 0 []) a) N (foldN _ a N)
          rw [← ihN (by omega), e N (by omega), h]
          rfl
      exact z 6 (Nat.le_refl _)
