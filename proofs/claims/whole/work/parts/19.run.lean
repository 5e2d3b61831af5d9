/-! A RUN of the abstract machine is a run of the machine -/
section RUN
variable {gl : Nat} {gx : Nat → Int32} {z : Nat} {D : va_G} {tA : Nat → ClassId} {l : Launch} {p : Program} {e : Env} {R : Room} {s : State} {m : MethodId} {args : Array Value} {below : List Frame} {meth : Method} {c : Code} {Zq : State → Prop} {r : MT} {Q : PO} {d : Nat}
variable {K J : Nat → PL → List AV → List AV → MM → Prop} {pc n : Nat} {P : PL} {L S T : List AV} {M : MM}
def codeAt (b : ByteArray) : Nat → List Instr → Bool
  | _, [] => true
  | pc, i :: is => match decode b pc with
    | .ok (i', n) => decide (i' = i) && okI i pc n && codeAt b (pc + n) is
    | _ => false
theorem go_step {i : Instr} (hmk : r.2.2.2.2.1 = 2 → r.1.name = "<init>") (C : Cx z D tA p R s m args meth c r d) (hK : ∀ pc' P L S M, pc' = pc + n → K pc' P L S M → Go gl gx z D tA l p e R s m args below meth c Zq r Q pc' P L S M) (hJ : ∀ pc P L S M, J pc P L S M → Go gl gx z D tA l p e R s m args below meth c Zq r Q pc P L S M) (hd : decode r.2.1 pc = .ok (i, n)) (ho : okI i pc n = true) (h : stepI gl gx (Sim gl gx z D tA l) d r.2.2.2.2.2 r.2.2.2.1 r.2.2.2.2.1 r.1.cls Q K J i pc P L S M) : Go gl gx z D tA l p e R s m args below meth c Zq r Q pc P L S M := by
  cases i
  case aload_n k => exact go_loads C hK hd ho h (by simp)
  case aload k => exact go_loads C hK hd ho h (by simp)
  case iload_n k => exact go_loads C hK hd ho h (by simp)
  case iload k => exact go_loads C hK hd ho h (by simp)
  case lload_n k => exact go_loads C hK hd ho h (by simp)
  case lload k => exact go_loads C hK hd ho h (by simp)
  case astore_n k => exact go_stores C hK hd ho h (by simp)
  case astore k => exact go_stores C hK hd ho h (by simp)
  case istore_n k => exact go_stores C hK hd ho h (by simp)
  case istore k => exact go_stores C hK hd ho h (by simp)
  case lstore k => exact go_stores C hK hd ho h (by simp)
  case iinc k a => exact go_stores C hK hd ho h (by simp)
  case iconst k => exact go_const C hK hd ho h (by simp)
  case bipush k => exact go_const C hK hd ho h (by simp)
  case sipush k => exact go_const C hK hd ho h (by simp)
  case lconst k => exact go_const C hK hd ho h (by simp)
  case aconst_null => exact go_const C hK hd ho h (by simp)
  case iadd => exact go_arith C hK hd ho h (by simp)
  case isub => exact go_arith C hK hd ho h (by simp)
  case imul => exact go_arith C hK hd ho h (by simp)
  case idiv => exact go_arith C hK hd ho h (by simp)
  case irem => exact go_arith C hK hd ho h (by simp)
  case iand => exact go_arith C hK hd ho h (by simp)
  case ior => exact go_arith C hK hd ho h (by simp)
  case ixor => exact go_arith C hK hd ho h (by simp)
  case ishl => exact go_arith C hK hd ho h (by simp)
  case ishr => exact go_arith C hK hd ho h (by simp)
  case iushr => exact go_arith C hK hd ho h (by simp)
  case ineg => exact go_arith C hK hd ho h (by simp)
  case i2l => exact go_arith C hK hd ho h (by simp)
  case i2b => exact go_arith C hK hd ho h (by simp)
  case i2c => exact go_arith C hK hd ho h (by simp)
  case lshl => exact go_arith C hK hd ho h (by simp)
  case lor => exact go_arith C hK hd ho h (by simp)
  case lcmp => exact go_arith C hK hd ho h (by simp)
  case goto o => exact go_branch C hK hJ hd ho h (by simp)
  case if_icmp q o => exact go_branch C hK hJ hd ho h (by simp)
  case ifCond q o => exact go_branch C hK hJ hd ho h (by simp)
  case ifnull o => exact go_branch C hK hJ hd ho h (by simp)
  case ifnonnull o => exact go_branch C hK hJ hd ho h (by simp)
  case tableswitch o lo hi os => exact go_switch C hJ hd ho h (Or.inl ⟨_, _, _, _, rfl⟩)
  case lookupswitch o ps => exact go_switch C hJ hd ho h (Or.inr ⟨_, _, rfl⟩)
  case dup => exact go_stack C hK hd ho h (by simp)
  case dup2 => exact go_stack C hK hd ho h (by simp)
  case pop => exact go_stack C hK hd ho h (by simp)
  case ldc k => exact go_pool C hK hd ho h (by simp)
  case ldc_w k => exact go_pool C hK hd ho h (by simp)
  case ldc2_w k => exact go_pool C hK hd ho h (by simp)
  case getstatic k => exact go_pool C hK hd ho h (by simp)
  case getfield k => exact go_getfield C hK hd ho h
  case putfield k => exact go_putfield C hmk hK hd ho h
  case iaload => exact go_loadA C hK hd ho h (by simp)
  case baload => exact go_loadA C hK hd ho h (by simp)
  case aaload => exact go_loadA C hK hd ho h (by simp)
  case arraylength => exact go_loadA C hK hd ho h (by simp)
  case iastore => exact go_storeA C hK hd ho h (by simp)
  case bastore => exact go_storeA C hK hd ho h (by simp)
  case aastore => exact go_storeA C hK hd ho h (by simp)
  case new k => exact go_alloc C hK hd ho h (by simp)
  case newarray k => exact go_alloc C hK hd ho h (by simp)
  case anewarray k => exact go_alloc C hK hd ho h (by simp)
  case ireturn => exact go_return hd ho h (by simp)
  case areturn => exact go_return hd ho h (by simp)
  case return_ => exact go_return hd ho h (by simp)
  case invokevirtual k => exact go_virtual C hK hd ho h
  case invokestatic k => exact go_static C hK hd ho h
  case invokespecial k => exact go_special C hK hd ho h
  all_goals exact False.elim h
theorem sim_run {y : Nat} {B : List (Nat × List Instr)} (hr : mt y = some r) (hB : B.all (fun e => codeAt r.2.1 e.1 e.2) = true) (hmk : r.2.2.2.2.1 = 2 → r.1.name = "<init>") (C : Cx z D tA p R s m args meth c r d) :
    ∀ (f : Nat) (is : List Instr) (pc : Nat) (P : PL) (L S : List AV) (M : MM), codeAt r.2.1 pc is = true → runB gl gx (Sim gl gx z D tA l) d r.2.2.2.2.2 r.2.2.2.1 r.2.2.2.2.1 r.1.cls Q y B f is pc P L S M → Go gl gx z D tA l p e R s m args below meth c Zq r Q pc P L S M := by
  intro f
  induction f with
  | zero => intro is pc P L S M _ h; exact h p e R s m args below meth c Zq r hr C
  | succ f ih =>
    intro is pc P L S M hc h
    cases is with
    | nil =>
      unfold runB at h
      split at h
      · rename_i js hj
        refine ih js pc P L S M ?_ h
        have hm : (pc, js) ∈ B := by
          clear h hB ih
          induction B with
          | nil => cases hj
          | cons a B ih2 =>
            obtain ⟨k', v'⟩ := a
            by_cases hk : pc = k'
            · subst hk
              simp [List.lookup] at hj
              subst hj
              exact List.mem_cons_self
            · have hk2 : (pc == k') = false := by simpa using hk
              simp [List.lookup, hk2] at hj
              exact List.mem_cons_of_mem _ (ih2 hj)
        exact List.all_eq_true.mp hB (pc, js) hm
      · exact h p e R s m args below meth c Zq r hr C
    | cons i is =>
      unfold codeAt at hc
      split at hc
      · rename_i i' n hd
        simp only [Bool.and_eq_true, decide_eq_true_eq] at hc
        obtain ⟨⟨rfl, ho⟩, hc2⟩ := hc
        exact go_step hmk C (fun pc' P L S M e hk => ih is pc' P L S M (by rw [e]; exact hc2) hk) (fun pc P L S M hj => ih [] pc P L S M rfl hj) hd ho h
      · cases hc
end RUN
/-! THE LEAST that runs allow: a place, a memory and what is wanted behind it -/
def Mono (X : XT) : Prop := ∀ d P y pc L S M (Q Q' : PO), (∀ v M, Q v M → Q' v M) → X d P y pc L S M Q → X d P y pc L S M Q'
def Closed (gl : Nat) (gx : Nat → Int32) (X : XT) : Prop := ∀ (y : Nat) (r : MT) (B : List (Nat × List Instr)) (f d : Nat) (is : List Instr) (P : PL) (pc : Nat) (L S : List AV) (M : MM) (Q : PO), mt y = some r → B.all (fun e => codeAt r.2.1 e.1 e.2) = true → codeAt r.2.1 pc is = true → runB gl gx X d r.2.2.2.2.2 r.2.2.2.1 r.2.2.2.2.1 r.1.cls Q y B f is pc P L S M → X d P y pc L S M Q
def Wp (gl : Nat) (gx : Nat → Int32) : XT := fun d P y pc L S M Q => ∀ X : XT, Mono X → Closed gl gx X → X d P y pc L S M Q
theorem Wp_mono {gl : Nat} {gx : Nat → Int32} : Mono (Wp gl gx) := fun d P y pc L S M Q Q' h w X hm hc => hm _ _ _ _ _ _ _ _ _ h (w X hm hc)
theorem Sim_mono {gl : Nat} {gx : Nat → Int32} {z : Nat} {D : va_G} {tA : Nat → ClassId} {l : Launch} : Mono (Sim gl gx z D tA l) := by
  intro d P y pc L S M Q Q' h w p e R s m args below meth c Zq r hr C ad H locs cells slots ls hD hR
  exact w p e R s m args below meth c Zq r hr C ad H locs cells slots ls hD fun v M' ad' H' locs' cells' slots' pc' ls' g1 => hR v M' ad' H' locs' cells' slots' pc' ls' (h v M' g1)
theorem Sim_closed {gl : Nat} {gx : Nat → Int32} {z : Nat} {D : va_G} {tA : Nat → ClassId} {l : Launch} : Closed gl gx (Sim gl gx z D tA l) := by
  intro y r B f d is P pc L S M Q hr hB hc h p e R s m args below meth c Zq r' hr' C
  cases hr.symm.trans hr'
  refine sim_run hr hB (fun h2 => ?_) C f is pc P L S M hc h
  exact ((mok_in y r hr (by rw [h2]; decide)).2.2.2.2 h2).1
theorem Wp_sim {gl : Nat} {gx : Nat → Int32} {z : Nat} {D : va_G} {tA : Nat → ClassId} {l : Launch} {d : Nat} {P : PL} {y pc : Nat} {L S : List AV} {M : MM} {Q : PO} (h : Wp gl gx d P y pc L S M Q) : Sim gl gx z D tA l d P y pc L S M Q := h _ Sim_mono Sim_closed
