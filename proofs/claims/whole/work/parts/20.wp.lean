/-! RUNS COMPOSE -/
section MONO
theorem pI_mono {S : List AV} {f g : Int32 → List AV → Prop} (h : pI S f) (m : ∀ x T, f x T → g x T) : pI S g := by
  obtain ⟨x, T, rfl, h⟩ := pI_inv h
  exact m x T h
theorem pL_mono {S : List AV} {f g : Int64 → List AV → Prop} (h : pL S f) (m : ∀ x T, f x T → g x T) : pL S g := by
  obtain ⟨x, T, rfl, h⟩ := pL_inv h
  exact m x T h
theorem pR_mono {S : List AV} {f g : Nat → Nat → List AV → Prop} (h : pR S f) (m : ∀ c i T, f c i T → g c i T) : pR S g := by
  obtain ⟨c, i, T, rfl, h⟩ := pR_inv h
  exact m c i T h
theorem pA_mono {S : List AV} {f g : AV → List AV → Prop} (h : pA S f) (m : ∀ v T, f v T → g v T) : pA S g := by
  rcases pA_inv h with ⟨c, i, T, rfl, h⟩ | ⟨T, rfl, h⟩
  · exact m _ T h
  · exact m _ T h
theorem pV_mono {S : List AV} {f g : AV → List AV → Prop} (h : pV S f) (m : ∀ v T, f v T → g v T) : pV S g := by
  obtain ⟨v, T, rfl, h⟩ := pV_inv h
  exact m v T h
theorem pN_mono {S : List AV} {f g f' g' : List AV → Prop} (h : pN S f g) (m : ∀ T, f T → f' T) (m' : ∀ T, g T → g' T) : pN S f' g' := by
  unfold pN at h ⊢
  split at h
  · exact m _ h
  · exact m' _ h
  · exact h.elim
theorem pK_mono {α : Type} {t : List (Nat × α)} {k : Nat} {f g : α → Prop} (h : pK t k f) (m : ∀ v, f v → g v) : pK t k g := by
  unfold pK at h ⊢
  split at h
  · rename_i v hv
    exact m v h
  · exact h.elim
theorem pB_mono {b : Bool} {A B : Prop} (h : pB b A) (m : A → B) : pB b B := by
  obtain ⟨rfl, h⟩ := pB_inv h
  exact m h
theorem pO_mono {α : Type} {o : Option α} {f g : α → Prop} (h : pO o f) (m : ∀ v, f v → g v) : pO o g := by
  obtain ⟨v, rfl, h⟩ := pO_inv h
  exact m v h
theorem pP_mono {P : PL} {f g : Nat → Nat → PL → Prop} (h : pP P f) (m : ∀ c i P', f c i P' → g c i P') : pP P g := by
  obtain ⟨c, i, P', rfl, h⟩ := pP_inv h
  exact m c i P' h
theorem pD_mono {d : Nat} {f g : Nat → Prop} (h : pD d f) (m : ∀ d, f d → g d) : pD d g := by
  obtain ⟨d', rfl, h⟩ := pD_inv h
  exact m d' h
theorem p1_mono {v : AV} {f g : AV → Prop} (h : p1 v f) (m : ∀ w, f w → g w) : p1 v g := by
  unfold p1 at h ⊢
  split at h <;> first | exact m _ h | exact h.elim
theorem sL_mono {L : List AV} {k : Nat} {v : AV} {f g : List AV → Prop} (h : sL L k v f) (m : ∀ L, f L → g L) : sL L k v g := by
  unfold sL at h ⊢
  split at h
  · cases k with
    | zero => exact m _ h
    | succ j =>
      dsimp only at h ⊢
      split at h
      · exact h.elim
      · exact m _ h
  · exact h.elim
theorem sL2_mono {L : List AV} {k : Nat} {v : Int64} {f g : List AV → Prop} (h : sL2 L k v f) (m : ∀ L, f L → g L) : sL2 L k v g := by
  unfold sL2 at h ⊢
  split at h
  · cases k with
    | zero => exact m _ h
    | succ j =>
      dsimp only at h ⊢
      split at h
      · exact h.elim
      · exact m _ h
  · exact h.elim
theorem brc_mono {c : Jvm.ClassFile.Cond} {x y : Int32} {a b a' b' : Prop} (h : brc c x y a b) (m : a → a') (m' : b → b') : brc c x y a' b' := by
  cases c <;> exact ⟨fun q => m (h.1 q), fun q => m' (h.2 q)⟩
theorem swT_mono {x : Int32} {pc : Nat} {J J' : Nat → Prop} (m : ∀ t, J t → J' t) : ∀ {os : List Int} {lo : Int}, swT x pc J lo os → swT x pc J' lo os := by
  intro os
  induction os with
  | nil => intro lo h; trivial
  | cons o os ih => intro lo h; exact ⟨fun q => m _ (h.1 q), ih h.2⟩
theorem swL_mono {x : Int32} {pc : Nat} {J J' : Nat → Prop} {dflt : Int} (m : ∀ t, J t → J' t) : ∀ {os : List (Int × Int)}, swL x pc J dflt os → swL x pc J' dflt os := by
  intro os
  induction os with
  | nil => intro h; exact m _ h
  | cons o os ih => intro h; exact ⟨fun q => m _ (h.1 q), fun q => ih (h.2 q)⟩
theorem onR_mono {r : Nat} {fv gv : MM → Prop} {f g : AV → MM → Prop} (m0 : ∀ M, fv M → gv M) (m : ∀ v M, f v M → g v M) : ∀ v M, onR r fv f v M → onR r gv g v M := by
  intro v M h
  match r with
  | 0 => exact m0 M h
  | 1 =>
    change onI _ v M at h
    show onI _ v M
    unfold onI at h ⊢
    split at h
    · exact m _ _ h
    · exact h.elim
  | k + 2 =>
    have h : onA k (fun M => f aN M) (fun j M => f (aR k j) M) v M := h
    show onA k (fun M => g aN M) (fun j M => g (aR k j) M) v M
    unfold onA at h ⊢
    split at h
    · exact ⟨h.1, m _ _ h.2⟩
    · exact m _ _ h
    · exact h.elim
theorem stepI_mono {gl : Nat} {gx : Nat → Int32} {X X' : XT} {d : Nat} {R : LK} {rt : Option FieldType} {hw : Nat} {oc : String} {Q : PO} {K K' J J' : Nat → PL → List AV → List AV → MM → Prop} {i : Instr} {pc : Nat} {P : PL} {L S : List AV} {M : MM} (hm : Mono X') (hX : ∀ d P y pc L S M Q, X d P y pc L S M Q → X' d P y pc L S M Q) (hK : ∀ pc P L S M, K pc P L S M → K' pc P L S M) (hJ : ∀ pc P L S M, J pc P L S M → J' pc P L S M)
    (h : stepI gl gx X d R rt hw oc Q K J i pc P L S M) : stepI gl gx X' d R rt hw oc Q K' J' i pc P L S M := by
  cases i
  case tableswitch o lo hi os => exact pI_mono h fun x T h => ⟨fun q => hJ _ _ _ _ _ (h.1 q), swT_mono (fun t => hJ _ _ _ _ _) h.2⟩
  case lookupswitch o ps => exact pI_mono h fun x T h => swL_mono (fun t => hJ _ _ _ _ _) h
  case if_icmp c o => exact pI_mono h fun y T h => pI_mono h fun x T h => brc_mono h (hJ _ _ _ _ _) (hK _ _ _ _ _)
  case ifCond c o => exact pI_mono h fun x T h => brc_mono h (hJ _ _ _ _ _) (hK _ _ _ _ _)
  case ifnull o => exact pN_mono h (fun T => hK _ _ _ _ _) (fun T => hJ _ _ _ _ _)
  case ifnonnull o => exact pN_mono h (fun T => hJ _ _ _ _ _) (fun T => hK _ _ _ _ _)
  case goto o => exact hJ _ _ _ _ _ h
  case iconst n => exact hK _ _ _ _ _ h
  case bipush n => exact hK _ _ _ _ _ h
  case sipush n => exact hK _ _ _ _ _ h
  case lconst n => exact hK _ _ _ _ _ h
  case aconst_null => exact hK _ _ _ _ _ h
  case aload_n k =>
    unfold stepI at h ⊢
    dsimp only at h ⊢
    exact pA_mono (S := [gL L k.val]) h fun v T h => hK _ _ _ _ _ h
  case aload k =>
    unfold stepI at h ⊢
    dsimp only at h ⊢
    exact pA_mono (S := [gL L k]) h fun v T h => hK _ _ _ _ _ h
  case iload_n k => exact pI_mono (S := [gL L k.val]) h fun v T h => hK _ _ _ _ _ h
  case iload k => exact pI_mono (S := [gL L k]) h fun v T h => hK _ _ _ _ _ h
  case lload_n k => exact pL_mono (S := [gL L k.val]) h fun v T h => hK _ _ _ _ _ h
  case lload k => exact pL_mono (S := [gL L k]) h fun v T h => hK _ _ _ _ _ h
  case astore_n k =>
    unfold stepI at h ⊢
    dsimp only at h ⊢
    exact pA_mono (S := S) h fun v T h => sL_mono h fun L h => hK _ _ _ _ _ h
  case astore k =>
    unfold stepI at h ⊢
    dsimp only at h ⊢
    exact pA_mono (S := S) h fun v T h => sL_mono h fun L h => hK _ _ _ _ _ h
  case istore_n k => exact pI_mono h fun v T h => sL_mono h fun L h => hK _ _ _ _ _ h
  case istore k => exact pI_mono h fun v T h => sL_mono h fun L h => hK _ _ _ _ _ h
  case lstore k => exact pL_mono h fun v T h => sL2_mono h fun L h => hK _ _ _ _ _ h
  case iinc k n => exact pI_mono (S := [gL L k]) h fun v T h => sL_mono h fun L h => hK _ _ _ _ _ h
  case ldc k => exact pK_mono h fun v h => p1_mono h fun v h => hK _ _ _ _ _ h
  case ldc_w k => exact pK_mono h fun v h => pI_mono h fun x T h => hK _ _ _ _ _ h
  case ldc2_w k => exact pK_mono h fun v h => pL_mono h fun x T h => hK _ _ _ _ _ h
  case iadd => exact pI_mono h fun y T h => pI_mono h fun x T h => hK _ _ _ _ _ h
  case isub => exact pI_mono h fun y T h => pI_mono h fun x T h => hK _ _ _ _ _ h
  case imul => exact pI_mono h fun y T h => pI_mono h fun x T h => hK _ _ _ _ _ h
  case idiv => exact pI_mono h fun y T h => pI_mono h fun x T h => ⟨h.1, hK _ _ _ _ _ h.2⟩
  case irem => exact pI_mono h fun y T h => pI_mono h fun x T h => ⟨h.1, hK _ _ _ _ _ h.2⟩
  case iand => exact pI_mono h fun y T h => pI_mono h fun x T h => hK _ _ _ _ _ h
  case ior => exact pI_mono h fun y T h => pI_mono h fun x T h => hK _ _ _ _ _ h
  case ixor => exact pI_mono h fun y T h => pI_mono h fun x T h => hK _ _ _ _ _ h
  case ishl => exact pI_mono h fun y T h => pI_mono h fun x T h => hK _ _ _ _ _ h
  case ishr => exact pI_mono h fun y T h => pI_mono h fun x T h => hK _ _ _ _ _ h
  case iushr => exact pI_mono h fun y T h => pI_mono h fun x T h => hK _ _ _ _ _ h
  case ineg => exact pI_mono h fun y T h => hK _ _ _ _ _ h
  case i2l => exact pI_mono h fun y T h => hK _ _ _ _ _ h
  case i2b => exact pI_mono h fun y T h => hK _ _ _ _ _ h
  case i2c => exact pI_mono h fun y T h => hK _ _ _ _ _ h
  case lshl => exact pI_mono h fun y T h => pL_mono h fun x T h => hK _ _ _ _ _ h
  case lor => exact pL_mono h fun y T h => pL_mono h fun x T h => hK _ _ _ _ _ h
  case lcmp => exact pL_mono h fun y T h => pL_mono h fun x T h => hK _ _ _ _ _ h
  case dup => exact pV_mono (S := S) h fun v T h => p1_mono h fun v h => hK _ _ _ _ _ h
  case dup2 => exact pV_mono (S := S) h fun w T h => pV_mono h fun v T h => p1_mono h fun w h => p1_mono h fun v h => hK _ _ _ _ _ h
  case pop => exact pV_mono (S := S) h fun v T h => p1_mono h fun v h => hK _ _ _ _ _ h
  case getstatic k => exact pK_mono h fun v h => p1_mono h fun v h => hK _ _ _ _ _ h
  case getfield k =>
    unfold stepI at h ⊢
    dsimp only at h ⊢
    refine pR_mono h fun c i T h => pK_mono h fun e h => pB_mono h fun h => ?_
    split at h
    · exact hK _ _ _ _ _ h
    · exact hK _ _ _ _ _ h
  case putfield k =>
    unfold stepI at h ⊢
    dsimp only at h ⊢
    refine pV_mono h fun v T h => pR_mono h fun c i T h => pK_mono h fun e h => pB_mono h fun h => pB_mono h fun h => ?_
    split at h
    · refine pI_mono h fun x T h => ?_
      split at h
      · exact hK _ _ _ _ _ h
      · exact ⟨h.1, hK _ _ _ _ _ h.2⟩
    · split at h
      · exact pL_mono h fun x T h => hK _ _ _ _ _ h
      · exact pA_mono h fun x T h => hK _ _ _ _ _ h
  case iaload =>
    unfold stepI at h ⊢
    dsimp only at h ⊢
    refine pI_mono h fun j T h => pR_mono h fun c i T h => ?_
    split at h
    · exact pB_mono h fun h => ⟨h.1, hK _ _ _ _ _ h.2⟩
    · split at h
      · exact ⟨h.1, hK _ _ _ _ _ h.2⟩
      · exact pB_mono h fun h => ⟨h.1, hK _ _ _ _ _ h.2⟩
  case baload =>
    unfold stepI at h ⊢
    dsimp only at h ⊢
    refine pI_mono h fun j T h => pR_mono h fun c i T h => ?_
    split at h
    · exact pB_mono h fun h => ⟨h.1, hK _ _ _ _ _ h.2⟩
    · exact pB_mono h fun h => ⟨h.1, hK _ _ _ _ _ h.2⟩
  case aaload =>
    unfold stepI at h ⊢
    dsimp only at h ⊢
    refine pI_mono h fun j T h => pR_mono h fun c i T h => pO_mono h fun q h => ?_
    split at h
    · exact ⟨h.1, hK _ _ _ _ _ h.2⟩
    · exact h.elim
  case iastore =>
    unfold stepI at h ⊢
    dsimp only at h ⊢
    exact pI_mono h fun x T h => pI_mono h fun j T h => pR_mono h fun c i T h => pO_mono h fun q h => pB_mono h fun h => ⟨h.1, hK _ _ _ _ _ h.2⟩
  case bastore =>
    unfold stepI at h ⊢
    dsimp only at h ⊢
    exact pI_mono h fun x T h => pI_mono h fun j T h => pR_mono h fun c i T h => pO_mono h fun q h => pB_mono h fun h => ⟨h.1, hK _ _ _ _ _ h.2⟩
  case aastore =>
    unfold stepI at h ⊢
    dsimp only at h ⊢
    refine pR_mono h fun c' i' T h => pI_mono h fun j T h => pR_mono h fun c i T h => pO_mono h fun q h => ?_
    split at h
    · exact ⟨h.1, h.2.1, hK _ _ _ _ _ h.2.2⟩
    · exact h.elim
  case arraylength =>
    unfold stepI at h ⊢
    dsimp only at h ⊢
    refine pR_mono h fun c i T h => ?_
    split at h
    · exact hK _ _ _ _ _ h
    · split at h
      · exact hK _ _ _ _ _ h
      · split at h
        · exact hK _ _ _ _ _ h
        · exact pB_mono h fun h => hK _ _ _ _ _ h
  case new k =>
    unfold stepI at h ⊢
    dsimp only at h ⊢
    exact pP_mono h fun c i P h => pK_mono h fun c' h => pB_mono h fun h => ⟨h.1, hK _ _ _ _ _ h.2⟩
  case newarray k => exact pI_mono h fun x T h => pP_mono h fun c i P h => pO_mono h fun q h => ⟨h.1, h.2.1, hK _ _ _ _ _ h.2.2⟩
  case anewarray k => exact pI_mono h fun x T h => pP_mono h fun c i P h => pO_mono h fun q h => ⟨h.1, h.2.1, hK _ _ _ _ _ h.2.2⟩
  case ireturn => exact h
  case areturn => exact h
  case return_ => exact h
  case invokevirtual k =>
    unfold stepI at h ⊢
    dsimp only at h ⊢
    exact pK_mono h fun e h => pR_mono h fun c i T h => pB_mono h fun h => pD_mono h fun d h => ⟨h.1, hm _ _ _ _ _ _ _ _ _ (onR_mono (fun M => hK _ _ _ _ _) (fun v M => hK _ _ _ _ _)) (hX _ _ _ _ _ _ _ _ h.2)⟩
  case invokestatic k =>
    unfold stepI at h ⊢
    dsimp only at h ⊢
    refine pK_mono h fun e h => ?_
    split at h
    · exact pD_mono h fun d h => ⟨h.1, hm _ _ _ _ _ _ _ _ _ (onR_mono (fun M => hK _ _ _ _ _) (fun v M => hK _ _ _ _ _)) (hX _ _ _ _ _ _ _ _ h.2)⟩
    · exact pD_mono h fun d h => pI_mono h fun n T h => pI_mono h fun n T h => pR_mono h fun n _ T h => pI_mono h fun n T h => pR_mono h fun n _ T h => pO_mono h fun q h => pO_mono h fun q h => pB_mono h fun h => ⟨h.1, hK _ _ _ _ _ h.2⟩
    · exact pD_mono h fun d h => pD_mono h fun d h => pI_mono h fun n T h => pI_mono h fun n T h => ⟨h.1, hK _ _ _ _ _ h.2⟩
    · exact pD_mono h fun d h => pI_mono h fun n T h => pI_mono h fun n T h => ⟨h.1, hK _ _ _ _ _ h.2⟩
    · exact pD_mono h fun d h => pI_mono h fun n T h => pI_mono h fun n T h => ⟨h.1, hK _ _ _ _ _ h.2⟩
    · exact h.elim
  case invokespecial k =>
    unfold stepI at h ⊢
    dsimp only at h ⊢
    refine pK_mono h fun e h => ?_
    split at h
    · exact pR_mono h fun c i T h => pD_mono h fun d h => ⟨h.1, hm _ _ _ _ _ _ _ _ _ (fun v M => hK _ _ _ _ _) (hX _ _ _ _ _ _ _ _ h.2)⟩
    · exact pR_mono h fun c i T h => pD_mono h fun d h => ⟨h.1, hm _ _ _ _ _ _ _ _ _ (fun v M => hK _ _ _ _ _) (hX _ _ _ _ _ _ _ _ h.2)⟩
    · exact pD_mono h fun d h => pR_mono h fun c i T h => ⟨h.1, hK _ _ _ _ _ h.2⟩
    · exact h.elim
  all_goals exact False.elim h
theorem runB_mono {gl : Nat} {gx : Nat → Int32} {X X' : XT} {d : Nat} {R : LK} {rt : Option FieldType} {hw : Nat} {oc : String} {Q : PO} {y : Nat} {B : List (Nat × List Instr)} (hm : Mono X') (hX : ∀ d P y pc L S M Q, X d P y pc L S M Q → X' d P y pc L S M Q) :
    ∀ (f : Nat) (is : List Instr) (pc : Nat) (P : PL) (L S : List AV) (M : MM), runB gl gx X d R rt hw oc Q y B f is pc P L S M → runB gl gx X' d R rt hw oc Q y B f is pc P L S M := by
  intro f
  induction f with
  | zero => intro is pc P L S M h; exact hX _ _ _ _ _ _ _ _ h
  | succ f ih =>
    intro is pc P L S M h
    cases is with
    | nil =>
      unfold runB at h ⊢
      split at h
      · exact ih _ _ _ _ _ _ h
      · exact hX _ _ _ _ _ _ _ _ h
    | cons i is => exact stepI_mono hm hX (fun pc P L S M => ih is pc P L S M) (fun pc P L S M => ih [] pc P L S M) h
/-- a run through pieces of a method's code: all that it leaves to, is a run again -/
theorem wpT {gl : Nat} {gx : Nat → Int32} {y d pc : Nat} {P : PL} {L S : List AV} {M : MM} {Q : PO} (r : MT) (hr : mt y = some r) (is : List Instr) (hc : codeAt r.2.1 pc is = true) (B : List (Nat × List Instr)) (hB : B.all (fun e => codeAt r.2.1 e.1 e.2) = true) (f : Nat) (h : runB gl gx (Wp gl gx) d r.2.2.2.2.2 r.2.2.2.1 r.2.2.2.2.1 r.1.cls Q y B f is pc P L S M) : Wp gl gx d P y pc L S M Q := by
  intro X hm hcl
  exact hcl y r B f d is P pc L S M Q hr hB hc (runB_mono hm (fun d P y pc L S M Q w => w X hm hcl) f is pc P L S M h)
end MONO
