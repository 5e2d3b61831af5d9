/-! ONE STEP: answers; calls of the machine's own -/
section STEP6
variable {gl : Nat} {gx : Nat → Int32} {z : Nat} {D : va_G} {tA : Nat → ClassId} {l : Launch} {p : Program} {e : Env} {R : Room} {s : State} {m : MethodId} {args : Array Value} {below : List Frame} {meth : Method} {c : Code} {Zq : State → Prop} {r : MT} {Q : PO} {d : Nat}
variable {K J : Nat → PL → List AV → List AV → MM → Prop} {pc n : Nat} {P : PL} {L S T : List AV} {M : MM} {X : XT}
theorem isEmpty_eq {S : List AV} (h : S.isEmpty = true) : S = [] := List.isEmpty_iff.mp h
theorem go_return {i : Instr} (hd : decode r.2.1 pc = .ok (i, n)) (ho : okI i pc n = true) (h : stepI gl gx X d r.2.2.2.2.2 r.2.2.2.1 r.2.2.2.2.1 r.1.cls Q K J i pc P L S M) (hi : i = .ireturn ∨ i = .areturn ∨ i = .return_) : Go gl gx z D tA l p e R s m args below meth c Zq r Q pc P L S M := by
  have fin : ∀ (v : AV) {S : List AV}, Q v M → retAt r pc v → (∀ ad H locs cells slots ls, Dx gl gx z D tA R s r ad H locs cells slots ls P L S M → okA M.2.2 v) → (∀ ad, S.map (cv ad) = rst ad v) → Go gl gx z D tA l p e R s m args below meth c Zq r Q pc P L S M := by
    intro v S hq hat hok hst ad H locs cells slots ls hD hR
    rw [hst ad]
    exact hR v M ad H locs cells slots pc ls hq hD.2.2.1 (hok _ _ _ _ _ _ hD) (fun _ _ _ => rfl) (fun _ _ h => h) hD.2.1 (Nat.le_trans (Nat.le_add_right _ _) hD.2.2.2.2.2.2.2.1) (Nat.le_trans (Nat.le_add_right _ _) hD.2.2.2.2.2.2.2.2) hat
  rcases hi with rfl | rfl | rfl
  all_goals (have en : n = 1 := by simpa [okI] using ho)
  all_goals subst en
  all_goals unfold stepI at h
  all_goals dsimp only at h
  · obtain ⟨x, T1, rfl, h1⟩ := pI_inv h
    obtain ⟨he, h2⟩ := pB_inv h1
    obtain rfl := isEmpty_eq he
    split at h2
    · rename_i hr
      exact fin (aI x) h2 (Or.inr (Or.inl ⟨x, .int, hr, rfl, rfl, hd⟩)) (fun _ _ _ _ _ _ _ => trivial) (fun _ => rfl)
    · rename_i t _ hr
      split at h2
      · exact fin (aI x) h2.2 (Or.inr (Or.inl ⟨x, t, hr, rfl, h2.1, hd⟩)) (fun _ _ _ _ _ _ _ => trivial) (fun _ => rfl)
      · exact h2.elim
    · exact h2.elim
  · have g : pA S (fun v S => pB S.isEmpty (match r.2.2.2.1 with
      | some (.object _) => Q v M
      | _ => False)) := h
    clear h
    rcases pA_inv g with ⟨k', i', T1, rfl, h1⟩ | ⟨T1, rfl, h1⟩
    · obtain ⟨he, h2⟩ := pB_inv h1
      obtain rfl := isEmpty_eq he
      split at h2
      · rename_i C0 hr
        exact fin _ h2 (Or.inr (Or.inr ⟨C0, hr, Or.inl ⟨_, rfl⟩, hd⟩)) (fun _ _ _ _ _ _ hD => hD.2.2.2.2.2.2.1 _ List.mem_cons_self) (fun _ => rfl)
      · exact h2.elim
    · obtain ⟨he, h2⟩ := pB_inv h1
      obtain rfl := isEmpty_eq he
      split at h2
      · rename_i C0 hr
        exact fin _ h2 (Or.inr (Or.inr ⟨C0, hr, Or.inr rfl, hd⟩)) (fun _ _ _ _ _ _ hD => trivial) (fun _ => rfl)
      · exact h2.elim
  · obtain ⟨he, h2⟩ := pB_inv h
    obtain rfl := isEmpty_eq he
    split at h2
    · rename_i hr
      exact fin aU h2 (Or.inl ⟨hr, rfl, hd⟩) (fun _ _ _ _ _ _ hD => trivial) (fun _ => rfl)
    · exact h2.elim
theorem cat_le (v : Value) : v.category ≤ 2 := by cases v <;> simp [Value.category]
theorem cat_sum : ∀ (l : List Value), (l.map fun v => v.category).sum ≤ 2 * l.length := by
  intro l
  induction l with
  | nil => simp
  | cons a l ih =>
    have := cat_le a
    simp only [List.map_cons, List.sum_cons, List.length_cons]
    omega
theorem row_copy {H : Heap} {locs : List Loc} {cells slots : Nat} {ls : Array Slot} {rest : List Value} {a a0 : Nat} {cc : ByteArray} {pc : Nat} (hexec : p.tables.exec = Jvm.exec) (hb : c.code = cc) (hml : c.maxLocals = ls.size) {own : String} {index : Nat} (hown : s.vm.findClass own = some m.cls) (hlink : (Cond.methodLink own index arraycopyName).before args s = true) (hnat : (Cond.native arraycopyName).before args s = true) (hstat : (Cond.static arraycopyName).before args s = true) (hini : (Cond.initialized "java/lang/System").before args s = true)
    {c0 c1 : ClassId} {n0 n1 : Nat} {f g : Nat → Int32} {ty : FieldType} (hc0 : H[a0]? = some (vp_cell c0 (n0, .inl f))) (hc1 : H[a]? = some (vp_cell c1 (n1, .inl g))) (ht0 : ArrOfT s c0 ty) (ht1 : ArrOfT s c1 ty) (hprim : refKind ty = false) (hS : va_S (aA z) s.heap H locs) (haz : z ≤ a)
    {sp dp n : Int32} (h1 : ¬ sp < 0) (h2 : ¬ dp < 0) (h3 : ¬ n < 0) (h4 : sp.toNatClampNeg + n.toNatClampNeg ≤ n0) (h5 : dp.toNatClampNeg + n.toNatClampNeg ≤ n1) (hfit : ∀ i, i < n.toNatClampNeg → fits ty (.int (f (sp.toNatClampNeg + i))) = true)
    (hframes : 1 ≤ R.frames) (hlocals : (rest.map fun v => v.category).sum + (nativeFrameWords "java/lang/System" "arraycopy" 5 + 11) ≤ R.locals) (hdg : decode cc pc = .ok (.invokestatic index, 3))
    (kk : ∀ (H1 : Heap) (locs1 : List Loc), H1[a]? = some (vp_cell c1 (n1, .inl (va_cpy f g sp.toNatClampNeg dp.toNatClampNeg n.toNatClampNeg))) → (∀ q, q ≠ a → H1[q]? = H[q]?) → va_S (aA z) s.heap H1 locs1 → W p l e R s m args below meth c H1 locs1 cells slots Zq (F0 m (pc + 3) ls rest)) : W p l e R s m args below meth c H locs cells slots Zq (F0 m pc ls (.int n :: .int dp :: .ref a :: .int sp :: .ref a0 :: rest)) := by
  have nn : ∀ z : Int32, ¬ z < 0 → z.toInt = (z.toNatClampNeg : Int) := by
    intro z hz
    have hz0 : (0 : Int) ≤ z.toInt := by
      have := Int32.not_lt.mp hz
      simpa using Int32.le_iff_toInt_le.mp this
    show z.toInt = ((z.toInt.toNat : Nat) : Int)
    omega
  intro T hT X
  obtain ⟨-, k0, hk0, cm0, hkk0⟩ := ht0 n0 (fun j => .int (f j))
  obtain ⟨-, k1, hk1, cm1, hkk1⟩ := ht1 n1 (fun j => .int (g j))
  obtain ⟨vm', X', step⟩ := X.arraycopy hexec hown hlink hnat hstat hini (src := a0) (dst := a) (cs := vp_cell c0 (n0, .inl f)) (cd := vp_cell c1 (n1, .inl g)) (srcPos := sp) (destPos := dp) (n := n) (by rw [hT]; exact hc0) (by rw [hT]; exact hc1)
    (fun _ h => by cases h) (fun _ h => by cases h) (fun h => by cases h) (fun h => by cases h) hk0 hk1 hkk0 hkk1 (by simp [hprim]) h1 h2 h3
    (by rw [nn sp h1, nn n h3]; show ¬ _ > ((arrV c0 n0 (fun j => .int (f j))).slots.size : Int); rw [arrV_size]; omega)
    (by rw [nn dp h2, nn n h3]; show ¬ _ > ((arrV c1 n1 (fun j => .int (g j))).slots.size : Int); rw [arrV_size]; omega)
    (fun vm₁ _ i hi => by
      have e : (vp_cell c0 (n0, .inl f)).slots.getD (sp.toNatClampNeg + i) .null = .int (f (sp.toNatClampNeg + i)) := by
        show (arrV c0 n0 (fun j => .int (f j))).slots.getD _ _ = _
        rw [Array.getD_eq_getD_getElem?, arrV_read _ _ (by omega)]
        rfl
      refine ⟨?_, ?_⟩
      · rw [e]
        exact hfit i hi
      · rw [e]
        exact trivial)
    (g := F0 m pc ls (.int n :: .int dp :: .ref a :: .int sp :: .ref a0 :: rest)) rfl (by rw [hml]) (rest := rest) rfl (by rw [hb]; exact hdg) hframes (by show 2 * 0 + _ + _ ≤ _; omega)
  have e1 : copied (vp_cell c0 (n0, .inl f)) (vp_cell c1 (n1, .inl g)) sp dp n = vp_cell c1 (n1, .inl (va_cpy f g sp.toNatClampNeg dp.toNatClampNeg n.toNatClampNeg)) := va_copied (fun z => .int z) c0 c1 f g h4
  rw [e1] at X' step
  have hl : a < H.size := (Array.getElem?_eq_some_iff.mp hc1).1
  have hheap : ((T.setVm vm').setCell a (vp_cell c1 (n1, .inl (va_cpy f g sp.toNatClampNeg dp.toNatClampNeg n.toNatClampNeg)))).heap = H.setIfInBounds a (vp_cell c1 (n1, .inl (va_cpy f g sp.toNatClampNeg dp.toNatClampNeg n.toNatClampNeg))) := by rw [← hT]; rfl
  have oq : ∀ q : Nat, q ≠ a → (H.setIfInBounds a (vp_cell c1 (n1, .inl (va_cpy f g sp.toNatClampNeg dp.toNatClampNeg n.toNatClampNeg))))[q]? = H[q]? := fun q hq => by simp [Array.getElem?_setIfInBounds, Ne.symm hq]
  obtain ⟨t, a1, b1⟩ := kk _ _ (show (H.setIfInBounds a _)[a]? = some _ by simp [Array.getElem?_setIfInBounds, hl]) oq ⟨by simp; exact hS.1, fun q g1 g2 => by
      rw [oq q (fun e => g2 (by rw [e]; exact haz))]
      exact hS.2.1 q g1 g2, fun q hq => by
      rcases List.mem_append.mp hq with h | h
      · exact hS.2.2 q h
      · obtain ⟨z, -, hz⟩ := List.mem_map.mp h
        rw [← hz]
        exact haz⟩ _ hheap X'
  exact ⟨t, step t a1, b1⟩
end STEP6
