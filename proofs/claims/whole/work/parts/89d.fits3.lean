/-! FITS, the call -/
abbrev FS : Type := Nat × Nat × (Nat → Nat) × Int32
def lastB (n : Nat) (row : List Nat) : Nat := if n = 0 then 0 else 1 <<< rF row (n - 1)
def stF (ft : List Nat → Bool) (o : Nat → Nat) (n C : Nat) (x : Int32) (s : FS) (row : List Nat) : FS :=
  if ft row = true then (s.1 + 1, s.2.1 ||| lastB n row, topsN o row n C s.2.2.1, if nI s.1 = x then nI (codeN row n) else s.2.2.2) else s
theorem stF_y {ft : List Nat → Bool} {o : Nat → Nat} {n C : Nat} {x : Int32} {s : FS} {row : List Nat} (h : ft row = true) : stF ft o n C x s row = (s.1 + 1, s.2.1 ||| lastB n row, topsN o row n C s.2.2.1, if nI s.1 = x then nI (codeN row n) else s.2.2.2) := if_pos h
theorem stF_n {ft : List Nat → Bool} {o : Nat → Nat} {n C : Nat} {x : Int32} {s : FS} {row : List Nat} (h : ft row ≠ true) : stF ft o n C x s row = s := if_neg h
theorem ask_stay {ft : List Nat → Bool} {o : Nat → Nat} {n C : Nat} {x : Int32} : ∀ (L : List (List Nat)) (s : FS), (∀ f, s.1 ≤ f → f ≤ s.1 + L.length → nI f ≠ x) → (L.foldl (stF ft o n C x) s).2.2.2 = s.2.2.2
  | [], _, _ => rfl
  | r :: L, s, h => by
    have e : (stF ft o n C x s r).2.2.2 = s.2.2.2 ∧ s.1 ≤ (stF ft o n C x s r).1 ∧ (stF ft o n C x s r).1 ≤ s.1 + 1 := by
      by_cases q : ft r = true
      · rw [stF_y q]
        refine ⟨?_, Nat.le_succ _, Nat.le_refl _⟩
        exact if_neg (h s.1 (Nat.le_refl _) (Nat.le_add_right _ _))
      · rw [stF_n q]
        exact ⟨rfl, Nat.le_refl _, Nat.le_succ _⟩
    rw [List.foldl_cons, ask_stay L (stF ft o n C x s r) (fun f h1 h2 => h f (by omega) (by rw [List.length_cons]; omega)), e.1]
theorem sub10 (a b : Int32) : a = 10 + b ↔ b = a - 10 := by
  constructor
  · intro h
    rw [h, Int32.add_comm, Int32.add_sub_cancel]
  · intro h
    rw [h, Int32.add_comm, Int32.sub_add_cancel]
theorem last_lt {n : Nat} {row : List Nat} (hn : n ≤ 6) (hg : gdR n n row = true) : lastB n row < 64 := by
  unfold lastB
  split
  · omega
  · have h3 : rF row (n - 1) < n := gdR_lt hg _ (gd_mem row (n - 1) (by rw [gdR_len hg]; omega))
    exact Nat.lt_of_lt_of_le (bit_lt (n := 6) (by omega)) (by decide)
def MRel (m0 m : MI) (s : FS) : Prop := (m 10 0 45 = nI s.1 ∧ m 10 0 46 = s.2.2.2 ∧ m 10 0 47 = nI s.2.1) ∧ (∀ i, i < 175 → m 71 0 i = nI (s.2.2.1 i)) ∧ ∀ c i j, ¬ ((c = 67 ∨ c = 71) ∧ i = 0) → ¬ (c = 10 ∧ i = 0 ∧ (j = 45 ∨ j = 46 ∨ j = 47)) → m c i j = m0 c i j
theorem m_find {m0 : MI} {w : WS} {W H sl n : Nat} {cu we : Nat → Nat} {ft : List Nat → Bool} {x : Int32} (ok : shOK W H sl n cu we) (mw : MW m0 W H) (h27 : m0 10 0 27 = nI n) (h62 : ∀ s, s < 6 → m0 62 0 s = nI (opS W H cu s))
    (hft : ∀ m row, (∀ c i j, ¬ ((c = 67 ∨ c = 71) ∧ i = 0) → ¬ (c = 10 ∧ i = 0 ∧ (j = 45 ∨ j = 46 ∨ j = 47)) → m c i j = m0 c i j) → rowM m 67 row → gdR n n row = true → F_X11_isSo m w = some (bT (ft row))) :
    ∀ f row m s F, (∀ r, r ∈ enM n f row → gdR n n r = true) → (enM n f row).length < f → (enM n f row).length < F → rowM m 67 row → MRel m0 m s →
      ∃ m', L_X11_findOrders_44 w F m x 1 = some m' ∧ MRel m0 m' ((enM n f row).foldl (stF ft (opS W H cu) n (W * H) x) s) := by
  have hn := ok.cnt
  intro f
  induction f with
  | zero => intro row m s F _ h; omega
  | succ f ih =>
    intro row m s F hg hf hF hr hm
    obtain ⟨F, rfl⟩ : ∃ G, F = G + 1 := ⟨F - 1, by omega⟩
    have hl1 : 1 ≤ (enM n (f + 1) row).length := List.length_pos_of_mem enM_head
    have hg1 := hg row enM_head
    have nxt : ∀ (m1 : MI) (s1 : FS), rowM m1 67 row → MRel m0 m1 s1 → stF ft (opS W H cu) n (W * H) x s row = s1 → ∃ m', ((F_X11_nextOrder m1 w).bind fun c265 => L_X11_findOrders_44 w F c265.2 x c265.1) = some m' ∧ MRel m0 m' ((enM n (f + 1) row).foldl (stF ft (opS W H cu) n (W * H) x) s) := by
      intro m1 s1 gr hm1 es
      rcases m_next (w := w) hn (gdR_len hg1) gr (show m1 10 0 27 = nI n by rw [hm1.2.2 _ _ _ (by omega) (by omega)]; exact h27) (fun x hx => Nat.lt_of_lt_of_le (gdR_lt hg1 x hx) hn) with ⟨a1, a2⟩ | ⟨r, m2, a1, a2, a3, a4⟩
      · rw [enM_none a1] at hf hF ⊢
        rw [a2, Option.bind_some]
        have e : ([row].foldl (stF ft (opS W H cu) n (W * H) x) s) = s1 := es
        rw [e]
        refine ⟨m1, ?_, hm1⟩
        obtain ⟨F, rfl⟩ : ∃ G, F = G + 1 := ⟨F - 1, by have : [row].length = 1 := rfl; omega⟩
        dsimp only
        rw [L_X11_findOrders_44, if_pos rfl]
      · have len : (enM n (f + 1) row).length = (enM n f r).length + 1 := by rw [enM_some a1]; rfl
        have hm2 : MRel m0 m2 s1 := ⟨⟨by rw [a4 _ _ _ (by omega)]; exact hm1.1.1, by rw [a4 _ _ _ (by omega)]; exact hm1.1.2.1, by rw [a4 _ _ _ (by omega)]; exact hm1.1.2.2⟩, fun i hi => by rw [a4 _ _ _ (by omega)]; exact hm1.2.1 i hi, fun c i j h1 h2 => by rw [a4 c i j (by omega)]; exact hm1.2.2 c i j h1 h2⟩
        obtain ⟨m', b1, b2'⟩ := ih r m2 s1 F (fun r' hr' => hg r' (by rw [enM_some a1]; exact List.mem_cons_of_mem _ hr')) (by omega) (by omega) a3 hm2
        have e : (enM n (f + 1) row).foldl (stF ft (opS W H cu) n (W * H) x) s = (enM n f r).foldl (stF ft (opS W H cu) n (W * H) x) s1 := by
          rw [enM_some a1, List.foldl_cons, es]
        rw [e, a2, Option.bind_some]
        exact ⟨m', b1, b2'⟩
    rw [L_X11_findOrders_44, if_neg ne10, hft m row hm.2.2 hr hg1, Option.bind_some]
    by_cases q : ft row = true
    · have hb : bT (ft row) = 1 := by rw [q]; rfl
      rw [hb, if_neg ne10]
      have h27m : m 10 0 27 = nI n := by rw [hm.2.2 _ _ _ (by omega) (by omega)]; exact h27
      have cont : ∀ (a : Int32), a = (if nI s.1 = x then nI (codeN row n) else s.2.2.2) → ∃ m', (if (u3 (u3 m 10 0 46 a) 10 0 45 (nI (s.1 + 1))) 10 0 27 ≤ 0 then L_X11_findOrders_123 w (fun mi x1 x2 => L_X11_findOrders_44 w F mi x1 x2) 1000000 (u3 (u3 (u3 m 10 0 46 a) 10 0 45 (nI (s.1 + 1))) 10 0 47 (((u3 (u3 m 10 0 46 a) 10 0 45 (nI (s.1 + 1))) 10 0 47) ||| 0)) x 1 0 else ck (¬ (((u3 (u3 m 10 0 46 a) 10 0 45 (nI (s.1 + 1))) 10 0 27) - 1 < 0 ∨ 6 ≤ (((u3 (u3 m 10 0 46 a) 10 0 45 (nI (s.1 + 1))) 10 0 27) - 1).toNatClampNeg)) (L_X11_findOrders_123 w (fun mi x1 x2 => L_X11_findOrders_44 w F mi x1 x2) 1000000 (u3 (u3 (u3 m 10 0 46 a) 10 0 45 (nI (s.1 + 1))) 10 0 47 (((u3 (u3 m 10 0 46 a) 10 0 45 (nI (s.1 + 1))) 10 0 47) ||| ((1 : Int32) <<< (((u3 (u3 m 10 0 46 a) 10 0 45 (nI (s.1 + 1))) 67 0 ((((u3 (u3 m 10 0 46 a) 10 0 45 (nI (s.1 + 1))) 10 0 27) - 1).toNatClampNeg)) &&& 31)))) x 1 0)) = some m' ∧ MRel m0 m' ((enM n (f + 1) row).foldl (stF ft (opS W H cu) n (W * H) x) s) := by
        intro a ha
        have g45 : (u3 (u3 m 10 0 46 a) 10 0 45 (nI (s.1 + 1))) 10 0 45 = nI (s.1 + 1) := u3_s
        have g46 : (u3 (u3 m 10 0 46 a) 10 0 45 (nI (s.1 + 1))) 10 0 46 = a := by rw [u3_n (by omega), u3_s]
        have fr : ∀ c i j, ¬ (c = 10 ∧ i = 0 ∧ (j = 45 ∨ j = 46)) → (u3 (u3 m 10 0 46 a) 10 0 45 (nI (s.1 + 1))) c i j = m c i j := fun c i j h => by rw [u3_n (by omega), u3_n (by omega)]
        generalize u3 (u3 m 10 0 46 a) 10 0 45 (nI (s.1 + 1)) = m1 at *
        have g27 : m1 10 0 27 = nI n := by rw [fr _ _ _ (by omega)]; exact h27m
        have g47 : m1 10 0 47 = nI s.2.1 := by rw [fr _ _ _ (by omega)]; exact hm.1.2.2
        have go : ∀ v, v = nI (s.2.1 ||| lastB n row) → ∃ m', L_X11_findOrders_123 w (fun mi x1 x2 => L_X11_findOrders_44 w F mi x1 x2) 1000000 (u3 m1 10 0 47 v) x 1 0 = some m' ∧ MRel m0 m' ((enM n (f + 1) row).foldl (stF ft (opS W H cu) n (W * H) x) s) := by
          intro v hv
          have fr2 : ∀ c i j, ¬ (c = 10 ∧ i = 0 ∧ (j = 45 ∨ j = 46 ∨ j = 47)) → (u3 m1 10 0 47 v) c i j = m c i j := fun c i j h => by rw [u3_n (by omega), fr c i j (by omega)]
          obtain ⟨m2, e1, e2, e3⟩ := m_123 (m0 := u3 m1 10 0 47 v) (w := w) (k44 := fun mi x1 x2 => L_X11_findOrders_44 w F mi x1 x2) (x1 := x) (x2 := 1) (tp := s.2.2.1) ok (MW_of mw fun j _ _ => by rw [fr2 _ _ _ (by omega), hm.2.2 _ _ _ (by omega) (by omega)]) (by rw [fr2 _ _ _ (by omega)]; exact h27m) (fun s hs => by rw [fr2 _ _ _ (by omega), hm.2.2 _ _ _ (by omega) (by omega)]; exact h62 s hs) (fun k hk => by rw [fr2 _ _ _ (by omega)]; exact hr k hk) hg1 (fun i hi => by rw [fr2 _ _ _ (by omega)]; exact hm.2.1 i hi)
          rw [e1]
          refine nxt m2 _ (fun k hk => by rw [e3 _ _ _ (by omega), fr2 _ _ _ (by omega)]; exact hr k hk) ⟨⟨?_, ?_, ?_⟩, e2, fun c i j h1 h2 => by rw [e3 c i j (by omega), fr2 c i j h2]; exact hm.2.2 c i j h1 h2⟩ (stF_y q)
          · rw [e3 _ _ _ (by omega), u3_n (by omega)]; exact g45
          · rw [e3 _ _ _ (by omega), u3_n (by omega), g46, ha]
          · rw [e3 _ _ _ (by omega), u3_s]; exact hv
        by_cases h0 : n = 0
        · rw [if_pos (show m1 10 0 27 ≤ 0 by rw [g27, h0]; decide)]
          refine go _ ?_
          unfold lastB
          rw [if_pos h0, g47, i0, nor]
        · have hlen := gdR_len hg1
          have hlt : rF row (n - 1) < n := gdR_lt hg1 _ (gd_mem row (n - 1) (by omega))
          have h67 : m1 67 0 (n - 1) = nI (rF row (n - 1)) := by rw [fr _ _ _ (by omega)]; exact hr (n - 1) (by omega)
          have e27 : m1 10 0 27 - 1 = nI (n - 1) := by rw [g27, i1, nsub (by omega)]
          rw [if_neg (show ¬ m1 10 0 27 ≤ 0 by rw [g27, i0, nle (by omega) (by omega)]; omega), e27, ck6 (by omega), ncl (by omega), h67]
          refine go _ ?_
          unfold lastB
          rw [if_neg h0, g47, n31 (by omega), i1, nshl _ (by omega), nor]
      have e45 : ∀ a, (u3 m 10 0 46 a) 10 0 45 + 1 = nI (s.1 + 1) := fun a => by rw [u3_n (by omega), hm.1.1, i1, nadd]
      by_cases hx : nI s.1 = x
      · rw [if_pos (show m 10 0 45 = x by rw [hm.1.1]; exact hx), m_code hn h27m hr hg1, Option.bind_some, lt_e, e45]
        exact cont _ (by rw [if_pos hx])
      · rw [if_neg (show ¬ m 10 0 45 = x by rw [hm.1.1]; exact hx), lt_e, e45]
        exact cont _ (by rw [if_neg hx]; exact hm.1.2.1)
    · have hb : bT (ft row) = 0 := if_neg q
      rw [hb, if_pos rfl]
      exact nxt m s hr hm (stF_n q)
def OutC (n C : Nat) (x3 v : Int32) (S : FS) : Prop := (10 ≤ x3 → v = S.2.2.2) ∧ (x3 = 0 → v = nI S.1) ∧ (x3 = 1 → suP n S.1 S.2.1 v) ∧ (x3 = 2 → v = if S.1 = 0 then (-1 : Int32) else (akN (gtN S.2.2.1) C).1) ∧ (¬ 10 ≤ x3 → x3 ≠ 0 → x3 ≠ 1 → x3 ≠ 2 → v = -2)
def endC (m : MI) (w : WS) (i1 : Nat) (x3 x4 x5 : Int32) : Option (Int32 × MI) := if x3 = 0 then some (x4, m) else if x3 = 1 then some (x5, m) else if x3 = 2 then if x4 = 0 then some ((-1 : Int32), m) else (F_X3_cellToAsk m w i1).bind fun c64 => some (c64, m) else some ((-2 : Int32), m)
theorem c_end {m : MI} {w : WS} {i W H sl n : Nat} {cu we : Nat → Nat} {x3 x5 : Int32} {s : FS} (ok : shOK W H sl n cu we) (hc : ShC m i W H sl n cu we) (hs : s.1 ≤ 720) (ht : ∀ i, s.2.2.1 i ≤ s.1) (hsu : suP n s.1 s.2.1 x5) (h46 : x3 = 2 → ∀ i, i < 175 → m 46 0 i = nI (s.2.2.1 i)) (ha : 10 ≤ x3 → s.2.2.2 = -2) : ∃ v, endC m w i x3 (nI s.1) x5 = some (v, m) ∧ OutC n (W * H) x3 v s := by
  unfold endC
  by_cases e0 : x3 = 0
  · subst e0
    rw [if_pos rfl]
    exact ⟨_, rfl, fun q => absurd q (by decide), fun _ => rfl, fun q => absurd q (by decide), fun q => absurd q (by decide), fun _ q => absurd rfl q⟩
  · rw [if_neg e0]
    by_cases e1 : x3 = 1
    · subst e1
      rw [if_pos rfl]
      exact ⟨_, rfl, fun q => absurd q (by decide), fun q => absurd q e0, fun _ => hsu, fun q => absurd q (by decide), fun _ _ q => absurd rfl q⟩
    · rw [if_neg e1]
      by_cases e2 : x3 = 2
      · subst e2
        rw [if_pos rfl]
        by_cases z : s.1 = 0
        · rw [if_pos (by rw [z]; rfl)]
          exact ⟨_, rfl, fun q => absurd q (by decide), fun q => absurd q e0, fun q => absurd q e1, fun _ => by rw [if_pos z], fun _ _ _ q => absurd rfl q⟩
        · rw [if_neg (nne0 (by omega) z), c_ask ok hc (fun i => by have := ht i; omega) (h46 rfl), Option.bind_some]
          exact ⟨_, rfl, fun q => absurd q (by decide), fun q => absurd q e0, fun q => absurd q e1, fun _ => by rw [if_neg z], fun _ _ _ q => absurd rfl q⟩
      · rw [if_neg e2]
        exact ⟨_, rfl, fun q => (ha q).symm, fun q => absurd q e0, fun q => absurd q e1, fun q => absurd q e2, fun _ _ _ _ => rfl⟩
theorem tops_le {o : Nat → Nat} {row : List Nat} {n C N : Nat} {tp : Nat → Nat} (h : ∀ i, tp i ≤ N) (i : Nat) : topsN o row n C tp i ≤ N + 1 := by
  have := h i
  unfold topsN
  split <;> omega
theorem c_find {m0 : MI} {w : WS} {si ms W H sl n : Nat} {cu we : Nat → Nat} {ft : List Nat → Bool} {x3 : Int32} (ok : shOK W H sl n cu we) (hc0 : ShC m0 si W H sl n cu we)
    (hft : ∀ m row, (∀ c i j, ¬ ((c = 2 ∨ c = 42 ∨ c = 46) ∧ i = 0) → m c i j = m0 c i j) → m 2 0 6 = nI n → rowM m 42 row → gdR n n row = true → F_X3_fitsAll m w si ms = some (bT (ft row))) :
    ∀ f row t m s x5 F, (∀ r, r ∈ enC n n f row → gdR n n r = true) → (enC n n f row).length < f → t + (enC n n f row).length ≤ 720 → (enC n n f row).length < F → (∀ c i j, ¬ ((c = 2 ∨ c = 42 ∨ c = 46) ∧ i = 0) → m c i j = m0 c i j) → m 2 0 5 = nI n → m 2 0 6 = nI n → rowM m 42 row →
      s.1 ≤ t → (∀ i, s.2.2.1 i ≤ s.1) → suP n s.1 s.2.1 x5 → (x3 = 2 → ∀ i, i < 175 → m 46 0 i = nI (s.2.2.1 i)) → (10 ≤ x3 → s.2.2.2 = -2) →
      ∃ m' v, L_X3_tellFitting_28 w F m si ms x3 (nI s.1) x5 1 (nI t) = some (v, m') ∧ OutC n (W * H) x3 v ((enC n n f row).foldl (stF ft (opS W H cu) n (W * H) (x3 - 10)) s) := by
  have hn := ok.cnt
  intro f
  induction f with
  | zero => intro row t m s x5 F _ h; omega
  | succ f ih =>
    intro row t m s x5 F hg hf ht hF fr h5 h6 hr hst htp hsu h46 ha
    obtain ⟨F, rfl⟩ : ∃ G, F = G + 1 := ⟨F - 1, by omega⟩
    have hl1 : 1 ≤ (enC n n (f + 1) row).length := List.length_pos_of_mem enC_head
    have hg1 := hg row enC_head
    have hc : ShC m si W H sl n cu we := ShC_of (fun k => fr _ _ _ (by omega)) (fun k => fr _ _ _ (by omega)) (fun k => fr _ _ _ (by omega)) (fun k => fr _ _ _ (by omega)) hc0
    have e720 : (720 : Int32) = nI 720 := rfl
    have nxt : ∀ (m1 : MI) (s1 : FS) (y5 : Int32), (∀ c i j, ¬ ((c = 2 ∨ c = 42 ∨ c = 46) ∧ i = 0) → m1 c i j = m0 c i j) → m1 2 0 5 = nI n → m1 2 0 6 = nI n → rowM m1 42 row → s1.1 ≤ t + 1 → (∀ i, s1.2.2.1 i ≤ s1.1) → suP n s1.1 s1.2.1 y5 → (x3 = 2 → ∀ i, i < 175 → m1 46 0 i = nI (s1.2.2.1 i)) → (10 ≤ x3 → s1.2.2.2 = -2) → stF ft (opS W H cu) n (W * H) (x3 - 10) s row = s1 →
        ∃ m' v, ((F_X3_advance m1 w).bind fun c65 => L_X3_tellFitting_28 w F c65.2 si ms x3 (nI s1.1) y5 c65.1 (nI t + 1)) = some (v, m') ∧ OutC n (W * H) x3 v ((enC n n (f + 1) row).foldl (stF ft (opS W H cu) n (W * H) (x3 - 10)) s) := by
      intro m1 s1 y5 fr1 g5 g6 gr k1 k2 k3 k4 k5 es
      rcases c_adv (w := w) hn (Nat.le_refl n) g5 g6 gr (gdR_len hg1) (gdR_lt hg1) (fun r hr' y hy => gdR_lt (hg r (by
        rw [enC_some hr']
        cases f with
        | zero => omega
        | succ f => exact List.mem_cons_of_mem _ enC_head)) y hy) with ⟨a1, a2⟩ | ⟨r, m2, a1, a2, a3, a4⟩
      · rw [enC_none a1] at hf ht hF ⊢
        rw [a2, Option.bind_some]
        have e : ([row].foldl (stF ft (opS W H cu) n (W * H) (x3 - 10)) s) = s1 := es
        rw [e]
        have len1 : [row].length = 1 := rfl
        obtain ⟨F, rfl⟩ : ∃ G, F = G + 1 := ⟨F - 1, by omega⟩
        have hc1 : ShC m1 si W H sl n cu we := ShC_of (fun k => fr1 _ _ _ (by omega)) (fun k => fr1 _ _ _ (by omega)) (fun k => fr1 _ _ _ (by omega)) (fun k => fr1 _ _ _ (by omega)) hc0
        obtain ⟨v, v1, v2⟩ := c_end (w := w) (x3 := x3) ok hc1 (show s1.1 ≤ 720 by omega) k2 k3 k4 k5
        refine ⟨m1, v, ?_, v2⟩
        dsimp only
        rw [L_X3_tellFitting_28]
        by_cases q : (720 : Int32) ≤ nI t + 1
        · rw [if_pos q]; exact v1
        · rw [if_neg q, if_pos rfl]; exact v1
      · have len : (enC n n (f + 1) row).length = (enC n n f r).length + 1 := by rw [enC_some a1]; rfl
        obtain ⟨m', v, b1, b2'⟩ := ih r (t + 1) m2 s1 y5 F (fun r' hr' => hg r' (by rw [enC_some a1]; exact List.mem_cons_of_mem _ hr')) (by omega) (by omega) (by omega) (fun c i j h => by rw [a4 c i j (by omega)]; exact fr1 c i j h) (by rw [a4 _ _ _ (by omega)]; exact g5) (by rw [a4 _ _ _ (by omega)]; exact g6) a3 k1 k2 k3 (fun q i hi => by rw [a4 _ _ _ (by omega)]; exact k4 q i hi) k5
        have e : (enC n n (f + 1) row).foldl (stF ft (opS W H cu) n (W * H) (x3 - 10)) s = (enC n n f r).foldl (stF ft (opS W H cu) n (W * H) (x3 - 10)) s1 := by
          rw [enC_some a1, List.foldl_cons, es]
        rw [e, a2, Option.bind_some]
        dsimp only
        rw [show nI t + 1 = nI (t + 1) by rw [i1, nadd]]
        exact ⟨m', v, b1, b2'⟩
    rw [L_X3_tellFitting_28, if_neg (by rw [e720, nle (by omega) (by omega)]; omega), if_neg ne10, hft m row fr h6 hr hg1, Option.bind_some]
    by_cases q : ft row = true
    · have hb : bT (ft row) = 1 := by rw [q]; rfl
      rw [hb, if_neg ne10]
      by_cases hx : x3 = 10 + nI s.1
      · rw [if_pos hx, c_asNumber hn h6 hr hg1, Option.bind_some]
        have hx2 : nI s.1 = x3 - 10 := (sub10 x3 (nI s.1)).mp hx
        have e10 : (10 : Int32) = nI 10 := rfl
        have hx3 : x3 = nI (10 + s.1) := by rw [hx, e10, nadd]
        refine ⟨m, _, rfl, ?_⟩
        have hne : ∀ k, k < 10 → x3 ≠ nI k := fun k hk => by rw [hx3]; exact nne (by omega) (by omega) (by omega)
        have h10 : 10 ≤ x3 := by rw [hx3, e10, nle (by omega) (by omega)]; omega
        refine ⟨fun _ => ?_, fun z => absurd z (hne 0 (by omega)), fun z => absurd z (hne 1 (by omega)), fun z => absurd z (hne 2 (by omega)), fun z => absurd h10 z⟩
        obtain ⟨L, hL⟩ : ∃ L, enC n n (f + 1) row = row :: L := ⟨_, by rw [enC]⟩
        rw [hL, List.length_cons] at ht
        rw [hL, List.foldl_cons, ask_stay]
        · rw [stF_y q, if_pos hx2]
        · intro g g1 g2 g3
          rw [stF_y q] at g1 g2
          dsimp only at g1 g2
          rw [← hx2] at g3
          exact nne (by omega) (by omega) (show g ≠ s.1 by omega) g3
      · have hx2 : ¬ nI s.1 = x3 - 10 := fun z => hx ((sub10 x3 (nI s.1)).mpr z)
        rw [if_neg hx]
        have eS : stF ft (opS W H cu) n (W * H) (x3 - 10) s row = (s.1 + 1, s.2.1 ||| lastB n row, topsN (opS W H cu) row n (W * H) s.2.2.1, s.2.2.2) := by rw [stF_y q, if_neg hx2]
        have fin : ∀ y5, suP n (s.1 + 1) (s.2.1 ||| lastB n row) y5 → ∃ m' v, (if x3 = 2 then (F_X3_countTops m w si).bind fun c67 => (F_X3_advance c67 w).bind fun c65 => L_X3_tellFitting_28 w F c65.2 si ms x3 (nI (s.1 + 1)) y5 c65.1 (nI t + 1) else (F_X3_advance m w).bind fun c65 => L_X3_tellFitting_28 w F c65.2 si ms x3 (nI (s.1 + 1)) y5 c65.1 (nI t + 1)) = some (v, m') ∧ OutC n (W * H) x3 v ((enC n n (f + 1) row).foldl (stF ft (opS W H cu) n (W * H) (x3 - 10)) s) := by
          intro y5 hy
          by_cases e2 : x3 = 2
          · obtain ⟨m1, c1, c2, c3⟩ := c_countTops (w := w) ok hc h6 hr hg1 (h46 e2)
            rw [if_pos e2, c1, Option.bind_some]
            exact nxt m1 (s.1 + 1, s.2.1 ||| lastB n row, topsN (opS W H cu) row n (W * H) s.2.2.1, s.2.2.2) y5 (fun c i j h => by rw [c3 c i j (by omega)]; exact fr c i j h) (by rw [c3 _ _ _ (by omega)]; exact h5) (by rw [c3 _ _ _ (by omega)]; exact h6) (fun k hk => by rw [c3 _ _ _ (by omega)]; exact hr k hk) (show s.1 + 1 ≤ t + 1 by omega) (fun i => tops_le htp i) hy (fun _ => c2) ha eS
          · rw [if_neg e2]
            exact nxt m (s.1 + 1, s.2.1 ||| lastB n row, topsN (opS W H cu) row n (W * H) s.2.2.1, s.2.2.2) y5 fr h5 h6 hr (show s.1 + 1 ≤ t + 1 by omega) (fun i => tops_le htp i) hy (fun z => absurd z e2) ha eS
        have e1 : nI s.1 + 1 = nI (s.1 + 1) := by rw [i1, nadd]
        have hlen := gdR_len hg1
        rw [e1]
        by_cases h0 : n = 0
        · have li : F_X3_lastItem m w = some (-1) := by
            unfold F_X3_lastItem
            rw [if_pos (by rw [h6, h0]; decide)]
          have x5e : x5 = -1 ∧ s.2.1 = 0 := by
            rcases hsu with ⟨_, a, b⟩ | ⟨_, ⟨_, a, b⟩ | ⟨s', a, _⟩ | ⟨a, s', t', b, c, d⟩⟩
            · exact ⟨a, b⟩
            · exact ⟨a, b⟩
            · omega
            · omega
          have su1 : suP n (s.1 + 1) (s.2.1 ||| lastB n row) (-1) := by
            refine Or.inr ⟨by omega, Or.inl ⟨h0, rfl, ?_⟩⟩
            unfold lastB
            rw [if_pos h0, x5e.2]
            rfl
          rw [li]
          by_cases z : s.1 = 0
          · rw [if_pos (show nI s.1 = 0 by rw [z]; rfl), Option.bind_some]
            exact fin _ su1
          · rw [if_neg (nne0 (by omega) z), Option.bind_some, if_pos x5e.1, Option.bind_some]
            exact fin _ su1
        · have hlt : rF row (n - 1) < n := gdR_lt hg1 _ (gd_mem row (n - 1) (by omega))
          have li : F_X3_lastItem m w = some (nI (rF row (n - 1))) := by
            unfold F_X3_lastItem
            rw [if_neg (by rw [h6, i0, nle (by omega) (by omega)]; omega), h6, i1, nsub (by omega), ck6 (by omega), ncl (by omega), hr (n - 1) (by omega)]
            rfl
          have su := su_step (t := rF row (n - 1)) hlt hn hsu
          have eb : lastB n row = 1 <<< rF row (n - 1) := if_neg h0
          rw [li]
          by_cases z : s.1 = 0
          · rw [if_pos z] at su
            rw [if_pos (show nI s.1 = 0 by rw [z]; rfl), Option.bind_some]
            exact fin _ (by rw [eb]; exact su)
          · rw [if_neg z] at su
            rw [if_neg (nne0 (by omega) z), Option.bind_some]
            by_cases y : x5 = nI (rF row (n - 1))
            · rw [if_pos y] at su
              rw [if_pos y, Option.bind_some]
              exact fin _ (by rw [eb]; exact su)
            · rw [if_neg y] at su
              rw [if_neg y]
              exact fin _ (by rw [eb]; exact su)
    · have hb : bT (ft row) = 0 := if_neg q
      rw [hb, if_pos rfl]
      exact nxt m s x5 fr h5 h6 hr (by omega) htp hsu h46 ha (stF_n q)
