/-! FACTS of the tables: every word that a link or a method stands on is among the claim's words, by its place -/
def tabs (k : Nat) : List Cond := match k with
  | 0 => tables_1_1
  | 1 => tables_1_2
  | 2 => tables_1_3
  | 3 => tables_1_4
  | 4 => tables_1_5
  | 5 => tables_1_6
  | 6 => tables_1_7
  | 7 => tables_1_8
  | 8 => k2_sels lw_privs_1
  | 9 => k2_sels lw_privs_2
  | 10 => k2_sels lw_privs_3
  | 11 => k2_sels lw_privs_4
  | 12 => k2_sels lw_privs_5
  | 13 => k2_sels lw_privs_6
  | 14 => k2_sels lw_privs_7
  | 15 => k2_sels lw_privs_8
  | 16 => k2_sels lw_privs_9
  | _ => []
theorem tabs_p {L : List (MethodName × Nat)} {w : Cond} (h : w ∈ k2_sels L) (hs : ∀ q ∈ L, q ∈ lw_privs) : w ∈ k2_sels lw_privs := by
  obtain ⟨q, hq, rfl⟩ := List.mem_map.mp h
  exact List.mem_map.mpr ⟨q, hs q hq, rfl⟩
theorem tabs_mem {w : Cond} : ∀ (k : Nat), w ∈ tabs k → w ∈ lw_tbl
  | 0, h => List.mem_append_right _ (show w ∈ tables_1 from by unfold tables_1; exact List.mem_append_left _ h)
  | 1, h => List.mem_append_right _ (show w ∈ tables_1 from by unfold tables_1; exact List.mem_append_right _ (List.mem_append_left _ h))
  | 2, h => List.mem_append_right _ (show w ∈ tables_1 from by unfold tables_1; exact List.mem_append_right _ (List.mem_append_right _ (List.mem_append_left _ h)))
  | 3, h => List.mem_append_right _ (show w ∈ tables_1 from by unfold tables_1; exact List.mem_append_right _ (List.mem_append_right _ (List.mem_append_right _ (List.mem_append_left _ h))))
  | 4, h => List.mem_append_right _ (show w ∈ tables_1 from by unfold tables_1; exact List.mem_append_right _ (List.mem_append_right _ (List.mem_append_right _ (List.mem_append_right _ (List.mem_append_left _ h)))))
  | 5, h => List.mem_append_right _ (show w ∈ tables_1 from by unfold tables_1; exact List.mem_append_right _ (List.mem_append_right _ (List.mem_append_right _ (List.mem_append_right _ (List.mem_append_right _ (List.mem_append_left _ h))))))
  | 6, h => List.mem_append_right _ (show w ∈ tables_1 from by unfold tables_1; exact List.mem_append_right _ (List.mem_append_right _ (List.mem_append_right _ (List.mem_append_right _ (List.mem_append_right _ (List.mem_append_right _ (List.mem_append_left _ h)))))))
  | 7, h => List.mem_append_right _ (show w ∈ tables_1 from by unfold tables_1; exact List.mem_append_right _ (List.mem_append_right _ (List.mem_append_right _ (List.mem_append_right _ (List.mem_append_right _ (List.mem_append_right _ (List.mem_append_right _ h)))))))
  | 8, h => List.mem_append_left _ (tabs_p (L := lw_privs_1) h (fun q hq => by unfold lw_privs; simp only [List.mem_append]; exact Or.inl hq))
  | 9, h => List.mem_append_left _ (tabs_p (L := lw_privs_2) h (fun q hq => by unfold lw_privs; simp only [List.mem_append]; exact Or.inr (Or.inl hq)))
  | 10, h => List.mem_append_left _ (tabs_p (L := lw_privs_3) h (fun q hq => by unfold lw_privs; simp only [List.mem_append]; exact Or.inr (Or.inr (Or.inl hq))))
  | 11, h => List.mem_append_left _ (tabs_p (L := lw_privs_4) h (fun q hq => by unfold lw_privs; simp only [List.mem_append]; exact Or.inr (Or.inr (Or.inr (Or.inl hq)))))
  | 12, h => List.mem_append_left _ (tabs_p (L := lw_privs_5) h (fun q hq => by unfold lw_privs; simp only [List.mem_append]; exact Or.inr (Or.inr (Or.inr (Or.inr (Or.inl hq))))))
  | 13, h => List.mem_append_left _ (tabs_p (L := lw_privs_6) h (fun q hq => by unfold lw_privs; simp only [List.mem_append]; exact Or.inr (Or.inr (Or.inr (Or.inr (Or.inr (Or.inl hq)))))))
  | 14, h => List.mem_append_left _ (tabs_p (L := lw_privs_7) h (fun q hq => by unfold lw_privs; simp only [List.mem_append]; exact Or.inr (Or.inr (Or.inr (Or.inr (Or.inr (Or.inr (Or.inl hq))))))))
  | 15, h => List.mem_append_left _ (tabs_p (L := lw_privs_8) h (fun q hq => by unfold lw_privs; simp only [List.mem_append]; exact Or.inr (Or.inr (Or.inr (Or.inr (Or.inr (Or.inr (Or.inr (Or.inl hq)))))))))
  | 16, h => List.mem_append_left _ (tabs_p (L := lw_privs_9) h (fun q hq => by unfold lw_privs; simp only [List.mem_append]; exact Or.inr (Or.inr (Or.inr (Or.inr (Or.inr (Or.inr (Or.inr (Or.inr (hq))))))))))
  | k + 17, h => by cases h
def nthC : List Cond → Nat → Option Cond
  | [], _ => none
  | w :: _, 0 => some w
  | _ :: ws, n + 1 => nthC ws n
theorem nthC_mem {w : Cond} : ∀ (l : List Cond) (n : Nat), nthC l n = some w → w ∈ l
  | [], _, h => by cases h
  | a :: l, 0, h => by cases h; exact List.mem_cons_self
  | a :: l, n + 1, h => List.mem_cons_of_mem _ (nthC_mem l n h)
theorem inT_r {w : Cond} (k p : Nat) (h : nthC (tabs k) p = some w) : w ∈ lw_tbl := tabs_mem k (nthC_mem _ _ h)
def inT (w : Cond) (p : Nat × Nat) : Bool := decide (nthC (tabs p.1) p.2 = some w)
theorem inT_mem {w : Cond} {p : Nat × Nat} (h : inT w p = true) : w ∈ lw_tbl := inT_r p.1 p.2 (of_decide_eq_true h)
def inTs : List Cond → List (Nat × Nat) → Bool
  | [], _ => true
  | w :: ws, p :: ps => inT w p && inTs ws ps
  | _, _ => false
theorem inTs_mem {ws : List Cond} : ∀ {ps : List (Nat × Nat)}, inTs ws ps = true → ∀ w ∈ ws, w ∈ lw_tbl := by
  induction ws with
  | nil => intro ps _ w hw; cases hw
  | cons a ws ih =>
    intro ps h w hw
    cases ps with
    | nil => simp [inTs] at h
    | cons p ps =>
      simp only [inTs, Bool.and_eq_true] at h
      rcases List.mem_cons.mp hw with rfl | h1
      · exact inT_mem h.1
      · exact ih h.2 w h1
/-- the words that outlast a call -/
def lw_g : List Cond := lw_tbl.filter goodWord
theorem lw_g_of {w : Cond} (h : w ∈ lw_tbl) (hg : goodWord w = true) : w ∈ lw_g := List.mem_filter.mpr ⟨h, hg⟩
theorem lw_g_good : GoodIn lw_g lw_g := fun w h => ⟨h, good_of_word (List.mem_filter.mp h).2⟩
def mneed (r : MT) : List Cond := .initialized r.1.cls :: (match r.2.2.2.2.1 with
  | 0 => [.static r.1]
  | 1 => [.instanceMethod r.1, .selects r.1.cls r.1 r.1]
  | _ => [.instanceMethod r.1])
def mok (r : MT) (ps : List (Nat × Nat)) : Bool := inTs (mneed r) ps && (mneed r).all goodWord && Jvm.plainName r.1.cls && decide (r.1.cls ≠ "java/lang/invoke/MethodHandle") && decide (r.1.cls ≠ "java/lang/invoke/VarHandle") && Nat.ble r.2.2.1 45 && (match r.2.2.2.2.1 with
  | 0 => decide (r.1.name ≠ "<init>")
  | 1 => decide (r.1.name ≠ "<init>")
  | _ => decide (r.1.name = "<init>") && decide (r.2.2.2.1 = none))
def moks : List MT → List (List (Nat × Nat)) → Bool
  | r :: rs, p :: ps => mok r p && moks rs ps
  | [], [] => true
  | _, _ => false
/-- what is known of a method of the table that may be called -/
def MokP (r : MT) : Prop := (∀ w ∈ mneed r, w ∈ lw_g) ∧ Jvm.plainName r.1.cls = true ∧ (r.1.cls ≠ "java/lang/invoke/MethodHandle" ∧ r.1.cls ≠ "java/lang/invoke/VarHandle") ∧ r.2.2.1 ≤ 45 ∧ (r.2.2.2.2.1 = 2 → r.1.name = "<init>" ∧ r.2.2.2.1 = none)
theorem mok_P {r : MT} {p : List (Nat × Nat)} (h : mok r p = true) : MokP r := by
  simp only [mok, Bool.and_eq_true, decide_eq_true_eq] at h
  obtain ⟨⟨⟨⟨⟨⟨h1, h2⟩, h3⟩, h4⟩, h5⟩, h6⟩, h7⟩ := h
  refine ⟨fun w hw => lw_g_of (inTs_mem h1 w hw) (List.all_eq_true.mp h2 w hw), h3, ⟨h4, h5⟩, Nat.le_of_ble_eq_true h6, fun e => ?_⟩
  rw [e] at h7
  simp only [Bool.and_eq_true, decide_eq_true_eq] at h7
  exact h7
theorem moks_P : ∀ {rs : List MT} {ps : List (List (Nat × Nat))}, moks rs ps = true → ∀ r ∈ rs, MokP r := by
  intro rs
  induction rs with
  | nil => intro ps _ r hr; cases hr
  | cons a rs ih =>
    intro ps h r hr
    cases ps with
    | nil => cases h
    | cons p ps =>
      simp only [moks, Bool.and_eq_true] at h
      rcases List.mem_cons.mp hr with rfl | h1
      · exact mok_P h.1
      · exact ih h.2 r h1
def CodeIn (r : MT) : Prop := Cond.code r.1 r.2.1 r.2.2.1 r.2.2.2.1 ∈ lw_tbl
theorem mcode_0 : ∀ r ∈ mtl_0, CodeIn r := List.forall_mem_cons.mpr ⟨inT_r 0 116 rfl, List.forall_mem_cons.mpr ⟨inT_r 2 81 rfl, List.forall_mem_cons.mpr ⟨inT_r 2 173 rfl, List.forall_mem_cons.mpr ⟨inT_r 2 125 rfl, List.forall_mem_cons.mpr ⟨inT_r 3 26 rfl, List.forall_mem_cons.mpr ⟨inT_r 3 29 rfl, List.forall_mem_cons.mpr ⟨inT_r 3 101 rfl, List.forall_mem_cons.mpr ⟨inT_r 3 117 rfl, List.forall_mem_cons.mpr ⟨inT_r 3 120 rfl, List.forall_mem_cons.mpr ⟨inT_r 3 130 rfl, List.forall_mem_cons.mpr ⟨inT_r 3 127 rfl, List.forall_mem_cons.mpr ⟨inT_r 3 133 rfl, List.forall_mem_cons.mpr ⟨inT_r 3 145 rfl, List.forall_mem_cons.mpr ⟨inT_r 3 152 rfl, List.forall_mem_cons.mpr ⟨inT_r 3 148 rfl, List.forall_mem_cons.mpr ⟨inT_r 3 155 rfl, List.forall_mem_cons.mpr ⟨inT_r 3 162 rfl, List.forall_mem_cons.mpr ⟨inT_r 4 7 rfl, List.forall_mem_cons.mpr ⟨inT_r 4 11 rfl, List.forall_mem_cons.mpr ⟨inT_r 4 14 rfl, fun _ h => absurd h List.not_mem_nil⟩⟩⟩⟩⟩⟩⟩⟩⟩⟩⟩⟩⟩⟩⟩⟩⟩⟩⟩⟩
set_option maxRecDepth 100000 in
theorem mok_0 : moks mtl_0 [[(0, 4), (0, 115)], [(0, 4), (2, 79), (2, 80)], [(0, 4), (2, 171), (2, 172)], [(0, 4), (2, 123), (2, 124)], [(0, 19), (3, 25)], [(0, 19), (3, 28)], [(0, 19), (3, 100)], [(0, 19), (3, 116)], [(0, 19), (3, 119)], [(0, 19), (3, 129)], [(0, 19), (3, 126)], [(0, 19), (3, 132)], [(0, 19), (3, 144)], [(0, 19), (3, 151)], [(0, 19), (3, 147)], [(0, 19), (3, 154)], [(0, 19), (3, 161)], [(0, 19), (4, 6)], [(0, 19), (4, 10)], [(0, 19), (4, 13)]] = true := by decide +kernel
theorem mcode_1 : ∀ r ∈ mtl_1, CodeIn r := List.forall_mem_cons.mpr ⟨inT_r 4 17 rfl, List.forall_mem_cons.mpr ⟨inT_r 4 21 rfl, List.forall_mem_cons.mpr ⟨inT_r 4 24 rfl, List.forall_mem_cons.mpr ⟨inT_r 4 31 rfl, List.forall_mem_cons.mpr ⟨inT_r 4 35 rfl, List.forall_mem_cons.mpr ⟨inT_r 4 39 rfl, List.forall_mem_cons.mpr ⟨inT_r 4 42 rfl, List.forall_mem_cons.mpr ⟨inT_r 4 45 rfl, List.forall_mem_cons.mpr ⟨inT_r 4 50 rfl, List.forall_mem_cons.mpr ⟨inT_r 4 53 rfl, List.forall_mem_cons.mpr ⟨inT_r 4 59 rfl, List.forall_mem_cons.mpr ⟨inT_r 4 56 rfl, List.forall_mem_cons.mpr ⟨inT_r 4 64 rfl, List.forall_mem_cons.mpr ⟨inT_r 4 67 rfl, List.forall_mem_cons.mpr ⟨inT_r 4 75 rfl, List.forall_mem_cons.mpr ⟨inT_r 4 72 rfl, List.forall_mem_cons.mpr ⟨inT_r 4 126 rfl, List.forall_mem_cons.mpr ⟨inT_r 0 141 rfl, List.forall_mem_cons.mpr ⟨inT_r 2 77 rfl, List.forall_mem_cons.mpr ⟨inT_r 2 135 rfl, fun _ h => absurd h List.not_mem_nil⟩⟩⟩⟩⟩⟩⟩⟩⟩⟩⟩⟩⟩⟩⟩⟩⟩⟩⟩⟩
set_option maxRecDepth 100000 in
theorem mok_1 : moks mtl_1 [[(0, 19), (4, 16)], [(0, 19), (4, 20)], [(0, 19), (4, 23)], [(0, 19), (4, 30)], [(0, 19), (4, 34)], [(0, 19), (4, 38)], [(0, 19), (4, 41)], [(0, 19), (4, 44)], [(0, 19), (4, 49)], [(0, 19), (4, 52)], [(0, 19), (4, 58)], [(0, 19), (4, 55)], [(0, 19), (4, 63)], [(0, 19), (4, 66)], [(0, 19), (4, 74)], [(0, 19), (4, 71)], [(0, 19), (4, 125)], [(0, 6), (0, 140)], [(0, 6), (2, 75), (2, 76)], [(0, 6), (2, 133), (2, 134)]] = true := by decide +kernel
theorem mcode_2 : ∀ r ∈ mtl_2, CodeIn r := List.forall_mem_cons.mpr ⟨inT_r 1 93 rfl, List.forall_mem_cons.mpr ⟨inT_r 3 64 rfl, List.forall_mem_cons.mpr ⟨inT_r 3 90 rfl, List.forall_mem_cons.mpr ⟨inT_r 3 69 rfl, List.forall_mem_cons.mpr ⟨inT_r 3 73 rfl, List.forall_mem_cons.mpr ⟨inT_r 3 43 rfl, List.forall_mem_cons.mpr ⟨inT_r 3 60 rfl, List.forall_mem_cons.mpr ⟨inT_r 3 85 rfl, List.forall_mem_cons.mpr ⟨inT_r 3 77 rfl, List.forall_mem_cons.mpr ⟨inT_r 3 81 rfl, List.forall_mem_cons.mpr ⟨inT_r 4 92 rfl, List.forall_mem_cons.mpr ⟨inT_r 4 96 rfl, List.forall_mem_cons.mpr ⟨inT_r 3 94 rfl, List.forall_mem_cons.mpr ⟨inT_r 3 187 rfl, List.forall_mem_cons.mpr ⟨inT_r 3 212 rfl, List.forall_mem_cons.mpr ⟨inT_r 3 208 rfl, List.forall_mem_cons.mpr ⟨inT_r 3 195 rfl, List.forall_mem_cons.mpr ⟨inT_r 3 200 rfl, List.forall_mem_cons.mpr ⟨inT_r 3 191 rfl, List.forall_mem_cons.mpr ⟨inT_r 3 216 rfl, fun _ h => absurd h List.not_mem_nil⟩⟩⟩⟩⟩⟩⟩⟩⟩⟩⟩⟩⟩⟩⟩⟩⟩⟩⟩⟩
set_option maxRecDepth 100000 in
theorem mok_2 : moks mtl_2 [[(0, 10), (1, 92)], [(0, 10), (3, 63), (9, 8)], [(0, 10), (3, 89), (9, 14)], [(0, 10), (3, 68), (9, 9)], [(0, 10), (3, 72), (9, 10)], [(0, 10), (3, 41), (3, 42)], [(0, 10), (3, 59), (9, 7)], [(0, 10), (3, 84), (9, 13)], [(0, 10), (3, 76), (9, 11)], [(0, 10), (3, 80), (9, 12)], [(0, 10), (4, 90), (4, 91)], [(0, 10), (4, 95), (10, 8)], [(0, 10), (3, 92), (3, 93)], [(0, 10), (3, 185), (3, 186)], [(0, 10), (3, 211), (10, 3)], [(0, 10), (3, 207), (10, 2)], [(0, 10), (3, 194), (10, 0)], [(0, 10), (3, 199), (10, 1)], [(0, 10), (3, 190), (9, 15)], [(0, 10), (3, 215), (10, 4)]] = true := by decide +kernel
theorem mcode_3 : ∀ r ∈ mtl_3, CodeIn r := List.forall_mem_cons.mpr ⟨inT_r 3 220 rfl, List.forall_mem_cons.mpr ⟨inT_r 0 131 rfl, List.forall_mem_cons.mpr ⟨inT_r 1 172 rfl, List.forall_mem_cons.mpr ⟨inT_r 2 130 rfl, List.forall_mem_cons.mpr ⟨inT_r 3 51 rfl, List.forall_mem_cons.mpr ⟨inT_r 4 108 rfl, List.forall_mem_cons.mpr ⟨inT_r 3 56 rfl, List.forall_mem_cons.mpr ⟨inT_r 3 47 rfl, List.forall_mem_cons.mpr ⟨inT_r 4 104 rfl, List.forall_mem_cons.mpr ⟨inT_r 4 112 rfl, List.forall_mem_cons.mpr ⟨inT_r 0 203 rfl, List.forall_mem_cons.mpr ⟨inT_r 1 160 rfl, List.forall_mem_cons.mpr ⟨inT_r 1 164 rfl, List.forall_mem_cons.mpr ⟨inT_r 1 204 rfl, List.forall_mem_cons.mpr ⟨inT_r 1 208 rfl, List.forall_mem_cons.mpr ⟨inT_r 1 213 rfl, List.forall_mem_cons.mpr ⟨inT_r 2 42 rfl, List.forall_mem_cons.mpr ⟨inT_r 2 53 rfl, List.forall_mem_cons.mpr ⟨inT_r 2 46 rfl, List.forall_mem_cons.mpr ⟨inT_r 2 61 rfl, fun _ h => absurd h List.not_mem_nil⟩⟩⟩⟩⟩⟩⟩⟩⟩⟩⟩⟩⟩⟩⟩⟩⟩⟩⟩⟩
set_option maxRecDepth 100000 in
theorem mok_3 : moks mtl_3 [[(0, 10), (3, 219), (10, 5)], [(0, 5), (0, 130)], [(0, 5), (1, 170), (1, 171)], [(0, 5), (2, 128), (2, 129)], [(0, 5), (3, 49), (3, 50)], [(0, 5), (4, 106), (4, 107)], [(0, 5), (3, 54), (3, 55)], [(0, 5), (3, 45), (3, 46)], [(0, 5), (4, 102), (4, 103)], [(0, 5), (4, 110), (4, 111)], [(0, 7), (0, 202)], [(0, 7), (1, 158), (1, 159)], [(0, 7), (1, 163), (8, 0)], [(0, 7), (1, 203), (8, 3)], [(0, 7), (1, 207), (8, 4)], [(0, 7), (1, 212)], [(0, 7), (2, 41), (8, 5)], [(0, 7), (2, 52), (8, 7)], [(0, 7), (2, 45), (8, 6)], [(0, 7), (2, 60), (8, 8)]] = true := by decide +kernel
theorem mcode_4 : ∀ r ∈ mtl_4, CodeIn r := List.forall_mem_cons.mpr ⟨inT_r 2 65 rfl, List.forall_mem_cons.mpr ⟨inT_r 2 69 rfl, List.forall_mem_cons.mpr ⟨inT_r 2 73 rfl, List.forall_mem_cons.mpr ⟨inT_r 2 89 rfl, List.forall_mem_cons.mpr ⟨inT_r 2 93 rfl, List.forall_mem_cons.mpr ⟨inT_r 0 45 rfl, List.forall_mem_cons.mpr ⟨inT_r 1 168 rfl, List.forall_mem_cons.mpr ⟨inT_r 2 118 rfl, List.forall_mem_cons.mpr ⟨inT_r 2 85 rfl, List.forall_mem_cons.mpr ⟨inT_r 2 97 rfl, List.forall_mem_cons.mpr ⟨inT_r 2 157 rfl, List.forall_mem_cons.mpr ⟨inT_r 3 18 rfl, List.forall_mem_cons.mpr ⟨inT_r 2 238 rfl, List.forall_mem_cons.mpr ⟨inT_r 3 204 rfl, List.forall_mem_cons.mpr ⟨inT_r 3 105 rfl, List.forall_mem_cons.mpr ⟨inT_r 3 109 rfl, List.forall_mem_cons.mpr ⟨inT_r 2 109 rfl, List.forall_mem_cons.mpr ⟨inT_r 3 179 rfl, List.forall_mem_cons.mpr ⟨inT_r 2 161 rfl, List.forall_mem_cons.mpr ⟨inT_r 2 105 rfl, fun _ h => absurd h List.not_mem_nil⟩⟩⟩⟩⟩⟩⟩⟩⟩⟩⟩⟩⟩⟩⟩⟩⟩⟩⟩⟩
set_option maxRecDepth 100000 in
theorem mok_4 : moks mtl_4 [[(0, 7), (2, 64), (8, 9)], [(0, 7), (2, 68), (8, 10)], [(0, 7), (2, 72), (8, 11)], [(0, 7), (2, 88), (8, 12)], [(0, 7), (2, 92), (8, 13)], [(0, 3), (0, 44)], [(0, 3), (1, 166), (1, 167)], [(0, 3), (2, 116), (2, 117)], [(0, 3), (2, 83), (2, 84)], [(0, 3), (2, 95), (2, 96)], [(0, 3), (2, 155), (2, 156)], [(0, 3), (3, 16), (3, 17)], [(0, 3), (2, 236), (2, 237)], [(0, 3), (3, 202), (3, 203)], [(0, 3), (3, 103), (3, 104)], [(0, 3), (3, 107), (3, 108)], [(0, 3), (2, 108), (8, 14)], [(0, 6), (3, 177), (3, 178)], [(0, 3), (2, 159), (2, 160)], [(0, 3), (2, 103), (2, 104)]] = true := by decide +kernel
theorem mcode_5 : ∀ r ∈ mtl_5, CodeIn r := List.forall_mem_cons.mpr ⟨inT_r 2 101 rfl, List.forall_mem_cons.mpr ⟨inT_r 2 214 rfl, List.forall_mem_cons.mpr ⟨inT_r 2 222 rfl, List.forall_mem_cons.mpr ⟨inT_r 2 226 rfl, List.forall_mem_cons.mpr ⟨inT_r 2 153 rfl, List.forall_mem_cons.mpr ⟨inT_r 0 217 rfl, List.forall_mem_cons.mpr ⟨inT_r 1 176 rfl, List.forall_mem_cons.mpr ⟨inT_r 1 183 rfl, List.forall_mem_cons.mpr ⟨inT_r 1 193 rfl, List.forall_mem_cons.mpr ⟨inT_r 1 200 rfl, List.forall_mem_cons.mpr ⟨inT_r 1 230 rfl, List.forall_mem_cons.mpr ⟨inT_r 1 186 rfl, List.forall_mem_cons.mpr ⟨inT_r 1 189 rfl, List.forall_mem_cons.mpr ⟨inT_r 1 196 rfl, List.forall_mem_cons.mpr ⟨inT_r 0 32 rfl, List.forall_mem_cons.mpr ⟨inT_r 4 152 rfl, List.forall_mem_cons.mpr ⟨inT_r 1 140 rfl, List.forall_mem_cons.mpr ⟨inT_r 1 156 rfl, List.forall_mem_cons.mpr ⟨inT_r 1 152 rfl, List.forall_mem_cons.mpr ⟨inT_r 2 113 rfl, fun _ h => absurd h List.not_mem_nil⟩⟩⟩⟩⟩⟩⟩⟩⟩⟩⟩⟩⟩⟩⟩⟩⟩⟩⟩⟩
set_option maxRecDepth 100000 in
theorem mok_5 : moks mtl_5 [[(0, 3), (2, 99), (2, 100)], [(0, 3), (2, 212), (2, 213)], [(0, 3), (2, 220), (2, 221)], [(0, 3), (2, 224), (2, 225)], [(0, 3), (2, 151), (2, 152)], [(0, 8), (0, 216)], [(0, 8), (1, 174), (1, 175)], [(0, 8), (1, 181), (1, 182)], [(0, 8), (1, 192), (8, 1)], [(0, 8), (1, 199), (8, 2)], [(0, 8), (1, 228), (1, 229)], [(0, 8), (1, 185)], [(0, 8), (1, 188)], [(0, 8), (1, 195)], [(0, 2), (0, 31)], [(0, 2), (4, 150), (4, 151)], [(0, 2), (1, 138), (1, 139)], [(0, 2), (1, 154), (1, 155)], [(0, 2), (1, 150), (1, 151)], [(0, 2), (2, 111), (2, 112)]] = true := by decide +kernel
theorem mcode_6 : ∀ r ∈ mtl_6, CodeIn r := List.forall_mem_cons.mpr ⟨inT_r 2 149 rfl, List.forall_mem_cons.mpr ⟨inT_r 2 169 rfl, List.forall_mem_cons.mpr ⟨inT_r 3 39 rfl, List.forall_mem_cons.mpr ⟨inT_r 3 175 rfl, List.forall_mem_cons.mpr ⟨inT_r 1 45 rfl, List.forall_mem_cons.mpr ⟨inT_r 2 181 rfl, List.forall_mem_cons.mpr ⟨inT_r 2 185 rfl, List.forall_mem_cons.mpr ⟨inT_r 3 229 rfl, List.forall_mem_cons.mpr ⟨inT_r 4 0 rfl, List.forall_mem_cons.mpr ⟨inT_r 3 235 rfl, List.forall_mem_cons.mpr ⟨inT_r 3 235 rfl, List.forall_mem_cons.mpr ⟨inT_r 2 190 rfl, List.forall_mem_cons.mpr ⟨inT_r 2 194 rfl, List.forall_mem_cons.mpr ⟨inT_r 2 205 rfl, List.forall_mem_cons.mpr ⟨inT_r 2 218 rfl, List.forall_mem_cons.mpr ⟨inT_r 2 230 rfl, List.forall_mem_cons.mpr ⟨inT_r 2 234 rfl, List.forall_mem_cons.mpr ⟨inT_r 2 209 rfl, List.forall_mem_cons.mpr ⟨inT_r 3 10 rfl, List.forall_mem_cons.mpr ⟨inT_r 4 135 rfl, fun _ h => absurd h List.not_mem_nil⟩⟩⟩⟩⟩⟩⟩⟩⟩⟩⟩⟩⟩⟩⟩⟩⟩⟩⟩⟩
set_option maxRecDepth 100000 in
theorem mok_6 : moks mtl_6 [[(0, 2), (2, 147), (2, 148)], [(0, 2), (2, 167), (2, 168)], [(0, 2), (3, 37), (3, 38)], [(0, 2), (3, 173), (3, 174)], [(0, 9), (1, 44)], [(0, 9), (2, 179), (2, 180)], [(0, 9), (2, 183), (2, 184)], [(0, 9), (3, 227), (3, 228)], [(0, 9), (3, 239), (10, 7)], [(0, 9), (3, 234), (10, 6)], [(0, 9), (3, 234), (10, 6)], [(0, 9), (2, 189), (8, 15)], [(0, 9), (2, 193), (9, 0)], [(0, 9), (2, 204), (9, 1)], [(0, 9), (2, 217), (9, 3)], [(0, 9), (2, 229), (9, 4)], [(0, 9), (2, 233), (9, 5)], [(0, 9), (2, 208), (9, 2)], [(0, 9), (3, 8), (3, 9)], [(0, 9), (4, 133), (4, 134)]] = true := by decide +kernel
theorem mcode_7 : ∀ r ∈ mtl_7, CodeIn r := List.forall_mem_cons.mpr ⟨inT_r 4 140 rfl, List.forall_mem_cons.mpr ⟨inT_r 3 6 rfl, List.forall_mem_cons.mpr ⟨inT_r 3 14 rfl, List.forall_mem_cons.mpr ⟨inT_r 0 24 rfl, List.forall_mem_cons.mpr ⟨inT_r 1 136 rfl, List.forall_mem_cons.mpr ⟨inT_r 1 144 rfl, List.forall_mem_cons.mpr ⟨inT_r 1 148 rfl, List.forall_mem_cons.mpr ⟨inT_r 2 141 rfl, List.forall_mem_cons.mpr ⟨inT_r 2 145 rfl, List.forall_mem_cons.mpr ⟨inT_r 2 165 rfl, List.forall_mem_cons.mpr ⟨inT_r 2 177 rfl, List.forall_mem_cons.mpr ⟨inT_r 3 2 rfl, List.forall_mem_cons.mpr ⟨inT_r 3 22 rfl, List.forall_mem_cons.mpr ⟨inT_r 3 35 rfl, List.forall_mem_cons.mpr ⟨inT_r 3 98 rfl, List.forall_mem_cons.mpr ⟨inT_r 3 114 rfl, List.forall_mem_cons.mpr ⟨inT_r 3 124 rfl, List.forall_mem_cons.mpr ⟨inT_r 3 141 rfl, List.forall_mem_cons.mpr ⟨inT_r 3 159 rfl, List.forall_mem_cons.mpr ⟨inT_r 3 166 rfl, fun _ h => absurd h List.not_mem_nil⟩⟩⟩⟩⟩⟩⟩⟩⟩⟩⟩⟩⟩⟩⟩⟩⟩⟩⟩⟩
set_option maxRecDepth 100000 in
theorem mok_7 : moks mtl_7 [[(0, 9), (4, 138), (4, 139)], [(0, 9), (3, 4), (3, 5)], [(0, 9), (3, 13), (9, 6)], [(0, 1), (0, 23)], [(0, 1), (1, 134), (1, 135)], [(0, 1), (1, 142), (1, 143)], [(0, 1), (1, 146), (1, 147)], [(0, 1), (2, 139), (2, 140)], [(0, 1), (2, 143), (2, 144)], [(0, 1), (2, 163), (2, 164)], [(0, 1), (2, 175), (2, 176)], [(0, 1), (3, 0), (3, 1)], [(0, 1), (3, 20), (3, 21)], [(0, 1), (3, 33), (3, 34)], [(0, 1), (3, 96), (3, 97)], [(0, 1), (3, 112), (3, 113)], [(0, 1), (3, 122), (3, 123)], [(0, 1), (3, 139), (3, 140)], [(0, 1), (3, 157), (3, 158)], [(0, 1), (3, 164), (3, 165)]] = true := by decide +kernel
theorem mcode_8 : ∀ r ∈ mtl_8, CodeIn r := List.forall_mem_cons.mpr ⟨inT_r 3 171 rfl, List.forall_mem_cons.mpr ⟨inT_r 3 183 rfl, List.forall_mem_cons.mpr ⟨inT_r 3 225 rfl, List.forall_mem_cons.mpr ⟨inT_r 4 4 rfl, List.forall_mem_cons.mpr ⟨inT_r 4 28 rfl, List.forall_mem_cons.mpr ⟨inT_r 4 79 rfl, List.forall_mem_cons.mpr ⟨inT_r 4 83 rfl, List.forall_mem_cons.mpr ⟨inT_r 4 88 rfl, List.forall_mem_cons.mpr ⟨inT_r 4 100 rfl, List.forall_mem_cons.mpr ⟨inT_r 4 116 rfl, List.forall_mem_cons.mpr ⟨inT_r 4 123 rfl, List.forall_mem_cons.mpr ⟨inT_r 4 131 rfl, List.forall_mem_cons.mpr ⟨inT_r 4 144 rfl, List.forall_mem_cons.mpr ⟨inT_r 4 148 rfl, List.forall_mem_cons.mpr ⟨inT_r 4 157 rfl, List.forall_mem_cons.mpr ⟨inT_r 4 162 rfl, List.forall_mem_cons.mpr ⟨inT_r 5 94 rfl, List.forall_mem_cons.mpr ⟨inT_r 5 228 rfl, List.forall_mem_cons.mpr ⟨inT_r 5 160 rfl, List.forall_mem_cons.mpr ⟨inT_r 5 142 rfl, fun _ h => absurd h List.not_mem_nil⟩⟩⟩⟩⟩⟩⟩⟩⟩⟩⟩⟩⟩⟩⟩⟩⟩⟩⟩⟩
set_option maxRecDepth 100000 in
theorem mok_8 : moks mtl_8 [[(0, 1), (3, 169), (3, 170)], [(0, 1), (3, 181), (3, 182)], [(0, 1), (3, 223), (3, 224)], [(0, 1), (4, 2), (4, 3)], [(0, 1), (4, 26), (4, 27)], [(0, 1), (4, 77), (4, 78)], [(0, 1), (4, 81), (4, 82)], [(0, 1), (4, 86), (4, 87)], [(0, 1), (4, 98), (4, 99)], [(0, 1), (4, 114), (4, 115)], [(0, 1), (4, 121), (4, 122)], [(0, 1), (4, 129), (4, 130)], [(0, 1), (4, 142), (4, 143)], [(0, 1), (4, 146), (4, 147)], [(0, 1), (4, 155), (4, 156)], [(0, 11), (4, 161)], [(0, 11), (5, 93)], [(0, 11), (5, 227)], [(0, 11), (5, 159)], [(0, 11), (5, 141)]] = true := by decide +kernel
theorem mcode_9 : ∀ r ∈ mtl_9, CodeIn r := List.forall_mem_cons.mpr ⟨inT_r 6 103 rfl, List.forall_mem_cons.mpr ⟨inT_r 7 150 rfl, List.forall_mem_cons.mpr ⟨inT_r 7 147 rfl, List.forall_mem_cons.mpr ⟨inT_r 5 102 rfl, List.forall_mem_cons.mpr ⟨inT_r 5 83 rfl, List.forall_mem_cons.mpr ⟨inT_r 5 87 rfl, List.forall_mem_cons.mpr ⟨inT_r 5 91 rfl, List.forall_mem_cons.mpr ⟨inT_r 5 114 rfl, List.forall_mem_cons.mpr ⟨inT_r 5 110 rfl, List.forall_mem_cons.mpr ⟨inT_r 5 153 rfl, List.forall_mem_cons.mpr ⟨inT_r 5 139 rfl, List.forall_mem_cons.mpr ⟨inT_r 5 157 rfl, List.forall_mem_cons.mpr ⟨inT_r 5 135 rfl, List.forall_mem_cons.mpr ⟨inT_r 5 146 rfl, List.forall_mem_cons.mpr ⟨inT_r 5 131 rfl, List.forall_mem_cons.mpr ⟨inT_r 5 126 rfl, List.forall_mem_cons.mpr ⟨inT_r 5 168 rfl, List.forall_mem_cons.mpr ⟨inT_r 5 178 rfl, List.forall_mem_cons.mpr ⟨inT_r 5 164 rfl, List.forall_mem_cons.mpr ⟨inT_r 5 182 rfl, fun _ h => absurd h List.not_mem_nil⟩⟩⟩⟩⟩⟩⟩⟩⟩⟩⟩⟩⟩⟩⟩⟩⟩⟩⟩⟩
set_option maxRecDepth 100000 in
theorem mok_9 : moks mtl_9 [[(0, 11), (6, 102)], [(0, 11), (7, 149)], [(0, 11), (7, 146), (16, 10)], [(0, 11), (5, 101), (10, 10)], [(0, 11), (5, 81), (5, 82)], [(0, 11), (5, 86), (10, 9)], [(0, 11), (5, 89), (5, 90)], [(0, 11), (5, 113), (10, 13)], [(0, 11), (5, 109), (10, 12)], [(0, 11), (5, 152), (11, 5)], [(0, 11), (5, 138), (11, 3)], [(0, 11), (5, 156), (11, 6)], [(0, 11), (5, 134), (11, 2)], [(0, 11), (5, 145), (11, 4)], [(0, 11), (5, 130), (11, 1)], [(0, 11), (5, 125), (11, 0)], [(0, 11), (5, 167), (11, 8)], [(0, 11), (5, 177), (11, 9)], [(0, 11), (5, 163), (11, 7)], [(0, 11), (5, 181), (11, 10)]] = true := by decide +kernel
theorem mcode_10 : ∀ r ∈ mtl_10, CodeIn r := List.forall_mem_cons.mpr ⟨inT_r 5 187 rfl, List.forall_mem_cons.mpr ⟨inT_r 5 122 rfl, List.forall_mem_cons.mpr ⟨inT_r 5 118 rfl, List.forall_mem_cons.mpr ⟨inT_r 5 193 rfl, List.forall_mem_cons.mpr ⟨inT_r 5 106 rfl, List.forall_mem_cons.mpr ⟨inT_r 5 201 rfl, List.forall_mem_cons.mpr ⟨inT_r 5 197 rfl, List.forall_mem_cons.mpr ⟨inT_r 5 98 rfl, List.forall_mem_cons.mpr ⟨inT_r 5 205 rfl, List.forall_mem_cons.mpr ⟨inT_r 5 217 rfl, List.forall_mem_cons.mpr ⟨inT_r 5 213 rfl, List.forall_mem_cons.mpr ⟨inT_r 5 225 rfl, List.forall_mem_cons.mpr ⟨inT_r 5 221 rfl, List.forall_mem_cons.mpr ⟨inT_r 6 8 rfl, List.forall_mem_cons.mpr ⟨inT_r 6 92 rfl, List.forall_mem_cons.mpr ⟨inT_r 6 0 rfl, List.forall_mem_cons.mpr ⟨inT_r 6 4 rfl, List.forall_mem_cons.mpr ⟨inT_r 5 236 rfl, List.forall_mem_cons.mpr ⟨inT_r 5 232 rfl, List.forall_mem_cons.mpr ⟨inT_r 6 60 rfl, fun _ h => absurd h List.not_mem_nil⟩⟩⟩⟩⟩⟩⟩⟩⟩⟩⟩⟩⟩⟩⟩⟩⟩⟩⟩⟩
set_option maxRecDepth 100000 in
theorem mok_10 : moks mtl_10 [[(0, 11), (5, 186), (11, 11)], [(0, 11), (5, 121), (10, 15)], [(0, 11), (5, 117), (10, 14)], [(0, 11), (5, 192), (11, 12)], [(0, 11), (5, 105), (10, 11)], [(0, 11), (5, 200), (11, 14)], [(0, 11), (5, 196), (11, 13)], [(0, 11), (5, 96), (5, 97)], [(0, 11), (5, 203), (5, 204)], [(0, 11), (5, 216), (12, 0)], [(0, 11), (5, 212), (11, 15)], [(0, 11), (5, 224), (12, 2)], [(0, 11), (5, 220), (12, 1)], [(0, 11), (6, 7), (12, 7)], [(0, 11), (6, 91), (13, 9)], [(0, 11), (5, 239), (12, 5)], [(0, 11), (6, 3), (12, 6)], [(0, 11), (5, 235), (12, 4)], [(0, 11), (5, 231), (12, 3)], [(0, 11), (6, 59), (13, 2)]] = true := by decide +kernel
theorem mcode_11 : ∀ r ∈ mtl_11, CodeIn r := List.forall_mem_cons.mpr ⟨inT_r 5 209 rfl, List.forall_mem_cons.mpr ⟨inT_r 6 20 rfl, List.forall_mem_cons.mpr ⟨inT_r 6 24 rfl, List.forall_mem_cons.mpr ⟨inT_r 6 16 rfl, List.forall_mem_cons.mpr ⟨inT_r 6 12 rfl, List.forall_mem_cons.mpr ⟨inT_r 6 56 rfl, List.forall_mem_cons.mpr ⟨inT_r 6 64 rfl, List.forall_mem_cons.mpr ⟨inT_r 6 52 rfl, List.forall_mem_cons.mpr ⟨inT_r 6 68 rfl, List.forall_mem_cons.mpr ⟨inT_r 6 72 rfl, List.forall_mem_cons.mpr ⟨inT_r 6 76 rfl, List.forall_mem_cons.mpr ⟨inT_r 6 80 rfl, List.forall_mem_cons.mpr ⟨inT_r 6 48 rfl, List.forall_mem_cons.mpr ⟨inT_r 6 44 rfl, List.forall_mem_cons.mpr ⟨inT_r 6 40 rfl, List.forall_mem_cons.mpr ⟨inT_r 6 36 rfl, List.forall_mem_cons.mpr ⟨inT_r 6 32 rfl, List.forall_mem_cons.mpr ⟨inT_r 6 28 rfl, List.forall_mem_cons.mpr ⟨inT_r 6 96 rfl, List.forall_mem_cons.mpr ⟨inT_r 6 88 rfl, fun _ h => absurd h List.not_mem_nil⟩⟩⟩⟩⟩⟩⟩⟩⟩⟩⟩⟩⟩⟩⟩⟩⟩⟩⟩⟩
set_option maxRecDepth 100000 in
theorem mok_11 : moks mtl_11 [[(0, 11), (5, 207), (5, 208)], [(0, 11), (6, 19), (12, 9)], [(0, 11), (6, 23), (12, 10)], [(0, 11), (6, 15), (12, 8)], [(0, 11), (6, 10), (6, 11)], [(0, 11), (6, 55), (13, 1)], [(0, 11), (6, 63), (13, 3)], [(0, 11), (6, 51), (13, 0)], [(0, 11), (6, 67), (13, 4)], [(0, 11), (6, 71), (13, 5)], [(0, 11), (6, 75), (13, 6)], [(0, 11), (6, 79), (13, 7)], [(0, 11), (6, 47), (12, 15)], [(0, 11), (6, 43), (12, 14)], [(0, 11), (6, 39), (12, 13)], [(0, 11), (6, 35), (12, 12)], [(0, 11), (6, 31), (12, 11)], [(0, 11), (6, 26), (6, 27)], [(0, 11), (6, 95), (13, 10)], [(0, 11), (6, 87), (13, 8)]] = true := by decide +kernel
theorem mcode_12 : ∀ r ∈ mtl_12, CodeIn r := List.forall_mem_cons.mpr ⟨inT_r 6 84 rfl, List.forall_mem_cons.mpr ⟨inT_r 6 100 rfl, List.forall_mem_cons.mpr ⟨inT_r 6 111 rfl, List.forall_mem_cons.mpr ⟨inT_r 6 123 rfl, List.forall_mem_cons.mpr ⟨inT_r 6 135 rfl, List.forall_mem_cons.mpr ⟨inT_r 6 119 rfl, List.forall_mem_cons.mpr ⟨inT_r 6 127 rfl, List.forall_mem_cons.mpr ⟨inT_r 6 131 rfl, List.forall_mem_cons.mpr ⟨inT_r 6 139 rfl, List.forall_mem_cons.mpr ⟨inT_r 6 115 rfl, List.forall_mem_cons.mpr ⟨inT_r 6 107 rfl, List.forall_mem_cons.mpr ⟨inT_r 6 147 rfl, List.forall_mem_cons.mpr ⟨inT_r 6 143 rfl, List.forall_mem_cons.mpr ⟨inT_r 6 155 rfl, List.forall_mem_cons.mpr ⟨inT_r 6 151 rfl, List.forall_mem_cons.mpr ⟨inT_r 6 162 rfl, List.forall_mem_cons.mpr ⟨inT_r 6 166 rfl, List.forall_mem_cons.mpr ⟨inT_r 6 170 rfl, List.forall_mem_cons.mpr ⟨inT_r 6 159 rfl, List.forall_mem_cons.mpr ⟨inT_r 6 178 rfl, fun _ h => absurd h List.not_mem_nil⟩⟩⟩⟩⟩⟩⟩⟩⟩⟩⟩⟩⟩⟩⟩⟩⟩⟩⟩⟩
set_option maxRecDepth 100000 in
theorem mok_12 : moks mtl_12 [[(0, 11), (6, 82), (6, 83)], [(0, 11), (6, 98), (6, 99)], [(0, 11), (6, 110), (13, 11)], [(0, 11), (6, 122), (13, 14)], [(0, 11), (6, 134), (14, 1)], [(0, 11), (6, 118), (13, 13)], [(0, 11), (6, 126), (13, 15)], [(0, 11), (6, 130), (14, 0)], [(0, 11), (6, 138), (14, 2)], [(0, 11), (6, 114), (13, 12)], [(0, 11), (6, 105), (6, 106)], [(0, 11), (6, 146), (14, 3)], [(0, 11), (6, 141), (6, 142)], [(0, 11), (6, 154), (14, 4)], [(0, 11), (6, 149), (6, 150)], [(0, 11), (6, 161)], [(0, 11), (6, 165), (14, 5)], [(0, 11), (6, 169), (14, 6)], [(0, 11), (6, 157), (6, 158)], [(0, 11), (6, 177), (14, 7)]] = true := by decide +kernel
theorem mcode_13 : ∀ r ∈ mtl_13, CodeIn r := List.forall_mem_cons.mpr ⟨inT_r 6 181 rfl, List.forall_mem_cons.mpr ⟨inT_r 6 174 rfl, List.forall_mem_cons.mpr ⟨inT_r 6 185 rfl, List.forall_mem_cons.mpr ⟨inT_r 6 189 rfl, List.forall_mem_cons.mpr ⟨inT_r 6 205 rfl, List.forall_mem_cons.mpr ⟨inT_r 6 201 rfl, List.forall_mem_cons.mpr ⟨inT_r 6 197 rfl, List.forall_mem_cons.mpr ⟨inT_r 6 193 rfl, List.forall_mem_cons.mpr ⟨inT_r 6 217 rfl, List.forall_mem_cons.mpr ⟨inT_r 6 237 rfl, List.forall_mem_cons.mpr ⟨inT_r 6 233 rfl, List.forall_mem_cons.mpr ⟨inT_r 6 225 rfl, List.forall_mem_cons.mpr ⟨inT_r 6 221 rfl, List.forall_mem_cons.mpr ⟨inT_r 6 229 rfl, List.forall_mem_cons.mpr ⟨inT_r 6 213 rfl, List.forall_mem_cons.mpr ⟨inT_r 7 9 rfl, List.forall_mem_cons.mpr ⟨inT_r 7 5 rfl, List.forall_mem_cons.mpr ⟨inT_r 7 1 rfl, List.forall_mem_cons.mpr ⟨inT_r 6 209 rfl, List.forall_mem_cons.mpr ⟨inT_r 7 21 rfl, fun _ h => absurd h List.not_mem_nil⟩⟩⟩⟩⟩⟩⟩⟩⟩⟩⟩⟩⟩⟩⟩⟩⟩⟩⟩⟩
set_option maxRecDepth 100000 in
theorem mok_13 : moks mtl_13 [[(0, 11), (6, 180)], [(0, 11), (6, 172), (6, 173)], [(0, 11), (6, 183), (6, 184)], [(0, 11), (6, 187), (6, 188)], [(0, 11), (6, 204), (14, 10)], [(0, 11), (6, 200), (14, 9)], [(0, 11), (6, 196), (14, 8)], [(0, 11), (6, 191), (6, 192)], [(0, 11), (6, 216), (14, 12)], [(0, 11), (6, 236), (15, 1)], [(0, 11), (6, 232), (15, 0)], [(0, 11), (6, 224), (14, 14)], [(0, 11), (6, 220), (14, 13)], [(0, 11), (6, 228), (14, 15)], [(0, 11), (6, 212), (14, 11)], [(0, 11), (7, 8), (15, 4)], [(0, 11), (7, 4), (15, 3)], [(0, 11), (7, 0), (15, 2)], [(0, 11), (6, 207), (6, 208)], [(0, 11), (7, 20), (15, 6)]] = true := by decide +kernel
theorem mcode_14 : ∀ r ∈ mtl_14, CodeIn r := List.forall_mem_cons.mpr ⟨inT_r 7 17 rfl, List.forall_mem_cons.mpr ⟨inT_r 7 13 rfl, List.forall_mem_cons.mpr ⟨inT_r 7 34 rfl, List.forall_mem_cons.mpr ⟨inT_r 7 30 rfl, List.forall_mem_cons.mpr ⟨inT_r 7 38 rfl, List.forall_mem_cons.mpr ⟨inT_r 7 42 rfl, List.forall_mem_cons.mpr ⟨inT_r 7 26 rfl, List.forall_mem_cons.mpr ⟨inT_r 7 50 rfl, List.forall_mem_cons.mpr ⟨inT_r 7 54 rfl, List.forall_mem_cons.mpr ⟨inT_r 7 58 rfl, List.forall_mem_cons.mpr ⟨inT_r 7 62 rfl, List.forall_mem_cons.mpr ⟨inT_r 7 66 rfl, List.forall_mem_cons.mpr ⟨inT_r 7 74 rfl, List.forall_mem_cons.mpr ⟨inT_r 7 70 rfl, List.forall_mem_cons.mpr ⟨inT_r 7 83 rfl, List.forall_mem_cons.mpr ⟨inT_r 7 78 rfl, List.forall_mem_cons.mpr ⟨inT_r 7 91 rfl, List.forall_mem_cons.mpr ⟨inT_r 7 87 rfl, List.forall_mem_cons.mpr ⟨inT_r 7 46 rfl, List.forall_mem_cons.mpr ⟨inT_r 7 95 rfl, fun _ h => absurd h List.not_mem_nil⟩⟩⟩⟩⟩⟩⟩⟩⟩⟩⟩⟩⟩⟩⟩⟩⟩⟩⟩⟩
set_option maxRecDepth 100000 in
theorem mok_14 : moks mtl_14 [[(0, 11), (7, 16), (15, 5)], [(0, 11), (7, 11), (7, 12)], [(0, 11), (7, 33), (15, 8)], [(0, 11), (7, 29), (15, 7)], [(0, 11), (7, 37), (15, 9)], [(0, 11), (7, 41), (15, 10)], [(0, 11), (7, 24), (7, 25)], [(0, 11), (7, 49), (15, 11)], [(0, 11), (7, 53), (15, 12)], [(0, 11), (7, 57), (15, 13)], [(0, 11), (7, 61), (15, 14)], [(0, 11), (7, 65), (15, 15)], [(0, 11), (7, 73), (16, 1)], [(0, 11), (7, 69), (16, 0)], [(0, 11), (7, 82), (16, 3)], [(0, 11), (7, 77), (16, 2)], [(0, 11), (7, 90), (16, 5)], [(0, 11), (7, 86), (16, 4)], [(0, 11), (7, 44), (7, 45)], [(0, 11), (7, 93), (7, 94)]] = true := by decide +kernel
theorem mcode_15 : ∀ r ∈ mtl_15, CodeIn r := List.forall_mem_cons.mpr ⟨inT_r 7 99 rfl, List.forall_mem_cons.mpr ⟨inT_r 7 107 rfl, List.forall_mem_cons.mpr ⟨inT_r 7 103 rfl, List.forall_mem_cons.mpr ⟨inT_r 7 115 rfl, List.forall_mem_cons.mpr ⟨inT_r 7 111 rfl, List.forall_mem_cons.mpr ⟨inT_r 7 119 rfl, List.forall_mem_cons.mpr ⟨inT_r 7 123 rfl, List.forall_mem_cons.mpr ⟨inT_r 7 131 rfl, List.forall_mem_cons.mpr ⟨inT_r 7 135 rfl, List.forall_mem_cons.mpr ⟨inT_r 7 127 rfl, List.forall_mem_cons.mpr ⟨inT_r 7 139 rfl, List.forall_mem_cons.mpr ⟨inT_r 7 143 rfl, List.forall_mem_cons.mpr ⟨inT_r 7 154 rfl, List.forall_mem_cons.mpr ⟨inT_r 2 197 rfl, List.forall_mem_cons.mpr ⟨inT_r 1 234 rfl, List.forall_mem_cons.mpr ⟨inT_r 1 238 rfl, List.forall_mem_cons.mpr ⟨inT_r 2 8 rfl, List.forall_mem_cons.mpr ⟨inT_r 2 4 rfl, List.forall_mem_cons.mpr ⟨inT_r 2 11 rfl, fun _ h => absurd h List.not_mem_nil⟩⟩⟩⟩⟩⟩⟩⟩⟩⟩⟩⟩⟩⟩⟩⟩⟩⟩⟩
set_option maxRecDepth 100000 in
theorem mok_15 : moks mtl_15 [[(0, 11), (7, 97), (7, 98)], [(0, 11), (7, 106), (16, 6)], [(0, 11), (7, 101), (7, 102)], [(0, 11), (7, 114), (16, 7)], [(0, 11), (7, 109), (7, 110)], [(0, 11), (7, 117), (7, 118)], [(0, 11), (7, 121), (7, 122)], [(0, 11), (7, 130), (16, 8)], [(0, 11), (7, 134), (16, 9)], [(0, 11), (7, 125), (7, 126)], [(0, 11), (7, 137), (7, 138)], [(0, 11), (7, 141), (7, 142)], [(0, 11), (7, 152), (7, 153)], [(0, 18), (2, 196)], [(0, 13), (1, 232), (1, 233)], [(0, 13), (1, 236), (1, 237)], [(0, 13), (2, 6), (2, 7)], [(0, 13), (2, 2), (2, 3)], [(0, 14), (2, 10)]] = true := by decide +kernel
def stIx : List Nat := [135, 137, 139, 141, 143, 145, 147, 149, 151, 153, 155, 157, 159]
def kcls (c : Nat) : String := match Nat.beq c 16 with
  | true => "java/lang/String"
  | false => (classes.getD c ("", fun _ => ("", "", "", false), 0)).1
def rcd (t : Option FieldType) : Nat := match t with
  | none => 0
  | some (.object C) => (match decide (C = "java/lang/String") with
    | true => 18
    | false => 2 + (classes.findIdx (fun q => decide (q.1 = C))))
  | some _ => 1
def ciName : MethodName := ⟨"java/lang/String", "checkIndex", "(II)V"⟩
def fOK (own : String) (e : Nat × Nat × Nat × Bool) (p : Nat × Nat) : Bool := match Nat.beq e.2.1 16 with
  | true => (match e.2.2.1 with
    | 0 => inT (.fieldLink own e.1 "java/lang/String" "value" "[B") p && !e.2.2.2
    | _ => inT (.fieldLink own e.1 "java/lang/String" "coder" "B") p && e.2.2.2)
  | false => (match classes[e.2.1]? with
    | some q => Nat.blt e.2.2.1 q.2.2 && inT (.fieldLink own e.1 q.1 (q.2.1 e.2.2.1).2.1 (q.2.1 e.2.2.1).2.2.1) p && decide ((q.2.1 e.2.2.1).1 = q.1) && (isIT (ftk e.2.1 e.2.2.1) == e.2.2.2) && decide (parseFieldDescriptor (q.2.1 e.2.2.1).2.2.1 = some (ftk e.2.1 e.2.2.1))
    | none => false)
def cOK (own : String) (e : Nat × Nat × Nat × Nat × Nat × Nat × Nat) (p : Nat × Nat) : Bool := match e.2.1 with
  | 4 => inT (.methodLink own e.1 objectInit) p
  | 5 => inT (.methodLink own e.1 arraycopyName) p
  | 6 => inT (.methodLink own e.1 ciName) p
  | 7 => inT (.methodLink own e.1 Lib.Math.max.name) p
  | 8 => inT (.methodLink own e.1 Lib.Math.min.name) p
  | 3 => (match mt e.2.2.1 with
    | some r => inT (.methodLinkNest own e.1 r.1 "StencilHouse") p && decide ((parseMethodDescriptor r.1.desc).map (fun d => d.parameters.length) = some e.2.2.2.1) && (r.2.2.1 == e.2.2.2.2.1) && (r.2.2.2.2.1 == 2)
    | none => false)
  | w => (match mt e.2.2.1 with
    | some r => inT (.methodLink own e.1 r.1) p && decide ((parseMethodDescriptor r.1.desc).map (fun d => d.parameters.length) = some e.2.2.2.1) && (r.2.2.1 == e.2.2.2.2.1) && (rcd r.2.2.2.1 == e.2.2.2.2.2.1) && (match w with
      | 1 => r.2.2.2.2.1 == 0
      | 2 => r.2.2.2.2.1 == 2
      | w => Nat.ble 10 w && (r.2.2.2.2.1 == 1) && decide (kcls (w - 10) = r.1.cls) && (Nat.blt (w - 10) 11 || w == 26))
    | none => false)
def stTx : List String := ["size", "slip", "sheet", "wear", "spray", "flip", "turn", "slide", "patch", "wash", "row", "top", "bare"]
def stK (own : String) (k : Nat) (v : AV) : Bool := match v with
  | .inr (.inr (.inl q)) => decide (own = "StencilHouse$Reader") && Nat.beq q.1 16 && Nat.blt q.2 13 && (stIx.getD q.2 0 == k)
  | _ => false
def kOK (own : String) (e : Nat × AV) (p : Nat × Nat) : Bool := match e.2 with
  | .inl x => inT (.constant own e.1 x) p
  | .inr (.inl x) => inT (.constantLong own e.1 x) p
  | v => stK own e.1 v
def nOK (own : String) (e : Nat × Nat) (ps : List (Nat × Nat)) : Bool := match classes[e.2]? with
  | some q => inTs [.classLink own e.1 q.1, .instantiable q.1 q.2.2, .initialized q.1] ps
  | none => false
def aOK (own : String) (e : Nat × FieldType) (p : Nat × Nat) : Bool := match e.2 with
  | .object C => inT (.classLink own e.1 C) p && decide (C ∈ ["StencilHouse$Shop", "StencilHouse$Day", "StencilHouse$Picture", "StencilHouse$Marks", "StencilHouse$Told"])
  | _ => false
def stN : List String := ["FIRST_WORD_OF_SORT", "NUMBERS_OF_WORD", "LEAST", "GREATEST", "", "", "KIND_DRAWN"]
def stO : List String := ["StencilHouse$Reader", "StencilHouse$Reader", "StencilHouse$Reader", "StencilHouse$Reader", "", "", "StencilHouse$Wall"]
def sOK (own : String) (e : Nat × AV) (p : Nat × Nat) : Bool := match e.2 with
  | .inl x => inT (.fieldLink own e.1 "java/lang/String" "COMPACT_STRINGS" "Z") p && decide (x = 1)
  | .inr (.inr (.inl q)) => inT (.fieldLink own e.1 (stO.getD (q.1 - 12) "") (stN.getD (q.1 - 12) "") "[I") p && (sta q.1).isSome && (q.2 == 0)
  | _ => false
def all2 {α β : Type} (f : α → β → Bool) : List α → List β → Bool
  | [], _ => true
  | a :: as, b :: bs => f a b && all2 f as bs
  | _, _ => false
theorem all2_mem {α β : Type} {f : α → β → Bool} : ∀ {as : List α} {bs : List β}, all2 f as bs = true → ∀ a ∈ as, ∃ b, f a b = true := by
  intro as
  induction as with
  | nil => intro bs _ a ha; cases ha
  | cons x as ih =>
    intro bs h a ha
    cases bs with
    | nil => simp [all2] at h
    | cons b bs =>
      simp only [all2, Bool.and_eq_true] at h
      rcases List.mem_cons.mp ha with rfl | h1
      · exact ⟨b, h.1⟩
      · exact ih h.2 a h1
def LOK (own : String) (R : LK) : Prop := (∀ e ∈ R.1, ∃ p, fOK own e p = true) ∧ (∀ e ∈ R.2.1, ∃ p, cOK own e p = true) ∧ (∀ e ∈ R.2.2.1, ∃ p, kOK own e p = true) ∧ (∀ e ∈ R.2.2.2.1, ∃ p, nOK own e p = true) ∧ (∀ e ∈ R.2.2.2.2.1, ∃ p, aOK own e p = true) ∧ (∀ e ∈ R.2.2.2.2.2, ∃ p, sOK own e p = true)
theorem LOK_of {own : String} {R : LK} (a b c : List (Nat × Nat)) (d : List (List (Nat × Nat))) (e f : List (Nat × Nat)) (h1 : all2 (fOK own) R.1 a = true) (h2 : all2 (cOK own) R.2.1 b = true) (h3 : all2 (kOK own) R.2.2.1 c = true) (h4 : all2 (nOK own) R.2.2.2.1 d = true) (h5 : all2 (aOK own) R.2.2.2.2.1 e = true) (h6 : all2 (sOK own) R.2.2.2.2.2 f = true) : LOK own R :=
  ⟨all2_mem h1, all2_mem h2, all2_mem h3, all2_mem h4, all2_mem h5, all2_mem h6⟩
set_option maxRecDepth 100000 in
theorem lok_0 : LOK "StencilHouse$Day" lk_0 := LOK_of [(0, 118), (0, 122)] [(0, 117), (2, 126)] [] [] [] [] (by decide +kernel) (by decide +kernel) (by decide +kernel) (by decide +kernel) (by decide +kernel) (by decide +kernel)
set_option maxRecDepth 100000 in
theorem lok_1 : LOK "StencilHouse$Figures" lk_1 := LOK_of [(0, 66), (0, 79), (0, 63), (0, 58), (0, 52), (0, 74), (0, 85)] [(3, 27), (3, 30), (3, 102), (3, 106), (3, 110), (3, 118), (3, 131), (3, 128), (3, 134), (3, 146), (3, 149), (4, 8), (4, 15), (4, 18), (4, 32), (4, 36), (4, 40), (4, 60), (4, 57), (4, 68), (4, 69), (4, 73), (4, 127)] [] [] [] [] (by decide +kernel) (by decide +kernel) (by decide +kernel) (by decide +kernel) (by decide +kernel) (by decide +kernel)
set_option maxRecDepth 100000 in
theorem lok_2 : LOK "StencilHouse$Marks" lk_2 := LOK_of [(0, 143), (0, 147), (0, 150), (0, 153)] [(0, 142), (2, 136)] [] [] [] [] (by decide +kernel) (by decide +kernel) (by decide +kernel) (by decide +kernel) (by decide +kernel) (by decide +kernel)
set_option maxRecDepth 100000 in
theorem lok_3 : LOK "StencilHouse$Orders" lk_3 := LOK_of [(1, 95), (1, 96), (1, 97), (1, 98), (1, 99), (1, 100), (1, 101), (0, 67), (0, 80), (0, 83), (0, 145), (0, 148), (0, 151), (0, 53), (0, 154), (0, 59)] [(1, 94), (3, 65), (3, 66), (3, 70), (3, 44), (3, 53), (3, 57), (3, 61), (3, 74), (3, 82), (3, 86), (3, 87), (3, 78), (4, 93), (3, 188), (3, 192), (3, 205), (3, 209), (3, 213), (3, 217), (3, 196), (3, 197), (3, 201), (3, 221)] [] [] [] [] (by decide +kernel) (by decide +kernel) (by decide +kernel) (by decide +kernel) (by decide +kernel) (by decide +kernel)
set_option maxRecDepth 100000 in
theorem lok_4 : LOK "StencilHouse$Picture" lk_4 := LOK_of [(0, 133), (0, 55), (0, 48)] [(0, 132), (2, 131), (3, 48), (3, 52), (4, 105)] [] [] [] [] (by decide +kernel) (by decide +kernel) (by decide +kernel) (by decide +kernel) (by decide +kernel) (by decide +kernel)
set_option maxRecDepth 100000 in
theorem lok_5 : LOK "StencilHouse$Reader" lk_5 := LOK_of [(1, 1), (1, 3), (1, 5), (1, 7), (1, 9), (1, 11), (1, 13), (1, 14), (1, 15), (1, 16), (1, 17), (0, 223), (0, 225), (0, 120), (0, 144), (0, 69), (0, 227), (0, 50), (0, 57), (0, 62), (0, 77), (0, 134), (0, 73)] [(0, 204), (0, 206), (0, 208), (0, 210), (0, 212), (0, 215), (1, 161), (1, 173), (1, 201), (2, 82), (2, 86), (2, 94), (1, 165), (1, 169), (1, 205), (2, 39), (2, 43), (2, 47), (2, 50), (2, 58), (1, 211), (1, 227), (2, 62), (2, 66), (2, 70), (2, 74), (2, 78), (2, 90)] [(1, 214), (1, 215), (1, 216), (1, 217), (1, 218), (1, 219), (1, 220), (1, 221), (1, 222), (1, 223), (1, 224), (1, 225), (1, 226)] [[(0, 205), (0, 42), (0, 3)], [(0, 207), (0, 113), (0, 4)], [(0, 209), (0, 128), (0, 5)], [(0, 211), (0, 138), (0, 6)], [(0, 213), (0, 214), (0, 8)]] [(0, 205), (0, 207), (0, 209), (0, 211)] [(2, 48), (1, 209), (2, 54), (2, 56)] (by decide +kernel) (by decide +kernel) (by decide +kernel) (by decide +kernel) (by decide +kernel) (by decide +kernel)
set_option maxRecDepth 100000 in
theorem lok_6 : LOK "StencilHouse$Shop" lk_6 := LOK_of [(0, 47), (0, 54), (0, 60), (0, 64), (0, 70), (0, 75), (0, 78), (0, 82), (0, 86), (0, 87), (0, 88)] [(0, 46), (2, 119), (2, 98), (2, 154), (2, 102), (2, 106), (2, 158)] [] [] [] [] (by decide +kernel) (by decide +kernel) (by decide +kernel) (by decide +kernel) (by decide +kernel) (by decide +kernel)
set_option maxRecDepth 100000 in
theorem lok_7 : LOK "StencilHouse$Tokens" lk_7 := LOK_of [(0, 219), (0, 220), (0, 221), (0, 222), (0, 224), (0, 226)] [(0, 218), (1, 177), (1, 180), (1, 184), (1, 187), (1, 190), (1, 194), (1, 197), (1, 231), (2, 1)] [] [] [] [] (by decide +kernel) (by decide +kernel) (by decide +kernel) (by decide +kernel) (by decide +kernel) (by decide +kernel)
set_option maxRecDepth 100000 in
theorem lok_8 : LOK "StencilHouse$Told" lk_8 := LOK_of [(0, 165), (0, 167), (0, 169), (0, 171), (0, 173), (0, 175), (0, 176), (0, 177), (0, 178), (1, 2), (1, 4), (1, 6), (1, 8)] [(0, 33), (0, 43), (0, 114), (0, 129), (0, 139), (4, 153), (2, 115), (2, 122), (2, 127), (2, 132), (1, 153), (2, 114)] [] [[(0, 34), (0, 42), (0, 3)], [(0, 36), (0, 113), (0, 4)], [(0, 38), (0, 128), (0, 5)], [(0, 40), (0, 138), (0, 6)]] [(0, 34), (0, 36), (0, 38), (0, 40)] [] (by decide +kernel) (by decide +kernel) (by decide +kernel) (by decide +kernel) (by decide +kernel) (by decide +kernel)
set_option maxRecDepth 100000 in
theorem lok_9 : LOK "StencilHouse$Wall" lk_9 := LOK_of [(1, 49), (1, 50), (1, 51), (1, 52), (1, 53), (1, 54), (1, 55), (1, 56), (1, 57), (1, 58), (1, 60), (1, 62), (0, 71), (0, 119), (0, 65), (0, 76), (0, 51)] [(1, 46), (1, 48), (2, 186), (2, 187), (3, 232), (3, 237), (2, 191), (2, 201), (2, 202), (2, 219), (2, 223), (2, 227), (2, 231), (2, 195), (2, 206), (2, 215), (2, 235), (2, 210), (2, 211), (3, 7), (3, 11), (3, 15)] [(3, 236)] [[(1, 47), (0, 42), (0, 3)]] [(1, 47)] [(3, 230)] (by decide +kernel) (by decide +kernel) (by decide +kernel) (by decide +kernel) (by decide +kernel) (by decide +kernel)
set_option maxRecDepth 100000 in
theorem lok_10 : LOK "StencilHouse" lk_10 := LOK_of [(1, 117), (1, 118), (1, 119), (1, 120), (1, 121), (0, 168), (0, 170), (0, 172), (0, 166), (1, 10), (1, 12), (0, 49), (0, 56), (0, 61), (0, 68), (0, 121), (0, 72), (0, 81), (0, 146), (0, 155), (0, 149), (0, 152), (0, 84), (1, 59), (1, 61), (1, 63), (0, 174)] [(0, 25), (0, 30), (0, 201), (1, 43), (1, 91), (1, 137), (1, 149), (1, 157), (2, 110), (2, 146), (2, 150), (2, 166), (2, 170), (2, 178), (2, 182), (3, 3), (3, 23), (3, 24), (3, 31), (3, 36), (3, 40), (3, 91), (3, 99), (3, 115), (3, 125), (3, 137), (3, 142), (3, 143), (3, 150), (3, 153), (3, 160), (3, 167), (3, 172), (3, 176), (3, 184), (3, 226), (4, 5), (4, 9), (4, 12), (4, 19), (4, 22), (4, 29), (4, 33), (4, 37), (4, 43), (4, 46), (4, 47), (4, 48), (4, 51), (4, 54), (4, 61), (4, 62), (4, 65), (4, 70), (4, 84), (4, 89), (4, 101), (4, 109), (4, 117), (4, 118), (4, 119), (4, 124), (4, 132), (4, 136), (4, 137), (4, 149)] [] [[(0, 28), (0, 29), (0, 2)], [(0, 199), (0, 200), (0, 7)], [(1, 41), (1, 42), (0, 9)], [(1, 89), (1, 90), (0, 10)]] [(0, 28)] [] (by decide +kernel) (by decide +kernel) (by decide +kernel) (by decide +kernel) (by decide +kernel) (by decide +kernel)
set_option maxRecDepth 100000 in
theorem lok_11 : LOK "StencilHouseModel" lk_11 := LOK_of [(4, 166), (4, 167), (4, 168), (4, 169), (4, 170), (4, 171), (4, 172), (4, 173), (4, 174), (4, 184), (4, 185), (4, 194), (4, 195), (4, 196), (4, 197), (4, 198), (4, 199), (4, 204), (4, 205), (4, 206), (4, 207), (4, 213), (4, 215), (4, 165), (4, 175), (4, 176), (4, 177), (4, 180), (4, 178), (4, 179), (4, 181), (4, 182), (4, 183), (4, 187), (4, 186), (4, 188), (4, 189), (4, 190), (4, 191), (4, 192), (4, 193), (4, 200), (4, 201), (4, 202), (4, 203), (4, 208), (4, 209), (4, 210), (4, 211), (4, 212), (4, 214)] [(4, 163), (5, 226), (7, 148), (5, 92), (5, 84), (5, 111), (5, 150), (5, 136), (5, 107), (5, 140), (5, 132), (5, 143), (5, 128), (5, 154), (5, 158), (5, 165), (5, 175), (5, 123), (5, 161), (5, 179), (5, 184), (5, 119), (5, 115), (5, 190), (5, 198), (5, 99), (5, 103), (5, 194), (5, 214), (5, 218), (5, 222), (5, 229), (5, 237), (6, 1), (5, 233), (5, 210), (6, 5), (6, 13), (6, 17), (6, 21), (6, 57), (6, 53), (6, 61), (6, 69), (6, 45), (6, 49), (6, 65), (6, 73), (6, 77), (6, 41), (6, 37), (6, 29), (6, 33), (6, 89), (6, 93), (6, 85), (6, 101), (6, 120), (6, 132), (6, 116), (6, 124), (6, 128), (6, 136), (6, 108), (6, 112), (6, 144), (6, 152), (6, 160), (6, 163), (6, 167), (6, 175), (6, 179), (6, 194), (6, 198), (6, 202), (6, 234), (6, 222), (6, 214), (6, 218), (6, 226), (6, 230), (7, 6), (6, 210), (6, 238), (7, 2), (7, 18), (7, 14), (7, 31), (7, 27), (7, 35), (7, 39), (7, 71), (7, 80), (7, 88), (7, 47), (7, 51), (7, 55), (7, 59), (7, 63), (7, 67), (7, 75), (7, 84), (7, 104), (7, 112), (7, 128), (7, 132), (7, 144)] [(4, 164), (5, 127), (5, 147), (5, 148), (5, 149), (5, 169), (5, 170), (5, 171), (5, 172), (5, 173), (5, 174), (5, 183), (5, 188), (5, 189), (7, 22), (7, 79)] [] [] [] (by decide +kernel) (by decide +kernel) (by decide +kernel) (by decide +kernel) (by decide +kernel) (by decide +kernel)
set_option maxRecDepth 100000 in
theorem lok_12 : LOK "java/lang/Integer" lk_12 := LOK_of [] [] [(2, 198), (2, 199), (2, 200)] [] [] [] (by decide +kernel) (by decide +kernel) (by decide +kernel) (by decide +kernel) (by decide +kernel) (by decide +kernel)
set_option maxRecDepth 100000 in
theorem lok_13 : LOK "java/lang/String" lk_13 := LOK_of [(7, 155), (7, 156)] [(1, 235), (2, 5), (2, 9)] [] [] [] [(1, 239)] (by decide +kernel) (by decide +kernel) (by decide +kernel) (by decide +kernel) (by decide +kernel) (by decide +kernel)
set_option maxRecDepth 100000 in
theorem lok_14 : LOK "java/lang/StringLatin1" lk_14 := LOK_of [] [(2, 12)] [] [] [] [] (by decide +kernel) (by decide +kernel) (by decide +kernel) (by decide +kernel) (by decide +kernel) (by decide +kernel)
set_option maxRecDepth 100000 in
theorem lok_15 : LOK "StencilHouseLaw" lk_15 := LOK_of [] [(0, 22), (4, 160), (1, 133), (5, 80), (1, 141), (5, 88), (1, 145), (5, 95), (2, 138), (5, 202), (2, 142), (5, 206), (2, 162), (6, 9), (2, 174), (6, 25), (2, 239), (6, 81), (3, 19), (6, 97), (3, 32), (6, 104), (3, 95), (6, 140), (3, 111), (6, 148), (3, 121), (6, 156), (3, 138), (6, 171), (3, 156), (6, 182), (3, 163), (6, 186), (3, 168), (6, 190), (3, 180), (6, 206), (3, 222), (7, 10), (4, 1), (7, 23), (4, 25), (7, 43), (4, 76), (7, 92), (4, 80), (7, 96), (4, 85), (7, 100), (4, 97), (7, 108), (4, 113), (7, 116), (4, 120), (7, 120), (4, 128), (7, 124), (4, 141), (7, 136), (4, 145), (7, 140), (4, 154), (7, 151)] [] [[(0, 20), (0, 21), (0, 1)], [(4, 158), (4, 159), (0, 11)]] [] [] (by decide +kernel) (by decide +kernel) (by decide +kernel) (by decide +kernel) (by decide +kernel) (by decide +kernel)
theorem mlok_0 : ∀ r ∈ mtl_0, LOK r.1.cls r.2.2.2.2.2 := List.forall_mem_cons.mpr ⟨lok_0, List.forall_mem_cons.mpr ⟨lok_0, List.forall_mem_cons.mpr ⟨lok_0, List.forall_mem_cons.mpr ⟨lok_0, List.forall_mem_cons.mpr ⟨lok_1, List.forall_mem_cons.mpr ⟨lok_1, List.forall_mem_cons.mpr ⟨lok_1, List.forall_mem_cons.mpr ⟨lok_1, List.forall_mem_cons.mpr ⟨lok_1, List.forall_mem_cons.mpr ⟨lok_1, List.forall_mem_cons.mpr ⟨lok_1, List.forall_mem_cons.mpr ⟨lok_1, List.forall_mem_cons.mpr ⟨lok_1, List.forall_mem_cons.mpr ⟨lok_1, List.forall_mem_cons.mpr ⟨lok_1, List.forall_mem_cons.mpr ⟨lok_1, List.forall_mem_cons.mpr ⟨lok_1, List.forall_mem_cons.mpr ⟨lok_1, List.forall_mem_cons.mpr ⟨lok_1, List.forall_mem_cons.mpr ⟨lok_1, fun _ h => absurd h List.not_mem_nil⟩⟩⟩⟩⟩⟩⟩⟩⟩⟩⟩⟩⟩⟩⟩⟩⟩⟩⟩⟩
theorem mlok_1 : ∀ r ∈ mtl_1, LOK r.1.cls r.2.2.2.2.2 := List.forall_mem_cons.mpr ⟨lok_1, List.forall_mem_cons.mpr ⟨lok_1, List.forall_mem_cons.mpr ⟨lok_1, List.forall_mem_cons.mpr ⟨lok_1, List.forall_mem_cons.mpr ⟨lok_1, List.forall_mem_cons.mpr ⟨lok_1, List.forall_mem_cons.mpr ⟨lok_1, List.forall_mem_cons.mpr ⟨lok_1, List.forall_mem_cons.mpr ⟨lok_1, List.forall_mem_cons.mpr ⟨lok_1, List.forall_mem_cons.mpr ⟨lok_1, List.forall_mem_cons.mpr ⟨lok_1, List.forall_mem_cons.mpr ⟨lok_1, List.forall_mem_cons.mpr ⟨lok_1, List.forall_mem_cons.mpr ⟨lok_1, List.forall_mem_cons.mpr ⟨lok_1, List.forall_mem_cons.mpr ⟨lok_1, List.forall_mem_cons.mpr ⟨lok_2, List.forall_mem_cons.mpr ⟨lok_2, List.forall_mem_cons.mpr ⟨lok_2, fun _ h => absurd h List.not_mem_nil⟩⟩⟩⟩⟩⟩⟩⟩⟩⟩⟩⟩⟩⟩⟩⟩⟩⟩⟩⟩
theorem mlok_2 : ∀ r ∈ mtl_2, LOK r.1.cls r.2.2.2.2.2 := List.forall_mem_cons.mpr ⟨lok_3, List.forall_mem_cons.mpr ⟨lok_3, List.forall_mem_cons.mpr ⟨lok_3, List.forall_mem_cons.mpr ⟨lok_3, List.forall_mem_cons.mpr ⟨lok_3, List.forall_mem_cons.mpr ⟨lok_3, List.forall_mem_cons.mpr ⟨lok_3, List.forall_mem_cons.mpr ⟨lok_3, List.forall_mem_cons.mpr ⟨lok_3, List.forall_mem_cons.mpr ⟨lok_3, List.forall_mem_cons.mpr ⟨lok_3, List.forall_mem_cons.mpr ⟨lok_3, List.forall_mem_cons.mpr ⟨lok_3, List.forall_mem_cons.mpr ⟨lok_3, List.forall_mem_cons.mpr ⟨lok_3, List.forall_mem_cons.mpr ⟨lok_3, List.forall_mem_cons.mpr ⟨lok_3, List.forall_mem_cons.mpr ⟨lok_3, List.forall_mem_cons.mpr ⟨lok_3, List.forall_mem_cons.mpr ⟨lok_3, fun _ h => absurd h List.not_mem_nil⟩⟩⟩⟩⟩⟩⟩⟩⟩⟩⟩⟩⟩⟩⟩⟩⟩⟩⟩⟩
theorem mlok_3 : ∀ r ∈ mtl_3, LOK r.1.cls r.2.2.2.2.2 := List.forall_mem_cons.mpr ⟨lok_3, List.forall_mem_cons.mpr ⟨lok_4, List.forall_mem_cons.mpr ⟨lok_4, List.forall_mem_cons.mpr ⟨lok_4, List.forall_mem_cons.mpr ⟨lok_4, List.forall_mem_cons.mpr ⟨lok_4, List.forall_mem_cons.mpr ⟨lok_4, List.forall_mem_cons.mpr ⟨lok_4, List.forall_mem_cons.mpr ⟨lok_4, List.forall_mem_cons.mpr ⟨lok_4, List.forall_mem_cons.mpr ⟨lok_5, List.forall_mem_cons.mpr ⟨lok_5, List.forall_mem_cons.mpr ⟨lok_5, List.forall_mem_cons.mpr ⟨lok_5, List.forall_mem_cons.mpr ⟨lok_5, List.forall_mem_cons.mpr ⟨lok_5, List.forall_mem_cons.mpr ⟨lok_5, List.forall_mem_cons.mpr ⟨lok_5, List.forall_mem_cons.mpr ⟨lok_5, List.forall_mem_cons.mpr ⟨lok_5, fun _ h => absurd h List.not_mem_nil⟩⟩⟩⟩⟩⟩⟩⟩⟩⟩⟩⟩⟩⟩⟩⟩⟩⟩⟩⟩
theorem mlok_4 : ∀ r ∈ mtl_4, LOK r.1.cls r.2.2.2.2.2 := List.forall_mem_cons.mpr ⟨lok_5, List.forall_mem_cons.mpr ⟨lok_5, List.forall_mem_cons.mpr ⟨lok_5, List.forall_mem_cons.mpr ⟨lok_5, List.forall_mem_cons.mpr ⟨lok_5, List.forall_mem_cons.mpr ⟨lok_6, List.forall_mem_cons.mpr ⟨lok_6, List.forall_mem_cons.mpr ⟨lok_6, List.forall_mem_cons.mpr ⟨lok_6, List.forall_mem_cons.mpr ⟨lok_6, List.forall_mem_cons.mpr ⟨lok_6, List.forall_mem_cons.mpr ⟨lok_6, List.forall_mem_cons.mpr ⟨lok_6, List.forall_mem_cons.mpr ⟨lok_6, List.forall_mem_cons.mpr ⟨lok_6, List.forall_mem_cons.mpr ⟨lok_6, List.forall_mem_cons.mpr ⟨lok_6, List.forall_mem_cons.mpr ⟨lok_2, List.forall_mem_cons.mpr ⟨lok_6, List.forall_mem_cons.mpr ⟨lok_6, fun _ h => absurd h List.not_mem_nil⟩⟩⟩⟩⟩⟩⟩⟩⟩⟩⟩⟩⟩⟩⟩⟩⟩⟩⟩⟩
theorem mlok_5 : ∀ r ∈ mtl_5, LOK r.1.cls r.2.2.2.2.2 := List.forall_mem_cons.mpr ⟨lok_6, List.forall_mem_cons.mpr ⟨lok_6, List.forall_mem_cons.mpr ⟨lok_6, List.forall_mem_cons.mpr ⟨lok_6, List.forall_mem_cons.mpr ⟨lok_6, List.forall_mem_cons.mpr ⟨lok_7, List.forall_mem_cons.mpr ⟨lok_7, List.forall_mem_cons.mpr ⟨lok_7, List.forall_mem_cons.mpr ⟨lok_7, List.forall_mem_cons.mpr ⟨lok_7, List.forall_mem_cons.mpr ⟨lok_7, List.forall_mem_cons.mpr ⟨lok_7, List.forall_mem_cons.mpr ⟨lok_7, List.forall_mem_cons.mpr ⟨lok_7, List.forall_mem_cons.mpr ⟨lok_8, List.forall_mem_cons.mpr ⟨lok_8, List.forall_mem_cons.mpr ⟨lok_8, List.forall_mem_cons.mpr ⟨lok_8, List.forall_mem_cons.mpr ⟨lok_8, List.forall_mem_cons.mpr ⟨lok_8, fun _ h => absurd h List.not_mem_nil⟩⟩⟩⟩⟩⟩⟩⟩⟩⟩⟩⟩⟩⟩⟩⟩⟩⟩⟩⟩
theorem mlok_6 : ∀ r ∈ mtl_6, LOK r.1.cls r.2.2.2.2.2 := List.forall_mem_cons.mpr ⟨lok_8, List.forall_mem_cons.mpr ⟨lok_8, List.forall_mem_cons.mpr ⟨lok_8, List.forall_mem_cons.mpr ⟨lok_8, List.forall_mem_cons.mpr ⟨lok_9, List.forall_mem_cons.mpr ⟨lok_9, List.forall_mem_cons.mpr ⟨lok_9, List.forall_mem_cons.mpr ⟨lok_9, List.forall_mem_cons.mpr ⟨lok_9, List.forall_mem_cons.mpr ⟨lok_9, List.forall_mem_cons.mpr ⟨lok_9, List.forall_mem_cons.mpr ⟨lok_9, List.forall_mem_cons.mpr ⟨lok_9, List.forall_mem_cons.mpr ⟨lok_9, List.forall_mem_cons.mpr ⟨lok_9, List.forall_mem_cons.mpr ⟨lok_9, List.forall_mem_cons.mpr ⟨lok_9, List.forall_mem_cons.mpr ⟨lok_9, List.forall_mem_cons.mpr ⟨lok_9, List.forall_mem_cons.mpr ⟨lok_9, fun _ h => absurd h List.not_mem_nil⟩⟩⟩⟩⟩⟩⟩⟩⟩⟩⟩⟩⟩⟩⟩⟩⟩⟩⟩⟩
theorem mlok_7 : ∀ r ∈ mtl_7, LOK r.1.cls r.2.2.2.2.2 := List.forall_mem_cons.mpr ⟨lok_9, List.forall_mem_cons.mpr ⟨lok_9, List.forall_mem_cons.mpr ⟨lok_9, List.forall_mem_cons.mpr ⟨lok_10, List.forall_mem_cons.mpr ⟨lok_10, List.forall_mem_cons.mpr ⟨lok_10, List.forall_mem_cons.mpr ⟨lok_10, List.forall_mem_cons.mpr ⟨lok_10, List.forall_mem_cons.mpr ⟨lok_10, List.forall_mem_cons.mpr ⟨lok_10, List.forall_mem_cons.mpr ⟨lok_10, List.forall_mem_cons.mpr ⟨lok_10, List.forall_mem_cons.mpr ⟨lok_10, List.forall_mem_cons.mpr ⟨lok_10, List.forall_mem_cons.mpr ⟨lok_10, List.forall_mem_cons.mpr ⟨lok_10, List.forall_mem_cons.mpr ⟨lok_10, List.forall_mem_cons.mpr ⟨lok_10, List.forall_mem_cons.mpr ⟨lok_10, List.forall_mem_cons.mpr ⟨lok_10, fun _ h => absurd h List.not_mem_nil⟩⟩⟩⟩⟩⟩⟩⟩⟩⟩⟩⟩⟩⟩⟩⟩⟩⟩⟩⟩
theorem mlok_8 : ∀ r ∈ mtl_8, LOK r.1.cls r.2.2.2.2.2 := List.forall_mem_cons.mpr ⟨lok_10, List.forall_mem_cons.mpr ⟨lok_10, List.forall_mem_cons.mpr ⟨lok_10, List.forall_mem_cons.mpr ⟨lok_10, List.forall_mem_cons.mpr ⟨lok_10, List.forall_mem_cons.mpr ⟨lok_10, List.forall_mem_cons.mpr ⟨lok_10, List.forall_mem_cons.mpr ⟨lok_10, List.forall_mem_cons.mpr ⟨lok_10, List.forall_mem_cons.mpr ⟨lok_10, List.forall_mem_cons.mpr ⟨lok_10, List.forall_mem_cons.mpr ⟨lok_10, List.forall_mem_cons.mpr ⟨lok_10, List.forall_mem_cons.mpr ⟨lok_10, List.forall_mem_cons.mpr ⟨lok_10, List.forall_mem_cons.mpr ⟨lok_11, List.forall_mem_cons.mpr ⟨lok_11, List.forall_mem_cons.mpr ⟨lok_11, List.forall_mem_cons.mpr ⟨lok_11, List.forall_mem_cons.mpr ⟨lok_11, fun _ h => absurd h List.not_mem_nil⟩⟩⟩⟩⟩⟩⟩⟩⟩⟩⟩⟩⟩⟩⟩⟩⟩⟩⟩⟩
theorem mlok_9 : ∀ r ∈ mtl_9, LOK r.1.cls r.2.2.2.2.2 := List.forall_mem_cons.mpr ⟨lok_11, List.forall_mem_cons.mpr ⟨lok_11, List.forall_mem_cons.mpr ⟨lok_11, List.forall_mem_cons.mpr ⟨lok_11, List.forall_mem_cons.mpr ⟨lok_11, List.forall_mem_cons.mpr ⟨lok_11, List.forall_mem_cons.mpr ⟨lok_11, List.forall_mem_cons.mpr ⟨lok_11, List.forall_mem_cons.mpr ⟨lok_11, List.forall_mem_cons.mpr ⟨lok_11, List.forall_mem_cons.mpr ⟨lok_11, List.forall_mem_cons.mpr ⟨lok_11, List.forall_mem_cons.mpr ⟨lok_11, List.forall_mem_cons.mpr ⟨lok_11, List.forall_mem_cons.mpr ⟨lok_11, List.forall_mem_cons.mpr ⟨lok_11, List.forall_mem_cons.mpr ⟨lok_11, List.forall_mem_cons.mpr ⟨lok_11, List.forall_mem_cons.mpr ⟨lok_11, List.forall_mem_cons.mpr ⟨lok_11, fun _ h => absurd h List.not_mem_nil⟩⟩⟩⟩⟩⟩⟩⟩⟩⟩⟩⟩⟩⟩⟩⟩⟩⟩⟩⟩
theorem mlok_10 : ∀ r ∈ mtl_10, LOK r.1.cls r.2.2.2.2.2 := List.forall_mem_cons.mpr ⟨lok_11, List.forall_mem_cons.mpr ⟨lok_11, List.forall_mem_cons.mpr ⟨lok_11, List.forall_mem_cons.mpr ⟨lok_11, List.forall_mem_cons.mpr ⟨lok_11, List.forall_mem_cons.mpr ⟨lok_11, List.forall_mem_cons.mpr ⟨lok_11, List.forall_mem_cons.mpr ⟨lok_11, List.forall_mem_cons.mpr ⟨lok_11, List.forall_mem_cons.mpr ⟨lok_11, List.forall_mem_cons.mpr ⟨lok_11, List.forall_mem_cons.mpr ⟨lok_11, List.forall_mem_cons.mpr ⟨lok_11, List.forall_mem_cons.mpr ⟨lok_11, List.forall_mem_cons.mpr ⟨lok_11, List.forall_mem_cons.mpr ⟨lok_11, List.forall_mem_cons.mpr ⟨lok_11, List.forall_mem_cons.mpr ⟨lok_11, List.forall_mem_cons.mpr ⟨lok_11, List.forall_mem_cons.mpr ⟨lok_11, fun _ h => absurd h List.not_mem_nil⟩⟩⟩⟩⟩⟩⟩⟩⟩⟩⟩⟩⟩⟩⟩⟩⟩⟩⟩⟩
theorem mlok_11 : ∀ r ∈ mtl_11, LOK r.1.cls r.2.2.2.2.2 := List.forall_mem_cons.mpr ⟨lok_11, List.forall_mem_cons.mpr ⟨lok_11, List.forall_mem_cons.mpr ⟨lok_11, List.forall_mem_cons.mpr ⟨lok_11, List.forall_mem_cons.mpr ⟨lok_11, List.forall_mem_cons.mpr ⟨lok_11, List.forall_mem_cons.mpr ⟨lok_11, List.forall_mem_cons.mpr ⟨lok_11, List.forall_mem_cons.mpr ⟨lok_11, List.forall_mem_cons.mpr ⟨lok_11, List.forall_mem_cons.mpr ⟨lok_11, List.forall_mem_cons.mpr ⟨lok_11, List.forall_mem_cons.mpr ⟨lok_11, List.forall_mem_cons.mpr ⟨lok_11, List.forall_mem_cons.mpr ⟨lok_11, List.forall_mem_cons.mpr ⟨lok_11, List.forall_mem_cons.mpr ⟨lok_11, List.forall_mem_cons.mpr ⟨lok_11, List.forall_mem_cons.mpr ⟨lok_11, List.forall_mem_cons.mpr ⟨lok_11, fun _ h => absurd h List.not_mem_nil⟩⟩⟩⟩⟩⟩⟩⟩⟩⟩⟩⟩⟩⟩⟩⟩⟩⟩⟩⟩
theorem mlok_12 : ∀ r ∈ mtl_12, LOK r.1.cls r.2.2.2.2.2 := List.forall_mem_cons.mpr ⟨lok_11, List.forall_mem_cons.mpr ⟨lok_11, List.forall_mem_cons.mpr ⟨lok_11, List.forall_mem_cons.mpr ⟨lok_11, List.forall_mem_cons.mpr ⟨lok_11, List.forall_mem_cons.mpr ⟨lok_11, List.forall_mem_cons.mpr ⟨lok_11, List.forall_mem_cons.mpr ⟨lok_11, List.forall_mem_cons.mpr ⟨lok_11, List.forall_mem_cons.mpr ⟨lok_11, List.forall_mem_cons.mpr ⟨lok_11, List.forall_mem_cons.mpr ⟨lok_11, List.forall_mem_cons.mpr ⟨lok_11, List.forall_mem_cons.mpr ⟨lok_11, List.forall_mem_cons.mpr ⟨lok_11, List.forall_mem_cons.mpr ⟨lok_11, List.forall_mem_cons.mpr ⟨lok_11, List.forall_mem_cons.mpr ⟨lok_11, List.forall_mem_cons.mpr ⟨lok_11, List.forall_mem_cons.mpr ⟨lok_11, fun _ h => absurd h List.not_mem_nil⟩⟩⟩⟩⟩⟩⟩⟩⟩⟩⟩⟩⟩⟩⟩⟩⟩⟩⟩⟩
theorem mlok_13 : ∀ r ∈ mtl_13, LOK r.1.cls r.2.2.2.2.2 := List.forall_mem_cons.mpr ⟨lok_11, List.forall_mem_cons.mpr ⟨lok_11, List.forall_mem_cons.mpr ⟨lok_11, List.forall_mem_cons.mpr ⟨lok_11, List.forall_mem_cons.mpr ⟨lok_11, List.forall_mem_cons.mpr ⟨lok_11, List.forall_mem_cons.mpr ⟨lok_11, List.forall_mem_cons.mpr ⟨lok_11, List.forall_mem_cons.mpr ⟨lok_11, List.forall_mem_cons.mpr ⟨lok_11, List.forall_mem_cons.mpr ⟨lok_11, List.forall_mem_cons.mpr ⟨lok_11, List.forall_mem_cons.mpr ⟨lok_11, List.forall_mem_cons.mpr ⟨lok_11, List.forall_mem_cons.mpr ⟨lok_11, List.forall_mem_cons.mpr ⟨lok_11, List.forall_mem_cons.mpr ⟨lok_11, List.forall_mem_cons.mpr ⟨lok_11, List.forall_mem_cons.mpr ⟨lok_11, List.forall_mem_cons.mpr ⟨lok_11, fun _ h => absurd h List.not_mem_nil⟩⟩⟩⟩⟩⟩⟩⟩⟩⟩⟩⟩⟩⟩⟩⟩⟩⟩⟩⟩
theorem mlok_14 : ∀ r ∈ mtl_14, LOK r.1.cls r.2.2.2.2.2 := List.forall_mem_cons.mpr ⟨lok_11, List.forall_mem_cons.mpr ⟨lok_11, List.forall_mem_cons.mpr ⟨lok_11, List.forall_mem_cons.mpr ⟨lok_11, List.forall_mem_cons.mpr ⟨lok_11, List.forall_mem_cons.mpr ⟨lok_11, List.forall_mem_cons.mpr ⟨lok_11, List.forall_mem_cons.mpr ⟨lok_11, List.forall_mem_cons.mpr ⟨lok_11, List.forall_mem_cons.mpr ⟨lok_11, List.forall_mem_cons.mpr ⟨lok_11, List.forall_mem_cons.mpr ⟨lok_11, List.forall_mem_cons.mpr ⟨lok_11, List.forall_mem_cons.mpr ⟨lok_11, List.forall_mem_cons.mpr ⟨lok_11, List.forall_mem_cons.mpr ⟨lok_11, List.forall_mem_cons.mpr ⟨lok_11, List.forall_mem_cons.mpr ⟨lok_11, List.forall_mem_cons.mpr ⟨lok_11, List.forall_mem_cons.mpr ⟨lok_11, fun _ h => absurd h List.not_mem_nil⟩⟩⟩⟩⟩⟩⟩⟩⟩⟩⟩⟩⟩⟩⟩⟩⟩⟩⟩⟩
theorem mlok_15 : ∀ r ∈ mtl_15, LOK r.1.cls r.2.2.2.2.2 := List.forall_mem_cons.mpr ⟨lok_11, List.forall_mem_cons.mpr ⟨lok_11, List.forall_mem_cons.mpr ⟨lok_11, List.forall_mem_cons.mpr ⟨lok_11, List.forall_mem_cons.mpr ⟨lok_11, List.forall_mem_cons.mpr ⟨lok_11, List.forall_mem_cons.mpr ⟨lok_11, List.forall_mem_cons.mpr ⟨lok_11, List.forall_mem_cons.mpr ⟨lok_11, List.forall_mem_cons.mpr ⟨lok_11, List.forall_mem_cons.mpr ⟨lok_11, List.forall_mem_cons.mpr ⟨lok_11, List.forall_mem_cons.mpr ⟨lok_11, List.forall_mem_cons.mpr ⟨lok_12, List.forall_mem_cons.mpr ⟨lok_13, List.forall_mem_cons.mpr ⟨lok_13, List.forall_mem_cons.mpr ⟨lok_13, List.forall_mem_cons.mpr ⟨lok_13, List.forall_mem_cons.mpr ⟨lok_14, fun _ h => absurd h List.not_mem_nil⟩⟩⟩⟩⟩⟩⟩⟩⟩⟩⟩⟩⟩⟩⟩⟩⟩⟩⟩
set_option maxRecDepth 100000 in
theorem uw_0 : ∀ w ∈ u_ws RX0 TX0 2, w ∈ lw_tbl := inTs_mem (ps := [(0, 123), (0, 125)]) (by decide +kernel)
theorem uwg_0 : ∀ w ∈ u_ws RX0 TX0 2, w ∈ lw_g := fun w h => lw_g_of (uw_0 w h) (List.all_eq_true.mp (show (u_ws RX0 TX0 2).all goodWord = true from by decide +kernel) w h)
set_option maxRecDepth 100000 in
theorem uw_1 : ∀ w ∈ u_ws RX2 TX2 4, w ∈ lw_tbl := inTs_mem (ps := [(0, 156), (0, 158), (0, 160), (0, 162)]) (by decide +kernel)
theorem uwg_1 : ∀ w ∈ u_ws RX2 TX2 4, w ∈ lw_g := fun w h => lw_g_of (uw_1 w h) (List.all_eq_true.mp (show (u_ws RX2 TX2 4).all goodWord = true from by decide +kernel) w h)
set_option maxRecDepth 100000 in
theorem uw_2 : ∀ w ∈ u_ws RX3 TX3 7, w ∈ lw_tbl := inTs_mem (ps := [(1, 102), (1, 104), (1, 106), (1, 108), (1, 110), (1, 112), (1, 114)]) (by decide +kernel)
theorem uwg_2 : ∀ w ∈ u_ws RX3 TX3 7, w ∈ lw_g := fun w h => lw_g_of (uw_2 w h) (List.all_eq_true.mp (show (u_ws RX3 TX3 7).all goodWord = true from by decide +kernel) w h)
set_option maxRecDepth 100000 in
theorem uw_3 : ∀ w ∈ u_ws RX4 TX4 1, w ∈ lw_tbl := inTs_mem (ps := [(0, 135)]) (by decide +kernel)
theorem uwg_3 : ∀ w ∈ u_ws RX4 TX4 1, w ∈ lw_g := fun w h => lw_g_of (uw_3 w h) (List.all_eq_true.mp (show (u_ws RX4 TX4 1).all goodWord = true from by decide +kernel) w h)
set_option maxRecDepth 100000 in
theorem uw_4 : ∀ w ∈ u_ws RX5 TX5 11, w ∈ lw_tbl := inTs_mem (ps := [(1, 18), (1, 20), (1, 22), (1, 24), (1, 26), (1, 28), (1, 30), (1, 32), (1, 34), (1, 36), (1, 38)]) (by decide +kernel)
theorem uwg_4 : ∀ w ∈ u_ws RX5 TX5 11, w ∈ lw_g := fun w h => lw_g_of (uw_4 w h) (List.all_eq_true.mp (show (u_ws RX5 TX5 11).all goodWord = true from by decide +kernel) w h)
set_option maxRecDepth 100000 in
theorem uw_5 : ∀ w ∈ u_ws RX6 TX6 11, w ∈ lw_tbl := inTs_mem (ps := [(0, 89), (0, 91), (0, 93), (0, 95), (0, 97), (0, 99), (0, 101), (0, 103), (0, 105), (0, 107), (0, 109)]) (by decide +kernel)
theorem uwg_5 : ∀ w ∈ u_ws RX6 TX6 11, w ∈ lw_g := fun w h => lw_g_of (uw_5 w h) (List.all_eq_true.mp (show (u_ws RX6 TX6 11).all goodWord = true from by decide +kernel) w h)
set_option maxRecDepth 100000 in
theorem uw_6 : ∀ w ∈ u_ws RX7 TX7 6, w ∈ lw_tbl := inTs_mem (ps := [(0, 228), (0, 230), (0, 232), (0, 234), (0, 236), (0, 238)]) (by decide +kernel)
theorem uwg_6 : ∀ w ∈ u_ws RX7 TX7 6, w ∈ lw_g := fun w h => lw_g_of (uw_6 w h) (List.all_eq_true.mp (show (u_ws RX7 TX7 6).all goodWord = true from by decide +kernel) w h)
set_option maxRecDepth 100000 in
theorem uw_7 : ∀ w ∈ u_ws RX8 TX8 9, w ∈ lw_tbl := inTs_mem (ps := [(0, 179), (0, 181), (0, 183), (0, 185), (0, 187), (0, 189), (0, 191), (0, 193), (0, 195)]) (by decide +kernel)
theorem uwg_7 : ∀ w ∈ u_ws RX8 TX8 9, w ∈ lw_g := fun w h => lw_g_of (uw_7 w h) (List.all_eq_true.mp (show (u_ws RX8 TX8 9).all goodWord = true from by decide +kernel) w h)
set_option maxRecDepth 100000 in
theorem uw_8 : ∀ w ∈ u_ws RX9 TX9 12, w ∈ lw_tbl := inTs_mem (ps := [(1, 64), (1, 66), (1, 68), (1, 70), (1, 72), (1, 74), (1, 76), (1, 78), (1, 80), (1, 82), (1, 84), (1, 86)]) (by decide +kernel)
theorem uwg_8 : ∀ w ∈ u_ws RX9 TX9 12, w ∈ lw_g := fun w h => lw_g_of (uw_8 w h) (List.all_eq_true.mp (show (u_ws RX9 TX9 12).all goodWord = true from by decide +kernel) w h)
set_option maxRecDepth 100000 in
theorem uw_9 : ∀ w ∈ u_ws RX10 TX10 5, w ∈ lw_tbl := inTs_mem (ps := [(1, 122), (1, 124), (1, 126), (1, 128), (1, 130)]) (by decide +kernel)
theorem uwg_9 : ∀ w ∈ u_ws RX10 TX10 5, w ∈ lw_g := fun w h => lw_g_of (uw_9 w h) (List.all_eq_true.mp (show (u_ws RX10 TX10 5).all goodWord = true from by decide +kernel) w h)
set_option maxRecDepth 100000 in
theorem uw_10 : ∀ w ∈ u_ws RX11 TX11 51, w ∈ lw_tbl := inTs_mem (ps := [(4, 216), (4, 218), (4, 220), (4, 222), (4, 224), (4, 226), (4, 228), (4, 230), (4, 232), (4, 234), (4, 236), (4, 238), (5, 0), (5, 2), (5, 4), (5, 6), (5, 8), (5, 10), (5, 12), (5, 14), (5, 16), (5, 18), (5, 20), (5, 22), (5, 24), (5, 26), (5, 28), (5, 30), (5, 32), (5, 34), (5, 36), (5, 38), (5, 40), (5, 42), (5, 44), (5, 46), (5, 48), (5, 50), (5, 52), (5, 54), (5, 56), (5, 58), (5, 60), (5, 62), (5, 64), (5, 66), (5, 68), (5, 70), (5, 72), (5, 74), (5, 76)]) (by decide +kernel)
theorem uwg_10 : ∀ w ∈ u_ws RX11 TX11 51, w ∈ lw_g := fun w h => lw_g_of (uw_10 w h) (List.all_eq_true.mp (show (u_ws RX11 TX11 51).all goodWord = true from by decide +kernel) w h)
theorem uwg : ∀ (c : Nat) (q : vw_C), classes[c]? = some q → ∀ w ∈ u_ws q.1 q.2.1 q.2.2, w ∈ lw_g := by
  intro c q h
  match c, h with
  | 0, h => cases h; exact uwg_0
  | 1, h => cases h; exact uwg_1
  | 2, h => cases h; exact uwg_2
  | 3, h => cases h; exact uwg_3
  | 4, h => cases h; exact uwg_4
  | 5, h => cases h; exact uwg_5
  | 6, h => cases h; exact uwg_6
  | 7, h => cases h; exact uwg_7
  | 8, h => cases h; exact uwg_8
  | 9, h => cases h; exact uwg_9
  | 10, h => cases h; exact uwg_10
  | c + 11, h => cases h
theorem nmg : ∀ (c : Nat) (q : vw_C), classes[c]? = some q → ∀ a, a < q.2.2 → ∀ b, b < q.2.2 → a ≠ b → (q.2.1 a).2.1 ≠ (q.2.1 b).2.1 := by
  intro c q h
  match c, h with
  | 0, h => cases h; exact nmX0
  | 1, h => cases h; exact nmX2
  | 2, h => cases h; exact nmX3
  | 3, h => cases h; exact nmX4
  | 4, h => cases h; exact nmX5
  | 5, h => cases h; exact nmX6
  | 6, h => cases h; exact nmX7
  | 7, h => cases h; exact nmX8
  | 8, h => cases h; exact nmX9
  | 9, h => cases h; exact nmX10
  | 10, h => cases h; exact nmX11
  | c + 11, h => cases h
theorem tyg : ∀ (c : Nat) (q : vw_C), classes[c]? = some q → ∀ k, k < q.2.2 → parseFieldDescriptor (q.2.1 k).2.2.1 = some (ftk c k) := by
  intro c q h
  match c, h with
  | 0, h => cases h; exact (by decide +kernel : ∀ k, k < 2 → parseFieldDescriptor (TX0 k).2.2.1 = some (ftk 0 k))
  | 1, h => cases h; exact (by decide +kernel : ∀ k, k < 4 → parseFieldDescriptor (TX2 k).2.2.1 = some (ftk 1 k))
  | 2, h => cases h; exact (by decide +kernel : ∀ k, k < 7 → parseFieldDescriptor (TX3 k).2.2.1 = some (ftk 2 k))
  | 3, h => cases h; exact (by decide +kernel : ∀ k, k < 1 → parseFieldDescriptor (TX4 k).2.2.1 = some (ftk 3 k))
  | 4, h => cases h; exact (by decide +kernel : ∀ k, k < 11 → parseFieldDescriptor (TX5 k).2.2.1 = some (ftk 4 k))
  | 5, h => cases h; exact (by decide +kernel : ∀ k, k < 11 → parseFieldDescriptor (TX6 k).2.2.1 = some (ftk 5 k))
  | 6, h => cases h; exact (by decide +kernel : ∀ k, k < 6 → parseFieldDescriptor (TX7 k).2.2.1 = some (ftk 6 k))
  | 7, h => cases h; exact (by decide +kernel : ∀ k, k < 9 → parseFieldDescriptor (TX8 k).2.2.1 = some (ftk 7 k))
  | 8, h => cases h; exact (by decide +kernel : ∀ k, k < 12 → parseFieldDescriptor (TX9 k).2.2.1 = some (ftk 8 k))
  | 9, h => cases h; exact (by decide +kernel : ∀ k, k < 5 → parseFieldDescriptor (TX10 k).2.2.1 = some (ftk 9 k))
  | 10, h => cases h; exact (by decide +kernel : ∀ k, k < 51 → parseFieldDescriptor (TX11 k).2.2.1 = some (ftk 10 k))
  | c + 11, h => cases h
theorem mall {P : MT → Prop} (hl : ∀ r ∈ mtl_law, P r) (h0 : ∀ r ∈ mtl_0, P r) (h1 : ∀ r ∈ mtl_1, P r) (h2 : ∀ r ∈ mtl_2, P r) (h3 : ∀ r ∈ mtl_3, P r) (h4 : ∀ r ∈ mtl_4, P r) (h5 : ∀ r ∈ mtl_5, P r) (h6 : ∀ r ∈ mtl_6, P r) (h7 : ∀ r ∈ mtl_7, P r) (h8 : ∀ r ∈ mtl_8, P r) (h9 : ∀ r ∈ mtl_9, P r) (h10 : ∀ r ∈ mtl_10, P r) (h11 : ∀ r ∈ mtl_11, P r) (h12 : ∀ r ∈ mtl_12, P r) (h13 : ∀ r ∈ mtl_13, P r) (h14 : ∀ r ∈ mtl_14, P r) (h15 : ∀ r ∈ mtl_15, P r) : ∀ (y : Nat) (r : MT), mt y = some r → P r := by
  intro y r h
  have hm := List.mem_of_getElem? h
  unfold mtl at hm
  simp only [List.mem_append] at hm
  rcases hm with h | h | h | h | h | h | h | h | h | h | h | h | h | h | h | h | h
  · exact h0 r h
  · exact h1 r h
  · exact h2 r h
  · exact h3 r h
  · exact h4 r h
  · exact h5 r h
  · exact h6 r h
  · exact h7 r h
  · exact h8 r h
  · exact h9 r h
  · exact h10 r h
  · exact h11 r h
  · exact h12 r h
  · exact h13 r h
  · exact h14 r h
  · exact h15 r h
  · exact hl r h
theorem code_in : ∀ (y : Nat) (r : MT), mt y = some r → r.2.2.2.2.1 ≠ 3 → CodeIn r := mall (P := fun r => r.2.2.2.2.1 ≠ 3 → CodeIn r) (fun r h e => absurd (by rw [List.mem_singleton.mp h]) e) (fun r h _ => mcode_0 r h) (fun r h _ => mcode_1 r h) (fun r h _ => mcode_2 r h) (fun r h _ => mcode_3 r h) (fun r h _ => mcode_4 r h) (fun r h _ => mcode_5 r h) (fun r h _ => mcode_6 r h) (fun r h _ => mcode_7 r h) (fun r h _ => mcode_8 r h) (fun r h _ => mcode_9 r h) (fun r h _ => mcode_10 r h) (fun r h _ => mcode_11 r h) (fun r h _ => mcode_12 r h) (fun r h _ => mcode_13 r h) (fun r h _ => mcode_14 r h) (fun r h _ => mcode_15 r h)
theorem mok_in : ∀ (y : Nat) (r : MT), mt y = some r → r.2.2.2.2.1 ≠ 3 → MokP r := mall (P := fun r => r.2.2.2.2.1 ≠ 3 → MokP r) (fun r h e => absurd (by rw [List.mem_singleton.mp h]) e) (fun r h _ => moks_P mok_0 r h) (fun r h _ => moks_P mok_1 r h) (fun r h _ => moks_P mok_2 r h) (fun r h _ => moks_P mok_3 r h) (fun r h _ => moks_P mok_4 r h) (fun r h _ => moks_P mok_5 r h) (fun r h _ => moks_P mok_6 r h) (fun r h _ => moks_P mok_7 r h) (fun r h _ => moks_P mok_8 r h) (fun r h _ => moks_P mok_9 r h) (fun r h _ => moks_P mok_10 r h) (fun r h _ => moks_P mok_11 r h) (fun r h _ => moks_P mok_12 r h) (fun r h _ => moks_P mok_13 r h) (fun r h _ => moks_P mok_14 r h) (fun r h _ => moks_P mok_15 r h)
theorem lok_in : ∀ (y : Nat) (r : MT), mt y = some r → LOK r.1.cls r.2.2.2.2.2 := mall (P := fun r => LOK r.1.cls r.2.2.2.2.2) (fun r h => by rw [List.mem_singleton.mp h]; exact lok_15) mlok_0 mlok_1 mlok_2 mlok_3 mlok_4 mlok_5 mlok_6 mlok_7 mlok_8 mlok_9 mlok_10 mlok_11 mlok_12 mlok_13 mlok_14 mlok_15
