/-! FACTS of the tables: every word that a link or a method stands on is among the claim's words, by its place -/
def tabs (k : Nat) : List Cond := match k with
  | 0 => tables_1_1
  | 1 => tables_1_2
  | 2 => tables_1_3
  | 3 => tables_1_4
  | 4 => tables_1_5
  | 5 => tables_1_6
  | 6 => tables_1_7
  | 7 => tables_1_8
  | 8 => k2_sels lw_privs_1
  | 9 => k2_sels lw_privs_2
  | 10 => k2_sels lw_privs_3
  | 11 => k2_sels lw_privs_4
  | 12 => k2_sels lw_privs_5
  | 13 => k2_sels lw_privs_6
  | 14 => k2_sels lw_privs_7
  | 15 => k2_sels lw_privs_8
  | 16 => k2_sels lw_privs_9
  | _ => []
theorem tabs_p {L : List (MethodName × Nat)} {w : Cond} (h : w ∈ k2_sels L) (hs : ∀ q ∈ L, q ∈ lw_privs) : w ∈ k2_sels lw_privs := by
  obtain ⟨q, hq, rfl⟩ := List.mem_map.mp h
  exact List.mem_map.mpr ⟨q, hs q hq, rfl⟩
theorem tabs_mem {w : Cond} : ∀ (k : Nat), w ∈ tabs k → w ∈ lw_tbl
  | 0, h => List.mem_append_right _ (show w ∈ tables_1 from by unfold tables_1; exact List.mem_append_left _ h)
  | 1, h => List.mem_append_right _ (show w ∈ tables_1 from by unfold tables_1; exact List.mem_append_right _ (List.mem_append_left _ h))
  | 2, h => List.mem_append_right _ (show w ∈ tables_1 from by unfold tables_1; exact List.mem_append_right _ (List.mem_append_right _ (List.mem_append_left _ h)))
  | 3, h => List.mem_append_right _ (show w ∈ tables_1 from by unfold tables_1; exact List.mem_append_right _ (List.mem_append_right _ (List.mem_append_right _ (List.mem_append_left _ h))))
  | 4, h => List.mem_append_right _ (show w ∈ tables_1 from by unfold tables_1; exact List.mem_append_right _ (List.mem_append_right _ (List.mem_append_right _ (List.mem_append_right _ (List.mem_append_left _ h)))))
  | 5, h => List.mem_append_right _ (show w ∈ tables_1 from by unfold tables_1; exact List.mem_append_right _ (List.mem_append_right _ (List.mem_append_right _ (List.mem_append_right _ (List.mem_append_right _ (List.mem_append_left _ h))))))
  | 6, h => List.mem_append_right _ (show w ∈ tables_1 from by unfold tables_1; exact List.mem_append_right _ (List.mem_append_right _ (List.mem_append_right _ (List.mem_append_right _ (List.mem_append_right _ (List.mem_append_right _ (List.mem_append_left _ h)))))))
  | 7, h => List.mem_append_right _ (show w ∈ tables_1 from by unfold tables_1; exact List.mem_append_right _ (List.mem_append_right _ (List.mem_append_right _ (List.mem_append_right _ (List.mem_append_right _ (List.mem_append_right _ (List.mem_append_right _ h)))))))
  | 8, h => List.mem_append_left _ (tabs_p (L := lw_privs_1) h (fun q hq => by unfold lw_privs; simp only [List.mem_append]; exact Or.inl hq))
  | 9, h => List.mem_append_left _ (tabs_p (L := lw_privs_2) h (fun q hq => by unfold lw_privs; simp only [List.mem_append]; exact Or.inr (Or.inl hq)))
  | 10, h => List.mem_append_left _ (tabs_p (L := lw_privs_3) h (fun q hq => by unfold lw_privs; simp only [List.mem_append]; exact Or.inr (Or.inr (Or.inl hq))))
  | 11, h => List.mem_append_left _ (tabs_p (L := lw_privs_4) h (fun q hq => by unfold lw_privs; simp only [List.mem_append]; exact Or.inr (Or.inr (Or.inr (Or.inl hq)))))
  | 12, h => List.mem_append_left _ (tabs_p (L := lw_privs_5) h (fun q hq => by unfold lw_privs; simp only [List.mem_append]; exact Or.inr (Or.inr (Or.inr (Or.inr (Or.inl hq))))))
  | 13, h => List.mem_append_left _ (tabs_p (L := lw_privs_6) h (fun q hq => by unfold lw_privs; simp only [List.mem_append]; exact Or.inr (Or.inr (Or.inr (Or.inr (Or.inr (Or.inl hq)))))))
  | 14, h => List.mem_append_left _ (tabs_p (L := lw_privs_7) h (fun q hq => by unfold lw_privs; simp only [List.mem_append]; exact Or.inr (Or.inr (Or.inr (Or.inr (Or.inr (Or.inr (Or.inl hq))))))))
  | 15, h => List.mem_append_left _ (tabs_p (L := lw_privs_8) h (fun q hq => by unfold lw_privs; simp only [List.mem_append]; exact Or.inr (Or.inr (Or.inr (Or.inr (Or.inr (Or.inr (Or.inr (Or.inl hq)))))))))
  | 16, h => List.mem_append_left _ (tabs_p (L := lw_privs_9) h (fun q hq => by unfold lw_privs; simp only [List.mem_append]; exact Or.inr (Or.inr (Or.inr (Or.inr (Or.inr (Or.inr (Or.inr (Or.inr (hq))))))))))
  | k + 17, h => by cases h
def nthC : List Cond → Nat → Option Cond
  | [], _ => none
  | w :: _, 0 => some w
  | _ :: ws, n + 1 => nthC ws n
theorem nthC_mem {w : Cond} : ∀ (l : List Cond) (n : Nat), nthC l n = some w → w ∈ l
  | [], _, h => by cases h
  | a :: l, 0, h => by cases h; exact List.mem_cons_self
  | a :: l, n + 1, h => List.mem_cons_of_mem _ (nthC_mem l n h)
theorem inT_r {w : Cond} (k p : Nat) (h : nthC (tabs k) p = some w) : w ∈ lw_tbl := tabs_mem k (nthC_mem _ _ h)
def inT (w : Cond) (p : Nat × Nat) : Bool := decide (nthC (tabs p.1) p.2 = some w)
theorem inT_mem {w : Cond} {p : Nat × Nat} (h : inT w p = true) : w ∈ lw_tbl := inT_r p.1 p.2 (of_decide_eq_true h)
def inTs : List Cond → List (Nat × Nat) → Bool
  | [], _ => true
  | w :: ws, p :: ps => inT w p && inTs ws ps
  | _, _ => false
theorem inTs_mem {ws : List Cond} : ∀ {ps : List (Nat × Nat)}, inTs ws ps = true → ∀ w ∈ ws, w ∈ lw_tbl := by
  induction ws with
  | nil => intro ps _ w hw; cases hw
  | cons a ws ih =>
    intro ps h w hw
    cases ps with
    | nil => simp [inTs] at h
    | cons p ps =>
      simp only [inTs, Bool.and_eq_true] at h
      rcases List.mem_cons.mp hw with rfl | h1
      · exact inT_mem h.1
      · exact ih h.2 w h1
/-- the words that outlast a call -/
def lw_g : List Cond := lw_tbl.filter goodWord
theorem lw_g_of {w : Cond} (h : w ∈ lw_tbl) (hg : goodWord w = true) : w ∈ lw_g := List.mem_filter.mpr ⟨h, hg⟩
theorem lw_g_good : GoodIn lw_g lw_g := fun w h => ⟨h, good_of_word (List.mem_filter.mp h).2⟩
def mneed (r : MT) : List Cond := .initialized r.1.cls :: (match r.2.2.2.2.1 with
  | 0 => [.static r.1]
  | 1 => [.instanceMethod r.1, .selects r.1.cls r.1 r.1]
  | _ => [.instanceMethod r.1])
def mok (r : MT) (ps : List (Nat × Nat)) : Bool := inTs (mneed r) ps && (mneed r).all goodWord && Jvm.plainName r.1.cls && decide (r.1.cls ≠ "java/lang/invoke/MethodHandle") && decide (r.1.cls ≠ "java/lang/invoke/VarHandle") && Nat.ble r.2.2.1 45 && (match r.2.2.2.2.1 with
  | 0 => decide (r.1.name ≠ "<init>")
  | 1 => decide (r.1.name ≠ "<init>")
  | _ => decide (r.1.name = "<init>") && decide (r.2.2.2.1 = none))
def moks : List MT → List (List (Nat × Nat)) → Bool
  | r :: rs, p :: ps => mok r p && moks rs ps
  | [], [] => true
  | _, _ => false
/-- what is known of a method of the table that may be called -/
def MokP (r : MT) : Prop := (∀ w ∈ mneed r, w ∈ lw_g) ∧ Jvm.plainName r.1.cls = true ∧ (r.1.cls ≠ "java/lang/invoke/MethodHandle" ∧ r.1.cls ≠ "java/lang/invoke/VarHandle") ∧ r.2.2.1 ≤ 45 ∧ (r.2.2.2.2.1 = 2 → r.1.name = "<init>" ∧ r.2.2.2.1 = none)
theorem mok_P {r : MT} {p : List (Nat × Nat)} (h : mok r p = true) : MokP r := by
  simp only [mok, Bool.and_eq_true, decide_eq_true_eq] at h
  obtain ⟨⟨⟨⟨⟨⟨h1, h2⟩, h3⟩, h4⟩, h5⟩, h6⟩, h7⟩ := h
  refine ⟨fun w hw => lw_g_of (inTs_mem h1 w hw) (List.all_eq_true.mp h2 w hw), h3, ⟨h4, h5⟩, Nat.le_of_ble_eq_true h6, fun e => ?_⟩
  rw [e] at h7
  simp only [Bool.and_eq_true, decide_eq_true_eq] at h7
  exact h7
theorem moks_P : ∀ {rs : List MT} {ps : List (List (Nat × Nat))}, moks rs ps = true → ∀ r ∈ rs, MokP r := by
  intro rs
  induction rs with
  | nil => intro ps _ r hr; cases hr
  | cons a rs ih =>
    intro ps h r hr
    cases ps with
    | nil => cases h
    | cons p ps =>
      simp only [moks, Bool.and_eq_true] at h
      rcases List.mem_cons.mp hr with rfl | h1
      · exact mok_P h.1
      · exact ih h.2 r h1
def CodeIn (r : MT) : Prop := Cond.code r.1 r.2.1 r.2.2.1 r.2.2.2.1 ∈ lw_tbl
theorem mcode_0 : ∀ r ∈ mtl_0, CodeIn r := List.forall_mem_cons.mpr ⟨inT_r 0 116 rfl, List.forall_mem_cons.mpr ⟨inT_r 2 81 rfl, List.forall_mem_cons.mpr ⟨inT_r 2 172 rfl, List.forall_mem_cons.mpr ⟨inT_r 2 124 rfl, List.forall_mem_cons.mpr ⟨inT_r 3 25 rfl, List.forall_mem_cons.mpr ⟨inT_r 3 28 rfl, List.forall_mem_cons.mpr ⟨inT_r 3 100 rfl, List.forall_mem_cons.mpr ⟨inT_r 3 116 rfl, List.forall_mem_cons.mpr ⟨inT_r 3 119 rfl, List.forall_mem_cons.mpr ⟨inT_r 3 129 rfl, List.forall_mem_cons.mpr ⟨inT_r 3 126 rfl, List.forall_mem_cons.mpr ⟨inT_r 3 132 rfl, List.forall_mem_cons.mpr ⟨inT_r 3 144 rfl, List.forall_mem_cons.mpr ⟨inT_r 3 151 rfl, List.forall_mem_cons.mpr ⟨inT_r 3 147 rfl, List.forall_mem_cons.mpr ⟨inT_r 3 154 rfl, List.forall_mem_cons.mpr ⟨inT_r 3 161 rfl, List.forall_mem_cons.mpr ⟨inT_r 4 2 rfl, List.forall_mem_cons.mpr ⟨inT_r 4 6 rfl, List.forall_mem_cons.mpr ⟨inT_r 4 9 rfl, fun _ h => absurd h List.not_mem_nil⟩⟩⟩⟩⟩⟩⟩⟩⟩⟩⟩⟩⟩⟩⟩⟩⟩⟩⟩⟩
set_option maxRecDepth 100000 in
theorem mok_0 : moks mtl_0 [[(0, 4), (0, 115)], [(0, 4), (2, 79), (2, 80)], [(0, 4), (2, 170), (2, 171)], [(0, 4), (2, 122), (2, 123)], [(0, 19), (3, 24)], [(0, 19), (3, 27)], [(0, 19), (3, 99)], [(0, 19), (3, 115)], [(0, 19), (3, 118)], [(0, 19), (3, 128)], [(0, 19), (3, 125)], [(0, 19), (3, 131)], [(0, 19), (3, 143)], [(0, 19), (3, 150)], [(0, 19), (3, 146)], [(0, 19), (3, 153)], [(0, 19), (3, 160)], [(0, 19), (4, 1)], [(0, 19), (4, 5)], [(0, 19), (4, 8)]] = true := by decide +kernel
theorem mcode_1 : ∀ r ∈ mtl_1, CodeIn r := List.forall_mem_cons.mpr ⟨inT_r 4 12 rfl, List.forall_mem_cons.mpr ⟨inT_r 4 16 rfl, List.forall_mem_cons.mpr ⟨inT_r 4 19 rfl, List.forall_mem_cons.mpr ⟨inT_r 4 26 rfl, List.forall_mem_cons.mpr ⟨inT_r 4 30 rfl, List.forall_mem_cons.mpr ⟨inT_r 4 34 rfl, List.forall_mem_cons.mpr ⟨inT_r 4 37 rfl, List.forall_mem_cons.mpr ⟨inT_r 4 40 rfl, List.forall_mem_cons.mpr ⟨inT_r 4 45 rfl, List.forall_mem_cons.mpr ⟨inT_r 4 48 rfl, List.forall_mem_cons.mpr ⟨inT_r 4 54 rfl, List.forall_mem_cons.mpr ⟨inT_r 4 51 rfl, List.forall_mem_cons.mpr ⟨inT_r 4 59 rfl, List.forall_mem_cons.mpr ⟨inT_r 4 62 rfl, List.forall_mem_cons.mpr ⟨inT_r 4 70 rfl, List.forall_mem_cons.mpr ⟨inT_r 4 67 rfl, List.forall_mem_cons.mpr ⟨inT_r 4 121 rfl, List.forall_mem_cons.mpr ⟨inT_r 0 141 rfl, List.forall_mem_cons.mpr ⟨inT_r 2 77 rfl, List.forall_mem_cons.mpr ⟨inT_r 2 134 rfl, fun _ h => absurd h List.not_mem_nil⟩⟩⟩⟩⟩⟩⟩⟩⟩⟩⟩⟩⟩⟩⟩⟩⟩⟩⟩⟩
set_option maxRecDepth 100000 in
theorem mok_1 : moks mtl_1 [[(0, 19), (4, 11)], [(0, 19), (4, 15)], [(0, 19), (4, 18)], [(0, 19), (4, 25)], [(0, 19), (4, 29)], [(0, 19), (4, 33)], [(0, 19), (4, 36)], [(0, 19), (4, 39)], [(0, 19), (4, 44)], [(0, 19), (4, 47)], [(0, 19), (4, 53)], [(0, 19), (4, 50)], [(0, 19), (4, 58)], [(0, 19), (4, 61)], [(0, 19), (4, 69)], [(0, 19), (4, 66)], [(0, 19), (4, 120)], [(0, 6), (0, 140)], [(0, 6), (2, 75), (2, 76)], [(0, 6), (2, 132), (2, 133)]] = true := by decide +kernel
theorem mcode_2 : ∀ r ∈ mtl_2, CodeIn r := List.forall_mem_cons.mpr ⟨inT_r 1 93 rfl, List.forall_mem_cons.mpr ⟨inT_r 3 63 rfl, List.forall_mem_cons.mpr ⟨inT_r 3 89 rfl, List.forall_mem_cons.mpr ⟨inT_r 3 68 rfl, List.forall_mem_cons.mpr ⟨inT_r 3 72 rfl, List.forall_mem_cons.mpr ⟨inT_r 3 42 rfl, List.forall_mem_cons.mpr ⟨inT_r 3 59 rfl, List.forall_mem_cons.mpr ⟨inT_r 3 84 rfl, List.forall_mem_cons.mpr ⟨inT_r 3 76 rfl, List.forall_mem_cons.mpr ⟨inT_r 3 80 rfl, List.forall_mem_cons.mpr ⟨inT_r 4 87 rfl, List.forall_mem_cons.mpr ⟨inT_r 4 91 rfl, List.forall_mem_cons.mpr ⟨inT_r 3 93 rfl, List.forall_mem_cons.mpr ⟨inT_r 3 182 rfl, List.forall_mem_cons.mpr ⟨inT_r 3 207 rfl, List.forall_mem_cons.mpr ⟨inT_r 3 203 rfl, List.forall_mem_cons.mpr ⟨inT_r 3 190 rfl, List.forall_mem_cons.mpr ⟨inT_r 3 195 rfl, List.forall_mem_cons.mpr ⟨inT_r 3 186 rfl, List.forall_mem_cons.mpr ⟨inT_r 3 211 rfl, fun _ h => absurd h List.not_mem_nil⟩⟩⟩⟩⟩⟩⟩⟩⟩⟩⟩⟩⟩⟩⟩⟩⟩⟩⟩⟩
set_option maxRecDepth 100000 in
theorem mok_2 : moks mtl_2 [[(0, 10), (1, 92)], [(0, 10), (3, 62), (9, 8)], [(0, 10), (3, 88), (9, 14)], [(0, 10), (3, 67), (9, 9)], [(0, 10), (3, 71), (9, 10)], [(0, 10), (3, 40), (3, 41)], [(0, 10), (3, 58), (9, 7)], [(0, 10), (3, 83), (9, 13)], [(0, 10), (3, 75), (9, 11)], [(0, 10), (3, 79), (9, 12)], [(0, 10), (4, 85), (4, 86)], [(0, 10), (4, 90), (10, 8)], [(0, 10), (3, 91), (3, 92)], [(0, 10), (3, 180), (3, 181)], [(0, 10), (3, 206), (10, 3)], [(0, 10), (3, 202), (10, 2)], [(0, 10), (3, 189), (10, 0)], [(0, 10), (3, 194), (10, 1)], [(0, 10), (3, 185), (9, 15)], [(0, 10), (3, 210), (10, 4)]] = true := by decide +kernel
theorem mcode_3 : ∀ r ∈ mtl_3, CodeIn r := List.forall_mem_cons.mpr ⟨inT_r 3 215 rfl, List.forall_mem_cons.mpr ⟨inT_r 0 131 rfl, List.forall_mem_cons.mpr ⟨inT_r 1 172 rfl, List.forall_mem_cons.mpr ⟨inT_r 2 129 rfl, List.forall_mem_cons.mpr ⟨inT_r 3 50 rfl, List.forall_mem_cons.mpr ⟨inT_r 4 103 rfl, List.forall_mem_cons.mpr ⟨inT_r 3 55 rfl, List.forall_mem_cons.mpr ⟨inT_r 3 46 rfl, List.forall_mem_cons.mpr ⟨inT_r 4 99 rfl, List.forall_mem_cons.mpr ⟨inT_r 4 107 rfl, List.forall_mem_cons.mpr ⟨inT_r 0 203 rfl, List.forall_mem_cons.mpr ⟨inT_r 1 160 rfl, List.forall_mem_cons.mpr ⟨inT_r 1 164 rfl, List.forall_mem_cons.mpr ⟨inT_r 1 204 rfl, List.forall_mem_cons.mpr ⟨inT_r 1 208 rfl, List.forall_mem_cons.mpr ⟨inT_r 1 213 rfl, List.forall_mem_cons.mpr ⟨inT_r 2 42 rfl, List.forall_mem_cons.mpr ⟨inT_r 2 53 rfl, List.forall_mem_cons.mpr ⟨inT_r 2 46 rfl, List.forall_mem_cons.mpr ⟨inT_r 2 61 rfl, fun _ h => absurd h List.not_mem_nil⟩⟩⟩⟩⟩⟩⟩⟩⟩⟩⟩⟩⟩⟩⟩⟩⟩⟩⟩⟩
set_option maxRecDepth 100000 in
theorem mok_3 : moks mtl_3 [[(0, 10), (3, 214), (10, 5)], [(0, 5), (0, 130)], [(0, 5), (1, 170), (1, 171)], [(0, 5), (2, 127), (2, 128)], [(0, 5), (3, 48), (3, 49)], [(0, 5), (4, 101), (4, 102)], [(0, 5), (3, 53), (3, 54)], [(0, 5), (3, 44), (3, 45)], [(0, 5), (4, 97), (4, 98)], [(0, 5), (4, 105), (4, 106)], [(0, 7), (0, 202)], [(0, 7), (1, 158), (1, 159)], [(0, 7), (1, 163), (8, 0)], [(0, 7), (1, 203), (8, 3)], [(0, 7), (1, 207), (8, 4)], [(0, 7), (1, 212)], [(0, 7), (2, 41), (8, 5)], [(0, 7), (2, 52), (8, 7)], [(0, 7), (2, 45), (8, 6)], [(0, 7), (2, 60), (8, 8)]] = true := by decide +kernel
theorem mcode_4 : ∀ r ∈ mtl_4, CodeIn r := List.forall_mem_cons.mpr ⟨inT_r 2 65 rfl, List.forall_mem_cons.mpr ⟨inT_r 2 69 rfl, List.forall_mem_cons.mpr ⟨inT_r 2 73 rfl, List.forall_mem_cons.mpr ⟨inT_r 2 89 rfl, List.forall_mem_cons.mpr ⟨inT_r 2 93 rfl, List.forall_mem_cons.mpr ⟨inT_r 0 45 rfl, List.forall_mem_cons.mpr ⟨inT_r 1 168 rfl, List.forall_mem_cons.mpr ⟨inT_r 2 117 rfl, List.forall_mem_cons.mpr ⟨inT_r 2 85 rfl, List.forall_mem_cons.mpr ⟨inT_r 2 97 rfl, List.forall_mem_cons.mpr ⟨inT_r 2 156 rfl, List.forall_mem_cons.mpr ⟨inT_r 3 17 rfl, List.forall_mem_cons.mpr ⟨inT_r 2 237 rfl, List.forall_mem_cons.mpr ⟨inT_r 3 199 rfl, List.forall_mem_cons.mpr ⟨inT_r 3 104 rfl, List.forall_mem_cons.mpr ⟨inT_r 3 108 rfl, List.forall_mem_cons.mpr ⟨inT_r 2 109 rfl, List.forall_mem_cons.mpr ⟨inT_r 2 109 rfl, List.forall_mem_cons.mpr ⟨inT_r 2 160 rfl, List.forall_mem_cons.mpr ⟨inT_r 2 105 rfl, fun _ h => absurd h List.not_mem_nil⟩⟩⟩⟩⟩⟩⟩⟩⟩⟩⟩⟩⟩⟩⟩⟩⟩⟩⟩⟩
set_option maxRecDepth 100000 in
theorem mok_4 : moks mtl_4 [[(0, 7), (2, 64), (8, 9)], [(0, 7), (2, 68), (8, 10)], [(0, 7), (2, 72), (8, 11)], [(0, 7), (2, 88), (8, 12)], [(0, 7), (2, 92), (8, 13)], [(0, 3), (0, 44)], [(0, 3), (1, 166), (1, 167)], [(0, 3), (2, 115), (2, 116)], [(0, 3), (2, 83), (2, 84)], [(0, 3), (2, 95), (2, 96)], [(0, 3), (2, 154), (2, 155)], [(0, 3), (3, 15), (3, 16)], [(0, 3), (2, 235), (2, 236)], [(0, 3), (3, 197), (3, 198)], [(0, 3), (3, 102), (3, 103)], [(0, 3), (3, 106), (3, 107)], [(0, 3), (2, 108), (8, 14)], [(0, 3), (2, 108), (8, 14)], [(0, 3), (2, 158), (2, 159)], [(0, 3), (2, 103), (2, 104)]] = true := by decide +kernel
theorem mcode_5 : ∀ r ∈ mtl_5, CodeIn r := List.forall_mem_cons.mpr ⟨inT_r 2 101 rfl, List.forall_mem_cons.mpr ⟨inT_r 2 213 rfl, List.forall_mem_cons.mpr ⟨inT_r 2 221 rfl, List.forall_mem_cons.mpr ⟨inT_r 2 225 rfl, List.forall_mem_cons.mpr ⟨inT_r 2 152 rfl, List.forall_mem_cons.mpr ⟨inT_r 0 217 rfl, List.forall_mem_cons.mpr ⟨inT_r 1 176 rfl, List.forall_mem_cons.mpr ⟨inT_r 1 183 rfl, List.forall_mem_cons.mpr ⟨inT_r 1 193 rfl, List.forall_mem_cons.mpr ⟨inT_r 1 200 rfl, List.forall_mem_cons.mpr ⟨inT_r 1 230 rfl, List.forall_mem_cons.mpr ⟨inT_r 1 186 rfl, List.forall_mem_cons.mpr ⟨inT_r 1 189 rfl, List.forall_mem_cons.mpr ⟨inT_r 1 196 rfl, List.forall_mem_cons.mpr ⟨inT_r 0 32 rfl, List.forall_mem_cons.mpr ⟨inT_r 4 147 rfl, List.forall_mem_cons.mpr ⟨inT_r 1 140 rfl, List.forall_mem_cons.mpr ⟨inT_r 1 156 rfl, List.forall_mem_cons.mpr ⟨inT_r 1 152 rfl, List.forall_mem_cons.mpr ⟨inT_r 2 113 rfl, fun _ h => absurd h List.not_mem_nil⟩⟩⟩⟩⟩⟩⟩⟩⟩⟩⟩⟩⟩⟩⟩⟩⟩⟩⟩⟩
set_option maxRecDepth 100000 in
theorem mok_5 : moks mtl_5 [[(0, 3), (2, 99), (2, 100)], [(0, 3), (2, 211), (2, 212)], [(0, 3), (2, 219), (2, 220)], [(0, 3), (2, 223), (2, 224)], [(0, 3), (2, 150), (2, 151)], [(0, 8), (0, 216)], [(0, 8), (1, 174), (1, 175)], [(0, 8), (1, 181), (1, 182)], [(0, 8), (1, 192), (8, 1)], [(0, 8), (1, 199), (8, 2)], [(0, 8), (1, 228), (1, 229)], [(0, 8), (1, 185)], [(0, 8), (1, 188)], [(0, 8), (1, 195)], [(0, 2), (0, 31)], [(0, 2), (4, 145), (4, 146)], [(0, 2), (1, 138), (1, 139)], [(0, 2), (1, 154), (1, 155)], [(0, 2), (1, 150), (1, 151)], [(0, 2), (2, 111), (2, 112)]] = true := by decide +kernel
theorem mcode_6 : ∀ r ∈ mtl_6, CodeIn r := List.forall_mem_cons.mpr ⟨inT_r 2 148 rfl, List.forall_mem_cons.mpr ⟨inT_r 2 168 rfl, List.forall_mem_cons.mpr ⟨inT_r 3 38 rfl, List.forall_mem_cons.mpr ⟨inT_r 3 174 rfl, List.forall_mem_cons.mpr ⟨inT_r 1 45 rfl, List.forall_mem_cons.mpr ⟨inT_r 2 180 rfl, List.forall_mem_cons.mpr ⟨inT_r 2 184 rfl, List.forall_mem_cons.mpr ⟨inT_r 3 224 rfl, List.forall_mem_cons.mpr ⟨inT_r 3 235 rfl, List.forall_mem_cons.mpr ⟨inT_r 3 230 rfl, List.forall_mem_cons.mpr ⟨inT_r 3 230 rfl, List.forall_mem_cons.mpr ⟨inT_r 2 189 rfl, List.forall_mem_cons.mpr ⟨inT_r 2 193 rfl, List.forall_mem_cons.mpr ⟨inT_r 2 204 rfl, List.forall_mem_cons.mpr ⟨inT_r 2 217 rfl, List.forall_mem_cons.mpr ⟨inT_r 2 229 rfl, List.forall_mem_cons.mpr ⟨inT_r 2 233 rfl, List.forall_mem_cons.mpr ⟨inT_r 2 208 rfl, List.forall_mem_cons.mpr ⟨inT_r 3 9 rfl, List.forall_mem_cons.mpr ⟨inT_r 4 130 rfl, fun _ h => absurd h List.not_mem_nil⟩⟩⟩⟩⟩⟩⟩⟩⟩⟩⟩⟩⟩⟩⟩⟩⟩⟩⟩⟩
set_option maxRecDepth 100000 in
theorem mok_6 : moks mtl_6 [[(0, 2), (2, 146), (2, 147)], [(0, 2), (2, 166), (2, 167)], [(0, 2), (3, 36), (3, 37)], [(0, 2), (3, 172), (3, 173)], [(0, 9), (1, 44)], [(0, 9), (2, 178), (2, 179)], [(0, 9), (2, 182), (2, 183)], [(0, 9), (3, 222), (3, 223)], [(0, 9), (3, 234), (10, 7)], [(0, 9), (3, 229), (10, 6)], [(0, 9), (3, 229), (10, 6)], [(0, 9), (2, 188), (8, 15)], [(0, 9), (2, 192), (9, 0)], [(0, 9), (2, 203), (9, 1)], [(0, 9), (2, 216), (9, 3)], [(0, 9), (2, 228), (9, 4)], [(0, 9), (2, 232), (9, 5)], [(0, 9), (2, 207), (9, 2)], [(0, 9), (3, 7), (3, 8)], [(0, 9), (4, 128), (4, 129)]] = true := by decide +kernel
theorem mcode_7 : ∀ r ∈ mtl_7, CodeIn r := List.forall_mem_cons.mpr ⟨inT_r 4 135 rfl, List.forall_mem_cons.mpr ⟨inT_r 3 5 rfl, List.forall_mem_cons.mpr ⟨inT_r 3 13 rfl, List.forall_mem_cons.mpr ⟨inT_r 0 24 rfl, List.forall_mem_cons.mpr ⟨inT_r 1 136 rfl, List.forall_mem_cons.mpr ⟨inT_r 1 144 rfl, List.forall_mem_cons.mpr ⟨inT_r 1 148 rfl, List.forall_mem_cons.mpr ⟨inT_r 2 140 rfl, List.forall_mem_cons.mpr ⟨inT_r 2 144 rfl, List.forall_mem_cons.mpr ⟨inT_r 2 164 rfl, List.forall_mem_cons.mpr ⟨inT_r 2 176 rfl, List.forall_mem_cons.mpr ⟨inT_r 3 1 rfl, List.forall_mem_cons.mpr ⟨inT_r 3 21 rfl, List.forall_mem_cons.mpr ⟨inT_r 3 34 rfl, List.forall_mem_cons.mpr ⟨inT_r 3 97 rfl, List.forall_mem_cons.mpr ⟨inT_r 3 113 rfl, List.forall_mem_cons.mpr ⟨inT_r 3 123 rfl, List.forall_mem_cons.mpr ⟨inT_r 3 140 rfl, List.forall_mem_cons.mpr ⟨inT_r 3 158 rfl, List.forall_mem_cons.mpr ⟨inT_r 3 165 rfl, fun _ h => absurd h List.not_mem_nil⟩⟩⟩⟩⟩⟩⟩⟩⟩⟩⟩⟩⟩⟩⟩⟩⟩⟩⟩⟩
set_option maxRecDepth 100000 in
theorem mok_7 : moks mtl_7 [[(0, 9), (4, 133), (4, 134)], [(0, 9), (3, 3), (3, 4)], [(0, 9), (3, 12), (9, 6)], [(0, 1), (0, 23)], [(0, 1), (1, 134), (1, 135)], [(0, 1), (1, 142), (1, 143)], [(0, 1), (1, 146), (1, 147)], [(0, 1), (2, 138), (2, 139)], [(0, 1), (2, 142), (2, 143)], [(0, 1), (2, 162), (2, 163)], [(0, 1), (2, 174), (2, 175)], [(0, 1), (2, 239), (3, 0)], [(0, 1), (3, 19), (3, 20)], [(0, 1), (3, 32), (3, 33)], [(0, 1), (3, 95), (3, 96)], [(0, 1), (3, 111), (3, 112)], [(0, 1), (3, 121), (3, 122)], [(0, 1), (3, 138), (3, 139)], [(0, 1), (3, 156), (3, 157)], [(0, 1), (3, 163), (3, 164)]] = true := by decide +kernel
theorem mcode_8 : ∀ r ∈ mtl_8, CodeIn r := List.forall_mem_cons.mpr ⟨inT_r 3 170 rfl, List.forall_mem_cons.mpr ⟨inT_r 3 178 rfl, List.forall_mem_cons.mpr ⟨inT_r 3 220 rfl, List.forall_mem_cons.mpr ⟨inT_r 3 239 rfl, List.forall_mem_cons.mpr ⟨inT_r 4 23 rfl, List.forall_mem_cons.mpr ⟨inT_r 4 74 rfl, List.forall_mem_cons.mpr ⟨inT_r 4 78 rfl, List.forall_mem_cons.mpr ⟨inT_r 4 83 rfl, List.forall_mem_cons.mpr ⟨inT_r 4 95 rfl, List.forall_mem_cons.mpr ⟨inT_r 4 111 rfl, List.forall_mem_cons.mpr ⟨inT_r 4 118 rfl, List.forall_mem_cons.mpr ⟨inT_r 4 126 rfl, List.forall_mem_cons.mpr ⟨inT_r 4 139 rfl, List.forall_mem_cons.mpr ⟨inT_r 4 143 rfl, List.forall_mem_cons.mpr ⟨inT_r 4 152 rfl, List.forall_mem_cons.mpr ⟨inT_r 4 157 rfl, List.forall_mem_cons.mpr ⟨inT_r 5 89 rfl, List.forall_mem_cons.mpr ⟨inT_r 5 223 rfl, List.forall_mem_cons.mpr ⟨inT_r 5 155 rfl, List.forall_mem_cons.mpr ⟨inT_r 5 137 rfl, fun _ h => absurd h List.not_mem_nil⟩⟩⟩⟩⟩⟩⟩⟩⟩⟩⟩⟩⟩⟩⟩⟩⟩⟩⟩⟩
set_option maxRecDepth 100000 in
theorem mok_8 : moks mtl_8 [[(0, 1), (3, 168), (3, 169)], [(0, 1), (3, 176), (3, 177)], [(0, 1), (3, 218), (3, 219)], [(0, 1), (3, 237), (3, 238)], [(0, 1), (4, 21), (4, 22)], [(0, 1), (4, 72), (4, 73)], [(0, 1), (4, 76), (4, 77)], [(0, 1), (4, 81), (4, 82)], [(0, 1), (4, 93), (4, 94)], [(0, 1), (4, 109), (4, 110)], [(0, 1), (4, 116), (4, 117)], [(0, 1), (4, 124), (4, 125)], [(0, 1), (4, 137), (4, 138)], [(0, 1), (4, 141), (4, 142)], [(0, 1), (4, 150), (4, 151)], [(0, 11), (4, 156)], [(0, 11), (5, 88)], [(0, 11), (5, 222)], [(0, 11), (5, 154)], [(0, 11), (5, 136)]] = true := by decide +kernel
theorem mcode_9 : ∀ r ∈ mtl_9, CodeIn r := List.forall_mem_cons.mpr ⟨inT_r 6 98 rfl, List.forall_mem_cons.mpr ⟨inT_r 7 145 rfl, List.forall_mem_cons.mpr ⟨inT_r 7 142 rfl, List.forall_mem_cons.mpr ⟨inT_r 5 97 rfl, List.forall_mem_cons.mpr ⟨inT_r 5 78 rfl, List.forall_mem_cons.mpr ⟨inT_r 5 82 rfl, List.forall_mem_cons.mpr ⟨inT_r 5 86 rfl, List.forall_mem_cons.mpr ⟨inT_r 5 109 rfl, List.forall_mem_cons.mpr ⟨inT_r 5 105 rfl, List.forall_mem_cons.mpr ⟨inT_r 5 148 rfl, List.forall_mem_cons.mpr ⟨inT_r 5 134 rfl, List.forall_mem_cons.mpr ⟨inT_r 5 152 rfl, List.forall_mem_cons.mpr ⟨inT_r 5 130 rfl, List.forall_mem_cons.mpr ⟨inT_r 5 141 rfl, List.forall_mem_cons.mpr ⟨inT_r 5 126 rfl, List.forall_mem_cons.mpr ⟨inT_r 5 121 rfl, List.forall_mem_cons.mpr ⟨inT_r 5 163 rfl, List.forall_mem_cons.mpr ⟨inT_r 5 173 rfl, List.forall_mem_cons.mpr ⟨inT_r 5 159 rfl, List.forall_mem_cons.mpr ⟨inT_r 5 177 rfl, fun _ h => absurd h List.not_mem_nil⟩⟩⟩⟩⟩⟩⟩⟩⟩⟩⟩⟩⟩⟩⟩⟩⟩⟩⟩⟩
set_option maxRecDepth 100000 in
theorem mok_9 : moks mtl_9 [[(0, 11), (6, 97)], [(0, 11), (7, 144)], [(0, 11), (7, 141), (16, 10)], [(0, 11), (5, 96), (10, 10)], [(0, 11), (5, 76), (5, 77)], [(0, 11), (5, 81), (10, 9)], [(0, 11), (5, 84), (5, 85)], [(0, 11), (5, 108), (10, 13)], [(0, 11), (5, 104), (10, 12)], [(0, 11), (5, 147), (11, 5)], [(0, 11), (5, 133), (11, 3)], [(0, 11), (5, 151), (11, 6)], [(0, 11), (5, 129), (11, 2)], [(0, 11), (5, 140), (11, 4)], [(0, 11), (5, 125), (11, 1)], [(0, 11), (5, 120), (11, 0)], [(0, 11), (5, 162), (11, 8)], [(0, 11), (5, 172), (11, 9)], [(0, 11), (5, 158), (11, 7)], [(0, 11), (5, 176), (11, 10)]] = true := by decide +kernel
theorem mcode_10 : ∀ r ∈ mtl_10, CodeIn r := List.forall_mem_cons.mpr ⟨inT_r 5 182 rfl, List.forall_mem_cons.mpr ⟨inT_r 5 117 rfl, List.forall_mem_cons.mpr ⟨inT_r 5 113 rfl, List.forall_mem_cons.mpr ⟨inT_r 5 188 rfl, List.forall_mem_cons.mpr ⟨inT_r 5 101 rfl, List.forall_mem_cons.mpr ⟨inT_r 5 196 rfl, List.forall_mem_cons.mpr ⟨inT_r 5 192 rfl, List.forall_mem_cons.mpr ⟨inT_r 5 93 rfl, List.forall_mem_cons.mpr ⟨inT_r 5 200 rfl, List.forall_mem_cons.mpr ⟨inT_r 5 212 rfl, List.forall_mem_cons.mpr ⟨inT_r 5 208 rfl, List.forall_mem_cons.mpr ⟨inT_r 5 220 rfl, List.forall_mem_cons.mpr ⟨inT_r 5 216 rfl, List.forall_mem_cons.mpr ⟨inT_r 6 3 rfl, List.forall_mem_cons.mpr ⟨inT_r 6 87 rfl, List.forall_mem_cons.mpr ⟨inT_r 5 235 rfl, List.forall_mem_cons.mpr ⟨inT_r 5 239 rfl, List.forall_mem_cons.mpr ⟨inT_r 5 231 rfl, List.forall_mem_cons.mpr ⟨inT_r 5 227 rfl, List.forall_mem_cons.mpr ⟨inT_r 6 55 rfl, fun _ h => absurd h List.not_mem_nil⟩⟩⟩⟩⟩⟩⟩⟩⟩⟩⟩⟩⟩⟩⟩⟩⟩⟩⟩⟩
set_option maxRecDepth 100000 in
theorem mok_10 : moks mtl_10 [[(0, 11), (5, 181), (11, 11)], [(0, 11), (5, 116), (10, 15)], [(0, 11), (5, 112), (10, 14)], [(0, 11), (5, 187), (11, 12)], [(0, 11), (5, 100), (10, 11)], [(0, 11), (5, 195), (11, 14)], [(0, 11), (5, 191), (11, 13)], [(0, 11), (5, 91), (5, 92)], [(0, 11), (5, 198), (5, 199)], [(0, 11), (5, 211), (12, 0)], [(0, 11), (5, 207), (11, 15)], [(0, 11), (5, 219), (12, 2)], [(0, 11), (5, 215), (12, 1)], [(0, 11), (6, 2), (12, 7)], [(0, 11), (6, 86), (13, 9)], [(0, 11), (5, 234), (12, 5)], [(0, 11), (5, 238), (12, 6)], [(0, 11), (5, 230), (12, 4)], [(0, 11), (5, 226), (12, 3)], [(0, 11), (6, 54), (13, 2)]] = true := by decide +kernel
theorem mcode_11 : ∀ r ∈ mtl_11, CodeIn r := List.forall_mem_cons.mpr ⟨inT_r 5 204 rfl, List.forall_mem_cons.mpr ⟨inT_r 6 15 rfl, List.forall_mem_cons.mpr ⟨inT_r 6 19 rfl, List.forall_mem_cons.mpr ⟨inT_r 6 11 rfl, List.forall_mem_cons.mpr ⟨inT_r 6 7 rfl, List.forall_mem_cons.mpr ⟨inT_r 6 51 rfl, List.forall_mem_cons.mpr ⟨inT_r 6 59 rfl, List.forall_mem_cons.mpr ⟨inT_r 6 47 rfl, List.forall_mem_cons.mpr ⟨inT_r 6 63 rfl, List.forall_mem_cons.mpr ⟨inT_r 6 67 rfl, List.forall_mem_cons.mpr ⟨inT_r 6 71 rfl, List.forall_mem_cons.mpr ⟨inT_r 6 75 rfl, List.forall_mem_cons.mpr ⟨inT_r 6 43 rfl, List.forall_mem_cons.mpr ⟨inT_r 6 39 rfl, List.forall_mem_cons.mpr ⟨inT_r 6 35 rfl, List.forall_mem_cons.mpr ⟨inT_r 6 31 rfl, List.forall_mem_cons.mpr ⟨inT_r 6 27 rfl, List.forall_mem_cons.mpr ⟨inT_r 6 23 rfl, List.forall_mem_cons.mpr ⟨inT_r 6 91 rfl, List.forall_mem_cons.mpr ⟨inT_r 6 83 rfl, fun _ h => absurd h List.not_mem_nil⟩⟩⟩⟩⟩⟩⟩⟩⟩⟩⟩⟩⟩⟩⟩⟩⟩⟩⟩⟩
set_option maxRecDepth 100000 in
theorem mok_11 : moks mtl_11 [[(0, 11), (5, 202), (5, 203)], [(0, 11), (6, 14), (12, 9)], [(0, 11), (6, 18), (12, 10)], [(0, 11), (6, 10), (12, 8)], [(0, 11), (6, 5), (6, 6)], [(0, 11), (6, 50), (13, 1)], [(0, 11), (6, 58), (13, 3)], [(0, 11), (6, 46), (13, 0)], [(0, 11), (6, 62), (13, 4)], [(0, 11), (6, 66), (13, 5)], [(0, 11), (6, 70), (13, 6)], [(0, 11), (6, 74), (13, 7)], [(0, 11), (6, 42), (12, 15)], [(0, 11), (6, 38), (12, 14)], [(0, 11), (6, 34), (12, 13)], [(0, 11), (6, 30), (12, 12)], [(0, 11), (6, 26), (12, 11)], [(0, 11), (6, 21), (6, 22)], [(0, 11), (6, 90), (13, 10)], [(0, 11), (6, 82), (13, 8)]] = true := by decide +kernel
theorem mcode_12 : ∀ r ∈ mtl_12, CodeIn r := List.forall_mem_cons.mpr ⟨inT_r 6 79 rfl, List.forall_mem_cons.mpr ⟨inT_r 6 95 rfl, List.forall_mem_cons.mpr ⟨inT_r 6 106 rfl, List.forall_mem_cons.mpr ⟨inT_r 6 118 rfl, List.forall_mem_cons.mpr ⟨inT_r 6 130 rfl, List.forall_mem_cons.mpr ⟨inT_r 6 114 rfl, List.forall_mem_cons.mpr ⟨inT_r 6 122 rfl, List.forall_mem_cons.mpr ⟨inT_r 6 126 rfl, List.forall_mem_cons.mpr ⟨inT_r 6 134 rfl, List.forall_mem_cons.mpr ⟨inT_r 6 110 rfl, List.forall_mem_cons.mpr ⟨inT_r 6 102 rfl, List.forall_mem_cons.mpr ⟨inT_r 6 142 rfl, List.forall_mem_cons.mpr ⟨inT_r 6 138 rfl, List.forall_mem_cons.mpr ⟨inT_r 6 150 rfl, List.forall_mem_cons.mpr ⟨inT_r 6 146 rfl, List.forall_mem_cons.mpr ⟨inT_r 6 157 rfl, List.forall_mem_cons.mpr ⟨inT_r 6 161 rfl, List.forall_mem_cons.mpr ⟨inT_r 6 165 rfl, List.forall_mem_cons.mpr ⟨inT_r 6 154 rfl, List.forall_mem_cons.mpr ⟨inT_r 6 173 rfl, fun _ h => absurd h List.not_mem_nil⟩⟩⟩⟩⟩⟩⟩⟩⟩⟩⟩⟩⟩⟩⟩⟩⟩⟩⟩⟩
set_option maxRecDepth 100000 in
theorem mok_12 : moks mtl_12 [[(0, 11), (6, 77), (6, 78)], [(0, 11), (6, 93), (6, 94)], [(0, 11), (6, 105), (13, 11)], [(0, 11), (6, 117), (13, 14)], [(0, 11), (6, 129), (14, 1)], [(0, 11), (6, 113), (13, 13)], [(0, 11), (6, 121), (13, 15)], [(0, 11), (6, 125), (14, 0)], [(0, 11), (6, 133), (14, 2)], [(0, 11), (6, 109), (13, 12)], [(0, 11), (6, 100), (6, 101)], [(0, 11), (6, 141), (14, 3)], [(0, 11), (6, 136), (6, 137)], [(0, 11), (6, 149), (14, 4)], [(0, 11), (6, 144), (6, 145)], [(0, 11), (6, 156)], [(0, 11), (6, 160), (14, 5)], [(0, 11), (6, 164), (14, 6)], [(0, 11), (6, 152), (6, 153)], [(0, 11), (6, 172), (14, 7)]] = true := by decide +kernel
theorem mcode_13 : ∀ r ∈ mtl_13, CodeIn r := List.forall_mem_cons.mpr ⟨inT_r 6 176 rfl, List.forall_mem_cons.mpr ⟨inT_r 6 169 rfl, List.forall_mem_cons.mpr ⟨inT_r 6 180 rfl, List.forall_mem_cons.mpr ⟨inT_r 6 184 rfl, List.forall_mem_cons.mpr ⟨inT_r 6 200 rfl, List.forall_mem_cons.mpr ⟨inT_r 6 196 rfl, List.forall_mem_cons.mpr ⟨inT_r 6 192 rfl, List.forall_mem_cons.mpr ⟨inT_r 6 188 rfl, List.forall_mem_cons.mpr ⟨inT_r 6 212 rfl, List.forall_mem_cons.mpr ⟨inT_r 6 232 rfl, List.forall_mem_cons.mpr ⟨inT_r 6 228 rfl, List.forall_mem_cons.mpr ⟨inT_r 6 220 rfl, List.forall_mem_cons.mpr ⟨inT_r 6 216 rfl, List.forall_mem_cons.mpr ⟨inT_r 6 224 rfl, List.forall_mem_cons.mpr ⟨inT_r 6 208 rfl, List.forall_mem_cons.mpr ⟨inT_r 7 4 rfl, List.forall_mem_cons.mpr ⟨inT_r 7 0 rfl, List.forall_mem_cons.mpr ⟨inT_r 6 236 rfl, List.forall_mem_cons.mpr ⟨inT_r 6 204 rfl, List.forall_mem_cons.mpr ⟨inT_r 7 16 rfl, fun _ h => absurd h List.not_mem_nil⟩⟩⟩⟩⟩⟩⟩⟩⟩⟩⟩⟩⟩⟩⟩⟩⟩⟩⟩⟩
set_option maxRecDepth 100000 in
theorem mok_13 : moks mtl_13 [[(0, 11), (6, 175)], [(0, 11), (6, 167), (6, 168)], [(0, 11), (6, 178), (6, 179)], [(0, 11), (6, 182), (6, 183)], [(0, 11), (6, 199), (14, 10)], [(0, 11), (6, 195), (14, 9)], [(0, 11), (6, 191), (14, 8)], [(0, 11), (6, 186), (6, 187)], [(0, 11), (6, 211), (14, 12)], [(0, 11), (6, 231), (15, 1)], [(0, 11), (6, 227), (15, 0)], [(0, 11), (6, 219), (14, 14)], [(0, 11), (6, 215), (14, 13)], [(0, 11), (6, 223), (14, 15)], [(0, 11), (6, 207), (14, 11)], [(0, 11), (7, 3), (15, 4)], [(0, 11), (6, 239), (15, 3)], [(0, 11), (6, 235), (15, 2)], [(0, 11), (6, 202), (6, 203)], [(0, 11), (7, 15), (15, 6)]] = true := by decide +kernel
theorem mcode_14 : ∀ r ∈ mtl_14, CodeIn r := List.forall_mem_cons.mpr ⟨inT_r 7 12 rfl, List.forall_mem_cons.mpr ⟨inT_r 7 8 rfl, List.forall_mem_cons.mpr ⟨inT_r 7 29 rfl, List.forall_mem_cons.mpr ⟨inT_r 7 25 rfl, List.forall_mem_cons.mpr ⟨inT_r 7 33 rfl, List.forall_mem_cons.mpr ⟨inT_r 7 37 rfl, List.forall_mem_cons.mpr ⟨inT_r 7 21 rfl, List.forall_mem_cons.mpr ⟨inT_r 7 45 rfl, List.forall_mem_cons.mpr ⟨inT_r 7 49 rfl, List.forall_mem_cons.mpr ⟨inT_r 7 53 rfl, List.forall_mem_cons.mpr ⟨inT_r 7 57 rfl, List.forall_mem_cons.mpr ⟨inT_r 7 61 rfl, List.forall_mem_cons.mpr ⟨inT_r 7 69 rfl, List.forall_mem_cons.mpr ⟨inT_r 7 65 rfl, List.forall_mem_cons.mpr ⟨inT_r 7 78 rfl, List.forall_mem_cons.mpr ⟨inT_r 7 73 rfl, List.forall_mem_cons.mpr ⟨inT_r 7 86 rfl, List.forall_mem_cons.mpr ⟨inT_r 7 82 rfl, List.forall_mem_cons.mpr ⟨inT_r 7 41 rfl, List.forall_mem_cons.mpr ⟨inT_r 7 90 rfl, fun _ h => absurd h List.not_mem_nil⟩⟩⟩⟩⟩⟩⟩⟩⟩⟩⟩⟩⟩⟩⟩⟩⟩⟩⟩⟩
set_option maxRecDepth 100000 in
theorem mok_14 : moks mtl_14 [[(0, 11), (7, 11), (15, 5)], [(0, 11), (7, 6), (7, 7)], [(0, 11), (7, 28), (15, 8)], [(0, 11), (7, 24), (15, 7)], [(0, 11), (7, 32), (15, 9)], [(0, 11), (7, 36), (15, 10)], [(0, 11), (7, 19), (7, 20)], [(0, 11), (7, 44), (15, 11)], [(0, 11), (7, 48), (15, 12)], [(0, 11), (7, 52), (15, 13)], [(0, 11), (7, 56), (15, 14)], [(0, 11), (7, 60), (15, 15)], [(0, 11), (7, 68), (16, 1)], [(0, 11), (7, 64), (16, 0)], [(0, 11), (7, 77), (16, 3)], [(0, 11), (7, 72), (16, 2)], [(0, 11), (7, 85), (16, 5)], [(0, 11), (7, 81), (16, 4)], [(0, 11), (7, 39), (7, 40)], [(0, 11), (7, 88), (7, 89)]] = true := by decide +kernel
theorem mcode_15 : ∀ r ∈ mtl_15, CodeIn r := List.forall_mem_cons.mpr ⟨inT_r 7 94 rfl, List.forall_mem_cons.mpr ⟨inT_r 7 102 rfl, List.forall_mem_cons.mpr ⟨inT_r 7 98 rfl, List.forall_mem_cons.mpr ⟨inT_r 7 110 rfl, List.forall_mem_cons.mpr ⟨inT_r 7 106 rfl, List.forall_mem_cons.mpr ⟨inT_r 7 114 rfl, List.forall_mem_cons.mpr ⟨inT_r 7 118 rfl, List.forall_mem_cons.mpr ⟨inT_r 7 126 rfl, List.forall_mem_cons.mpr ⟨inT_r 7 130 rfl, List.forall_mem_cons.mpr ⟨inT_r 7 122 rfl, List.forall_mem_cons.mpr ⟨inT_r 7 134 rfl, List.forall_mem_cons.mpr ⟨inT_r 7 138 rfl, List.forall_mem_cons.mpr ⟨inT_r 7 149 rfl, List.forall_mem_cons.mpr ⟨inT_r 2 196 rfl, List.forall_mem_cons.mpr ⟨inT_r 1 234 rfl, List.forall_mem_cons.mpr ⟨inT_r 1 238 rfl, List.forall_mem_cons.mpr ⟨inT_r 2 8 rfl, List.forall_mem_cons.mpr ⟨inT_r 2 4 rfl, List.forall_mem_cons.mpr ⟨inT_r 2 11 rfl, fun _ h => absurd h List.not_mem_nil⟩⟩⟩⟩⟩⟩⟩⟩⟩⟩⟩⟩⟩⟩⟩⟩⟩⟩⟩
set_option maxRecDepth 100000 in
theorem mok_15 : moks mtl_15 [[(0, 11), (7, 92), (7, 93)], [(0, 11), (7, 101), (16, 6)], [(0, 11), (7, 96), (7, 97)], [(0, 11), (7, 109), (16, 7)], [(0, 11), (7, 104), (7, 105)], [(0, 11), (7, 112), (7, 113)], [(0, 11), (7, 116), (7, 117)], [(0, 11), (7, 125), (16, 8)], [(0, 11), (7, 129), (16, 9)], [(0, 11), (7, 120), (7, 121)], [(0, 11), (7, 132), (7, 133)], [(0, 11), (7, 136), (7, 137)], [(0, 11), (7, 147), (7, 148)], [(0, 18), (2, 195)], [(0, 13), (1, 232), (1, 233)], [(0, 13), (1, 236), (1, 237)], [(0, 13), (2, 6), (2, 7)], [(0, 13), (2, 2), (2, 3)], [(0, 14), (2, 10)]] = true := by decide +kernel
def stIx : List Nat := [135, 137, 139, 141, 143, 145, 147, 149, 151, 153, 155, 157, 159]
def kcls (c : Nat) : String := match Nat.beq c 16 with
  | true => "java/lang/String"
  | false => (classes.getD c ("", fun _ => ("", "", "", false), 0)).1
def rcd (t : Option FieldType) : Nat := match t with
  | none => 0
  | some (.object C) => (match decide (C = "java/lang/String") with
    | true => 18
    | false => 2 + (classes.findIdx (fun q => decide (q.1 = C))))
  | some _ => 1
def ciName : MethodName := ⟨"java/lang/String", "checkIndex", "(II)V"⟩
def fOK (own : String) (e : Nat × Nat × Nat × Bool) (p : Nat × Nat) : Bool := match Nat.beq e.2.1 16 with
  | true => (match e.2.2.1 with
    | 0 => inT (.fieldLink own e.1 "java/lang/String" "value" "[B") p && !e.2.2.2
    | _ => inT (.fieldLink own e.1 "java/lang/String" "coder" "B") p && e.2.2.2)
  | false => (match classes[e.2.1]? with
    | some q => Nat.blt e.2.2.1 q.2.2 && inT (.fieldLink own e.1 q.1 (q.2.1 e.2.2.1).2.1 (q.2.1 e.2.2.1).2.2.1) p && decide ((q.2.1 e.2.2.1).1 = q.1) && (isIT (ftk e.2.1 e.2.2.1) == e.2.2.2) && decide (parseFieldDescriptor (q.2.1 e.2.2.1).2.2.1 = some (ftk e.2.1 e.2.2.1))
    | none => false)
def cOK (own : String) (e : Nat × Nat × Nat × Nat × Nat × Nat × Nat) (p : Nat × Nat) : Bool := match e.2.1 with
  | 4 => inT (.methodLink own e.1 objectInit) p
  | 5 => inT (.methodLink own e.1 arraycopyName) p
  | 6 => inT (.methodLink own e.1 ciName) p
  | 7 => inT (.methodLink own e.1 Lib.Math.max.name) p
  | 8 => inT (.methodLink own e.1 Lib.Math.min.name) p
  | 3 => (match mt e.2.2.1 with
    | some r => inT (.methodLinkNest own e.1 r.1 "StencilHouse") p && decide ((parseMethodDescriptor r.1.desc).map (fun d => d.parameters.length) = some e.2.2.2.1) && (r.2.2.1 == e.2.2.2.2.1) && (r.2.2.2.2.1 == 2)
    | none => false)
  | w => (match mt e.2.2.1 with
    | some r => inT (.methodLink own e.1 r.1) p && decide ((parseMethodDescriptor r.1.desc).map (fun d => d.parameters.length) = some e.2.2.2.1) && (r.2.2.1 == e.2.2.2.2.1) && (rcd r.2.2.2.1 == e.2.2.2.2.2.1) && (match w with
      | 1 => r.2.2.2.2.1 == 0
      | 2 => r.2.2.2.2.1 == 2
      | w => Nat.ble 10 w && (r.2.2.2.2.1 == 1) && decide (kcls (w - 10) = r.1.cls) && (Nat.blt (w - 10) 11 || w == 26))
    | none => false)
def stTx : List String := ["size", "slip", "sheet", "wear", "spray", "flip", "turn", "slide", "patch", "wash", "row", "top", "bare"]
def stK (own : String) (k : Nat) (v : AV) : Bool := match v with
  | .inr (.inr (.inl q)) => decide (own = "StencilHouse$Reader") && Nat.beq q.1 16 && Nat.blt q.2 13 && (stIx.getD q.2 0 == k)
  | _ => false
def kOK (own : String) (e : Nat × AV) (p : Nat × Nat) : Bool := match e.2 with
  | .inl x => inT (.constant own e.1 x) p
  | .inr (.inl x) => inT (.constantLong own e.1 x) p
  | v => stK own e.1 v
def nOK (own : String) (e : Nat × Nat) (ps : List (Nat × Nat)) : Bool := match classes[e.2]? with
  | some q => inTs [.classLink own e.1 q.1, .instantiable q.1 q.2.2, .initialized q.1] ps
  | none => false
def aOK (own : String) (e : Nat × FieldType) (p : Nat × Nat) : Bool := match e.2 with
  | .object C => inT (.classLink own e.1 C) p && decide (C ∈ ["StencilHouse$Shop", "StencilHouse$Day", "StencilHouse$Picture", "StencilHouse$Marks", "StencilHouse$Told"])
  | _ => false
def stN : List String := ["FIRST_WORD_OF_SORT", "NUMBERS_OF_WORD", "LEAST", "GREATEST", "", "", "KIND_DRAWN"]
def stO : List String := ["StencilHouse$Reader", "StencilHouse$Reader", "StencilHouse$Reader", "StencilHouse$Reader", "", "", "StencilHouse$Wall"]
def sOK (own : String) (e : Nat × AV) (p : Nat × Nat) : Bool := match e.2 with
  | .inl x => inT (.fieldLink own e.1 "java/lang/String" "COMPACT_STRINGS" "Z") p && decide (x = 1)
  | .inr (.inr (.inl q)) => inT (.fieldLink own e.1 (stO.getD (q.1 - 12) "") (stN.getD (q.1 - 12) "") "[I") p && (sta q.1).isSome && (q.2 == 0)
  | _ => false
def all2 {α β : Type} (f : α → β → Bool) : List α → List β → Bool
  | [], _ => true
  | a :: as, b :: bs => f a b && all2 f as bs
  | _, _ => false
theorem all2_mem {α β : Type} {f : α → β → Bool} : ∀ {as : List α} {bs : List β}, all2 f as bs = true → ∀ a ∈ as, ∃ b, f a b = true := by
  intro as
  induction as with
  | nil => intro bs _ a ha; cases ha
  | cons x as ih =>
    intro bs h a ha
    cases bs with
    | nil => simp [all2] at h
    | cons b bs =>
      simp only [all2, Bool.and_eq_true] at h
      rcases List.mem_cons.mp ha with rfl | h1
      · exact ⟨b, h.1⟩
      · exact ih h.2 a h1
def LOK (own : String) (R : LK) : Prop := (∀ e ∈ R.1, ∃ p, fOK own e p = true) ∧ (∀ e ∈ R.2.1, ∃ p, cOK own e p = true) ∧ (∀ e ∈ R.2.2.1, ∃ p, kOK own e p = true) ∧ (∀ e ∈ R.2.2.2.1, ∃ p, nOK own e p = true) ∧ (∀ e ∈ R.2.2.2.2.1, ∃ p, aOK own e p = true) ∧ (∀ e ∈ R.2.2.2.2.2, ∃ p, sOK own e p = true)
theorem LOK_of {own : String} {R : LK} (a b c : List (Nat × Nat)) (d : List (List (Nat × Nat))) (e f : List (Nat × Nat)) (h1 : all2 (fOK own) R.1 a = true) (h2 : all2 (cOK own) R.2.1 b = true) (h3 : all2 (kOK own) R.2.2.1 c = true) (h4 : all2 (nOK own) R.2.2.2.1 d = true) (h5 : all2 (aOK own) R.2.2.2.2.1 e = true) (h6 : all2 (sOK own) R.2.2.2.2.2 f = true) : LOK own R :=
  ⟨all2_mem h1, all2_mem h2, all2_mem h3, all2_mem h4, all2_mem h5, all2_mem h6⟩
set_option maxRecDepth 100000 in
theorem lok_0 : LOK "StencilHouse$Day" lk_0 := LOK_of [(0, 118), (0, 122)] [(0, 117), (2, 125)] [] [] [] [] (by decide +kernel) (by decide +kernel) (by decide +kernel) (by decide +kernel) (by decide +kernel) (by decide +kernel)
set_option maxRecDepth 100000 in
theorem lok_1 : LOK "StencilHouse$Figures" lk_1 := LOK_of [(0, 66), (0, 79), (0, 63), (0, 58), (0, 52), (0, 74), (0, 85)] [(3, 26), (3, 29), (3, 101), (3, 105), (3, 109), (3, 117), (3, 130), (3, 127), (3, 133), (3, 145), (3, 148), (4, 3), (4, 10), (4, 13), (4, 27), (4, 31), (4, 35), (4, 55), (4, 52), (4, 63), (4, 64), (4, 68), (4, 122)] [] [] [] [] (by decide +kernel) (by decide +kernel) (by decide +kernel) (by decide +kernel) (by decide +kernel) (by decide +kernel)
set_option maxRecDepth 100000 in
theorem lok_2 : LOK "StencilHouse$Marks" lk_2 := LOK_of [(0, 143), (0, 147), (0, 150), (0, 153)] [(0, 142), (2, 135)] [] [] [] [] (by decide +kernel) (by decide +kernel) (by decide +kernel) (by decide +kernel) (by decide +kernel) (by decide +kernel)
set_option maxRecDepth 100000 in
theorem lok_3 : LOK "StencilHouse$Orders" lk_3 := LOK_of [(1, 95), (1, 96), (1, 97), (1, 98), (1, 99), (1, 100), (1, 101), (0, 67), (0, 80), (0, 83), (0, 145), (0, 148), (0, 151), (0, 53), (0, 154), (0, 59)] [(1, 94), (3, 64), (3, 65), (3, 69), (3, 43), (3, 52), (3, 56), (3, 60), (3, 73), (3, 81), (3, 85), (3, 86), (3, 77), (4, 88), (3, 183), (3, 187), (3, 200), (3, 204), (3, 208), (3, 212), (3, 191), (3, 192), (3, 196), (3, 216)] [] [] [] [] (by decide +kernel) (by decide +kernel) (by decide +kernel) (by decide +kernel) (by decide +kernel) (by decide +kernel)
set_option maxRecDepth 100000 in
theorem lok_4 : LOK "StencilHouse$Picture" lk_4 := LOK_of [(0, 133), (0, 55), (0, 48)] [(0, 132), (2, 130), (3, 47), (3, 51), (4, 100)] [] [] [] [] (by decide +kernel) (by decide +kernel) (by decide +kernel) (by decide +kernel) (by decide +kernel) (by decide +kernel)
set_option maxRecDepth 100000 in
theorem lok_5 : LOK "StencilHouse$Reader" lk_5 := LOK_of [(1, 1), (1, 3), (1, 5), (1, 7), (1, 9), (1, 11), (1, 13), (1, 14), (1, 15), (1, 16), (1, 17), (0, 223), (0, 225), (0, 120), (0, 144), (0, 69), (0, 227), (0, 50), (0, 57), (0, 62), (0, 77), (0, 134), (0, 73)] [(0, 204), (0, 206), (0, 208), (0, 210), (0, 212), (0, 215), (1, 161), (1, 173), (1, 201), (2, 82), (2, 86), (2, 94), (1, 165), (1, 169), (1, 205), (2, 39), (2, 43), (2, 47), (2, 50), (2, 58), (1, 211), (1, 227), (2, 62), (2, 66), (2, 70), (2, 74), (2, 78), (2, 90)] [(1, 214), (1, 215), (1, 216), (1, 217), (1, 218), (1, 219), (1, 220), (1, 221), (1, 222), (1, 223), (1, 224), (1, 225), (1, 226)] [[(0, 205), (0, 42), (0, 3)], [(0, 207), (0, 113), (0, 4)], [(0, 209), (0, 128), (0, 5)], [(0, 211), (0, 138), (0, 6)], [(0, 213), (0, 214), (0, 8)]] [(0, 205), (0, 207), (0, 209), (0, 211)] [(2, 48), (1, 209), (2, 54), (2, 56)] (by decide +kernel) (by decide +kernel) (by decide +kernel) (by decide +kernel) (by decide +kernel) (by decide +kernel)
set_option maxRecDepth 100000 in
theorem lok_6 : LOK "StencilHouse$Shop" lk_6 := LOK_of [(0, 47), (0, 54), (0, 60), (0, 64), (0, 70), (0, 75), (0, 78), (0, 82), (0, 86), (0, 87), (0, 88)] [(0, 46), (2, 118), (2, 98), (2, 102), (2, 106), (2, 153), (2, 157)] [] [] [] [] (by decide +kernel) (by decide +kernel) (by decide +kernel) (by decide +kernel) (by decide +kernel) (by decide +kernel)
set_option maxRecDepth 100000 in
theorem lok_7 : LOK "StencilHouse$Tokens" lk_7 := LOK_of [(0, 219), (0, 220), (0, 221), (0, 222), (0, 224), (0, 226)] [(0, 218), (1, 177), (1, 180), (1, 184), (1, 187), (1, 190), (1, 194), (1, 197), (1, 231), (2, 1)] [] [] [] [] (by decide +kernel) (by decide +kernel) (by decide +kernel) (by decide +kernel) (by decide +kernel) (by decide +kernel)
set_option maxRecDepth 100000 in
theorem lok_8 : LOK "StencilHouse$Told" lk_8 := LOK_of [(0, 165), (0, 167), (0, 169), (0, 171), (0, 173), (0, 175), (0, 176), (0, 177), (0, 178), (1, 2), (1, 4), (1, 6), (1, 8)] [(0, 33), (0, 43), (0, 114), (0, 129), (0, 139), (4, 148), (2, 114), (2, 121), (2, 126), (2, 131), (1, 153)] [] [[(0, 34), (0, 42), (0, 3)], [(0, 36), (0, 113), (0, 4)], [(0, 38), (0, 128), (0, 5)], [(0, 40), (0, 138), (0, 6)]] [(0, 34), (0, 36), (0, 38), (0, 40)] [] (by decide +kernel) (by decide +kernel) (by decide +kernel) (by decide +kernel) (by decide +kernel) (by decide +kernel)
set_option maxRecDepth 100000 in
theorem lok_9 : LOK "StencilHouse$Wall" lk_9 := LOK_of [(1, 49), (1, 50), (1, 51), (1, 52), (1, 53), (1, 54), (1, 55), (1, 56), (1, 57), (1, 58), (1, 60), (1, 62), (0, 71), (0, 119), (0, 65), (0, 76), (0, 51)] [(1, 46), (1, 48), (2, 185), (2, 186), (3, 227), (3, 232), (2, 190), (2, 200), (2, 201), (2, 218), (2, 222), (2, 226), (2, 230), (2, 194), (2, 205), (2, 214), (2, 234), (2, 209), (2, 210), (3, 6), (3, 10), (3, 14)] [(3, 231)] [[(1, 47), (0, 42), (0, 3)]] [(1, 47)] [(3, 225)] (by decide +kernel) (by decide +kernel) (by decide +kernel) (by decide +kernel) (by decide +kernel) (by decide +kernel)
set_option maxRecDepth 100000 in
theorem lok_10 : LOK "StencilHouse" lk_10 := LOK_of [(1, 117), (1, 118), (1, 119), (1, 120), (1, 121), (0, 168), (0, 170), (0, 172), (0, 166), (1, 10), (1, 12), (0, 49), (0, 56), (0, 61), (0, 68), (0, 121), (0, 72), (0, 81), (0, 146), (0, 155), (0, 149), (0, 152), (0, 84), (1, 59), (1, 61), (1, 63), (0, 174)] [(0, 25), (0, 30), (0, 201), (1, 43), (1, 91), (1, 137), (1, 149), (1, 157), (2, 110), (2, 145), (2, 149), (2, 165), (2, 169), (2, 177), (2, 181), (3, 2), (3, 22), (3, 23), (3, 30), (3, 35), (3, 39), (3, 90), (3, 98), (3, 114), (3, 124), (3, 136), (3, 141), (3, 142), (3, 149), (3, 152), (3, 159), (3, 166), (3, 171), (3, 179), (3, 221), (4, 0), (4, 4), (4, 7), (4, 14), (4, 17), (4, 24), (4, 28), (4, 32), (4, 38), (4, 41), (4, 42), (4, 43), (4, 46), (4, 49), (4, 56), (4, 57), (4, 60), (4, 65), (4, 79), (4, 84), (4, 96), (4, 104), (4, 112), (4, 113), (4, 114), (4, 119), (4, 127), (4, 131), (4, 132), (4, 144)] [] [[(0, 28), (0, 29), (0, 2)], [(0, 199), (0, 200), (0, 7)], [(1, 41), (1, 42), (0, 9)], [(1, 89), (1, 90), (0, 10)]] [(0, 28)] [] (by decide +kernel) (by decide +kernel) (by decide +kernel) (by decide +kernel) (by decide +kernel) (by decide +kernel)
set_option maxRecDepth 100000 in
theorem lok_11 : LOK "StencilHouseModel" lk_11 := LOK_of [(4, 161), (4, 162), (4, 163), (4, 164), (4, 165), (4, 166), (4, 167), (4, 168), (4, 169), (4, 179), (4, 180), (4, 189), (4, 190), (4, 191), (4, 192), (4, 193), (4, 194), (4, 199), (4, 200), (4, 201), (4, 202), (4, 208), (4, 210), (4, 160), (4, 170), (4, 171), (4, 172), (4, 175), (4, 173), (4, 174), (4, 176), (4, 177), (4, 178), (4, 182), (4, 181), (4, 183), (4, 184), (4, 185), (4, 186), (4, 187), (4, 188), (4, 195), (4, 196), (4, 197), (4, 198), (4, 203), (4, 204), (4, 205), (4, 206), (4, 207), (4, 209)] [(4, 158), (5, 221), (7, 143), (5, 87), (5, 79), (5, 106), (5, 145), (5, 131), (5, 102), (5, 135), (5, 127), (5, 138), (5, 123), (5, 149), (5, 153), (5, 160), (5, 170), (5, 118), (5, 156), (5, 174), (5, 179), (5, 114), (5, 110), (5, 185), (5, 193), (5, 94), (5, 98), (5, 189), (5, 209), (5, 213), (5, 217), (5, 224), (5, 232), (5, 236), (5, 228), (5, 205), (6, 0), (6, 8), (6, 12), (6, 16), (6, 52), (6, 48), (6, 56), (6, 64), (6, 40), (6, 44), (6, 60), (6, 68), (6, 72), (6, 36), (6, 32), (6, 24), (6, 28), (6, 84), (6, 88), (6, 80), (6, 96), (6, 115), (6, 127), (6, 111), (6, 119), (6, 123), (6, 131), (6, 103), (6, 107), (6, 139), (6, 147), (6, 155), (6, 158), (6, 162), (6, 170), (6, 174), (6, 189), (6, 193), (6, 197), (6, 229), (6, 217), (6, 209), (6, 213), (6, 221), (6, 225), (7, 1), (6, 205), (6, 233), (6, 237), (7, 13), (7, 9), (7, 26), (7, 22), (7, 30), (7, 34), (7, 66), (7, 75), (7, 83), (7, 42), (7, 46), (7, 50), (7, 54), (7, 58), (7, 62), (7, 70), (7, 79), (7, 99), (7, 107), (7, 123), (7, 127), (7, 139)] [(4, 159), (5, 122), (5, 142), (5, 143), (5, 144), (5, 164), (5, 165), (5, 166), (5, 167), (5, 168), (5, 169), (5, 178), (5, 183), (5, 184), (7, 17), (7, 74)] [] [] [] (by decide +kernel) (by decide +kernel) (by decide +kernel) (by decide +kernel) (by decide +kernel) (by decide +kernel)
set_option maxRecDepth 100000 in
theorem lok_12 : LOK "java/lang/Integer" lk_12 := LOK_of [] [] [(2, 197), (2, 198), (2, 199)] [] [] [] (by decide +kernel) (by decide +kernel) (by decide +kernel) (by decide +kernel) (by decide +kernel) (by decide +kernel)
set_option maxRecDepth 100000 in
theorem lok_13 : LOK "java/lang/String" lk_13 := LOK_of [(7, 150), (7, 151)] [(1, 235), (2, 5), (2, 9)] [] [] [] [(1, 239)] (by decide +kernel) (by decide +kernel) (by decide +kernel) (by decide +kernel) (by decide +kernel) (by decide +kernel)
set_option maxRecDepth 100000 in
theorem lok_14 : LOK "java/lang/StringLatin1" lk_14 := LOK_of [] [(2, 12)] [] [] [] [] (by decide +kernel) (by decide +kernel) (by decide +kernel) (by decide +kernel) (by decide +kernel) (by decide +kernel)
set_option maxRecDepth 100000 in
theorem lok_15 : LOK "StencilHouseLaw" lk_15 := LOK_of [] [(0, 22), (4, 155), (1, 133), (5, 75), (1, 141), (5, 83), (1, 145), (5, 90), (2, 137), (5, 197), (2, 141), (5, 201), (2, 161), (6, 4), (2, 173), (6, 20), (2, 238), (6, 76), (3, 18), (6, 92), (3, 31), (6, 99), (3, 94), (6, 135), (3, 110), (6, 143), (3, 120), (6, 151), (3, 137), (6, 166), (3, 155), (6, 177), (3, 162), (6, 181), (3, 167), (6, 185), (3, 175), (6, 201), (3, 217), (7, 5), (3, 236), (7, 18), (4, 20), (7, 38), (4, 71), (7, 87), (4, 75), (7, 91), (4, 80), (7, 95), (4, 92), (7, 103), (4, 108), (7, 111), (4, 115), (7, 115), (4, 123), (7, 119), (4, 136), (7, 131), (4, 140), (7, 135), (4, 149), (7, 146)] [] [[(0, 20), (0, 21), (0, 1)], [(4, 153), (4, 154), (0, 11)]] [] [] (by decide +kernel) (by decide +kernel) (by decide +kernel) (by decide +kernel) (by decide +kernel) (by decide +kernel)
theorem mlok_0 : ∀ r ∈ mtl_0, LOK r.1.cls r.2.2.2.2.2 := List.forall_mem_cons.mpr ⟨lok_0, List.forall_mem_cons.mpr ⟨lok_0, List.forall_mem_cons.mpr ⟨lok_0, List.forall_mem_cons.mpr ⟨lok_0, List.forall_mem_cons.mpr ⟨lok_1, List.forall_mem_cons.mpr ⟨lok_1, List.forall_mem_cons.mpr ⟨lok_1, List.forall_mem_cons.mpr ⟨lok_1, List.forall_mem_cons.mpr ⟨lok_1, List.forall_mem_cons.mpr ⟨lok_1, List.forall_mem_cons.mpr ⟨lok_1, List.forall_mem_cons.mpr ⟨lok_1, List.forall_mem_cons.mpr ⟨lok_1, List.forall_mem_cons.mpr ⟨lok_1, List.forall_mem_cons.mpr ⟨lok_1, List.forall_mem_cons.mpr ⟨lok_1, List.forall_mem_cons.mpr ⟨lok_1, List.forall_mem_cons.mpr ⟨lok_1, List.forall_mem_cons.mpr ⟨lok_1, List.forall_mem_cons.mpr ⟨lok_1, fun _ h => absurd h List.not_mem_nil⟩⟩⟩⟩⟩⟩⟩⟩⟩⟩⟩⟩⟩⟩⟩⟩⟩⟩⟩⟩
theorem mlok_1 : ∀ r ∈ mtl_1, LOK r.1.cls r.2.2.2.2.2 := List.forall_mem_cons.mpr ⟨lok_1, List.forall_mem_cons.mpr ⟨lok_1, List.forall_mem_cons.mpr ⟨lok_1, List.forall_mem_cons.mpr ⟨lok_1, List.forall_mem_cons.mpr ⟨lok_1, List.forall_mem_cons.mpr ⟨lok_1, List.forall_mem_cons.mpr ⟨lok_1, List.forall_mem_cons.mpr ⟨lok_1, List.forall_mem_cons.mpr ⟨lok_1, List.forall_mem_cons.mpr ⟨lok_1, List.forall_mem_cons.mpr ⟨lok_1, List.forall_mem_cons.mpr ⟨lok_1, List.forall_mem_cons.mpr ⟨lok_1, List.forall_mem_cons.mpr ⟨lok_1, List.forall_mem_cons.mpr ⟨lok_1, List.forall_mem_cons.mpr ⟨lok_1, List.forall_mem_cons.mpr ⟨lok_1, List.forall_mem_cons.mpr ⟨lok_2, List.forall_mem_cons.mpr ⟨lok_2, List.forall_mem_cons.mpr ⟨lok_2, fun _ h => absurd h List.not_mem_nil⟩⟩⟩⟩⟩⟩⟩⟩⟩⟩⟩⟩⟩⟩⟩⟩⟩⟩⟩⟩
theorem mlok_2 : ∀ r ∈ mtl_2, LOK r.1.cls r.2.2.2.2.2 := List.forall_mem_cons.mpr ⟨lok_3, List.forall_mem_cons.mpr ⟨lok_3, List.forall_mem_cons.mpr ⟨lok_3, List.forall_mem_cons.mpr ⟨lok_3, List.forall_mem_cons.mpr ⟨lok_3, List.forall_mem_cons.mpr ⟨lok_3, List.forall_mem_cons.mpr ⟨lok_3, List.forall_mem_cons.mpr ⟨lok_3, List.forall_mem_cons.mpr ⟨lok_3, List.forall_mem_cons.mpr ⟨lok_3, List.forall_mem_cons.mpr ⟨lok_3, List.forall_mem_cons.mpr ⟨lok_3, List.forall_mem_cons.mpr ⟨lok_3, List.forall_mem_cons.mpr ⟨lok_3, List.forall_mem_cons.mpr ⟨lok_3, List.forall_mem_cons.mpr ⟨lok_3, List.forall_mem_cons.mpr ⟨lok_3, List.forall_mem_cons.mpr ⟨lok_3, List.forall_mem_cons.mpr ⟨lok_3, List.forall_mem_cons.mpr ⟨lok_3, fun _ h => absurd h List.not_mem_nil⟩⟩⟩⟩⟩⟩⟩⟩⟩⟩⟩⟩⟩⟩⟩⟩⟩⟩⟩⟩
theorem mlok_3 : ∀ r ∈ mtl_3, LOK r.1.cls r.2.2.2.2.2 := List.forall_mem_cons.mpr ⟨lok_3, List.forall_mem_cons.mpr ⟨lok_4, List.forall_mem_cons.mpr ⟨lok_4, List.forall_mem_cons.mpr ⟨lok_4, List.forall_mem_cons.mpr ⟨lok_4, List.forall_mem_cons.mpr ⟨lok_4, List.forall_mem_cons.mpr ⟨lok_4, List.forall_mem_cons.mpr ⟨lok_4, List.forall_mem_cons.mpr ⟨lok_4, List.forall_mem_cons.mpr ⟨lok_4, List.forall_mem_cons.mpr ⟨lok_5, List.forall_mem_cons.mpr ⟨lok_5, List.forall_mem_cons.mpr ⟨lok_5, List.forall_mem_cons.mpr ⟨lok_5, List.forall_mem_cons.mpr ⟨lok_5, List.forall_mem_cons.mpr ⟨lok_5, List.forall_mem_cons.mpr ⟨lok_5, List.forall_mem_cons.mpr ⟨lok_5, List.forall_mem_cons.mpr ⟨lok_5, List.forall_mem_cons.mpr ⟨lok_5, fun _ h => absurd h List.not_mem_nil⟩⟩⟩⟩⟩⟩⟩⟩⟩⟩⟩⟩⟩⟩⟩⟩⟩⟩⟩⟩
theorem mlok_4 : ∀ r ∈ mtl_4, LOK r.1.cls r.2.2.2.2.2 := List.forall_mem_cons.mpr ⟨lok_5, List.forall_mem_cons.mpr ⟨lok_5, List.forall_mem_cons.mpr ⟨lok_5, List.forall_mem_cons.mpr ⟨lok_5, List.forall_mem_cons.mpr ⟨lok_5, List.forall_mem_cons.mpr ⟨lok_6, List.forall_mem_cons.mpr ⟨lok_6, List.forall_mem_cons.mpr ⟨lok_6, List.forall_mem_cons.mpr ⟨lok_6, List.forall_mem_cons.mpr ⟨lok_6, List.forall_mem_cons.mpr ⟨lok_6, List.forall_mem_cons.mpr ⟨lok_6, List.forall_mem_cons.mpr ⟨lok_6, List.forall_mem_cons.mpr ⟨lok_6, List.forall_mem_cons.mpr ⟨lok_6, List.forall_mem_cons.mpr ⟨lok_6, List.forall_mem_cons.mpr ⟨lok_6, List.forall_mem_cons.mpr ⟨lok_6, List.forall_mem_cons.mpr ⟨lok_6, List.forall_mem_cons.mpr ⟨lok_6, fun _ h => absurd h List.not_mem_nil⟩⟩⟩⟩⟩⟩⟩⟩⟩⟩⟩⟩⟩⟩⟩⟩⟩⟩⟩⟩
theorem mlok_5 : ∀ r ∈ mtl_5, LOK r.1.cls r.2.2.2.2.2 := List.forall_mem_cons.mpr ⟨lok_6, List.forall_mem_cons.mpr ⟨lok_6, List.forall_mem_cons.mpr ⟨lok_6, List.forall_mem_cons.mpr ⟨lok_6, List.forall_mem_cons.mpr ⟨lok_6, List.forall_mem_cons.mpr ⟨lok_7, List.forall_mem_cons.mpr ⟨lok_7, List.forall_mem_cons.mpr ⟨lok_7, List.forall_mem_cons.mpr ⟨lok_7, List.forall_mem_cons.mpr ⟨lok_7, List.forall_mem_cons.mpr ⟨lok_7, List.forall_mem_cons.mpr ⟨lok_7, List.forall_mem_cons.mpr ⟨lok_7, List.forall_mem_cons.mpr ⟨lok_7, List.forall_mem_cons.mpr ⟨lok_8, List.forall_mem_cons.mpr ⟨lok_8, List.forall_mem_cons.mpr ⟨lok_8, List.forall_mem_cons.mpr ⟨lok_8, List.forall_mem_cons.mpr ⟨lok_8, List.forall_mem_cons.mpr ⟨lok_8, fun _ h => absurd h List.not_mem_nil⟩⟩⟩⟩⟩⟩⟩⟩⟩⟩⟩⟩⟩⟩⟩⟩⟩⟩⟩⟩
theorem mlok_6 : ∀ r ∈ mtl_6, LOK r.1.cls r.2.2.2.2.2 := List.forall_mem_cons.mpr ⟨lok_8, List.forall_mem_cons.mpr ⟨lok_8, List.forall_mem_cons.mpr ⟨lok_8, List.forall_mem_cons.mpr ⟨lok_8, List.forall_mem_cons.mpr ⟨lok_9, List.forall_mem_cons.mpr ⟨lok_9, List.forall_mem_cons.mpr ⟨lok_9, List.forall_mem_cons.mpr ⟨lok_9, List.forall_mem_cons.mpr ⟨lok_9, List.forall_mem_cons.mpr ⟨lok_9, List.forall_mem_cons.mpr ⟨lok_9, List.forall_mem_cons.mpr ⟨lok_9, List.forall_mem_cons.mpr ⟨lok_9, List.forall_mem_cons.mpr ⟨lok_9, List.forall_mem_cons.mpr ⟨lok_9, List.forall_mem_cons.mpr ⟨lok_9, List.forall_mem_cons.mpr ⟨lok_9, List.forall_mem_cons.mpr ⟨lok_9, List.forall_mem_cons.mpr ⟨lok_9, List.forall_mem_cons.mpr ⟨lok_9, fun _ h => absurd h List.not_mem_nil⟩⟩⟩⟩⟩⟩⟩⟩⟩⟩⟩⟩⟩⟩⟩⟩⟩⟩⟩⟩
theorem mlok_7 : ∀ r ∈ mtl_7, LOK r.1.cls r.2.2.2.2.2 := List.forall_mem_cons.mpr ⟨lok_9, List.forall_mem_cons.mpr ⟨lok_9, List.forall_mem_cons.mpr ⟨lok_9, List.forall_mem_cons.mpr ⟨lok_10, List.forall_mem_cons.mpr ⟨lok_10, List.forall_mem_cons.mpr ⟨lok_10, List.forall_mem_cons.mpr ⟨lok_10, List.forall_mem_cons.mpr ⟨lok_10, List.forall_mem_cons.mpr ⟨lok_10, List.forall_mem_cons.mpr ⟨lok_10, List.forall_mem_cons.mpr ⟨lok_10, List.forall_mem_cons.mpr ⟨lok_10, List.forall_mem_cons.mpr ⟨lok_10, List.forall_mem_cons.mpr ⟨lok_10, List.forall_mem_cons.mpr ⟨lok_10, List.forall_mem_cons.mpr ⟨lok_10, List.forall_mem_cons.mpr ⟨lok_10, List.forall_mem_cons.mpr ⟨lok_10, List.forall_mem_cons.mpr ⟨lok_10, List.forall_mem_cons.mpr ⟨lok_10, fun _ h => absurd h List.not_mem_nil⟩⟩⟩⟩⟩⟩⟩⟩⟩⟩⟩⟩⟩⟩⟩⟩⟩⟩⟩⟩
theorem mlok_8 : ∀ r ∈ mtl_8, LOK r.1.cls r.2.2.2.2.2 := List.forall_mem_cons.mpr ⟨lok_10, List.forall_mem_cons.mpr ⟨lok_10, List.forall_mem_cons.mpr ⟨lok_10, List.forall_mem_cons.mpr ⟨lok_10, List.forall_mem_cons.mpr ⟨lok_10, List.forall_mem_cons.mpr ⟨lok_10, List.forall_mem_cons.mpr ⟨lok_10, List.forall_mem_cons.mpr ⟨lok_10, List.forall_mem_cons.mpr ⟨lok_10, List.forall_mem_cons.mpr ⟨lok_10, List.forall_mem_cons.mpr ⟨lok_10, List.forall_mem_cons.mpr ⟨lok_10, List.forall_mem_cons.mpr ⟨lok_10, List.forall_mem_cons.mpr ⟨lok_10, List.forall_mem_cons.mpr ⟨lok_10, List.forall_mem_cons.mpr ⟨lok_11, List.forall_mem_cons.mpr ⟨lok_11, List.forall_mem_cons.mpr ⟨lok_11, List.forall_mem_cons.mpr ⟨lok_11, List.forall_mem_cons.mpr ⟨lok_11, fun _ h => absurd h List.not_mem_nil⟩⟩⟩⟩⟩⟩⟩⟩⟩⟩⟩⟩⟩⟩⟩⟩⟩⟩⟩⟩
theorem mlok_9 : ∀ r ∈ mtl_9, LOK r.1.cls r.2.2.2.2.2 := List.forall_mem_cons.mpr ⟨lok_11, List.forall_mem_cons.mpr ⟨lok_11, List.forall_mem_cons.mpr ⟨lok_11, List.forall_mem_cons.mpr ⟨lok_11, List.forall_mem_cons.mpr ⟨lok_11, List.forall_mem_cons.mpr ⟨lok_11, List.forall_mem_cons.mpr ⟨lok_11, List.forall_mem_cons.mpr ⟨lok_11, List.forall_mem_cons.mpr ⟨lok_11, List.forall_mem_cons.mpr ⟨lok_11, List.forall_mem_cons.mpr ⟨lok_11, List.forall_mem_cons.mpr ⟨lok_11, List.forall_mem_cons.mpr ⟨lok_11, List.forall_mem_cons.mpr ⟨lok_11, List.forall_mem_cons.mpr ⟨lok_11, List.forall_mem_cons.mpr ⟨lok_11, List.forall_mem_cons.mpr ⟨lok_11, List.forall_mem_cons.mpr ⟨lok_11, List.forall_mem_cons.mpr ⟨lok_11, List.forall_mem_cons.mpr ⟨lok_11, fun _ h => absurd h List.not_mem_nil⟩⟩⟩⟩⟩⟩⟩⟩⟩⟩⟩⟩⟩⟩⟩⟩⟩⟩⟩⟩
theorem mlok_10 : ∀ r ∈ mtl_10, LOK r.1.cls r.2.2.2.2.2 := List.forall_mem_cons.mpr ⟨lok_11, List.forall_mem_cons.mpr ⟨lok_11, List.forall_mem_cons.mpr ⟨lok_11, List.forall_mem_cons.mpr ⟨lok_11, List.forall_mem_cons.mpr ⟨lok_11, List.forall_mem_cons.mpr ⟨lok_11, List.forall_mem_cons.mpr ⟨lok_11, List.forall_mem_cons.mpr ⟨lok_11, List.forall_mem_cons.mpr ⟨lok_11, List.forall_mem_cons.mpr ⟨lok_11, List.forall_mem_cons.mpr ⟨lok_11, List.forall_mem_cons.mpr ⟨lok_11, List.forall_mem_cons.mpr ⟨lok_11, List.forall_mem_cons.mpr ⟨lok_11, List.forall_mem_cons.mpr ⟨lok_11, List.forall_mem_cons.mpr ⟨lok_11, List.forall_mem_cons.mpr ⟨lok_11, List.forall_mem_cons.mpr ⟨lok_11, List.forall_mem_cons.mpr ⟨lok_11, List.forall_mem_cons.mpr ⟨lok_11, fun _ h => absurd h List.not_mem_nil⟩⟩⟩⟩⟩⟩⟩⟩⟩⟩⟩⟩⟩⟩⟩⟩⟩⟩⟩⟩
theorem mlok_11 : ∀ r ∈ mtl_11, LOK r.1.cls r.2.2.2.2.2 := List.forall_mem_cons.mpr ⟨lok_11, List.forall_mem_cons.mpr ⟨lok_11, List.forall_mem_cons.mpr ⟨lok_11, List.forall_mem_cons.mpr ⟨lok_11, List.forall_mem_cons.mpr ⟨lok_11, List.forall_mem_cons.mpr ⟨lok_11, List.forall_mem_cons.mpr ⟨lok_11, List.forall_mem_cons.mpr ⟨lok_11, List.forall_mem_cons.mpr ⟨lok_11, List.forall_mem_cons.mpr ⟨lok_11, List.forall_mem_cons.mpr ⟨lok_11, List.forall_mem_cons.mpr ⟨lok_11, List.forall_mem_cons.mpr ⟨lok_11, List.forall_mem_cons.mpr ⟨lok_11, List.forall_mem_cons.mpr ⟨lok_11, List.forall_mem_cons.mpr ⟨lok_11, List.forall_mem_cons.mpr ⟨lok_11, List.forall_mem_cons.mpr ⟨lok_11, List.forall_mem_cons.mpr ⟨lok_11, List.forall_mem_cons.mpr ⟨lok_11, fun _ h => absurd h List.not_mem_nil⟩⟩⟩⟩⟩⟩⟩⟩⟩⟩⟩⟩⟩⟩⟩⟩⟩⟩⟩⟩
theorem mlok_12 : ∀ r ∈ mtl_12, LOK r.1.cls r.2.2.2.2.2 := List.forall_mem_cons.mpr ⟨lok_11, List.forall_mem_cons.mpr ⟨lok_11, List.forall_mem_cons.mpr ⟨lok_11, List.forall_mem_cons.mpr ⟨lok_11, List.forall_mem_cons.mpr ⟨lok_11, List.forall_mem_cons.mpr ⟨lok_11, List.forall_mem_cons.mpr ⟨lok_11, List.forall_mem_cons.mpr ⟨lok_11, List.forall_mem_cons.mpr ⟨lok_11, List.forall_mem_cons.mpr ⟨lok_11, List.forall_mem_cons.mpr ⟨lok_11, List.forall_mem_cons.mpr ⟨lok_11, List.forall_mem_cons.mpr ⟨lok_11, List.forall_mem_cons.mpr ⟨lok_11, List.forall_mem_cons.mpr ⟨lok_11, List.forall_mem_cons.mpr ⟨lok_11, List.forall_mem_cons.mpr ⟨lok_11, List.forall_mem_cons.mpr ⟨lok_11, List.forall_mem_cons.mpr ⟨lok_11, List.forall_mem_cons.mpr ⟨lok_11, fun _ h => absurd h List.not_mem_nil⟩⟩⟩⟩⟩⟩⟩⟩⟩⟩⟩⟩⟩⟩⟩⟩⟩⟩⟩⟩
theorem mlok_13 : ∀ r ∈ mtl_13, LOK r.1.cls r.2.2.2.2.2 := List.forall_mem_cons.mpr ⟨lok_11, List.forall_mem_cons.mpr ⟨lok_11, List.forall_mem_cons.mpr ⟨lok_11, List.forall_mem_cons.mpr ⟨lok_11, List.forall_mem_cons.mpr ⟨lok_11, List.forall_mem_cons.mpr ⟨lok_11, List.forall_mem_cons.mpr ⟨lok_11, List.forall_mem_cons.mpr ⟨lok_11, List.forall_mem_cons.mpr ⟨lok_11, List.forall_mem_cons.mpr ⟨lok_11, List.forall_mem_cons.mpr ⟨lok_11, List.forall_mem_cons.mpr ⟨lok_11, List.forall_mem_cons.mpr ⟨lok_11, List.forall_mem_cons.mpr ⟨lok_11, List.forall_mem_cons.mpr ⟨lok_11, List.forall_mem_cons.mpr ⟨lok_11, List.forall_mem_cons.mpr ⟨lok_11, List.forall_mem_cons.mpr ⟨lok_11, List.forall_mem_cons.mpr ⟨lok_11, List.forall_mem_cons.mpr ⟨lok_11, fun _ h => absurd h List.not_mem_nil⟩⟩⟩⟩⟩⟩⟩⟩⟩⟩⟩⟩⟩⟩⟩⟩⟩⟩⟩⟩
theorem mlok_14 : ∀ r ∈ mtl_14, LOK r.1.cls r.2.2.2.2.2 := List.forall_mem_cons.mpr ⟨lok_11, List.forall_mem_cons.mpr ⟨lok_11, List.forall_mem_cons.mpr ⟨lok_11, List.forall_mem_cons.mpr ⟨lok_11, List.forall_mem_cons.mpr ⟨lok_11, List.forall_mem_cons.mpr ⟨lok_11, List.forall_mem_cons.mpr ⟨lok_11, List.forall_mem_cons.mpr ⟨lok_11, List.forall_mem_cons.mpr ⟨lok_11, List.forall_mem_cons.mpr ⟨lok_11, List.forall_mem_cons.mpr ⟨lok_11, List.forall_mem_cons.mpr ⟨lok_11, List.forall_mem_cons.mpr ⟨lok_11, List.forall_mem_cons.mpr ⟨lok_11, List.forall_mem_cons.mpr ⟨lok_11, List.forall_mem_cons.mpr ⟨lok_11, List.forall_mem_cons.mpr ⟨lok_11, List.forall_mem_cons.mpr ⟨lok_11, List.forall_mem_cons.mpr ⟨lok_11, List.forall_mem_cons.mpr ⟨lok_11, fun _ h => absurd h List.not_mem_nil⟩⟩⟩⟩⟩⟩⟩⟩⟩⟩⟩⟩⟩⟩⟩⟩⟩⟩⟩⟩
theorem mlok_15 : ∀ r ∈ mtl_15, LOK r.1.cls r.2.2.2.2.2 := List.forall_mem_cons.mpr ⟨lok_11, List.forall_mem_cons.mpr ⟨lok_11, List.forall_mem_cons.mpr ⟨lok_11, List.forall_mem_cons.mpr ⟨lok_11, List.forall_mem_cons.mpr ⟨lok_11, List.forall_mem_cons.mpr ⟨lok_11, List.forall_mem_cons.mpr ⟨lok_11, List.forall_mem_cons.mpr ⟨lok_11, List.forall_mem_cons.mpr ⟨lok_11, List.forall_mem_cons.mpr ⟨lok_11, List.forall_mem_cons.mpr ⟨lok_11, List.forall_mem_cons.mpr ⟨lok_11, List.forall_mem_cons.mpr ⟨lok_11, List.forall_mem_cons.mpr ⟨lok_12, List.forall_mem_cons.mpr ⟨lok_13, List.forall_mem_cons.mpr ⟨lok_13, List.forall_mem_cons.mpr ⟨lok_13, List.forall_mem_cons.mpr ⟨lok_13, List.forall_mem_cons.mpr ⟨lok_14, fun _ h => absurd h List.not_mem_nil⟩⟩⟩⟩⟩⟩⟩⟩⟩⟩⟩⟩⟩⟩⟩⟩⟩⟩⟩
set_option maxRecDepth 100000 in
theorem uw_0 : ∀ w ∈ u_ws RX0 TX0 2, w ∈ lw_tbl := inTs_mem (ps := [(0, 123), (0, 125)]) (by decide +kernel)
theorem uwg_0 : ∀ w ∈ u_ws RX0 TX0 2, w ∈ lw_g := fun w h => lw_g_of (uw_0 w h) (List.all_eq_true.mp (show (u_ws RX0 TX0 2).all goodWord = true from by decide +kernel) w h)
set_option maxRecDepth 100000 in
theorem uw_1 : ∀ w ∈ u_ws RX2 TX2 4, w ∈ lw_tbl := inTs_mem (ps := [(0, 156), (0, 158), (0, 160), (0, 162)]) (by decide +kernel)
theorem uwg_1 : ∀ w ∈ u_ws RX2 TX2 4, w ∈ lw_g := fun w h => lw_g_of (uw_1 w h) (List.all_eq_true.mp (show (u_ws RX2 TX2 4).all goodWord = true from by decide +kernel) w h)
set_option maxRecDepth 100000 in
theorem uw_2 : ∀ w ∈ u_ws RX3 TX3 7, w ∈ lw_tbl := inTs_mem (ps := [(1, 102), (1, 104), (1, 106), (1, 108), (1, 110), (1, 112), (1, 114)]) (by decide +kernel)
theorem uwg_2 : ∀ w ∈ u_ws RX3 TX3 7, w ∈ lw_g := fun w h => lw_g_of (uw_2 w h) (List.all_eq_true.mp (show (u_ws RX3 TX3 7).all goodWord = true from by decide +kernel) w h)
set_option maxRecDepth 100000 in
theorem uw_3 : ∀ w ∈ u_ws RX4 TX4 1, w ∈ lw_tbl := inTs_mem (ps := [(0, 135)]) (by decide +kernel)
theorem uwg_3 : ∀ w ∈ u_ws RX4 TX4 1, w ∈ lw_g := fun w h => lw_g_of (uw_3 w h) (List.all_eq_true.mp (show (u_ws RX4 TX4 1).all goodWord = true from by decide +kernel) w h)
set_option maxRecDepth 100000 in
theorem uw_4 : ∀ w ∈ u_ws RX5 TX5 11, w ∈ lw_tbl := inTs_mem (ps := [(1, 18), (1, 20), (1, 22), (1, 24), (1, 26), (1, 28), (1, 30), (1, 32), (1, 34), (1, 36), (1, 38)]) (by decide +kernel)
theorem uwg_4 : ∀ w ∈ u_ws RX5 TX5 11, w ∈ lw_g := fun w h => lw_g_of (uw_4 w h) (List.all_eq_true.mp (show (u_ws RX5 TX5 11).all goodWord = true from by decide +kernel) w h)
set_option maxRecDepth 100000 in
theorem uw_5 : ∀ w ∈ u_ws RX6 TX6 11, w ∈ lw_tbl := inTs_mem (ps := [(0, 89), (0, 91), (0, 93), (0, 95), (0, 97), (0, 99), (0, 101), (0, 103), (0, 105), (0, 107), (0, 109)]) (by decide +kernel)
theorem uwg_5 : ∀ w ∈ u_ws RX6 TX6 11, w ∈ lw_g := fun w h => lw_g_of (uw_5 w h) (List.all_eq_true.mp (show (u_ws RX6 TX6 11).all goodWord = true from by decide +kernel) w h)
set_option maxRecDepth 100000 in
theorem uw_6 : ∀ w ∈ u_ws RX7 TX7 6, w ∈ lw_tbl := inTs_mem (ps := [(0, 228), (0, 230), (0, 232), (0, 234), (0, 236), (0, 238)]) (by decide +kernel)
theorem uwg_6 : ∀ w ∈ u_ws RX7 TX7 6, w ∈ lw_g := fun w h => lw_g_of (uw_6 w h) (List.all_eq_true.mp (show (u_ws RX7 TX7 6).all goodWord = true from by decide +kernel) w h)
set_option maxRecDepth 100000 in
theorem uw_7 : ∀ w ∈ u_ws RX8 TX8 9, w ∈ lw_tbl := inTs_mem (ps := [(0, 179), (0, 181), (0, 183), (0, 185), (0, 187), (0, 189), (0, 191), (0, 193), (0, 195)]) (by decide +kernel)
theorem uwg_7 : ∀ w ∈ u_ws RX8 TX8 9, w ∈ lw_g := fun w h => lw_g_of (uw_7 w h) (List.all_eq_true.mp (show (u_ws RX8 TX8 9).all goodWord = true from by decide +kernel) w h)
set_option maxRecDepth 100000 in
theorem uw_8 : ∀ w ∈ u_ws RX9 TX9 12, w ∈ lw_tbl := inTs_mem (ps := [(1, 64), (1, 66), (1, 68), (1, 70), (1, 72), (1, 74), (1, 76), (1, 78), (1, 80), (1, 82), (1, 84), (1, 86)]) (by decide +kernel)
theorem uwg_8 : ∀ w ∈ u_ws RX9 TX9 12, w ∈ lw_g := fun w h => lw_g_of (uw_8 w h) (List.all_eq_true.mp (show (u_ws RX9 TX9 12).all goodWord = true from by decide +kernel) w h)
set_option maxRecDepth 100000 in
theorem uw_9 : ∀ w ∈ u_ws RX10 TX10 5, w ∈ lw_tbl := inTs_mem (ps := [(1, 122), (1, 124), (1, 126), (1, 128), (1, 130)]) (by decide +kernel)
theorem uwg_9 : ∀ w ∈ u_ws RX10 TX10 5, w ∈ lw_g := fun w h => lw_g_of (uw_9 w h) (List.all_eq_true.mp (show (u_ws RX10 TX10 5).all goodWord = true from by decide +kernel) w h)
set_option maxRecDepth 100000 in
theorem uw_10 : ∀ w ∈ u_ws RX11 TX11 51, w ∈ lw_tbl := inTs_mem (ps := [(4, 211), (4, 213), (4, 215), (4, 217), (4, 219), (4, 221), (4, 223), (4, 225), (4, 227), (4, 229), (4, 231), (4, 233), (4, 235), (4, 237), (4, 239), (5, 1), (5, 3), (5, 5), (5, 7), (5, 9), (5, 11), (5, 13), (5, 15), (5, 17), (5, 19), (5, 21), (5, 23), (5, 25), (5, 27), (5, 29), (5, 31), (5, 33), (5, 35), (5, 37), (5, 39), (5, 41), (5, 43), (5, 45), (5, 47), (5, 49), (5, 51), (5, 53), (5, 55), (5, 57), (5, 59), (5, 61), (5, 63), (5, 65), (5, 67), (5, 69), (5, 71)]) (by decide +kernel)
theorem uwg_10 : ∀ w ∈ u_ws RX11 TX11 51, w ∈ lw_g := fun w h => lw_g_of (uw_10 w h) (List.all_eq_true.mp (show (u_ws RX11 TX11 51).all goodWord = true from by decide +kernel) w h)
theorem uwg : ∀ (c : Nat) (q : vw_C), classes[c]? = some q → ∀ w ∈ u_ws q.1 q.2.1 q.2.2, w ∈ lw_g := by
  intro c q h
  match c, h with
  | 0, h => cases h; exact uwg_0
  | 1, h => cases h; exact uwg_1
  | 2, h => cases h; exact uwg_2
  | 3, h => cases h; exact uwg_3
  | 4, h => cases h; exact uwg_4
  | 5, h => cases h; exact uwg_5
  | 6, h => cases h; exact uwg_6
  | 7, h => cases h; exact uwg_7
  | 8, h => cases h; exact uwg_8
  | 9, h => cases h; exact uwg_9
  | 10, h => cases h; exact uwg_10
  | c + 11, h => cases h
theorem nmg : ∀ (c : Nat) (q : vw_C), classes[c]? = some q → ∀ a, a < q.2.2 → ∀ b, b < q.2.2 → a ≠ b → (q.2.1 a).2.1 ≠ (q.2.1 b).2.1 := by
  intro c q h
  match c, h with
  | 0, h => cases h; exact nmX0
  | 1, h => cases h; exact nmX2
  | 2, h => cases h; exact nmX3
  | 3, h => cases h; exact nmX4
  | 4, h => cases h; exact nmX5
  | 5, h => cases h; exact nmX6
  | 6, h => cases h; exact nmX7
  | 7, h => cases h; exact nmX8
  | 8, h => cases h; exact nmX9
  | 9, h => cases h; exact nmX10
  | 10, h => cases h; exact nmX11
  | c + 11, h => cases h
theorem tyg : ∀ (c : Nat) (q : vw_C), classes[c]? = some q → ∀ k, k < q.2.2 → parseFieldDescriptor (q.2.1 k).2.2.1 = some (ftk c k) := by
  intro c q h
  match c, h with
  | 0, h => cases h; exact (by decide +kernel : ∀ k, k < 2 → parseFieldDescriptor (TX0 k).2.2.1 = some (ftk 0 k))
  | 1, h => cases h; exact (by decide +kernel : ∀ k, k < 4 → parseFieldDescriptor (TX2 k).2.2.1 = some (ftk 1 k))
  | 2, h => cases h; exact (by decide +kernel : ∀ k, k < 7 → parseFieldDescriptor (TX3 k).2.2.1 = some (ftk 2 k))
  | 3, h => cases h; exact (by decide +kernel : ∀ k, k < 1 → parseFieldDescriptor (TX4 k).2.2.1 = some (ftk 3 k))
  | 4, h => cases h; exact (by decide +kernel : ∀ k, k < 11 → parseFieldDescriptor (TX5 k).2.2.1 = some (ftk 4 k))
  | 5, h => cases h; exact (by decide +kernel : ∀ k, k < 11 → parseFieldDescriptor (TX6 k).2.2.1 = some (ftk 5 k))
  | 6, h => cases h; exact (by decide +kernel : ∀ k, k < 6 → parseFieldDescriptor (TX7 k).2.2.1 = some (ftk 6 k))
  | 7, h => cases h; exact (by decide +kernel : ∀ k, k < 9 → parseFieldDescriptor (TX8 k).2.2.1 = some (ftk 7 k))
  | 8, h => cases h; exact (by decide +kernel : ∀ k, k < 12 → parseFieldDescriptor (TX9 k).2.2.1 = some (ftk 8 k))
  | 9, h => cases h; exact (by decide +kernel : ∀ k, k < 5 → parseFieldDescriptor (TX10 k).2.2.1 = some (ftk 9 k))
  | 10, h => cases h; exact (by decide +kernel : ∀ k, k < 51 → parseFieldDescriptor (TX11 k).2.2.1 = some (ftk 10 k))
  | c + 11, h => cases h
theorem mall {P : MT → Prop} (hl : ∀ r ∈ mtl_law, P r) (h0 : ∀ r ∈ mtl_0, P r) (h1 : ∀ r ∈ mtl_1, P r) (h2 : ∀ r ∈ mtl_2, P r) (h3 : ∀ r ∈ mtl_3, P r) (h4 : ∀ r ∈ mtl_4, P r) (h5 : ∀ r ∈ mtl_5, P r) (h6 : ∀ r ∈ mtl_6, P r) (h7 : ∀ r ∈ mtl_7, P r) (h8 : ∀ r ∈ mtl_8, P r) (h9 : ∀ r ∈ mtl_9, P r) (h10 : ∀ r ∈ mtl_10, P r) (h11 : ∀ r ∈ mtl_11, P r) (h12 : ∀ r ∈ mtl_12, P r) (h13 : ∀ r ∈ mtl_13, P r) (h14 : ∀ r ∈ mtl_14, P r) (h15 : ∀ r ∈ mtl_15, P r) : ∀ (y : Nat) (r : MT), mt y = some r → P r := by
  intro y r h
  have hm := List.mem_of_getElem? h
  unfold mtl at hm
  simp only [List.mem_append] at hm
  rcases hm with h | h | h | h | h | h | h | h | h | h | h | h | h | h | h | h | h
  · exact h0 r h
  · exact h1 r h
  · exact h2 r h
  · exact h3 r h
  · exact h4 r h
  · exact h5 r h
  · exact h6 r h
  · exact h7 r h
  · exact h8 r h
  · exact h9 r h
  · exact h10 r h
  · exact h11 r h
  · exact h12 r h
  · exact h13 r h
  · exact h14 r h
  · exact h15 r h
  · exact hl r h
theorem code_in : ∀ (y : Nat) (r : MT), mt y = some r → r.2.2.2.2.1 ≠ 3 → CodeIn r := mall (P := fun r => r.2.2.2.2.1 ≠ 3 → CodeIn r) (fun r h e => absurd (by rw [List.mem_singleton.mp h]) e) (fun r h _ => mcode_0 r h) (fun r h _ => mcode_1 r h) (fun r h _ => mcode_2 r h) (fun r h _ => mcode_3 r h) (fun r h _ => mcode_4 r h) (fun r h _ => mcode_5 r h) (fun r h _ => mcode_6 r h) (fun r h _ => mcode_7 r h) (fun r h _ => mcode_8 r h) (fun r h _ => mcode_9 r h) (fun r h _ => mcode_10 r h) (fun r h _ => mcode_11 r h) (fun r h _ => mcode_12 r h) (fun r h _ => mcode_13 r h) (fun r h _ => mcode_14 r h) (fun r h _ => mcode_15 r h)
theorem mok_in : ∀ (y : Nat) (r : MT), mt y = some r → r.2.2.2.2.1 ≠ 3 → MokP r := mall (P := fun r => r.2.2.2.2.1 ≠ 3 → MokP r) (fun r h e => absurd (by rw [List.mem_singleton.mp h]) e) (fun r h _ => moks_P mok_0 r h) (fun r h _ => moks_P mok_1 r h) (fun r h _ => moks_P mok_2 r h) (fun r h _ => moks_P mok_3 r h) (fun r h _ => moks_P mok_4 r h) (fun r h _ => moks_P mok_5 r h) (fun r h _ => moks_P mok_6 r h) (fun r h _ => moks_P mok_7 r h) (fun r h _ => moks_P mok_8 r h) (fun r h _ => moks_P mok_9 r h) (fun r h _ => moks_P mok_10 r h) (fun r h _ => moks_P mok_11 r h) (fun r h _ => moks_P mok_12 r h) (fun r h _ => moks_P mok_13 r h) (fun r h _ => moks_P mok_14 r h) (fun r h _ => moks_P mok_15 r h)
theorem lok_in : ∀ (y : Nat) (r : MT), mt y = some r → LOK r.1.cls r.2.2.2.2.2 := mall (P := fun r => LOK r.1.cls r.2.2.2.2.2) (fun r h => by rw [List.mem_singleton.mp h]; exact lok_15) mlok_0 mlok_1 mlok_2 mlok_3 mlok_4 mlok_5 mlok_6 mlok_7 mlok_8 mlok_9 mlok_10 mlok_11 mlok_12 mlok_13 mlok_14 mlok_15
