/-! FACTS of the tables: every word that a link or a method stands on is among the claim's words, by its place -/
def tabs (k : Nat) : List Cond := match k with
  | 0 => tables_1_1
  | 1 => tables_1_2
  | 2 => tables_1_3
  | 3 => tables_1_4
  | 4 => tables_1_5
  | 5 => tables_1_6
  | 6 => tables_1_7
  | 7 => tables_1_8
  | 8 => k2_sels lw_privs_1
  | 9 => k2_sels lw_privs_2
  | 10 => k2_sels lw_privs_3
  | 11 => k2_sels lw_privs_4
  | 12 => k2_sels lw_privs_5
  | 13 => k2_sels lw_privs_6
  | 14 => k2_sels lw_privs_7
  | 15 => k2_sels lw_privs_8
  | 16 => k2_sels lw_privs_9
  | _ => []
theorem tabs_p {L : List (MethodName × Nat)} {w : Cond} (h : w ∈ k2_sels L) (hs : ∀ q ∈ L, q ∈ lw_privs) : w ∈ k2_sels lw_privs := by
  obtain ⟨q, hq, rfl⟩ := List.mem_map.mp h
  exact List.mem_map.mpr ⟨q, hs q hq, rfl⟩
theorem tabs_mem {w : Cond} : ∀ (k : Nat), w ∈ tabs k → w ∈ lw_tbl
  | 0, h => List.mem_append_right _ (show w ∈ tables_1 from by unfold tables_1; exact List.mem_append_left _ h)
  | 1, h => List.mem_append_right _ (show w ∈ tables_1 from by unfold tables_1; exact List.mem_append_right _ (List.mem_append_left _ h))
  | 2, h => List.mem_append_right _ (show w ∈ tables_1 from by unfold tables_1; exact List.mem_append_right _ (List.mem_append_right _ (List.mem_append_left _ h)))
  | 3, h => List.mem_append_right _ (show w ∈ tables_1 from by unfold tables_1; exact List.mem_append_right _ (List.mem_append_right _ (List.mem_append_right _ (List.mem_append_left _ h))))
  | 4, h => List.mem_append_right _ (show w ∈ tables_1 from by unfold tables_1; exact List.mem_append_right _ (List.mem_append_right _ (List.mem_append_right _ (List.mem_append_right _ (List.mem_append_left _ h)))))
  | 5, h => List.mem_append_right _ (show w ∈ tables_1 from by unfold tables_1; exact List.mem_append_right _ (List.mem_append_right _ (List.mem_append_right _ (List.mem_append_right _ (List.mem_append_right _ (List.mem_append_left _ h))))))
  | 6, h => List.mem_append_right _ (show w ∈ tables_1 from by unfold tables_1; exact List.mem_append_right _ (List.mem_append_right _ (List.mem_append_right _ (List.mem_append_right _ (List.mem_append_right _ (List.mem_append_right _ (List.mem_append_left _ h)))))))
  | 7, h => List.mem_append_right _ (show w ∈ tables_1 from by unfold tables_1; exact List.mem_append_right _ (List.mem_append_right _ (List.mem_append_right _ (List.mem_append_right _ (List.mem_append_right _ (List.mem_append_right _ (List.mem_append_right _ h)))))))
  | 8, h => List.mem_append_left _ (tabs_p (L := lw_privs_1) h (fun q hq => by unfold lw_privs; simp only [List.mem_append]; exact Or.inl hq))
  | 9, h => List.mem_append_left _ (tabs_p (L := lw_privs_2) h (fun q hq => by unfold lw_privs; simp only [List.mem_append]; exact Or.inr (Or.inl hq)))
  | 10, h => List.mem_append_left _ (tabs_p (L := lw_privs_3) h (fun q hq => by unfold lw_privs; simp only [List.mem_append]; exact Or.inr (Or.inr (Or.inl hq))))
  | 11, h => List.mem_append_left _ (tabs_p (L := lw_privs_4) h (fun q hq => by unfold lw_privs; simp only [List.mem_append]; exact Or.inr (Or.inr (Or.inr (Or.inl hq)))))
  | 12, h => List.mem_append_left _ (tabs_p (L := lw_privs_5) h (fun q hq => by unfold lw_privs; simp only [List.mem_append]; exact Or.inr (Or.inr (Or.inr (Or.inr (Or.inl hq))))))
  | 13, h => List.mem_append_left _ (tabs_p (L := lw_privs_6) h (fun q hq => by unfold lw_privs; simp only [List.mem_append]; exact Or.inr (Or.inr (Or.inr (Or.inr (Or.inr (Or.inl hq)))))))
  | 14, h => List.mem_append_left _ (tabs_p (L := lw_privs_7) h (fun q hq => by unfold lw_privs; simp only [List.mem_append]; exact Or.inr (Or.inr (Or.inr (Or.inr (Or.inr (Or.inr (Or.inl hq))))))))
  | 15, h => List.mem_append_left _ (tabs_p (L := lw_privs_8) h (fun q hq => by unfold lw_privs; simp only [List.mem_append]; exact Or.inr (Or.inr (Or.inr (Or.inr (Or.inr (Or.inr (Or.inr (Or.inl hq)))))))))
  | 16, h => List.mem_append_left _ (tabs_p (L := lw_privs_9) h (fun q hq => by unfold lw_privs; simp only [List.mem_append]; exact Or.inr (Or.inr (Or.inr (Or.inr (Or.inr (Or.inr (Or.inr (Or.inr (hq))))))))))
  | k + 17, h => by cases h
def nthC : List Cond → Nat → Option Cond
  | [], _ => none
  | w :: _, 0 => some w
  | _ :: ws, n + 1 => nthC ws n
theorem nthC_mem {w : Cond} : ∀ (l : List Cond) (n : Nat), nthC l n = some w → w ∈ l
  | [], _, h => by cases h
  | a :: l, 0, h => by cases h; exact List.mem_cons_self
  | a :: l, n + 1, h => List.mem_cons_of_mem _ (nthC_mem l n h)
theorem inT_r {w : Cond} (k p : Nat) (h : nthC (tabs k) p = some w) : w ∈ lw_tbl := tabs_mem k (nthC_mem _ _ h)
def inT (w : Cond) (p : Nat × Nat) : Bool := decide (nthC (tabs p.1) p.2 = some w)
theorem inT_mem {w : Cond} {p : Nat × Nat} (h : inT w p = true) : w ∈ lw_tbl := inT_r p.1 p.2 (of_decide_eq_true h)
def inTs : List Cond → List (Nat × Nat) → Bool
  | [], _ => true
  | w :: ws, p :: ps => inT w p && inTs ws ps
  | _, _ => false
theorem inTs_mem {ws : List Cond} : ∀ {ps : List (Nat × Nat)}, inTs ws ps = true → ∀ w ∈ ws, w ∈ lw_tbl := by
  induction ws with
  | nil => intro ps _ w hw; cases hw
  | cons a ws ih =>
    intro ps h w hw
    cases ps with
    | nil => simp [inTs] at h
    | cons p ps =>
      simp only [inTs, Bool.and_eq_true] at h
      rcases List.mem_cons.mp hw with rfl | h1
      · exact inT_mem h.1
      · exact ih h.2 w h1
/-- the words that outlast a call -/
def lw_g : List Cond := lw_tbl.filter goodWord
theorem lw_g_of {w : Cond} (h : w ∈ lw_tbl) (hg : goodWord w = true) : w ∈ lw_g := List.mem_filter.mpr ⟨h, hg⟩
theorem lw_g_good : GoodIn lw_g lw_g := fun w h => ⟨h, good_of_word (List.mem_filter.mp h).2⟩
def mneed (r : MT) : List Cond := .initialized r.1.cls :: (match r.2.2.2.2.1 with
  | 0 => [.static r.1]
  | 1 => [.instanceMethod r.1, .selects r.1.cls r.1 r.1]
  | _ => [.instanceMethod r.1])
def mok (r : MT) (ps : List (Nat × Nat)) : Bool := inTs (mneed r) ps && (mneed r).all goodWord && Jvm.plainName r.1.cls && decide (r.1.cls ≠ "java/lang/invoke/MethodHandle") && decide (r.1.cls ≠ "java/lang/invoke/VarHandle") && Nat.ble r.2.2.1 45 && (match r.2.2.2.2.1 with
  | 0 => decide (r.1.name ≠ "<init>")
  | 1 => decide (r.1.name ≠ "<init>")
  | _ => decide (r.1.name = "<init>") && decide (r.2.2.2.1 = none))
def moks : List MT → List (List (Nat × Nat)) → Bool
  | r :: rs, p :: ps => mok r p && moks rs ps
  | [], [] => true
  | _, _ => false
/-- what is known of a method of the table that may be called -/
def MokP (r : MT) : Prop := (∀ w ∈ mneed r, w ∈ lw_g) ∧ Jvm.plainName r.1.cls = true ∧ (r.1.cls ≠ "java/lang/invoke/MethodHandle" ∧ r.1.cls ≠ "java/lang/invoke/VarHandle") ∧ r.2.2.1 ≤ 45 ∧ (r.2.2.2.2.1 = 2 → r.1.name = "<init>" ∧ r.2.2.2.1 = none)
theorem mok_P {r : MT} {p : List (Nat × Nat)} (h : mok r p = true) : MokP r := by
  simp only [mok, Bool.and_eq_true, decide_eq_true_eq] at h
  obtain ⟨⟨⟨⟨⟨⟨h1, h2⟩, h3⟩, h4⟩, h5⟩, h6⟩, h7⟩ := h
  refine ⟨fun w hw => lw_g_of (inTs_mem h1 w hw) (List.all_eq_true.mp h2 w hw), h3, ⟨h4, h5⟩, Nat.le_of_ble_eq_true h6, fun e => ?_⟩
  rw [e] at h7
  simp only [Bool.and_eq_true, decide_eq_true_eq] at h7
  exact h7
theorem moks_P : ∀ {rs : List MT} {ps : List (List (Nat × Nat))}, moks rs ps = true → ∀ r ∈ rs, MokP r := by
  intro rs
  induction rs with
  | nil => intro ps _ r hr; cases hr
  | cons a rs ih =>
    intro ps h r hr
    cases ps with
    | nil => cases h
    | cons p ps =>
      simp only [moks, Bool.and_eq_true] at h
      rcases List.mem_cons.mp hr with rfl | h1
      · exact mok_P h.1
      · exact ih h.2 r h1
def CodeIn (r : MT) : Prop := Cond.code r.1 r.2.1 r.2.2.1 r.2.2.2.1 ∈ lw_tbl
theorem mcode_0 : ∀ r ∈ mtl_0, CodeIn r := List.forall_mem_cons.mpr ⟨inT_r 0 116 rfl, List.forall_mem_cons.mpr ⟨inT_r 2 81 rfl, List.forall_mem_cons.mpr ⟨inT_r 2 176 rfl, List.forall_mem_cons.mpr ⟨inT_r 2 132 rfl, List.forall_mem_cons.mpr ⟨inT_r 3 29 rfl, List.forall_mem_cons.mpr ⟨inT_r 3 32 rfl, List.forall_mem_cons.mpr ⟨inT_r 3 104 rfl, List.forall_mem_cons.mpr ⟨inT_r 3 120 rfl, List.forall_mem_cons.mpr ⟨inT_r 3 123 rfl, List.forall_mem_cons.mpr ⟨inT_r 3 133 rfl, List.forall_mem_cons.mpr ⟨inT_r 3 130 rfl, List.forall_mem_cons.mpr ⟨inT_r 3 136 rfl, List.forall_mem_cons.mpr ⟨inT_r 3 148 rfl, List.forall_mem_cons.mpr ⟨inT_r 3 155 rfl, List.forall_mem_cons.mpr ⟨inT_r 3 151 rfl, List.forall_mem_cons.mpr ⟨inT_r 3 158 rfl, List.forall_mem_cons.mpr ⟨inT_r 3 165 rfl, List.forall_mem_cons.mpr ⟨inT_r 4 8 rfl, List.forall_mem_cons.mpr ⟨inT_r 4 12 rfl, List.forall_mem_cons.mpr ⟨inT_r 4 15 rfl, fun _ h => absurd h List.not_mem_nil⟩⟩⟩⟩⟩⟩⟩⟩⟩⟩⟩⟩⟩⟩⟩⟩⟩⟩⟩⟩
set_option maxRecDepth 100000 in
theorem mok_0 : moks mtl_0 [[(0, 4), (0, 115)], [(0, 4), (2, 79), (2, 80)], [(0, 4), (2, 174), (2, 175)], [(0, 4), (2, 130), (2, 131)], [(0, 19), (3, 28)], [(0, 19), (3, 31)], [(0, 19), (3, 103)], [(0, 19), (3, 119)], [(0, 19), (3, 122)], [(0, 19), (3, 132)], [(0, 19), (3, 129)], [(0, 19), (3, 135)], [(0, 19), (3, 147)], [(0, 19), (3, 154)], [(0, 19), (3, 150)], [(0, 19), (3, 157)], [(0, 19), (3, 164)], [(0, 19), (4, 7)], [(0, 19), (4, 11)], [(0, 19), (4, 14)]] = true := by decide +kernel
theorem mcode_1 : ∀ r ∈ mtl_1, CodeIn r := List.forall_mem_cons.mpr ⟨inT_r 4 18 rfl, List.forall_mem_cons.mpr ⟨inT_r 4 22 rfl, List.forall_mem_cons.mpr ⟨inT_r 4 25 rfl, List.forall_mem_cons.mpr ⟨inT_r 4 32 rfl, List.forall_mem_cons.mpr ⟨inT_r 4 36 rfl, List.forall_mem_cons.mpr ⟨inT_r 4 40 rfl, List.forall_mem_cons.mpr ⟨inT_r 4 43 rfl, List.forall_mem_cons.mpr ⟨inT_r 4 46 rfl, List.forall_mem_cons.mpr ⟨inT_r 4 51 rfl, List.forall_mem_cons.mpr ⟨inT_r 4 54 rfl, List.forall_mem_cons.mpr ⟨inT_r 4 60 rfl, List.forall_mem_cons.mpr ⟨inT_r 4 57 rfl, List.forall_mem_cons.mpr ⟨inT_r 4 65 rfl, List.forall_mem_cons.mpr ⟨inT_r 4 68 rfl, List.forall_mem_cons.mpr ⟨inT_r 4 76 rfl, List.forall_mem_cons.mpr ⟨inT_r 4 73 rfl, List.forall_mem_cons.mpr ⟨inT_r 4 127 rfl, List.forall_mem_cons.mpr ⟨inT_r 0 141 rfl, List.forall_mem_cons.mpr ⟨inT_r 2 77 rfl, List.forall_mem_cons.mpr ⟨inT_r 2 142 rfl, fun _ h => absurd h List.not_mem_nil⟩⟩⟩⟩⟩⟩⟩⟩⟩⟩⟩⟩⟩⟩⟩⟩⟩⟩⟩⟩
set_option maxRecDepth 100000 in
theorem mok_1 : moks mtl_1 [[(0, 19), (4, 17)], [(0, 19), (4, 21)], [(0, 19), (4, 24)], [(0, 19), (4, 31)], [(0, 19), (4, 35)], [(0, 19), (4, 39)], [(0, 19), (4, 42)], [(0, 19), (4, 45)], [(0, 19), (4, 50)], [(0, 19), (4, 53)], [(0, 19), (4, 59)], [(0, 19), (4, 56)], [(0, 19), (4, 64)], [(0, 19), (4, 67)], [(0, 19), (4, 75)], [(0, 19), (4, 72)], [(0, 19), (4, 126)], [(0, 6), (0, 140)], [(0, 6), (2, 75), (2, 76)], [(0, 6), (2, 140), (2, 141)]] = true := by decide +kernel
theorem mcode_2 : ∀ r ∈ mtl_2, CodeIn r := List.forall_mem_cons.mpr ⟨inT_r 1 93 rfl, List.forall_mem_cons.mpr ⟨inT_r 3 67 rfl, List.forall_mem_cons.mpr ⟨inT_r 3 93 rfl, List.forall_mem_cons.mpr ⟨inT_r 3 72 rfl, List.forall_mem_cons.mpr ⟨inT_r 3 76 rfl, List.forall_mem_cons.mpr ⟨inT_r 3 46 rfl, List.forall_mem_cons.mpr ⟨inT_r 3 63 rfl, List.forall_mem_cons.mpr ⟨inT_r 3 88 rfl, List.forall_mem_cons.mpr ⟨inT_r 3 80 rfl, List.forall_mem_cons.mpr ⟨inT_r 3 84 rfl, List.forall_mem_cons.mpr ⟨inT_r 4 93 rfl, List.forall_mem_cons.mpr ⟨inT_r 4 97 rfl, List.forall_mem_cons.mpr ⟨inT_r 3 97 rfl, List.forall_mem_cons.mpr ⟨inT_r 3 186 rfl, List.forall_mem_cons.mpr ⟨inT_r 3 211 rfl, List.forall_mem_cons.mpr ⟨inT_r 3 207 rfl, List.forall_mem_cons.mpr ⟨inT_r 3 194 rfl, List.forall_mem_cons.mpr ⟨inT_r 3 199 rfl, List.forall_mem_cons.mpr ⟨inT_r 3 190 rfl, List.forall_mem_cons.mpr ⟨inT_r 3 215 rfl, fun _ h => absurd h List.not_mem_nil⟩⟩⟩⟩⟩⟩⟩⟩⟩⟩⟩⟩⟩⟩⟩⟩⟩⟩⟩⟩
set_option maxRecDepth 100000 in
theorem mok_2 : moks mtl_2 [[(0, 10), (1, 92)], [(0, 10), (3, 66), (9, 8)], [(0, 10), (3, 92), (9, 14)], [(0, 10), (3, 71), (9, 9)], [(0, 10), (3, 75), (9, 10)], [(0, 10), (3, 44), (3, 45)], [(0, 10), (3, 62), (9, 7)], [(0, 10), (3, 87), (9, 13)], [(0, 10), (3, 79), (9, 11)], [(0, 10), (3, 83), (9, 12)], [(0, 10), (4, 91), (4, 92)], [(0, 10), (4, 96), (10, 9)], [(0, 10), (3, 95), (3, 96)], [(0, 10), (3, 184), (3, 185)], [(0, 10), (3, 210), (10, 3)], [(0, 10), (3, 206), (10, 2)], [(0, 10), (3, 193), (10, 0)], [(0, 10), (3, 198), (10, 1)], [(0, 10), (3, 189), (9, 15)], [(0, 10), (3, 214), (10, 4)]] = true := by decide +kernel
theorem mcode_3 : ∀ r ∈ mtl_3, CodeIn r := List.forall_mem_cons.mpr ⟨inT_r 3 219 rfl, List.forall_mem_cons.mpr ⟨inT_r 0 131 rfl, List.forall_mem_cons.mpr ⟨inT_r 1 172 rfl, List.forall_mem_cons.mpr ⟨inT_r 2 137 rfl, List.forall_mem_cons.mpr ⟨inT_r 3 54 rfl, List.forall_mem_cons.mpr ⟨inT_r 4 109 rfl, List.forall_mem_cons.mpr ⟨inT_r 3 59 rfl, List.forall_mem_cons.mpr ⟨inT_r 3 50 rfl, List.forall_mem_cons.mpr ⟨inT_r 4 105 rfl, List.forall_mem_cons.mpr ⟨inT_r 4 113 rfl, List.forall_mem_cons.mpr ⟨inT_r 0 203 rfl, List.forall_mem_cons.mpr ⟨inT_r 1 160 rfl, List.forall_mem_cons.mpr ⟨inT_r 1 164 rfl, List.forall_mem_cons.mpr ⟨inT_r 1 204 rfl, List.forall_mem_cons.mpr ⟨inT_r 1 208 rfl, List.forall_mem_cons.mpr ⟨inT_r 1 213 rfl, List.forall_mem_cons.mpr ⟨inT_r 2 42 rfl, List.forall_mem_cons.mpr ⟨inT_r 2 53 rfl, List.forall_mem_cons.mpr ⟨inT_r 2 46 rfl, List.forall_mem_cons.mpr ⟨inT_r 2 61 rfl, fun _ h => absurd h List.not_mem_nil⟩⟩⟩⟩⟩⟩⟩⟩⟩⟩⟩⟩⟩⟩⟩⟩⟩⟩⟩⟩
set_option maxRecDepth 100000 in
theorem mok_3 : moks mtl_3 [[(0, 10), (3, 218), (10, 5)], [(0, 5), (0, 130)], [(0, 5), (1, 170), (1, 171)], [(0, 5), (2, 135), (2, 136)], [(0, 5), (3, 52), (3, 53)], [(0, 5), (4, 107), (4, 108)], [(0, 5), (3, 57), (3, 58)], [(0, 5), (3, 48), (3, 49)], [(0, 5), (4, 103), (4, 104)], [(0, 5), (4, 111), (4, 112)], [(0, 7), (0, 202)], [(0, 7), (1, 158), (1, 159)], [(0, 7), (1, 163), (8, 0)], [(0, 7), (1, 203), (8, 3)], [(0, 7), (1, 207), (8, 4)], [(0, 7), (1, 212)], [(0, 7), (2, 41), (8, 5)], [(0, 7), (2, 52), (8, 7)], [(0, 7), (2, 45), (8, 6)], [(0, 7), (2, 60), (8, 8)]] = true := by decide +kernel
theorem mcode_4 : ∀ r ∈ mtl_4, CodeIn r := List.forall_mem_cons.mpr ⟨inT_r 2 65 rfl, List.forall_mem_cons.mpr ⟨inT_r 2 69 rfl, List.forall_mem_cons.mpr ⟨inT_r 2 73 rfl, List.forall_mem_cons.mpr ⟨inT_r 2 89 rfl, List.forall_mem_cons.mpr ⟨inT_r 2 93 rfl, List.forall_mem_cons.mpr ⟨inT_r 0 45 rfl, List.forall_mem_cons.mpr ⟨inT_r 1 168 rfl, List.forall_mem_cons.mpr ⟨inT_r 2 125 rfl, List.forall_mem_cons.mpr ⟨inT_r 2 85 rfl, List.forall_mem_cons.mpr ⟨inT_r 2 97 rfl, List.forall_mem_cons.mpr ⟨inT_r 2 164 rfl, List.forall_mem_cons.mpr ⟨inT_r 3 21 rfl, List.forall_mem_cons.mpr ⟨inT_r 3 1 rfl, List.forall_mem_cons.mpr ⟨inT_r 3 203 rfl, List.forall_mem_cons.mpr ⟨inT_r 3 108 rfl, List.forall_mem_cons.mpr ⟨inT_r 3 112 rfl, List.forall_mem_cons.mpr ⟨inT_r 2 113 rfl, List.forall_mem_cons.mpr ⟨inT_r 2 117 rfl, List.forall_mem_cons.mpr ⟨inT_r 2 105 rfl, List.forall_mem_cons.mpr ⟨inT_r 2 109 rfl, fun _ h => absurd h List.not_mem_nil⟩⟩⟩⟩⟩⟩⟩⟩⟩⟩⟩⟩⟩⟩⟩⟩⟩⟩⟩⟩
set_option maxRecDepth 100000 in
theorem mok_4 : moks mtl_4 [[(0, 7), (2, 64), (8, 9)], [(0, 7), (2, 68), (8, 10)], [(0, 7), (2, 72), (8, 11)], [(0, 7), (2, 88), (8, 12)], [(0, 7), (2, 92), (8, 13)], [(0, 3), (0, 44)], [(0, 3), (1, 166), (1, 167)], [(0, 3), (2, 123), (2, 124)], [(0, 3), (2, 83), (2, 84)], [(0, 3), (2, 95), (2, 96)], [(0, 3), (2, 162), (2, 163)], [(0, 3), (3, 19), (3, 20)], [(0, 3), (2, 239), (3, 0)], [(0, 3), (3, 201), (3, 202)], [(0, 3), (3, 106), (3, 107)], [(0, 3), (3, 110), (3, 111)], [(0, 3), (2, 111), (2, 112)], [(0, 3), (2, 116), (8, 14)], [(0, 3), (2, 103), (2, 104)], [(0, 3), (2, 107), (2, 108)]] = true := by decide +kernel
theorem mcode_5 : ∀ r ∈ mtl_5, CodeIn r := List.forall_mem_cons.mpr ⟨inT_r 2 101 rfl, List.forall_mem_cons.mpr ⟨inT_r 2 217 rfl, List.forall_mem_cons.mpr ⟨inT_r 2 225 rfl, List.forall_mem_cons.mpr ⟨inT_r 2 229 rfl, List.forall_mem_cons.mpr ⟨inT_r 2 160 rfl, List.forall_mem_cons.mpr ⟨inT_r 0 217 rfl, List.forall_mem_cons.mpr ⟨inT_r 1 176 rfl, List.forall_mem_cons.mpr ⟨inT_r 1 183 rfl, List.forall_mem_cons.mpr ⟨inT_r 1 193 rfl, List.forall_mem_cons.mpr ⟨inT_r 1 200 rfl, List.forall_mem_cons.mpr ⟨inT_r 1 230 rfl, List.forall_mem_cons.mpr ⟨inT_r 1 186 rfl, List.forall_mem_cons.mpr ⟨inT_r 1 189 rfl, List.forall_mem_cons.mpr ⟨inT_r 1 196 rfl, List.forall_mem_cons.mpr ⟨inT_r 0 32 rfl, List.forall_mem_cons.mpr ⟨inT_r 4 153 rfl, List.forall_mem_cons.mpr ⟨inT_r 1 140 rfl, List.forall_mem_cons.mpr ⟨inT_r 1 156 rfl, List.forall_mem_cons.mpr ⟨inT_r 1 152 rfl, List.forall_mem_cons.mpr ⟨inT_r 2 121 rfl, fun _ h => absurd h List.not_mem_nil⟩⟩⟩⟩⟩⟩⟩⟩⟩⟩⟩⟩⟩⟩⟩⟩⟩⟩⟩⟩
set_option maxRecDepth 100000 in
theorem mok_5 : moks mtl_5 [[(0, 3), (2, 99), (2, 100)], [(0, 3), (2, 215), (2, 216)], [(0, 3), (2, 223), (2, 224)], [(0, 3), (2, 227), (2, 228)], [(0, 3), (2, 158), (2, 159)], [(0, 8), (0, 216)], [(0, 8), (1, 174), (1, 175)], [(0, 8), (1, 181), (1, 182)], [(0, 8), (1, 192), (8, 1)], [(0, 8), (1, 199), (8, 2)], [(0, 8), (1, 228), (1, 229)], [(0, 8), (1, 185)], [(0, 8), (1, 188)], [(0, 8), (1, 195)], [(0, 2), (0, 31)], [(0, 2), (4, 151), (4, 152)], [(0, 2), (1, 138), (1, 139)], [(0, 2), (1, 154), (1, 155)], [(0, 2), (1, 150), (1, 151)], [(0, 2), (2, 119), (2, 120)]] = true := by decide +kernel
theorem mcode_6 : ∀ r ∈ mtl_6, CodeIn r := List.forall_mem_cons.mpr ⟨inT_r 2 156 rfl, List.forall_mem_cons.mpr ⟨inT_r 2 172 rfl, List.forall_mem_cons.mpr ⟨inT_r 3 42 rfl, List.forall_mem_cons.mpr ⟨inT_r 3 178 rfl, List.forall_mem_cons.mpr ⟨inT_r 1 45 rfl, List.forall_mem_cons.mpr ⟨inT_r 2 184 rfl, List.forall_mem_cons.mpr ⟨inT_r 2 188 rfl, List.forall_mem_cons.mpr ⟨inT_r 3 228 rfl, List.forall_mem_cons.mpr ⟨inT_r 3 232 rfl, List.forall_mem_cons.mpr ⟨inT_r 4 1 rfl, List.forall_mem_cons.mpr ⟨inT_r 3 236 rfl, List.forall_mem_cons.mpr ⟨inT_r 2 193 rfl, List.forall_mem_cons.mpr ⟨inT_r 2 197 rfl, List.forall_mem_cons.mpr ⟨inT_r 2 208 rfl, List.forall_mem_cons.mpr ⟨inT_r 2 221 rfl, List.forall_mem_cons.mpr ⟨inT_r 2 233 rfl, List.forall_mem_cons.mpr ⟨inT_r 2 237 rfl, List.forall_mem_cons.mpr ⟨inT_r 2 212 rfl, List.forall_mem_cons.mpr ⟨inT_r 3 13 rfl, List.forall_mem_cons.mpr ⟨inT_r 4 136 rfl, fun _ h => absurd h List.not_mem_nil⟩⟩⟩⟩⟩⟩⟩⟩⟩⟩⟩⟩⟩⟩⟩⟩⟩⟩⟩⟩
set_option maxRecDepth 100000 in
theorem mok_6 : moks mtl_6 [[(0, 2), (2, 154), (2, 155)], [(0, 2), (2, 170), (2, 171)], [(0, 2), (3, 40), (3, 41)], [(0, 2), (3, 176), (3, 177)], [(0, 9), (1, 44)], [(0, 9), (2, 182), (2, 183)], [(0, 9), (2, 186), (2, 187)], [(0, 9), (3, 226), (3, 227)], [(0, 9), (3, 231), (10, 6)], [(0, 9), (4, 0), (10, 8)], [(0, 9), (3, 235), (10, 7)], [(0, 9), (2, 192), (8, 15)], [(0, 9), (2, 196), (9, 0)], [(0, 9), (2, 207), (9, 1)], [(0, 9), (2, 220), (9, 3)], [(0, 9), (2, 232), (9, 4)], [(0, 9), (2, 236), (9, 5)], [(0, 9), (2, 211), (9, 2)], [(0, 9), (3, 11), (3, 12)], [(0, 9), (4, 134), (4, 135)]] = true := by decide +kernel
theorem mcode_7 : ∀ r ∈ mtl_7, CodeIn r := List.forall_mem_cons.mpr ⟨inT_r 4 141 rfl, List.forall_mem_cons.mpr ⟨inT_r 3 9 rfl, List.forall_mem_cons.mpr ⟨inT_r 3 17 rfl, List.forall_mem_cons.mpr ⟨inT_r 0 24 rfl, List.forall_mem_cons.mpr ⟨inT_r 1 136 rfl, List.forall_mem_cons.mpr ⟨inT_r 1 144 rfl, List.forall_mem_cons.mpr ⟨inT_r 1 148 rfl, List.forall_mem_cons.mpr ⟨inT_r 2 148 rfl, List.forall_mem_cons.mpr ⟨inT_r 2 152 rfl, List.forall_mem_cons.mpr ⟨inT_r 2 168 rfl, List.forall_mem_cons.mpr ⟨inT_r 2 180 rfl, List.forall_mem_cons.mpr ⟨inT_r 3 5 rfl, List.forall_mem_cons.mpr ⟨inT_r 3 25 rfl, List.forall_mem_cons.mpr ⟨inT_r 3 38 rfl, List.forall_mem_cons.mpr ⟨inT_r 3 101 rfl, List.forall_mem_cons.mpr ⟨inT_r 3 117 rfl, List.forall_mem_cons.mpr ⟨inT_r 3 127 rfl, List.forall_mem_cons.mpr ⟨inT_r 3 144 rfl, List.forall_mem_cons.mpr ⟨inT_r 3 162 rfl, List.forall_mem_cons.mpr ⟨inT_r 3 169 rfl, fun _ h => absurd h List.not_mem_nil⟩⟩⟩⟩⟩⟩⟩⟩⟩⟩⟩⟩⟩⟩⟩⟩⟩⟩⟩⟩
set_option maxRecDepth 100000 in
theorem mok_7 : moks mtl_7 [[(0, 9), (4, 139), (4, 140)], [(0, 9), (3, 7), (3, 8)], [(0, 9), (3, 16), (9, 6)], [(0, 1), (0, 23)], [(0, 1), (1, 134), (1, 135)], [(0, 1), (1, 142), (1, 143)], [(0, 1), (1, 146), (1, 147)], [(0, 1), (2, 146), (2, 147)], [(0, 1), (2, 150), (2, 151)], [(0, 1), (2, 166), (2, 167)], [(0, 1), (2, 178), (2, 179)], [(0, 1), (3, 3), (3, 4)], [(0, 1), (3, 23), (3, 24)], [(0, 1), (3, 36), (3, 37)], [(0, 1), (3, 99), (3, 100)], [(0, 1), (3, 115), (3, 116)], [(0, 1), (3, 125), (3, 126)], [(0, 1), (3, 142), (3, 143)], [(0, 1), (3, 160), (3, 161)], [(0, 1), (3, 167), (3, 168)]] = true := by decide +kernel
theorem mcode_8 : ∀ r ∈ mtl_8, CodeIn r := List.forall_mem_cons.mpr ⟨inT_r 3 174 rfl, List.forall_mem_cons.mpr ⟨inT_r 3 182 rfl, List.forall_mem_cons.mpr ⟨inT_r 3 224 rfl, List.forall_mem_cons.mpr ⟨inT_r 4 5 rfl, List.forall_mem_cons.mpr ⟨inT_r 4 29 rfl, List.forall_mem_cons.mpr ⟨inT_r 4 80 rfl, List.forall_mem_cons.mpr ⟨inT_r 4 84 rfl, List.forall_mem_cons.mpr ⟨inT_r 4 89 rfl, List.forall_mem_cons.mpr ⟨inT_r 4 101 rfl, List.forall_mem_cons.mpr ⟨inT_r 4 117 rfl, List.forall_mem_cons.mpr ⟨inT_r 4 124 rfl, List.forall_mem_cons.mpr ⟨inT_r 4 132 rfl, List.forall_mem_cons.mpr ⟨inT_r 4 145 rfl, List.forall_mem_cons.mpr ⟨inT_r 4 149 rfl, List.forall_mem_cons.mpr ⟨inT_r 4 158 rfl, List.forall_mem_cons.mpr ⟨inT_r 4 163 rfl, List.forall_mem_cons.mpr ⟨inT_r 5 95 rfl, List.forall_mem_cons.mpr ⟨inT_r 5 229 rfl, List.forall_mem_cons.mpr ⟨inT_r 5 161 rfl, List.forall_mem_cons.mpr ⟨inT_r 5 143 rfl, fun _ h => absurd h List.not_mem_nil⟩⟩⟩⟩⟩⟩⟩⟩⟩⟩⟩⟩⟩⟩⟩⟩⟩⟩⟩⟩
set_option maxRecDepth 100000 in
theorem mok_8 : moks mtl_8 [[(0, 1), (3, 172), (3, 173)], [(0, 1), (3, 180), (3, 181)], [(0, 1), (3, 222), (3, 223)], [(0, 1), (4, 3), (4, 4)], [(0, 1), (4, 27), (4, 28)], [(0, 1), (4, 78), (4, 79)], [(0, 1), (4, 82), (4, 83)], [(0, 1), (4, 87), (4, 88)], [(0, 1), (4, 99), (4, 100)], [(0, 1), (4, 115), (4, 116)], [(0, 1), (4, 122), (4, 123)], [(0, 1), (4, 130), (4, 131)], [(0, 1), (4, 143), (4, 144)], [(0, 1), (4, 147), (4, 148)], [(0, 1), (4, 156), (4, 157)], [(0, 11), (4, 162)], [(0, 11), (5, 94)], [(0, 11), (5, 228)], [(0, 11), (5, 160)], [(0, 11), (5, 142)]] = true := by decide +kernel
theorem mcode_9 : ∀ r ∈ mtl_9, CodeIn r := List.forall_mem_cons.mpr ⟨inT_r 6 104 rfl, List.forall_mem_cons.mpr ⟨inT_r 7 151 rfl, List.forall_mem_cons.mpr ⟨inT_r 7 148 rfl, List.forall_mem_cons.mpr ⟨inT_r 5 103 rfl, List.forall_mem_cons.mpr ⟨inT_r 5 84 rfl, List.forall_mem_cons.mpr ⟨inT_r 5 88 rfl, List.forall_mem_cons.mpr ⟨inT_r 5 92 rfl, List.forall_mem_cons.mpr ⟨inT_r 5 115 rfl, List.forall_mem_cons.mpr ⟨inT_r 5 111 rfl, List.forall_mem_cons.mpr ⟨inT_r 5 154 rfl, List.forall_mem_cons.mpr ⟨inT_r 5 140 rfl, List.forall_mem_cons.mpr ⟨inT_r 5 158 rfl, List.forall_mem_cons.mpr ⟨inT_r 5 136 rfl, List.forall_mem_cons.mpr ⟨inT_r 5 147 rfl, List.forall_mem_cons.mpr ⟨inT_r 5 132 rfl, List.forall_mem_cons.mpr ⟨inT_r 5 127 rfl, List.forall_mem_cons.mpr ⟨inT_r 5 169 rfl, List.forall_mem_cons.mpr ⟨inT_r 5 179 rfl, List.forall_mem_cons.mpr ⟨inT_r 5 165 rfl, List.forall_mem_cons.mpr ⟨inT_r 5 183 rfl, fun _ h => absurd h List.not_mem_nil⟩⟩⟩⟩⟩⟩⟩⟩⟩⟩⟩⟩⟩⟩⟩⟩⟩⟩⟩⟩
set_option maxRecDepth 100000 in
theorem mok_9 : moks mtl_9 [[(0, 11), (6, 103)], [(0, 11), (7, 150)], [(0, 11), (7, 147), (16, 11)], [(0, 11), (5, 102), (10, 11)], [(0, 11), (5, 82), (5, 83)], [(0, 11), (5, 87), (10, 10)], [(0, 11), (5, 90), (5, 91)], [(0, 11), (5, 114), (10, 14)], [(0, 11), (5, 110), (10, 13)], [(0, 11), (5, 153), (11, 6)], [(0, 11), (5, 139), (11, 4)], [(0, 11), (5, 157), (11, 7)], [(0, 11), (5, 135), (11, 3)], [(0, 11), (5, 146), (11, 5)], [(0, 11), (5, 131), (11, 2)], [(0, 11), (5, 126), (11, 1)], [(0, 11), (5, 168), (11, 9)], [(0, 11), (5, 178), (11, 10)], [(0, 11), (5, 164), (11, 8)], [(0, 11), (5, 182), (11, 11)]] = true := by decide +kernel
theorem mcode_10 : ∀ r ∈ mtl_10, CodeIn r := List.forall_mem_cons.mpr ⟨inT_r 5 188 rfl, List.forall_mem_cons.mpr ⟨inT_r 5 123 rfl, List.forall_mem_cons.mpr ⟨inT_r 5 119 rfl, List.forall_mem_cons.mpr ⟨inT_r 5 194 rfl, List.forall_mem_cons.mpr ⟨inT_r 5 107 rfl, List.forall_mem_cons.mpr ⟨inT_r 5 202 rfl, List.forall_mem_cons.mpr ⟨inT_r 5 198 rfl, List.forall_mem_cons.mpr ⟨inT_r 5 99 rfl, List.forall_mem_cons.mpr ⟨inT_r 5 206 rfl, List.forall_mem_cons.mpr ⟨inT_r 5 218 rfl, List.forall_mem_cons.mpr ⟨inT_r 5 214 rfl, List.forall_mem_cons.mpr ⟨inT_r 5 226 rfl, List.forall_mem_cons.mpr ⟨inT_r 5 222 rfl, List.forall_mem_cons.mpr ⟨inT_r 6 9 rfl, List.forall_mem_cons.mpr ⟨inT_r 6 93 rfl, List.forall_mem_cons.mpr ⟨inT_r 6 1 rfl, List.forall_mem_cons.mpr ⟨inT_r 6 5 rfl, List.forall_mem_cons.mpr ⟨inT_r 5 237 rfl, List.forall_mem_cons.mpr ⟨inT_r 5 233 rfl, List.forall_mem_cons.mpr ⟨inT_r 6 61 rfl, fun _ h => absurd h List.not_mem_nil⟩⟩⟩⟩⟩⟩⟩⟩⟩⟩⟩⟩⟩⟩⟩⟩⟩⟩⟩⟩
set_option maxRecDepth 100000 in
theorem mok_10 : moks mtl_10 [[(0, 11), (5, 187), (11, 12)], [(0, 11), (5, 122), (11, 0)], [(0, 11), (5, 118), (10, 15)], [(0, 11), (5, 193), (11, 13)], [(0, 11), (5, 106), (10, 12)], [(0, 11), (5, 201), (11, 15)], [(0, 11), (5, 197), (11, 14)], [(0, 11), (5, 97), (5, 98)], [(0, 11), (5, 204), (5, 205)], [(0, 11), (5, 217), (12, 1)], [(0, 11), (5, 213), (12, 0)], [(0, 11), (5, 225), (12, 3)], [(0, 11), (5, 221), (12, 2)], [(0, 11), (6, 8), (12, 8)], [(0, 11), (6, 92), (13, 10)], [(0, 11), (6, 0), (12, 6)], [(0, 11), (6, 4), (12, 7)], [(0, 11), (5, 236), (12, 5)], [(0, 11), (5, 232), (12, 4)], [(0, 11), (6, 60), (13, 3)]] = true := by decide +kernel
theorem mcode_11 : ∀ r ∈ mtl_11, CodeIn r := List.forall_mem_cons.mpr ⟨inT_r 5 210 rfl, List.forall_mem_cons.mpr ⟨inT_r 6 21 rfl, List.forall_mem_cons.mpr ⟨inT_r 6 25 rfl, List.forall_mem_cons.mpr ⟨inT_r 6 17 rfl, List.forall_mem_cons.mpr ⟨inT_r 6 13 rfl, List.forall_mem_cons.mpr ⟨inT_r 6 57 rfl, List.forall_mem_cons.mpr ⟨inT_r 6 65 rfl, List.forall_mem_cons.mpr ⟨inT_r 6 53 rfl, List.forall_mem_cons.mpr ⟨inT_r 6 69 rfl, List.forall_mem_cons.mpr ⟨inT_r 6 73 rfl, List.forall_mem_cons.mpr ⟨inT_r 6 77 rfl, List.forall_mem_cons.mpr ⟨inT_r 6 81 rfl, List.forall_mem_cons.mpr ⟨inT_r 6 49 rfl, List.forall_mem_cons.mpr ⟨inT_r 6 45 rfl, List.forall_mem_cons.mpr ⟨inT_r 6 41 rfl, List.forall_mem_cons.mpr ⟨inT_r 6 37 rfl, List.forall_mem_cons.mpr ⟨inT_r 6 33 rfl, List.forall_mem_cons.mpr ⟨inT_r 6 29 rfl, List.forall_mem_cons.mpr ⟨inT_r 6 97 rfl, List.forall_mem_cons.mpr ⟨inT_r 6 89 rfl, fun _ h => absurd h List.not_mem_nil⟩⟩⟩⟩⟩⟩⟩⟩⟩⟩⟩⟩⟩⟩⟩⟩⟩⟩⟩⟩
set_option maxRecDepth 100000 in
theorem mok_11 : moks mtl_11 [[(0, 11), (5, 208), (5, 209)], [(0, 11), (6, 20), (12, 10)], [(0, 11), (6, 24), (12, 11)], [(0, 11), (6, 16), (12, 9)], [(0, 11), (6, 11), (6, 12)], [(0, 11), (6, 56), (13, 2)], [(0, 11), (6, 64), (13, 4)], [(0, 11), (6, 52), (13, 1)], [(0, 11), (6, 68), (13, 5)], [(0, 11), (6, 72), (13, 6)], [(0, 11), (6, 76), (13, 7)], [(0, 11), (6, 80), (13, 8)], [(0, 11), (6, 48), (13, 0)], [(0, 11), (6, 44), (12, 15)], [(0, 11), (6, 40), (12, 14)], [(0, 11), (6, 36), (12, 13)], [(0, 11), (6, 32), (12, 12)], [(0, 11), (6, 27), (6, 28)], [(0, 11), (6, 96), (13, 11)], [(0, 11), (6, 88), (13, 9)]] = true := by decide +kernel
theorem mcode_12 : ∀ r ∈ mtl_12, CodeIn r := List.forall_mem_cons.mpr ⟨inT_r 6 85 rfl, List.forall_mem_cons.mpr ⟨inT_r 6 101 rfl, List.forall_mem_cons.mpr ⟨inT_r 6 112 rfl, List.forall_mem_cons.mpr ⟨inT_r 6 124 rfl, List.forall_mem_cons.mpr ⟨inT_r 6 136 rfl, List.forall_mem_cons.mpr ⟨inT_r 6 120 rfl, List.forall_mem_cons.mpr ⟨inT_r 6 128 rfl, List.forall_mem_cons.mpr ⟨inT_r 6 132 rfl, List.forall_mem_cons.mpr ⟨inT_r 6 140 rfl, List.forall_mem_cons.mpr ⟨inT_r 6 116 rfl, List.forall_mem_cons.mpr ⟨inT_r 6 108 rfl, List.forall_mem_cons.mpr ⟨inT_r 6 148 rfl, List.forall_mem_cons.mpr ⟨inT_r 6 144 rfl, List.forall_mem_cons.mpr ⟨inT_r 6 156 rfl, List.forall_mem_cons.mpr ⟨inT_r 6 152 rfl, List.forall_mem_cons.mpr ⟨inT_r 6 163 rfl, List.forall_mem_cons.mpr ⟨inT_r 6 167 rfl, List.forall_mem_cons.mpr ⟨inT_r 6 171 rfl, List.forall_mem_cons.mpr ⟨inT_r 6 160 rfl, List.forall_mem_cons.mpr ⟨inT_r 6 179 rfl, fun _ h => absurd h List.not_mem_nil⟩⟩⟩⟩⟩⟩⟩⟩⟩⟩⟩⟩⟩⟩⟩⟩⟩⟩⟩⟩
set_option maxRecDepth 100000 in
theorem mok_12 : moks mtl_12 [[(0, 11), (6, 83), (6, 84)], [(0, 11), (6, 99), (6, 100)], [(0, 11), (6, 111), (13, 12)], [(0, 11), (6, 123), (13, 15)], [(0, 11), (6, 135), (14, 2)], [(0, 11), (6, 119), (13, 14)], [(0, 11), (6, 127), (14, 0)], [(0, 11), (6, 131), (14, 1)], [(0, 11), (6, 139), (14, 3)], [(0, 11), (6, 115), (13, 13)], [(0, 11), (6, 106), (6, 107)], [(0, 11), (6, 147), (14, 4)], [(0, 11), (6, 142), (6, 143)], [(0, 11), (6, 155), (14, 5)], [(0, 11), (6, 150), (6, 151)], [(0, 11), (6, 162)], [(0, 11), (6, 166), (14, 6)], [(0, 11), (6, 170), (14, 7)], [(0, 11), (6, 158), (6, 159)], [(0, 11), (6, 178), (14, 8)]] = true := by decide +kernel
theorem mcode_13 : ∀ r ∈ mtl_13, CodeIn r := List.forall_mem_cons.mpr ⟨inT_r 6 182 rfl, List.forall_mem_cons.mpr ⟨inT_r 6 175 rfl, List.forall_mem_cons.mpr ⟨inT_r 6 186 rfl, List.forall_mem_cons.mpr ⟨inT_r 6 190 rfl, List.forall_mem_cons.mpr ⟨inT_r 6 206 rfl, List.forall_mem_cons.mpr ⟨inT_r 6 202 rfl, List.forall_mem_cons.mpr ⟨inT_r 6 198 rfl, List.forall_mem_cons.mpr ⟨inT_r 6 194 rfl, List.forall_mem_cons.mpr ⟨inT_r 6 218 rfl, List.forall_mem_cons.mpr ⟨inT_r 6 238 rfl, List.forall_mem_cons.mpr ⟨inT_r 6 234 rfl, List.forall_mem_cons.mpr ⟨inT_r 6 226 rfl, List.forall_mem_cons.mpr ⟨inT_r 6 222 rfl, List.forall_mem_cons.mpr ⟨inT_r 6 230 rfl, List.forall_mem_cons.mpr ⟨inT_r 6 214 rfl, List.forall_mem_cons.mpr ⟨inT_r 7 10 rfl, List.forall_mem_cons.mpr ⟨inT_r 7 6 rfl, List.forall_mem_cons.mpr ⟨inT_r 7 2 rfl, List.forall_mem_cons.mpr ⟨inT_r 6 210 rfl, List.forall_mem_cons.mpr ⟨inT_r 7 22 rfl, fun _ h => absurd h List.not_mem_nil⟩⟩⟩⟩⟩⟩⟩⟩⟩⟩⟩⟩⟩⟩⟩⟩⟩⟩⟩⟩
set_option maxRecDepth 100000 in
theorem mok_13 : moks mtl_13 [[(0, 11), (6, 181)], [(0, 11), (6, 173), (6, 174)], [(0, 11), (6, 184), (6, 185)], [(0, 11), (6, 188), (6, 189)], [(0, 11), (6, 205), (14, 11)], [(0, 11), (6, 201), (14, 10)], [(0, 11), (6, 197), (14, 9)], [(0, 11), (6, 192), (6, 193)], [(0, 11), (6, 217), (14, 13)], [(0, 11), (6, 237), (15, 2)], [(0, 11), (6, 233), (15, 1)], [(0, 11), (6, 225), (14, 15)], [(0, 11), (6, 221), (14, 14)], [(0, 11), (6, 229), (15, 0)], [(0, 11), (6, 213), (14, 12)], [(0, 11), (7, 9), (15, 5)], [(0, 11), (7, 5), (15, 4)], [(0, 11), (7, 1), (15, 3)], [(0, 11), (6, 208), (6, 209)], [(0, 11), (7, 21), (15, 7)]] = true := by decide +kernel
theorem mcode_14 : ∀ r ∈ mtl_14, CodeIn r := List.forall_mem_cons.mpr ⟨inT_r 7 18 rfl, List.forall_mem_cons.mpr ⟨inT_r 7 14 rfl, List.forall_mem_cons.mpr ⟨inT_r 7 35 rfl, List.forall_mem_cons.mpr ⟨inT_r 7 31 rfl, List.forall_mem_cons.mpr ⟨inT_r 7 39 rfl, List.forall_mem_cons.mpr ⟨inT_r 7 43 rfl, List.forall_mem_cons.mpr ⟨inT_r 7 27 rfl, List.forall_mem_cons.mpr ⟨inT_r 7 51 rfl, List.forall_mem_cons.mpr ⟨inT_r 7 55 rfl, List.forall_mem_cons.mpr ⟨inT_r 7 59 rfl, List.forall_mem_cons.mpr ⟨inT_r 7 63 rfl, List.forall_mem_cons.mpr ⟨inT_r 7 67 rfl, List.forall_mem_cons.mpr ⟨inT_r 7 75 rfl, List.forall_mem_cons.mpr ⟨inT_r 7 71 rfl, List.forall_mem_cons.mpr ⟨inT_r 7 84 rfl, List.forall_mem_cons.mpr ⟨inT_r 7 79 rfl, List.forall_mem_cons.mpr ⟨inT_r 7 92 rfl, List.forall_mem_cons.mpr ⟨inT_r 7 88 rfl, List.forall_mem_cons.mpr ⟨inT_r 7 47 rfl, List.forall_mem_cons.mpr ⟨inT_r 7 96 rfl, fun _ h => absurd h List.not_mem_nil⟩⟩⟩⟩⟩⟩⟩⟩⟩⟩⟩⟩⟩⟩⟩⟩⟩⟩⟩⟩
set_option maxRecDepth 100000 in
theorem mok_14 : moks mtl_14 [[(0, 11), (7, 17), (15, 6)], [(0, 11), (7, 12), (7, 13)], [(0, 11), (7, 34), (15, 9)], [(0, 11), (7, 30), (15, 8)], [(0, 11), (7, 38), (15, 10)], [(0, 11), (7, 42), (15, 11)], [(0, 11), (7, 25), (7, 26)], [(0, 11), (7, 50), (15, 12)], [(0, 11), (7, 54), (15, 13)], [(0, 11), (7, 58), (15, 14)], [(0, 11), (7, 62), (15, 15)], [(0, 11), (7, 66), (16, 0)], [(0, 11), (7, 74), (16, 2)], [(0, 11), (7, 70), (16, 1)], [(0, 11), (7, 83), (16, 4)], [(0, 11), (7, 78), (16, 3)], [(0, 11), (7, 91), (16, 6)], [(0, 11), (7, 87), (16, 5)], [(0, 11), (7, 45), (7, 46)], [(0, 11), (7, 94), (7, 95)]] = true := by decide +kernel
theorem mcode_15 : ∀ r ∈ mtl_15, CodeIn r := List.forall_mem_cons.mpr ⟨inT_r 7 100 rfl, List.forall_mem_cons.mpr ⟨inT_r 7 108 rfl, List.forall_mem_cons.mpr ⟨inT_r 7 104 rfl, List.forall_mem_cons.mpr ⟨inT_r 7 116 rfl, List.forall_mem_cons.mpr ⟨inT_r 7 112 rfl, List.forall_mem_cons.mpr ⟨inT_r 7 120 rfl, List.forall_mem_cons.mpr ⟨inT_r 7 124 rfl, List.forall_mem_cons.mpr ⟨inT_r 7 132 rfl, List.forall_mem_cons.mpr ⟨inT_r 7 136 rfl, List.forall_mem_cons.mpr ⟨inT_r 7 128 rfl, List.forall_mem_cons.mpr ⟨inT_r 7 140 rfl, List.forall_mem_cons.mpr ⟨inT_r 7 144 rfl, List.forall_mem_cons.mpr ⟨inT_r 7 155 rfl, List.forall_mem_cons.mpr ⟨inT_r 2 200 rfl, List.forall_mem_cons.mpr ⟨inT_r 1 234 rfl, List.forall_mem_cons.mpr ⟨inT_r 1 238 rfl, List.forall_mem_cons.mpr ⟨inT_r 2 8 rfl, List.forall_mem_cons.mpr ⟨inT_r 2 4 rfl, List.forall_mem_cons.mpr ⟨inT_r 2 11 rfl, fun _ h => absurd h List.not_mem_nil⟩⟩⟩⟩⟩⟩⟩⟩⟩⟩⟩⟩⟩⟩⟩⟩⟩⟩⟩
set_option maxRecDepth 100000 in
theorem mok_15 : moks mtl_15 [[(0, 11), (7, 98), (7, 99)], [(0, 11), (7, 107), (16, 7)], [(0, 11), (7, 102), (7, 103)], [(0, 11), (7, 115), (16, 8)], [(0, 11), (7, 110), (7, 111)], [(0, 11), (7, 118), (7, 119)], [(0, 11), (7, 122), (7, 123)], [(0, 11), (7, 131), (16, 9)], [(0, 11), (7, 135), (16, 10)], [(0, 11), (7, 126), (7, 127)], [(0, 11), (7, 138), (7, 139)], [(0, 11), (7, 142), (7, 143)], [(0, 11), (7, 153), (7, 154)], [(0, 18), (2, 199)], [(0, 13), (1, 232), (1, 233)], [(0, 13), (1, 236), (1, 237)], [(0, 13), (2, 6), (2, 7)], [(0, 13), (2, 2), (2, 3)], [(0, 14), (2, 10)]] = true := by decide +kernel
def stIx : List Nat := [135, 137, 139, 141, 143, 145, 147, 149, 151, 153, 155, 157, 159]
def kcls (c : Nat) : String := match Nat.beq c 16 with
  | true => "java/lang/String"
  | false => (classes.getD c ("", fun _ => ("", "", "", false), 0)).1
def rcd (t : Option FieldType) : Nat := match t with
  | none => 0
  | some (.object C) => (match decide (C = "java/lang/String") with
    | true => 18
    | false => 2 + (classes.findIdx (fun q => decide (q.1 = C))))
  | some _ => 1
def ciName : MethodName := ⟨"java/lang/String", "checkIndex", "(II)V"⟩
def fOK (own : String) (e : Nat × Nat × Nat × Bool) (p : Nat × Nat) : Bool := match Nat.beq e.2.1 16 with
  | true => (match e.2.2.1 with
    | 0 => inT (.fieldLink own e.1 "java/lang/String" "value" "[B") p && !e.2.2.2
    | _ => inT (.fieldLink own e.1 "java/lang/String" "coder" "B") p && e.2.2.2)
  | false => (match classes[e.2.1]? with
    | some q => Nat.blt e.2.2.1 q.2.2 && inT (.fieldLink own e.1 q.1 (q.2.1 e.2.2.1).2.1 (q.2.1 e.2.2.1).2.2.1) p && decide ((q.2.1 e.2.2.1).1 = q.1) && (isIT (ftk e.2.1 e.2.2.1) == e.2.2.2) && decide (parseFieldDescriptor (q.2.1 e.2.2.1).2.2.1 = some (ftk e.2.1 e.2.2.1))
    | none => false)
def cOK (own : String) (e : Nat × Nat × Nat × Nat × Nat × Nat × Nat) (p : Nat × Nat) : Bool := match e.2.1 with
  | 4 => inT (.methodLink own e.1 objectInit) p
  | 5 => inT (.methodLink own e.1 arraycopyName) p
  | 6 => inT (.methodLink own e.1 ciName) p
  | 7 => inT (.methodLink own e.1 Lib.Math.max.name) p
  | 8 => inT (.methodLink own e.1 Lib.Math.min.name) p
  | 3 => (match mt e.2.2.1 with
    | some r => inT (.methodLinkNest own e.1 r.1 "StencilHouse") p && decide ((parseMethodDescriptor r.1.desc).map (fun d => d.parameters.length) = some e.2.2.2.1) && (r.2.2.1 == e.2.2.2.2.1) && (r.2.2.2.2.1 == 2)
    | none => false)
  | w => (match mt e.2.2.1 with
    | some r => inT (.methodLink own e.1 r.1) p && decide ((parseMethodDescriptor r.1.desc).map (fun d => d.parameters.length) = some e.2.2.2.1) && (r.2.2.1 == e.2.2.2.2.1) && (rcd r.2.2.2.1 == e.2.2.2.2.2.1) && (match w with
      | 1 => r.2.2.2.2.1 == 0
      | 2 => r.2.2.2.2.1 == 2
      | w => Nat.ble 10 w && (r.2.2.2.2.1 == 1) && decide (kcls (w - 10) = r.1.cls) && (Nat.blt (w - 10) 11 || w == 26))
    | none => false)
def stTx : List String := ["size", "slip", "sheet", "wear", "spray", "flip", "turn", "slide", "patch", "wash", "row", "top", "bare"]
def stK (own : String) (k : Nat) (v : AV) : Bool := match v with
  | .inr (.inr (.inl q)) => decide (own = "StencilHouse$Reader") && Nat.beq q.1 16 && Nat.blt q.2 13 && (stIx.getD q.2 0 == k)
  | _ => false
def kOK (own : String) (e : Nat × AV) (p : Nat × Nat) : Bool := match e.2 with
  | .inl x => inT (.constant own e.1 x) p
  | .inr (.inl x) => inT (.constantLong own e.1 x) p
  | v => stK own e.1 v
def nOK (own : String) (e : Nat × Nat) (ps : List (Nat × Nat)) : Bool := match classes[e.2]? with
  | some q => inTs [.classLink own e.1 q.1, .instantiable q.1 q.2.2, .initialized q.1] ps
  | none => false
def aOK (own : String) (e : Nat × FieldType) (p : Nat × Nat) : Bool := match e.2 with
  | .object C => inT (.classLink own e.1 C) p && decide (C ∈ ["StencilHouse$Shop", "StencilHouse$Day", "StencilHouse$Picture", "StencilHouse$Marks", "StencilHouse$Told"])
  | _ => false
def stN : List String := ["FIRST_WORD_OF_SORT", "NUMBERS_OF_WORD", "LEAST", "GREATEST"]
def sOK (own : String) (e : Nat × AV) (p : Nat × Nat) : Bool := match e.2 with
  | .inl x => inT (.fieldLink own e.1 "java/lang/String" "COMPACT_STRINGS" "Z") p && decide (x = 1)
  | .inr (.inr (.inl q)) => inT (.fieldLink own e.1 "StencilHouse$Reader" (stN.getD (q.1 - 12) "") "[I") p && Nat.ble 12 q.1 && Nat.ble q.1 15 && (q.2 == 0)
  | _ => false
def all2 {α β : Type} (f : α → β → Bool) : List α → List β → Bool
  | [], _ => true
  | a :: as, b :: bs => f a b && all2 f as bs
  | _, _ => false
theorem all2_mem {α β : Type} {f : α → β → Bool} : ∀ {as : List α} {bs : List β}, all2 f as bs = true → ∀ a ∈ as, ∃ b, f a b = true := by
  intro as
  induction as with
  | nil => intro bs _ a ha; cases ha
  | cons x as ih =>
    intro bs h a ha
    cases bs with
    | nil => simp [all2] at h
    | cons b bs =>
      simp only [all2, Bool.and_eq_true] at h
      rcases List.mem_cons.mp ha with rfl | h1
      · exact ⟨b, h.1⟩
      · exact ih h.2 a h1
def LOK (own : String) (R : LK) : Prop := (∀ e ∈ R.1, ∃ p, fOK own e p = true) ∧ (∀ e ∈ R.2.1, ∃ p, cOK own e p = true) ∧ (∀ e ∈ R.2.2.1, ∃ p, kOK own e p = true) ∧ (∀ e ∈ R.2.2.2.1, ∃ p, nOK own e p = true) ∧ (∀ e ∈ R.2.2.2.2.1, ∃ p, aOK own e p = true) ∧ (∀ e ∈ R.2.2.2.2.2, ∃ p, sOK own e p = true)
theorem LOK_of {own : String} {R : LK} (a b c : List (Nat × Nat)) (d : List (List (Nat × Nat))) (e f : List (Nat × Nat)) (h1 : all2 (fOK own) R.1 a = true) (h2 : all2 (cOK own) R.2.1 b = true) (h3 : all2 (kOK own) R.2.2.1 c = true) (h4 : all2 (nOK own) R.2.2.2.1 d = true) (h5 : all2 (aOK own) R.2.2.2.2.1 e = true) (h6 : all2 (sOK own) R.2.2.2.2.2 f = true) : LOK own R :=
  ⟨all2_mem h1, all2_mem h2, all2_mem h3, all2_mem h4, all2_mem h5, all2_mem h6⟩
set_option maxRecDepth 100000 in
theorem lok_0 : LOK "StencilHouse$Day" lk_0 := LOK_of [(0, 118), (0, 122)] [(0, 117), (2, 133)] [] [] [] [] (by decide +kernel) (by decide +kernel) (by decide +kernel) (by decide +kernel) (by decide +kernel) (by decide +kernel)
set_option maxRecDepth 100000 in
theorem lok_1 : LOK "StencilHouse$Figures" lk_1 := LOK_of [(0, 66), (0, 79), (0, 63), (0, 58), (0, 52), (0, 74), (0, 85)] [(3, 30), (3, 33), (3, 105), (3, 109), (3, 113), (3, 121), (3, 134), (3, 131), (3, 137), (3, 149), (3, 152), (4, 9), (4, 16), (4, 19), (4, 33), (4, 37), (4, 41), (4, 61), (4, 58), (4, 69), (4, 70), (4, 74), (4, 128)] [] [] [] [] (by decide +kernel) (by decide +kernel) (by decide +kernel) (by decide +kernel) (by decide +kernel) (by decide +kernel)
set_option maxRecDepth 100000 in
theorem lok_2 : LOK "StencilHouse$Marks" lk_2 := LOK_of [(0, 143), (0, 147), (0, 150), (0, 153)] [(0, 142), (2, 143)] [] [] [] [] (by decide +kernel) (by decide +kernel) (by decide +kernel) (by decide +kernel) (by decide +kernel) (by decide +kernel)
set_option maxRecDepth 100000 in
theorem lok_3 : LOK "StencilHouse$Orders" lk_3 := LOK_of [(1, 95), (1, 96), (1, 97), (1, 98), (1, 99), (1, 100), (1, 101), (0, 67), (0, 80), (0, 83), (0, 145), (0, 148), (0, 151), (0, 53), (0, 154), (0, 59)] [(1, 94), (3, 68), (3, 69), (3, 73), (3, 47), (3, 56), (3, 60), (3, 64), (3, 77), (3, 85), (3, 89), (3, 90), (3, 81), (4, 94), (3, 187), (3, 191), (3, 204), (3, 208), (3, 212), (3, 216), (3, 195), (3, 196), (3, 200), (3, 220)] [] [] [] [] (by decide +kernel) (by decide +kernel) (by decide +kernel) (by decide +kernel) (by decide +kernel) (by decide +kernel)
set_option maxRecDepth 100000 in
theorem lok_4 : LOK "StencilHouse$Picture" lk_4 := LOK_of [(0, 133), (0, 55), (0, 48)] [(0, 132), (2, 138), (3, 51), (3, 55), (4, 106)] [] [] [] [] (by decide +kernel) (by decide +kernel) (by decide +kernel) (by decide +kernel) (by decide +kernel) (by decide +kernel)
set_option maxRecDepth 100000 in
theorem lok_5 : LOK "StencilHouse$Reader" lk_5 := LOK_of [(1, 1), (1, 3), (1, 5), (1, 7), (1, 9), (1, 11), (1, 13), (1, 14), (1, 15), (1, 16), (1, 17), (0, 223), (0, 225), (0, 120), (0, 144), (0, 69), (0, 227), (0, 50), (0, 57), (0, 62), (0, 77), (0, 134), (0, 73)] [(0, 204), (0, 206), (0, 208), (0, 210), (0, 212), (0, 215), (1, 161), (1, 173), (1, 201), (2, 82), (2, 86), (2, 94), (1, 165), (1, 169), (1, 205), (2, 39), (2, 43), (2, 47), (2, 50), (2, 58), (1, 211), (1, 227), (2, 62), (2, 66), (2, 70), (2, 74), (2, 78), (2, 90)] [(1, 214), (1, 215), (1, 216), (1, 217), (1, 218), (1, 219), (1, 220), (1, 221), (1, 222), (1, 223), (1, 224), (1, 225), (1, 226)] [[(0, 205), (0, 42), (0, 3)], [(0, 207), (0, 113), (0, 4)], [(0, 209), (0, 128), (0, 5)], [(0, 211), (0, 138), (0, 6)], [(0, 213), (0, 214), (0, 8)]] [(0, 205), (0, 207), (0, 209), (0, 211)] [(2, 48), (1, 209), (2, 54), (2, 56)] (by decide +kernel) (by decide +kernel) (by decide +kernel) (by decide +kernel) (by decide +kernel) (by decide +kernel)
set_option maxRecDepth 100000 in
theorem lok_6 : LOK "StencilHouse$Shop" lk_6 := LOK_of [(0, 47), (0, 54), (0, 60), (0, 64), (0, 70), (0, 75), (0, 78), (0, 82), (0, 86), (0, 87), (0, 88)] [(0, 46), (2, 126), (2, 98), (2, 114), (2, 106), (2, 110), (2, 102), (2, 161)] [] [] [] [] (by decide +kernel) (by decide +kernel) (by decide +kernel) (by decide +kernel) (by decide +kernel) (by decide +kernel)
set_option maxRecDepth 100000 in
theorem lok_7 : LOK "StencilHouse$Tokens" lk_7 := LOK_of [(0, 219), (0, 220), (0, 221), (0, 222), (0, 224), (0, 226)] [(0, 218), (1, 177), (1, 180), (1, 184), (1, 187), (1, 190), (1, 194), (1, 197), (1, 231), (2, 1)] [] [] [] [] (by decide +kernel) (by decide +kernel) (by decide +kernel) (by decide +kernel) (by decide +kernel) (by decide +kernel)
set_option maxRecDepth 100000 in
theorem lok_8 : LOK "StencilHouse$Told" lk_8 := LOK_of [(0, 165), (0, 167), (0, 169), (0, 171), (0, 173), (0, 175), (0, 176), (0, 177), (0, 178), (1, 2), (1, 4), (1, 6), (1, 8)] [(0, 33), (0, 43), (0, 114), (0, 129), (0, 139), (4, 154), (2, 122), (2, 129), (2, 134), (2, 139), (1, 153)] [] [[(0, 34), (0, 42), (0, 3)], [(0, 36), (0, 113), (0, 4)], [(0, 38), (0, 128), (0, 5)], [(0, 40), (0, 138), (0, 6)]] [(0, 34), (0, 36), (0, 38), (0, 40)] [] (by decide +kernel) (by decide +kernel) (by decide +kernel) (by decide +kernel) (by decide +kernel) (by decide +kernel)
set_option maxRecDepth 100000 in
theorem lok_9 : LOK "StencilHouse$Wall" lk_9 := LOK_of [(1, 49), (1, 50), (1, 51), (1, 52), (1, 53), (1, 54), (1, 55), (1, 56), (1, 57), (1, 58), (1, 60), (1, 62), (0, 71), (0, 119), (0, 65), (0, 76), (0, 51)] [(1, 46), (1, 48), (2, 189), (2, 190), (3, 229), (3, 233), (3, 238), (2, 194), (2, 204), (2, 205), (2, 222), (2, 226), (2, 230), (2, 234), (2, 198), (2, 209), (2, 218), (2, 238), (2, 213), (2, 214), (3, 10), (3, 14), (3, 18)] [(3, 237)] [[(1, 47), (0, 42), (0, 3)]] [(1, 47)] [] (by decide +kernel) (by decide +kernel) (by decide +kernel) (by decide +kernel) (by decide +kernel) (by decide +kernel)
set_option maxRecDepth 100000 in
theorem lok_10 : LOK "StencilHouse" lk_10 := LOK_of [(1, 117), (1, 118), (1, 119), (1, 120), (1, 121), (0, 168), (0, 170), (0, 172), (0, 166), (1, 10), (1, 12), (0, 49), (0, 56), (0, 61), (0, 68), (0, 121), (0, 72), (0, 81), (0, 146), (0, 155), (0, 149), (0, 152), (0, 84), (1, 59), (1, 61), (1, 63), (0, 174)] [(0, 25), (0, 30), (0, 201), (1, 43), (1, 91), (1, 137), (1, 149), (1, 157), (2, 118), (2, 153), (2, 157), (2, 169), (2, 173), (2, 181), (2, 185), (3, 6), (3, 26), (3, 27), (3, 34), (3, 39), (3, 43), (3, 94), (3, 102), (3, 118), (3, 128), (3, 140), (3, 145), (3, 146), (3, 153), (3, 156), (3, 163), (3, 170), (3, 175), (3, 183), (3, 225), (4, 6), (4, 10), (4, 13), (4, 20), (4, 23), (4, 30), (4, 34), (4, 38), (4, 44), (4, 47), (4, 48), (4, 49), (4, 52), (4, 55), (4, 62), (4, 63), (4, 66), (4, 71), (4, 85), (4, 90), (4, 102), (4, 110), (4, 118), (4, 119), (4, 120), (4, 125), (4, 133), (4, 137), (4, 138), (4, 150)] [] [[(0, 28), (0, 29), (0, 2)], [(0, 199), (0, 200), (0, 7)], [(1, 41), (1, 42), (0, 9)], [(1, 89), (1, 90), (0, 10)]] [(0, 28)] [] (by decide +kernel) (by decide +kernel) (by decide +kernel) (by decide +kernel) (by decide +kernel) (by decide +kernel)
set_option maxRecDepth 100000 in
theorem lok_11 : LOK "StencilHouseModel" lk_11 := LOK_of [(4, 167), (4, 168), (4, 169), (4, 170), (4, 171), (4, 172), (4, 173), (4, 174), (4, 175), (4, 185), (4, 186), (4, 195), (4, 196), (4, 197), (4, 198), (4, 199), (4, 200), (4, 205), (4, 206), (4, 207), (4, 208), (4, 214), (4, 216), (4, 166), (4, 176), (4, 177), (4, 178), (4, 181), (4, 179), (4, 180), (4, 182), (4, 183), (4, 184), (4, 188), (4, 187), (4, 189), (4, 190), (4, 191), (4, 192), (4, 193), (4, 194), (4, 201), (4, 202), (4, 203), (4, 204), (4, 209), (4, 210), (4, 211), (4, 212), (4, 213), (4, 215)] [(4, 164), (5, 227), (7, 149), (5, 93), (5, 85), (5, 112), (5, 151), (5, 137), (5, 108), (5, 141), (5, 133), (5, 144), (5, 129), (5, 155), (5, 159), (5, 166), (5, 176), (5, 124), (5, 162), (5, 180), (5, 185), (5, 120), (5, 116), (5, 191), (5, 199), (5, 100), (5, 104), (5, 195), (5, 215), (5, 219), (5, 223), (5, 230), (5, 238), (6, 2), (5, 234), (5, 211), (6, 6), (6, 14), (6, 18), (6, 22), (6, 58), (6, 54), (6, 62), (6, 70), (6, 46), (6, 50), (6, 66), (6, 74), (6, 78), (6, 42), (6, 38), (6, 30), (6, 34), (6, 90), (6, 94), (6, 86), (6, 102), (6, 121), (6, 133), (6, 117), (6, 125), (6, 129), (6, 137), (6, 109), (6, 113), (6, 145), (6, 153), (6, 161), (6, 164), (6, 168), (6, 176), (6, 180), (6, 195), (6, 199), (6, 203), (6, 235), (6, 223), (6, 215), (6, 219), (6, 227), (6, 231), (7, 7), (6, 211), (6, 239), (7, 3), (7, 19), (7, 15), (7, 32), (7, 28), (7, 36), (7, 40), (7, 72), (7, 81), (7, 89), (7, 48), (7, 52), (7, 56), (7, 60), (7, 64), (7, 68), (7, 76), (7, 85), (7, 105), (7, 113), (7, 129), (7, 133), (7, 145)] [(4, 165), (5, 128), (5, 148), (5, 149), (5, 150), (5, 170), (5, 171), (5, 172), (5, 173), (5, 174), (5, 175), (5, 184), (5, 189), (5, 190), (7, 23), (7, 80)] [] [] [] (by decide +kernel) (by decide +kernel) (by decide +kernel) (by decide +kernel) (by decide +kernel) (by decide +kernel)
set_option maxRecDepth 100000 in
theorem lok_12 : LOK "java/lang/Integer" lk_12 := LOK_of [] [] [(2, 201), (2, 202), (2, 203)] [] [] [] (by decide +kernel) (by decide +kernel) (by decide +kernel) (by decide +kernel) (by decide +kernel) (by decide +kernel)
set_option maxRecDepth 100000 in
theorem lok_13 : LOK "java/lang/String" lk_13 := LOK_of [(7, 156), (7, 157)] [(1, 235), (2, 5), (2, 9)] [] [] [] [(1, 239)] (by decide +kernel) (by decide +kernel) (by decide +kernel) (by decide +kernel) (by decide +kernel) (by decide +kernel)
set_option maxRecDepth 100000 in
theorem lok_14 : LOK "java/lang/StringLatin1" lk_14 := LOK_of [] [(2, 12)] [] [] [] [] (by decide +kernel) (by decide +kernel) (by decide +kernel) (by decide +kernel) (by decide +kernel) (by decide +kernel)
set_option maxRecDepth 100000 in
theorem lok_15 : LOK "StencilHouseLaw" lk_15 := LOK_of [] [(0, 22), (4, 161), (1, 133), (5, 81), (1, 141), (5, 89), (1, 145), (5, 96), (2, 145), (5, 203), (2, 149), (5, 207), (2, 165), (6, 10), (2, 177), (6, 26), (3, 2), (6, 82), (3, 22), (6, 98), (3, 35), (6, 105), (3, 98), (6, 141), (3, 114), (6, 149), (3, 124), (6, 157), (3, 141), (6, 172), (3, 159), (6, 183), (3, 166), (6, 187), (3, 171), (6, 191), (3, 179), (6, 207), (3, 221), (7, 11), (4, 2), (7, 24), (4, 26), (7, 44), (4, 77), (7, 93), (4, 81), (7, 97), (4, 86), (7, 101), (4, 98), (7, 109), (4, 114), (7, 117), (4, 121), (7, 121), (4, 129), (7, 125), (4, 142), (7, 137), (4, 146), (7, 141), (4, 155), (7, 152)] [] [[(0, 20), (0, 21), (0, 1)], [(4, 159), (4, 160), (0, 11)]] [] [] (by decide +kernel) (by decide +kernel) (by decide +kernel) (by decide +kernel) (by decide +kernel) (by decide +kernel)
theorem mlok_0 : ∀ r ∈ mtl_0, LOK r.1.cls r.2.2.2.2.2 := List.forall_mem_cons.mpr ⟨lok_0, List.forall_mem_cons.mpr ⟨lok_0, List.forall_mem_cons.mpr ⟨lok_0, List.forall_mem_cons.mpr ⟨lok_0, List.forall_mem_cons.mpr ⟨lok_1, List.forall_mem_cons.mpr ⟨lok_1, List.forall_mem_cons.mpr ⟨lok_1, List.forall_mem_cons.mpr ⟨lok_1, List.forall_mem_cons.mpr ⟨lok_1, List.forall_mem_cons.mpr ⟨lok_1, List.forall_mem_cons.mpr ⟨lok_1, List.forall_mem_cons.mpr ⟨lok_1, List.forall_mem_cons.mpr ⟨lok_1, List.forall_mem_cons.mpr ⟨lok_1, List.forall_mem_cons.mpr ⟨lok_1, List.forall_mem_cons.mpr ⟨lok_1, List.forall_mem_cons.mpr ⟨lok_1, List.forall_mem_cons.mpr ⟨lok_1, List.forall_mem_cons.mpr ⟨lok_1, List.forall_mem_cons.mpr ⟨lok_1, fun _ h => absurd h List.not_mem_nil⟩⟩⟩⟩⟩⟩⟩⟩⟩⟩⟩⟩⟩⟩⟩⟩⟩⟩⟩⟩
theorem mlok_1 : ∀ r ∈ mtl_1, LOK r.1.cls r.2.2.2.2.2 := List.forall_mem_cons.mpr ⟨lok_1, List.forall_mem_cons.mpr ⟨lok_1, List.forall_mem_cons.mpr ⟨lok_1, List.forall_mem_cons.mpr ⟨lok_1, List.forall_mem_cons.mpr ⟨lok_1, List.forall_mem_cons.mpr ⟨lok_1, List.forall_mem_cons.mpr ⟨lok_1, List.forall_mem_cons.mpr ⟨lok_1, List.forall_mem_cons.mpr ⟨lok_1, List.forall_mem_cons.mpr ⟨lok_1, List.forall_mem_cons.mpr ⟨lok_1, List.forall_mem_cons.mpr ⟨lok_1, List.forall_mem_cons.mpr ⟨lok_1, List.forall_mem_cons.mpr ⟨lok_1, List.forall_mem_cons.mpr ⟨lok_1, List.forall_mem_cons.mpr ⟨lok_1, List.forall_mem_cons.mpr ⟨lok_1, List.forall_mem_cons.mpr ⟨lok_2, List.forall_mem_cons.mpr ⟨lok_2, List.forall_mem_cons.mpr ⟨lok_2, fun _ h => absurd h List.not_mem_nil⟩⟩⟩⟩⟩⟩⟩⟩⟩⟩⟩⟩⟩⟩⟩⟩⟩⟩⟩⟩
theorem mlok_2 : ∀ r ∈ mtl_2, LOK r.1.cls r.2.2.2.2.2 := List.forall_mem_cons.mpr ⟨lok_3, List.forall_mem_cons.mpr ⟨lok_3, List.forall_mem_cons.mpr ⟨lok_3, List.forall_mem_cons.mpr ⟨lok_3, List.forall_mem_cons.mpr ⟨lok_3, List.forall_mem_cons.mpr ⟨lok_3, List.forall_mem_cons.mpr ⟨lok_3, List.forall_mem_cons.mpr ⟨lok_3, List.forall_mem_cons.mpr ⟨lok_3, List.forall_mem_cons.mpr ⟨lok_3, List.forall_mem_cons.mpr ⟨lok_3, List.forall_mem_cons.mpr ⟨lok_3, List.forall_mem_cons.mpr ⟨lok_3, List.forall_mem_cons.mpr ⟨lok_3, List.forall_mem_cons.mpr ⟨lok_3, List.forall_mem_cons.mpr ⟨lok_3, List.forall_mem_cons.mpr ⟨lok_3, List.forall_mem_cons.mpr ⟨lok_3, List.forall_mem_cons.mpr ⟨lok_3, List.forall_mem_cons.mpr ⟨lok_3, fun _ h => absurd h List.not_mem_nil⟩⟩⟩⟩⟩⟩⟩⟩⟩⟩⟩⟩⟩⟩⟩⟩⟩⟩⟩⟩
theorem mlok_3 : ∀ r ∈ mtl_3, LOK r.1.cls r.2.2.2.2.2 := List.forall_mem_cons.mpr ⟨lok_3, List.forall_mem_cons.mpr ⟨lok_4, List.forall_mem_cons.mpr ⟨lok_4, List.forall_mem_cons.mpr ⟨lok_4, List.forall_mem_cons.mpr ⟨lok_4, List.forall_mem_cons.mpr ⟨lok_4, List.forall_mem_cons.mpr ⟨lok_4, List.forall_mem_cons.mpr ⟨lok_4, List.forall_mem_cons.mpr ⟨lok_4, List.forall_mem_cons.mpr ⟨lok_4, List.forall_mem_cons.mpr ⟨lok_5, List.forall_mem_cons.mpr ⟨lok_5, List.forall_mem_cons.mpr ⟨lok_5, List.forall_mem_cons.mpr ⟨lok_5, List.forall_mem_cons.mpr ⟨lok_5, List.forall_mem_cons.mpr ⟨lok_5, List.forall_mem_cons.mpr ⟨lok_5, List.forall_mem_cons.mpr ⟨lok_5, List.forall_mem_cons.mpr ⟨lok_5, List.forall_mem_cons.mpr ⟨lok_5, fun _ h => absurd h List.not_mem_nil⟩⟩⟩⟩⟩⟩⟩⟩⟩⟩⟩⟩⟩⟩⟩⟩⟩⟩⟩⟩
theorem mlok_4 : ∀ r ∈ mtl_4, LOK r.1.cls r.2.2.2.2.2 := List.forall_mem_cons.mpr ⟨lok_5, List.forall_mem_cons.mpr ⟨lok_5, List.forall_mem_cons.mpr ⟨lok_5, List.forall_mem_cons.mpr ⟨lok_5, List.forall_mem_cons.mpr ⟨lok_5, List.forall_mem_cons.mpr ⟨lok_6, List.forall_mem_cons.mpr ⟨lok_6, List.forall_mem_cons.mpr ⟨lok_6, List.forall_mem_cons.mpr ⟨lok_6, List.forall_mem_cons.mpr ⟨lok_6, List.forall_mem_cons.mpr ⟨lok_6, List.forall_mem_cons.mpr ⟨lok_6, List.forall_mem_cons.mpr ⟨lok_6, List.forall_mem_cons.mpr ⟨lok_6, List.forall_mem_cons.mpr ⟨lok_6, List.forall_mem_cons.mpr ⟨lok_6, List.forall_mem_cons.mpr ⟨lok_6, List.forall_mem_cons.mpr ⟨lok_6, List.forall_mem_cons.mpr ⟨lok_6, List.forall_mem_cons.mpr ⟨lok_6, fun _ h => absurd h List.not_mem_nil⟩⟩⟩⟩⟩⟩⟩⟩⟩⟩⟩⟩⟩⟩⟩⟩⟩⟩⟩⟩
theorem mlok_5 : ∀ r ∈ mtl_5, LOK r.1.cls r.2.2.2.2.2 := List.forall_mem_cons.mpr ⟨lok_6, List.forall_mem_cons.mpr ⟨lok_6, List.forall_mem_cons.mpr ⟨lok_6, List.forall_mem_cons.mpr ⟨lok_6, List.forall_mem_cons.mpr ⟨lok_6, List.forall_mem_cons.mpr ⟨lok_7, List.forall_mem_cons.mpr ⟨lok_7, List.forall_mem_cons.mpr ⟨lok_7, List.forall_mem_cons.mpr ⟨lok_7, List.forall_mem_cons.mpr ⟨lok_7, List.forall_mem_cons.mpr ⟨lok_7, List.forall_mem_cons.mpr ⟨lok_7, List.forall_mem_cons.mpr ⟨lok_7, List.forall_mem_cons.mpr ⟨lok_7, List.forall_mem_cons.mpr ⟨lok_8, List.forall_mem_cons.mpr ⟨lok_8, List.forall_mem_cons.mpr ⟨lok_8, List.forall_mem_cons.mpr ⟨lok_8, List.forall_mem_cons.mpr ⟨lok_8, List.forall_mem_cons.mpr ⟨lok_8, fun _ h => absurd h List.not_mem_nil⟩⟩⟩⟩⟩⟩⟩⟩⟩⟩⟩⟩⟩⟩⟩⟩⟩⟩⟩⟩
theorem mlok_6 : ∀ r ∈ mtl_6, LOK r.1.cls r.2.2.2.2.2 := List.forall_mem_cons.mpr ⟨lok_8, List.forall_mem_cons.mpr ⟨lok_8, List.forall_mem_cons.mpr ⟨lok_8, List.forall_mem_cons.mpr ⟨lok_8, List.forall_mem_cons.mpr ⟨lok_9, List.forall_mem_cons.mpr ⟨lok_9, List.forall_mem_cons.mpr ⟨lok_9, List.forall_mem_cons.mpr ⟨lok_9, List.forall_mem_cons.mpr ⟨lok_9, List.forall_mem_cons.mpr ⟨lok_9, List.forall_mem_cons.mpr ⟨lok_9, List.forall_mem_cons.mpr ⟨lok_9, List.forall_mem_cons.mpr ⟨lok_9, List.forall_mem_cons.mpr ⟨lok_9, List.forall_mem_cons.mpr ⟨lok_9, List.forall_mem_cons.mpr ⟨lok_9, List.forall_mem_cons.mpr ⟨lok_9, List.forall_mem_cons.mpr ⟨lok_9, List.forall_mem_cons.mpr ⟨lok_9, List.forall_mem_cons.mpr ⟨lok_9, fun _ h => absurd h List.not_mem_nil⟩⟩⟩⟩⟩⟩⟩⟩⟩⟩⟩⟩⟩⟩⟩⟩⟩⟩⟩⟩
theorem mlok_7 : ∀ r ∈ mtl_7, LOK r.1.cls r.2.2.2.2.2 := List.forall_mem_cons.mpr ⟨lok_9, List.forall_mem_cons.mpr ⟨lok_9, List.forall_mem_cons.mpr ⟨lok_9, List.forall_mem_cons.mpr ⟨lok_10, List.forall_mem_cons.mpr ⟨lok_10, List.forall_mem_cons.mpr ⟨lok_10, List.forall_mem_cons.mpr ⟨lok_10, List.forall_mem_cons.mpr ⟨lok_10, List.forall_mem_cons.mpr ⟨lok_10, List.forall_mem_cons.mpr ⟨lok_10, List.forall_mem_cons.mpr ⟨lok_10, List.forall_mem_cons.mpr ⟨lok_10, List.forall_mem_cons.mpr ⟨lok_10, List.forall_mem_cons.mpr ⟨lok_10, List.forall_mem_cons.mpr ⟨lok_10, List.forall_mem_cons.mpr ⟨lok_10, List.forall_mem_cons.mpr ⟨lok_10, List.forall_mem_cons.mpr ⟨lok_10, List.forall_mem_cons.mpr ⟨lok_10, List.forall_mem_cons.mpr ⟨lok_10, fun _ h => absurd h List.not_mem_nil⟩⟩⟩⟩⟩⟩⟩⟩⟩⟩⟩⟩⟩⟩⟩⟩⟩⟩⟩⟩
theorem mlok_8 : ∀ r ∈ mtl_8, LOK r.1.cls r.2.2.2.2.2 := List.forall_mem_cons.mpr ⟨lok_10, List.forall_mem_cons.mpr ⟨lok_10, List.forall_mem_cons.mpr ⟨lok_10, List.forall_mem_cons.mpr ⟨lok_10, List.forall_mem_cons.mpr ⟨lok_10, List.forall_mem_cons.mpr ⟨lok_10, List.forall_mem_cons.mpr ⟨lok_10, List.forall_mem_cons.mpr ⟨lok_10, List.forall_mem_cons.mpr ⟨lok_10, List.forall_mem_cons.mpr ⟨lok_10, List.forall_mem_cons.mpr ⟨lok_10, List.forall_mem_cons.mpr ⟨lok_10, List.forall_mem_cons.mpr ⟨lok_10, List.forall_mem_cons.mpr ⟨lok_10, List.forall_mem_cons.mpr ⟨lok_10, List.forall_mem_cons.mpr ⟨lok_11, List.forall_mem_cons.mpr ⟨lok_11, List.forall_mem_cons.mpr ⟨lok_11, List.forall_mem_cons.mpr ⟨lok_11, List.forall_mem_cons.mpr ⟨lok_11, fun _ h => absurd h List.not_mem_nil⟩⟩⟩⟩⟩⟩⟩⟩⟩⟩⟩⟩⟩⟩⟩⟩⟩⟩⟩⟩
theorem mlok_9 : ∀ r ∈ mtl_9, LOK r.1.cls r.2.2.2.2.2 := List.forall_mem_cons.mpr ⟨lok_11, List.forall_mem_cons.mpr ⟨lok_11, List.forall_mem_cons.mpr ⟨lok_11, List.forall_mem_cons.mpr ⟨lok_11, List.forall_mem_cons.mpr ⟨lok_11, List.forall_mem_cons.mpr ⟨lok_11, List.forall_mem_cons.mpr ⟨lok_11, List.forall_mem_cons.mpr ⟨lok_11, List.forall_mem_cons.mpr ⟨lok_11, List.forall_mem_cons.mpr ⟨lok_11, List.forall_mem_cons.mpr ⟨lok_11, List.forall_mem_cons.mpr ⟨lok_11, List.forall_mem_cons.mpr ⟨lok_11, List.forall_mem_cons.mpr ⟨lok_11, List.forall_mem_cons.mpr ⟨lok_11, List.forall_mem_cons.mpr ⟨lok_11, List.forall_mem_cons.mpr ⟨lok_11, List.forall_mem_cons.mpr ⟨lok_11, List.forall_mem_cons.mpr ⟨lok_11, List.forall_mem_cons.mpr ⟨lok_11, fun _ h => absurd h List.not_mem_nil⟩⟩⟩⟩⟩⟩⟩⟩⟩⟩⟩⟩⟩⟩⟩⟩⟩⟩⟩⟩
theorem mlok_10 : ∀ r ∈ mtl_10, LOK r.1.cls r.2.2.2.2.2 := List.forall_mem_cons.mpr ⟨lok_11, List.forall_mem_cons.mpr ⟨lok_11, List.forall_mem_cons.mpr ⟨lok_11, List.forall_mem_cons.mpr ⟨lok_11, List.forall_mem_cons.mpr ⟨lok_11, List.forall_mem_cons.mpr ⟨lok_11, List.forall_mem_cons.mpr ⟨lok_11, List.forall_mem_cons.mpr ⟨lok_11, List.forall_mem_cons.mpr ⟨lok_11, List.forall_mem_cons.mpr ⟨lok_11, List.forall_mem_cons.mpr ⟨lok_11, List.forall_mem_cons.mpr ⟨lok_11, List.forall_mem_cons.mpr ⟨lok_11, List.forall_mem_cons.mpr ⟨lok_11, List.forall_mem_cons.mpr ⟨lok_11, List.forall_mem_cons.mpr ⟨lok_11, List.forall_mem_cons.mpr ⟨lok_11, List.forall_mem_cons.mpr ⟨lok_11, List.forall_mem_cons.mpr ⟨lok_11, List.forall_mem_cons.mpr ⟨lok_11, fun _ h => absurd h List.not_mem_nil⟩⟩⟩⟩⟩⟩⟩⟩⟩⟩⟩⟩⟩⟩⟩⟩⟩⟩⟩⟩
theorem mlok_11 : ∀ r ∈ mtl_11, LOK r.1.cls r.2.2.2.2.2 := List.forall_mem_cons.mpr ⟨lok_11, List.forall_mem_cons.mpr ⟨lok_11, List.forall_mem_cons.mpr ⟨lok_11, List.forall_mem_cons.mpr ⟨lok_11, List.forall_mem_cons.mpr ⟨lok_11, List.forall_mem_cons.mpr ⟨lok_11, List.forall_mem_cons.mpr ⟨lok_11, List.forall_mem_cons.mpr ⟨lok_11, List.forall_mem_cons.mpr ⟨lok_11, List.forall_mem_cons.mpr ⟨lok_11, List.forall_mem_cons.mpr ⟨lok_11, List.forall_mem_cons.mpr ⟨lok_11, List.forall_mem_cons.mpr ⟨lok_11, List.forall_mem_cons.mpr ⟨lok_11, List.forall_mem_cons.mpr ⟨lok_11, List.forall_mem_cons.mpr ⟨lok_11, List.forall_mem_cons.mpr ⟨lok_11, List.forall_mem_cons.mpr ⟨lok_11, List.forall_mem_cons.mpr ⟨lok_11, List.forall_mem_cons.mpr ⟨lok_11, fun _ h => absurd h List.not_mem_nil⟩⟩⟩⟩⟩⟩⟩⟩⟩⟩⟩⟩⟩⟩⟩⟩⟩⟩⟩⟩
theorem mlok_12 : ∀ r ∈ mtl_12, LOK r.1.cls r.2.2.2.2.2 := List.forall_mem_cons.mpr ⟨lok_11, List.forall_mem_cons.mpr ⟨lok_11, List.forall_mem_cons.mpr ⟨lok_11, List.forall_mem_cons.mpr ⟨lok_11, List.forall_mem_cons.mpr ⟨lok_11, List.forall_mem_cons.mpr ⟨lok_11, List.forall_mem_cons.mpr ⟨lok_11, List.forall_mem_cons.mpr ⟨lok_11, List.forall_mem_cons.mpr ⟨lok_11, List.forall_mem_cons.mpr ⟨lok_11, List.forall_mem_cons.mpr ⟨lok_11, List.forall_mem_cons.mpr ⟨lok_11, List.forall_mem_cons.mpr ⟨lok_11, List.forall_mem_cons.mpr ⟨lok_11, List.forall_mem_cons.mpr ⟨lok_11, List.forall_mem_cons.mpr ⟨lok_11, List.forall_mem_cons.mpr ⟨lok_11, List.forall_mem_cons.mpr ⟨lok_11, List.forall_mem_cons.mpr ⟨lok_11, List.forall_mem_cons.mpr ⟨lok_11, fun _ h => absurd h List.not_mem_nil⟩⟩⟩⟩⟩⟩⟩⟩⟩⟩⟩⟩⟩⟩⟩⟩⟩⟩⟩⟩
theorem mlok_13 : ∀ r ∈ mtl_13, LOK r.1.cls r.2.2.2.2.2 := List.forall_mem_cons.mpr ⟨lok_11, List.forall_mem_cons.mpr ⟨lok_11, List.forall_mem_cons.mpr ⟨lok_11, List.forall_mem_cons.mpr ⟨lok_11, List.forall_mem_cons.mpr ⟨lok_11, List.forall_mem_cons.mpr ⟨lok_11, List.forall_mem_cons.mpr ⟨lok_11, List.forall_mem_cons.mpr ⟨lok_11, List.forall_mem_cons.mpr ⟨lok_11, List.forall_mem_cons.mpr ⟨lok_11, List.forall_mem_cons.mpr ⟨lok_11, List.forall_mem_cons.mpr ⟨lok_11, List.forall_mem_cons.mpr ⟨lok_11, List.forall_mem_cons.mpr ⟨lok_11, List.forall_mem_cons.mpr ⟨lok_11, List.forall_mem_cons.mpr ⟨lok_11, List.forall_mem_cons.mpr ⟨lok_11, List.forall_mem_cons.mpr ⟨lok_11, List.forall_mem_cons.mpr ⟨lok_11, List.forall_mem_cons.mpr ⟨lok_11, fun _ h => absurd h List.not_mem_nil⟩⟩⟩⟩⟩⟩⟩⟩⟩⟩⟩⟩⟩⟩⟩⟩⟩⟩⟩⟩
theorem mlok_14 : ∀ r ∈ mtl_14, LOK r.1.cls r.2.2.2.2.2 := List.forall_mem_cons.mpr ⟨lok_11, List.forall_mem_cons.mpr ⟨lok_11, List.forall_mem_cons.mpr ⟨lok_11, List.forall_mem_cons.mpr ⟨lok_11, List.forall_mem_cons.mpr ⟨lok_11, List.forall_mem_cons.mpr ⟨lok_11, List.forall_mem_cons.mpr ⟨lok_11, List.forall_mem_cons.mpr ⟨lok_11, List.forall_mem_cons.mpr ⟨lok_11, List.forall_mem_cons.mpr ⟨lok_11, List.forall_mem_cons.mpr ⟨lok_11, List.forall_mem_cons.mpr ⟨lok_11, List.forall_mem_cons.mpr ⟨lok_11, List.forall_mem_cons.mpr ⟨lok_11, List.forall_mem_cons.mpr ⟨lok_11, List.forall_mem_cons.mpr ⟨lok_11, List.forall_mem_cons.mpr ⟨lok_11, List.forall_mem_cons.mpr ⟨lok_11, List.forall_mem_cons.mpr ⟨lok_11, List.forall_mem_cons.mpr ⟨lok_11, fun _ h => absurd h List.not_mem_nil⟩⟩⟩⟩⟩⟩⟩⟩⟩⟩⟩⟩⟩⟩⟩⟩⟩⟩⟩⟩
theorem mlok_15 : ∀ r ∈ mtl_15, LOK r.1.cls r.2.2.2.2.2 := List.forall_mem_cons.mpr ⟨lok_11, List.forall_mem_cons.mpr ⟨lok_11, List.forall_mem_cons.mpr ⟨lok_11, List.forall_mem_cons.mpr ⟨lok_11, List.forall_mem_cons.mpr ⟨lok_11, List.forall_mem_cons.mpr ⟨lok_11, List.forall_mem_cons.mpr ⟨lok_11, List.forall_mem_cons.mpr ⟨lok_11, List.forall_mem_cons.mpr ⟨lok_11, List.forall_mem_cons.mpr ⟨lok_11, List.forall_mem_cons.mpr ⟨lok_11, List.forall_mem_cons.mpr ⟨lok_11, List.forall_mem_cons.mpr ⟨lok_11, List.forall_mem_cons.mpr ⟨lok_12, List.forall_mem_cons.mpr ⟨lok_13, List.forall_mem_cons.mpr ⟨lok_13, List.forall_mem_cons.mpr ⟨lok_13, List.forall_mem_cons.mpr ⟨lok_13, List.forall_mem_cons.mpr ⟨lok_14, fun _ h => absurd h List.not_mem_nil⟩⟩⟩⟩⟩⟩⟩⟩⟩⟩⟩⟩⟩⟩⟩⟩⟩⟩⟩
set_option maxRecDepth 100000 in
theorem uw_0 : ∀ w ∈ u_ws RX0 TX0 2, w ∈ lw_tbl := inTs_mem (ps := [(0, 123), (0, 125)]) (by decide +kernel)
theorem uwg_0 : ∀ w ∈ u_ws RX0 TX0 2, w ∈ lw_g := fun w h => lw_g_of (uw_0 w h) (List.all_eq_true.mp (show (u_ws RX0 TX0 2).all goodWord = true from by decide +kernel) w h)
set_option maxRecDepth 100000 in
theorem uw_1 : ∀ w ∈ u_ws RX2 TX2 4, w ∈ lw_tbl := inTs_mem (ps := [(0, 156), (0, 158), (0, 160), (0, 162)]) (by decide +kernel)
theorem uwg_1 : ∀ w ∈ u_ws RX2 TX2 4, w ∈ lw_g := fun w h => lw_g_of (uw_1 w h) (List.all_eq_true.mp (show (u_ws RX2 TX2 4).all goodWord = true from by decide +kernel) w h)
set_option maxRecDepth 100000 in
theorem uw_2 : ∀ w ∈ u_ws RX3 TX3 7, w ∈ lw_tbl := inTs_mem (ps := [(1, 102), (1, 104), (1, 106), (1, 108), (1, 110), (1, 112), (1, 114)]) (by decide +kernel)
theorem uwg_2 : ∀ w ∈ u_ws RX3 TX3 7, w ∈ lw_g := fun w h => lw_g_of (uw_2 w h) (List.all_eq_true.mp (show (u_ws RX3 TX3 7).all goodWord = true from by decide +kernel) w h)
set_option maxRecDepth 100000 in
theorem uw_3 : ∀ w ∈ u_ws RX4 TX4 1, w ∈ lw_tbl := inTs_mem (ps := [(0, 135)]) (by decide +kernel)
theorem uwg_3 : ∀ w ∈ u_ws RX4 TX4 1, w ∈ lw_g := fun w h => lw_g_of (uw_3 w h) (List.all_eq_true.mp (show (u_ws RX4 TX4 1).all goodWord = true from by decide +kernel) w h)
set_option maxRecDepth 100000 in
theorem uw_4 : ∀ w ∈ u_ws RX5 TX5 11, w ∈ lw_tbl := inTs_mem (ps := [(1, 18), (1, 20), (1, 22), (1, 24), (1, 26), (1, 28), (1, 30), (1, 32), (1, 34), (1, 36), (1, 38)]) (by decide +kernel)
theorem uwg_4 : ∀ w ∈ u_ws RX5 TX5 11, w ∈ lw_g := fun w h => lw_g_of (uw_4 w h) (List.all_eq_true.mp (show (u_ws RX5 TX5 11).all goodWord = true from by decide +kernel) w h)
set_option maxRecDepth 100000 in
theorem uw_5 : ∀ w ∈ u_ws RX6 TX6 11, w ∈ lw_tbl := inTs_mem (ps := [(0, 89), (0, 91), (0, 93), (0, 95), (0, 97), (0, 99), (0, 101), (0, 103), (0, 105), (0, 107), (0, 109)]) (by decide +kernel)
theorem uwg_5 : ∀ w ∈ u_ws RX6 TX6 11, w ∈ lw_g := fun w h => lw_g_of (uw_5 w h) (List.all_eq_true.mp (show (u_ws RX6 TX6 11).all goodWord = true from by decide +kernel) w h)
set_option maxRecDepth 100000 in
theorem uw_6 : ∀ w ∈ u_ws RX7 TX7 6, w ∈ lw_tbl := inTs_mem (ps := [(0, 228), (0, 230), (0, 232), (0, 234), (0, 236), (0, 238)]) (by decide +kernel)
theorem uwg_6 : ∀ w ∈ u_ws RX7 TX7 6, w ∈ lw_g := fun w h => lw_g_of (uw_6 w h) (List.all_eq_true.mp (show (u_ws RX7 TX7 6).all goodWord = true from by decide +kernel) w h)
set_option maxRecDepth 100000 in
theorem uw_7 : ∀ w ∈ u_ws RX8 TX8 9, w ∈ lw_tbl := inTs_mem (ps := [(0, 179), (0, 181), (0, 183), (0, 185), (0, 187), (0, 189), (0, 191), (0, 193), (0, 195)]) (by decide +kernel)
theorem uwg_7 : ∀ w ∈ u_ws RX8 TX8 9, w ∈ lw_g := fun w h => lw_g_of (uw_7 w h) (List.all_eq_true.mp (show (u_ws RX8 TX8 9).all goodWord = true from by decide +kernel) w h)
set_option maxRecDepth 100000 in
theorem uw_8 : ∀ w ∈ u_ws RX9 TX9 12, w ∈ lw_tbl := inTs_mem (ps := [(1, 64), (1, 66), (1, 68), (1, 70), (1, 72), (1, 74), (1, 76), (1, 78), (1, 80), (1, 82), (1, 84), (1, 86)]) (by decide +kernel)
theorem uwg_8 : ∀ w ∈ u_ws RX9 TX9 12, w ∈ lw_g := fun w h => lw_g_of (uw_8 w h) (List.all_eq_true.mp (show (u_ws RX9 TX9 12).all goodWord = true from by decide +kernel) w h)
set_option maxRecDepth 100000 in
theorem uw_9 : ∀ w ∈ u_ws RX10 TX10 5, w ∈ lw_tbl := inTs_mem (ps := [(1, 122), (1, 124), (1, 126), (1, 128), (1, 130)]) (by decide +kernel)
theorem uwg_9 : ∀ w ∈ u_ws RX10 TX10 5, w ∈ lw_g := fun w h => lw_g_of (uw_9 w h) (List.all_eq_true.mp (show (u_ws RX10 TX10 5).all goodWord = true from by decide +kernel) w h)
set_option maxRecDepth 100000 in
theorem uw_10 : ∀ w ∈ u_ws RX11 TX11 51, w ∈ lw_tbl := inTs_mem (ps := [(4, 217), (4, 219), (4, 221), (4, 223), (4, 225), (4, 227), (4, 229), (4, 231), (4, 233), (4, 235), (4, 237), (4, 239), (5, 1), (5, 3), (5, 5), (5, 7), (5, 9), (5, 11), (5, 13), (5, 15), (5, 17), (5, 19), (5, 21), (5, 23), (5, 25), (5, 27), (5, 29), (5, 31), (5, 33), (5, 35), (5, 37), (5, 39), (5, 41), (5, 43), (5, 45), (5, 47), (5, 49), (5, 51), (5, 53), (5, 55), (5, 57), (5, 59), (5, 61), (5, 63), (5, 65), (5, 67), (5, 69), (5, 71), (5, 73), (5, 75), (5, 77)]) (by decide +kernel)
theorem uwg_10 : ∀ w ∈ u_ws RX11 TX11 51, w ∈ lw_g := fun w h => lw_g_of (uw_10 w h) (List.all_eq_true.mp (show (u_ws RX11 TX11 51).all goodWord = true from by decide +kernel) w h)
theorem uwg : ∀ (c : Nat) (q : vw_C), classes[c]? = some q → ∀ w ∈ u_ws q.1 q.2.1 q.2.2, w ∈ lw_g := by
  intro c q h
  match c, h with
  | 0, h => cases h; exact uwg_0
  | 1, h => cases h; exact uwg_1
  | 2, h => cases h; exact uwg_2
  | 3, h => cases h; exact uwg_3
  | 4, h => cases h; exact uwg_4
  | 5, h => cases h; exact uwg_5
  | 6, h => cases h; exact uwg_6
  | 7, h => cases h; exact uwg_7
  | 8, h => cases h; exact uwg_8
  | 9, h => cases h; exact uwg_9
  | 10, h => cases h; exact uwg_10
  | c + 11, h => cases h
theorem nmg : ∀ (c : Nat) (q : vw_C), classes[c]? = some q → ∀ a, a < q.2.2 → ∀ b, b < q.2.2 → a ≠ b → (q.2.1 a).2.1 ≠ (q.2.1 b).2.1 := by
  intro c q h
  match c, h with
  | 0, h => cases h; exact nmX0
  | 1, h => cases h; exact nmX2
  | 2, h => cases h; exact nmX3
  | 3, h => cases h; exact nmX4
  | 4, h => cases h; exact nmX5
  | 5, h => cases h; exact nmX6
  | 6, h => cases h; exact nmX7
  | 7, h => cases h; exact nmX8
  | 8, h => cases h; exact nmX9
  | 9, h => cases h; exact nmX10
  | 10, h => cases h; exact nmX11
  | c + 11, h => cases h
theorem tyg : ∀ (c : Nat) (q : vw_C), classes[c]? = some q → ∀ k, k < q.2.2 → parseFieldDescriptor (q.2.1 k).2.2.1 = some (ftk c k) := by
  intro c q h
  match c, h with
  | 0, h => cases h; exact (by decide +kernel : ∀ k, k < 2 → parseFieldDescriptor (TX0 k).2.2.1 = some (ftk 0 k))
  | 1, h => cases h; exact (by decide +kernel : ∀ k, k < 4 → parseFieldDescriptor (TX2 k).2.2.1 = some (ftk 1 k))
  | 2, h => cases h; exact (by decide +kernel : ∀ k, k < 7 → parseFieldDescriptor (TX3 k).2.2.1 = some (ftk 2 k))
  | 3, h => cases h; exact (by decide +kernel : ∀ k, k < 1 → parseFieldDescriptor (TX4 k).2.2.1 = some (ftk 3 k))
  | 4, h => cases h; exact (by decide +kernel : ∀ k, k < 11 → parseFieldDescriptor (TX5 k).2.2.1 = some (ftk 4 k))
  | 5, h => cases h; exact (by decide +kernel : ∀ k, k < 11 → parseFieldDescriptor (TX6 k).2.2.1 = some (ftk 5 k))
  | 6, h => cases h; exact (by decide +kernel : ∀ k, k < 6 → parseFieldDescriptor (TX7 k).2.2.1 = some (ftk 6 k))
  | 7, h => cases h; exact (by decide +kernel : ∀ k, k < 9 → parseFieldDescriptor (TX8 k).2.2.1 = some (ftk 7 k))
  | 8, h => cases h; exact (by decide +kernel : ∀ k, k < 12 → parseFieldDescriptor (TX9 k).2.2.1 = some (ftk 8 k))
  | 9, h => cases h; exact (by decide +kernel : ∀ k, k < 5 → parseFieldDescriptor (TX10 k).2.2.1 = some (ftk 9 k))
  | 10, h => cases h; exact (by decide +kernel : ∀ k, k < 51 → parseFieldDescriptor (TX11 k).2.2.1 = some (ftk 10 k))
  | c + 11, h => cases h
theorem mall {P : MT → Prop} (hl : ∀ r ∈ mtl_law, P r) (h0 : ∀ r ∈ mtl_0, P r) (h1 : ∀ r ∈ mtl_1, P r) (h2 : ∀ r ∈ mtl_2, P r) (h3 : ∀ r ∈ mtl_3, P r) (h4 : ∀ r ∈ mtl_4, P r) (h5 : ∀ r ∈ mtl_5, P r) (h6 : ∀ r ∈ mtl_6, P r) (h7 : ∀ r ∈ mtl_7, P r) (h8 : ∀ r ∈ mtl_8, P r) (h9 : ∀ r ∈ mtl_9, P r) (h10 : ∀ r ∈ mtl_10, P r) (h11 : ∀ r ∈ mtl_11, P r) (h12 : ∀ r ∈ mtl_12, P r) (h13 : ∀ r ∈ mtl_13, P r) (h14 : ∀ r ∈ mtl_14, P r) (h15 : ∀ r ∈ mtl_15, P r) : ∀ (y : Nat) (r : MT), mt y = some r → P r := by
  intro y r h
  have hm := List.mem_of_getElem? h
  unfold mtl at hm
  simp only [List.mem_append] at hm
  rcases hm with h | h | h | h | h | h | h | h | h | h | h | h | h | h | h | h | h
  · exact h0 r h
  · exact h1 r h
  · exact h2 r h
  · exact h3 r h
  · exact h4 r h
  · exact h5 r h
  · exact h6 r h
  · exact h7 r h
  · exact h8 r h
  · exact h9 r h
  · exact h10 r h
  · exact h11 r h
  · exact h12 r h
  · exact h13 r h
  · exact h14 r h
  · exact h15 r h
  · exact hl r h
theorem code_in : ∀ (y : Nat) (r : MT), mt y = some r → r.2.2.2.2.1 ≠ 3 → CodeIn r := mall (P := fun r => r.2.2.2.2.1 ≠ 3 → CodeIn r) (fun r h e => absurd (by rw [List.mem_singleton.mp h]) e) (fun r h _ => mcode_0 r h) (fun r h _ => mcode_1 r h) (fun r h _ => mcode_2 r h) (fun r h _ => mcode_3 r h) (fun r h _ => mcode_4 r h) (fun r h _ => mcode_5 r h) (fun r h _ => mcode_6 r h) (fun r h _ => mcode_7 r h) (fun r h _ => mcode_8 r h) (fun r h _ => mcode_9 r h) (fun r h _ => mcode_10 r h) (fun r h _ => mcode_11 r h) (fun r h _ => mcode_12 r h) (fun r h _ => mcode_13 r h) (fun r h _ => mcode_14 r h) (fun r h _ => mcode_15 r h)
theorem mok_in : ∀ (y : Nat) (r : MT), mt y = some r → r.2.2.2.2.1 ≠ 3 → MokP r := mall (P := fun r => r.2.2.2.2.1 ≠ 3 → MokP r) (fun r h e => absurd (by rw [List.mem_singleton.mp h]) e) (fun r h _ => moks_P mok_0 r h) (fun r h _ => moks_P mok_1 r h) (fun r h _ => moks_P mok_2 r h) (fun r h _ => moks_P mok_3 r h) (fun r h _ => moks_P mok_4 r h) (fun r h _ => moks_P mok_5 r h) (fun r h _ => moks_P mok_6 r h) (fun r h _ => moks_P mok_7 r h) (fun r h _ => moks_P mok_8 r h) (fun r h _ => moks_P mok_9 r h) (fun r h _ => moks_P mok_10 r h) (fun r h _ => moks_P mok_11 r h) (fun r h _ => moks_P mok_12 r h) (fun r h _ => moks_P mok_13 r h) (fun r h _ => moks_P mok_14 r h) (fun r h _ => moks_P mok_15 r h)
theorem lok_in : ∀ (y : Nat) (r : MT), mt y = some r → LOK r.1.cls r.2.2.2.2.2 := mall (P := fun r => LOK r.1.cls r.2.2.2.2.2) (fun r h => by rw [List.mem_singleton.mp h]; exact lok_15) mlok_0 mlok_1 mlok_2 mlok_3 mlok_4 mlok_5 mlok_6 mlok_7 mlok_8 mlok_9 mlok_10 mlok_11 mlok_12 mlok_13 mlok_14 mlok_15
