/-! WHAT STANDS BETWEEN TWO CALLS: sets of cells as numbers, a shop, a day, a picture, marks on either side, all that is told, images -/
/-- a without what is in b -/
def andn (a b : Nat) : Nat := a ^^^ (a &&& b)
def aM (W H : Nat) : Nat := 2 ^ (W * H) - 1
def lM (W H : Nat) : Nat := foldN (fun r a => a ||| 1 <<< (r * W)) 0 H
def rM (W H : Nat) : Nat := foldN (fun r a => a ||| 1 <<< (r * W + W - 1)) 0 H
def tM (W : Nat) : Nat := 2 ^ W - 1
def eM (W H : Nat) : Nat := lM W H ||| rM W H ||| tM W ||| tM W <<< ((H - 1) * W)
/-- one to the right -/
def riN (W H x : Nat) : Nat := andn x (rM W H) <<< 1
/-- those beside some -/
def besN (W H x : Nat) : Nat := (riN W H x ||| andn x (lM W H) >>> 1 ||| x <<< W ||| x >>> W) &&& aM W H
def grN (W H am : Nat) : Nat → Nat → Nat
  | 0, h => h
  | n + 1, h => if (h ||| besN W H h) &&& am = h then h else grN W H am n ((h ||| besN W H h) &&& am)
def fallN (W H c : Nat) : Nat := andn (andn (aM W H) c) (grN W H (andn (aM W H) c) 25 (andn (aM W H) c &&& eM W H))
def openN (W H c : Nat) : Nat := c ||| fallN W H c
/-- a sheet's cut cells out of its rows -/
def cutN (W : Nat) (ro : Nat → Nat) (s : Nat) : Nat := foldN (fun r a => a ||| ro (5 * s + r) <<< (r * W)) 0 5
def shOK (W H sl n : Nat) (cu we : Nat → Nat) : Prop := (1 ≤ W ∧ W ≤ 5) ∧ (1 ≤ H ∧ H ≤ 5) ∧ sl ≤ 10 ∧ n ≤ 6 ∧ (∀ s, s < 6 → cu s < 2 ^ (W * H)) ∧ (∀ s, s < 6 → 1 ≤ we s ∧ we s ≤ 9)
/-- a shop of the class -/
def ShC (mi : MI) (i W H sl n : Nat) (cu we : Nat → Nat) : Prop :=
  (mi 5 i 0 = nI W ∧ mi 5 i 1 = nI H ∧ mi 5 i 2 = nI sl ∧ mi 5 i 3 = nI n) ∧ (∀ s, s < 6 → mi 26 i s = nI (cu s) ∧ mi 27 i s = nI (we s) ∧ mi 28 i s = nI (openN W H (cu s))) ∧ mi 5 i 7 = nI (aM W H) ∧ mi 5 i 8 = nI (lM W H) ∧ mi 5 i 9 = nI (rM W H) ∧ mi 5 i 10 = nI (eM W H)
/-- a shop of the model, from a place on -/
def ShM (mi : MI) (b W H sl n : Nat) (ro we : Nat → Nat) : Prop :=
  (mi 55 0 b = nI W ∧ mi 55 0 (b + 1) = nI H ∧ mi 55 0 (b + 2) = nI sl ∧ mi 55 0 (b + 3) = nI n) ∧ (∀ k, k < 30 → mi 55 0 (b + (4 + k)) = nI (ro k)) ∧ (∀ s, s < 6 → mi 55 0 (b + (34 + s)) = nI (we s))
def ShR (mi : MI) (i b : Nat) : Prop := ∃ (W H sl n : Nat) (cu we ro : Nat → Nat), shOK W H sl n cu we ∧ ShC mi i W H sl n cu we ∧ ShM mi b W H sl n ro we ∧ (∀ s, s < n → cu s = cutN W ro s) ∧ (∀ s, n ≤ s → s < 6 → cu s = 0) ∧ (∀ k, k < 5 * n → ro k = 0 ∨ (k % 5 < H ∧ ro k < 2 ^ W))
def deedOK (q0 q1 q2 q3 : Int32) : Prop :=
  (q0 = 0 ∧ (∃ s, s < 6 ∧ q1 = nI s) ∧ (∃ c, 1 ≤ c ∧ c ≤ 9 ∧ q2 = nI c) ∧ q3 = -1) ∨
  ((q0 = 1 ∨ q0 = 2) ∧ (∃ s, s < 6 ∧ q1 = nI s) ∧ q2 = -1 ∧ q3 = -1) ∨
  ((q0 = 3 ∨ q0 = 4) ∧ (∃ s, s < 6 ∧ q1 = nI s) ∧ (∃ x, x < 5 ∧ q2 = nI x) ∧ (∃ y, y < 5 ∧ q3 = nI y)) ∨
  (q0 = 5 ∧ (∃ c, 1 ≤ c ∧ c ≤ 9 ∧ q1 = nI c) ∧ q2 = -1 ∧ q3 = -1)
def DayR (mi : MI) (i b : Nat) : Prop := ∃ n, n ≤ 40 ∧ mi 0 i 0 = nI n ∧ mi 56 0 b = nI n ∧ ∀ k, k < n → (∀ p, p < 4 → mi 29 i (4 * k + p) = mi 56 0 (b + (1 + (4 * k + p)))) ∧ deedOK (mi 29 i (4 * k)) (mi 29 i (4 * k + 1)) (mi 29 i (4 * k + 2)) (mi 29 i (4 * k + 3))
def PicR (mi : MI) (i b : Nat) : Prop := ∃ co : Nat → Nat, ∀ k, k < 25 → co k ≤ 9 ∧ mi 30 i k = nI (co k) ∧ mi 57 0 (b + (1 + k)) = nI (co k)
def MarkR (mi : MI) (i b : Nat) : Prop := ∃ n, n ≤ 8 ∧ mi 1 i 0 = nI n ∧ mi 58 0 b = nI n ∧ ∀ k, k < n →
  (∃ x, x < 5 ∧ mi 31 i k = nI x ∧ mi 58 0 (b + (1 + (4 * k + 1))) = nI x) ∧ (∃ y, y < 5 ∧ mi 32 i k = nI y ∧ mi 58 0 (b + (1 + (4 * k + 2))) = nI y) ∧
  mi 58 0 (b + (1 + (4 * k + 3))) = mi 33 i k ∧ ((mi 33 i k = -1 ∧ mi 58 0 (b + (1 + 4 * k)) = 1) ∨ (∃ s, s < 6 ∧ mi 33 i k = nI s ∧ mi 58 0 (b + (1 + 4 * k)) = 0))
/-- all that is told (t 0), or an image (t 1 .. 3) -/
def VRel (mi : MI) (t : Nat) : Prop :=
  (∃ n, n ≤ 600 ∧ mi 7 t 1 = nI n ∧ mi 51 0 t = nI n ∧ ∀ k, k < n → mi 20 t k = mi 50 0 (600 * t + k) &&& 255) ∧ (mi 52 0 t = mi 7 t 2 ∧ mi 53 0 t = mi 7 t 3) ∧
  ∃ cn : Nat → Nat, (∀ s, s < 4 → cn s ≤ 2 ∧ mi 21 t s = nI (cn s) ∧ mi 54 0 (4 * t + s) = nI (cn s)) ∧
    (∀ j, j < cn 0 → ShR mi (2 * t + j) (80 * t + 40 * j)) ∧ (∀ j, j < cn 1 → DayR mi (2 * t + j) (322 * t + 161 * j)) ∧ (∀ j, j < cn 2 → PicR mi (2 * t + j) (52 * t + 26 * j)) ∧ (∀ j, j < cn 3 → MarkR mi (2 * t + j) (66 * t + 33 * j))
def Inv (mi : MI) (w : WS) : Prop := VRel mi 0 ∧ ∀ k, k < 3 → (w.2.2.1 k = true → mi 72 0 k = 1 ∧ VRel mi (k + 1)) ∧ (w.2.2.1 k = false → mi 72 0 k = 0)
/-- what a call that asks only may change: all but what stands between two calls -/
def stay (c i : Nat) : Bool := (Nat.beq c 0 || Nat.beq c 1 || Nat.beq c 3 || Nat.beq c 5 || (Nat.ble 26 c && Nat.ble c 33)) && Nat.blt i 8 || (Nat.beq c 7 || Nat.beq c 20 || Nat.beq c 21) && Nat.blt i 4 || Nat.ble 50 c && Nat.ble c 58 || Nat.beq c 72
def Keep (mi mi' : MI) : Prop := ∀ c i k, stay c i = true → mi' c i k = mi c i k
theorem keep_refl (mi : MI) : Keep mi mi := fun _ _ _ _ => rfl
theorem keep_trans {a b c : MI} (h : Keep a b) (h2 : Keep b c) : Keep a c := fun x i k hs => (h2 x i k hs).trans (h x i k hs)
theorem keep_u3 {a b : MI} {c i k : Nat} {v : Int32} (hs : stay c i = false) (h : Keep a b) : Keep a (u3 b c i k v) := by
  intro c' i' k' hc
  unfold u3
  rw [if_neg]
  · exact h c' i' k' hc
  · rintro ⟨rfl, rfl, rfl⟩
    rw [hs] at hc
    cases hc
theorem keep_u2 {a b : MI} {c i : Nat} {g : Nat → Int32} (hs : stay c i = false) (h : Keep a b) : Keep a (u2 b c i g) := by
  intro c' i' k' hc
  unfold u2
  rw [if_neg]
  · exact h c' i' k' hc
  · rintro ⟨rfl, rfl⟩
    rw [hs] at hc
    cases hc
theorem st_c {c i : Nat} (hc : c = 0 ∨ c = 1 ∨ c = 3 ∨ c = 5 ∨ (26 ≤ c ∧ c ≤ 33)) (hi : i < 8) : stay c i = true := by
  have h8 : Nat.blt i 8 = true := Nat.ble_eq_true_of_le hi
  unfold stay
  rw [h8]
  rcases hc with rfl | rfl | rfl | rfl | ⟨h1, h2⟩ <;> try rfl
  have a1 : Nat.ble 26 c = true := Nat.ble_eq_true_of_le h1
  have a2 : Nat.ble c 33 = true := Nat.ble_eq_true_of_le h2
  simp [a1, a2]
theorem st_t {c i : Nat} (hc : c = 7 ∨ c = 20 ∨ c = 21) (hi : i < 4) : stay c i = true := by
  have h8 : Nat.blt i 4 = true := Nat.ble_eq_true_of_le hi
  unfold stay
  rw [h8]
  rcases hc with rfl | rfl | rfl <;> simp
theorem st_m {c i : Nat} (hc : 50 ≤ c ∧ c ≤ 58 ∨ c = 72) : stay c i = true := by
  unfold stay
  rcases hc with ⟨h1, h2⟩ | rfl
  · have a1 : Nat.ble 50 c = true := Nat.ble_eq_true_of_le h1
    have a2 : Nat.ble c 58 = true := Nat.ble_eq_true_of_le h2
    simp [a1, a2]
  · simp
theorem ShC_of {mi mi' : MI} {i W H sl n : Nat} {cu we : Nat → Nat} (e5 : ∀ k, mi' 5 i k = mi 5 i k) (e26 : ∀ k, mi' 26 i k = mi 26 i k) (e27 : ∀ k, mi' 27 i k = mi 27 i k) (e28 : ∀ k, mi' 28 i k = mi 28 i k) (h : ShC mi i W H sl n cu we) : ShC mi' i W H sl n cu we := by
  obtain ⟨h1, h2, h3⟩ := h
  refine ⟨?_, fun s hs => ?_, ?_⟩
  · simpa only [e5] using h1
  · simpa only [e26, e27, e28] using h2 s hs
  · simpa only [e5] using h3
theorem ShM_of {mi mi' : MI} {b W H sl n : Nat} {ro we : Nat → Nat} (e : ∀ k, mi' 55 0 k = mi 55 0 k) (h : ShM mi b W H sl n ro we) : ShM mi' b W H sl n ro we := by
  obtain ⟨h1, h2, h3⟩ := h
  refine ⟨?_, fun k hk => ?_, fun s hs => ?_⟩
  · simpa only [e] using h1
  · simpa only [e] using h2 k hk
  · simpa only [e] using h3 s hs
theorem ShR_keep {mi mi' : MI} (K : Keep mi mi') {i b : Nat} (hi : i < 8) (h : ShR mi i b) : ShR mi' i b := by
  obtain ⟨W, H, sl, n, cu, we, ro, h1, h2, h3, h4⟩ := h
  exact ⟨W, H, sl, n, cu, we, ro, h1, ShC_of (fun k => K 5 i k (st_c (by omega) hi)) (fun k => K 26 i k (st_c (by omega) hi)) (fun k => K 27 i k (st_c (by omega) hi)) (fun k => K 28 i k (st_c (by omega) hi)) h2, ShM_of (fun k => K 55 0 k (st_m (by omega))) h3, h4⟩
theorem DayR_keep {mi mi' : MI} (K : Keep mi mi') {i b : Nat} (hi : i < 8) (h : DayR mi i b) : DayR mi' i b := by
  obtain ⟨n, h0, h1, h2, h3⟩ := h
  have e0 : ∀ k, mi' 0 i k = mi 0 i k := fun k => K 0 i k (st_c (by omega) hi)
  have e29 : ∀ k, mi' 29 i k = mi 29 i k := fun k => K 29 i k (st_c (by omega) hi)
  have e56 : ∀ k, mi' 56 0 k = mi 56 0 k := fun k => K 56 0 k (st_m (by omega))
  exact ⟨n, h0, by rw [e0]; exact h1, by rw [e56]; exact h2, fun k hk => by simpa only [e29, e56] using h3 k hk⟩
theorem PicR_keep {mi mi' : MI} (K : Keep mi mi') {i b : Nat} (hi : i < 8) (h : PicR mi i b) : PicR mi' i b := by
  obtain ⟨co, h3⟩ := h
  have e30 : ∀ k, mi' 30 i k = mi 30 i k := fun k => K 30 i k (st_c (by omega) hi)
  have e57 : ∀ k, mi' 57 0 k = mi 57 0 k := fun k => K 57 0 k (st_m (by omega))
  exact ⟨co, fun k hk => by simpa only [e30, e57] using h3 k hk⟩
theorem MarkR_keep {mi mi' : MI} (K : Keep mi mi') {i b : Nat} (hi : i < 8) (h : MarkR mi i b) : MarkR mi' i b := by
  obtain ⟨n, h0, h1, h2, h3⟩ := h
  have e1 : ∀ k, mi' 1 i k = mi 1 i k := fun k => K 1 i k (st_c (by omega) hi)
  have e31 : ∀ k, mi' 31 i k = mi 31 i k := fun k => K 31 i k (st_c (by omega) hi)
  have e32 : ∀ k, mi' 32 i k = mi 32 i k := fun k => K 32 i k (st_c (by omega) hi)
  have e33 : ∀ k, mi' 33 i k = mi 33 i k := fun k => K 33 i k (st_c (by omega) hi)
  have e58 : ∀ k, mi' 58 0 k = mi 58 0 k := fun k => K 58 0 k (st_m (by omega))
  exact ⟨n, h0, by rw [e1]; exact h1, by rw [e58]; exact h2, fun k hk => by simpa only [e31, e32, e33, e58] using h3 k hk⟩
theorem VRel_keep {mi mi' : MI} (K : Keep mi mi') {t : Nat} (ht : t ≤ 3) (h : VRel mi t) : VRel mi' t := by
  obtain ⟨⟨n, h1, h2, h3, h4⟩, ⟨h5, h6⟩, cn, h7, h8, h9, h10, h11⟩ := h
  have e7 : ∀ k, mi' 7 t k = mi 7 t k := fun k => K 7 t k (st_t (by omega) (by omega))
  have e20 : ∀ k, mi' 20 t k = mi 20 t k := fun k => K 20 t k (st_t (by omega) (by omega))
  have e21 : ∀ k, mi' 21 t k = mi 21 t k := fun k => K 21 t k (st_t (by omega) (by omega))
  have e50 : ∀ k, mi' 50 0 k = mi 50 0 k := fun k => K 50 0 k (st_m (by omega))
  have e51 : ∀ k, mi' 51 0 k = mi 51 0 k := fun k => K 51 0 k (st_m (by omega))
  have e52 : ∀ k, mi' 52 0 k = mi 52 0 k := fun k => K 52 0 k (st_m (by omega))
  have e53 : ∀ k, mi' 53 0 k = mi 53 0 k := fun k => K 53 0 k (st_m (by omega))
  have e54 : ∀ k, mi' 54 0 k = mi 54 0 k := fun k => K 54 0 k (st_m (by omega))
  have c2 : ∀ s, s < 4 → ∀ j, j < cn s → 2 * t + j < 8 := fun s hs j hj => by have := (h7 s hs).1; omega
  refine ⟨⟨n, h1, by rw [e7]; exact h2, by rw [e51]; exact h3, fun k hk => by rw [e20, e50]; exact h4 k hk⟩, ⟨by rw [e52, e7]; exact h5, by rw [e53, e7]; exact h6⟩, cn, fun s hs => by rw [e21, e54]; exact h7 s hs, fun j hj => ShR_keep K (c2 0 (by omega) j hj) (h8 j hj), fun j hj => DayR_keep K (c2 1 (by omega) j hj) (h9 j hj), fun j hj => PicR_keep K (c2 2 (by omega) j hj) (h10 j hj), fun j hj => MarkR_keep K (c2 3 (by omega) j hj) (h11 j hj)⟩
theorem Inv_keep {mi mi' : MI} {w w' : WS} (K : Keep mi mi') (hw : w'.2.2.1 = w.2.2.1) (h : Inv mi w) : Inv mi' w' := by
  obtain ⟨h1, h2⟩ := h
  refine ⟨VRel_keep K (by omega) h1, fun k hk => ?_⟩
  rw [hw, K 72 0 k (st_m (by omega))]
  exact ⟨fun q => ⟨((h2 k hk).1 q).1, VRel_keep K (by omega) ((h2 k hk).1 q).2⟩, (h2 k hk).2⟩
