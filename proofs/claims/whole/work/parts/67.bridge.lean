/-! BRIDGES: the model -/
def gdN (W H cut X : Nat) : Prop := X &&& cut = X ∧ fallN W H (andn cut X) = 0
theorem gd_dec (W H cut X : Nat) : gdN W H cut X ∨ ¬ gdN W H cut X := Classical.em _
def enO : Option Nat → Int32
  | none => -1
  | some B => nI B
def leP (B X : Nat) : Prop := popN B < popN X ∨ popN B = popN X ∧ B ≤ X
/-- the best of those visited -/
def BsP (W H cut : Nat) (V : Nat → Prop) (o : Option Nat) : Prop := (o = none ∧ ∀ X, V X → ¬ gdN W H cut X) ∨ ∃ B, o = some B ∧ V B ∧ B < 33554432 ∧ gdN W H cut B ∧ ∀ X, V X → gdN W H cut X → leP B X
theorem bs_iff {W H cut : Nat} {V V' : Nat → Prop} {o : Option Nat} (h : ∀ X, V X ↔ V' X) (b : BsP W H cut V o) : BsP W H cut V' o := by
  rcases b with ⟨rfl, h1⟩ | ⟨B, rfl, h1, h2, h3, h4⟩
  · exact Or.inl ⟨rfl, fun X q => h1 X ((h X).mpr q)⟩
  · exact Or.inr ⟨B, rfl, (h B).mp h1, h2, h3, fun X q => h4 X ((h X).mpr q)⟩
theorem sub_z {X cut : Nat} : andn X cut = 0 ↔ X &&& cut = X := by
  constructor
  · intro h
    refine sub_of fun i hi => ?_
    have := congrArg (fun z => Nat.testBit z i) h
    simp only [tb_andn, hi, Nat.zero_testBit, Bool.true_and, Bool.not_eq_false'] at this
    exact this
  · intro h
    refine eq_tb fun i => ?_
    rw [tb_andn, Nat.zero_testBit]
    constructor
    · intro q
      rw [Bool.and_eq_true, Bool.not_eq_true'] at q
      rw [sub_tb h i q.1] at q
      exact absurd q.2 (by decide)
    · intro q; cases q
theorem try_ {m : MI} (w : WS) {W H cut X : Nat} {s : Int32} {ρ : Type} (K : Int32 → Option ρ) (b : BW W H) (mw : MW m W H) (hX : X < 33554432) :
    (gdN W H cut X → (if (nI X &&& (nI cut ^^^ (-1))) = 0 then (F_X11_fallsBy m w (nI cut &&& (nI X ^^^ (-1)))).bind fun c214 => if c214 = 0 then K (nI X) else K s else K s) = K (nI X)) ∧
    (¬ gdN W H cut X → (if (nI X &&& (nI cut ^^^ (-1))) = 0 then (F_X11_fallsBy m w (nI cut &&& (nI X ^^^ (-1)))).bind fun c214 => if c214 = 0 then K (nI X) else K s else K s) = K s) := by
  have h1 : andn X cut < 33554432 := andn_lt (n := 25) _ hX
  have h2 := pw (fall_lt W H (andn cut X)) (cells_le b.1.2 b.2.2)
  rw [nandn, nandn, m_fallsBy w b mw, Option.bind_some]
  constructor
  · intro ⟨g1, g2⟩
    rw [if_pos (by rw [sub_z.mpr g1]; rfl), if_pos (by rw [g2]; rfl)]
  · intro g
    by_cases e1 : andn X cut = 0
    · have e2 : ¬ fallN W H (andn cut X) = 0 := fun q => g ⟨sub_z.mp e1, q⟩
      rw [if_pos (by rw [e1]; rfl), if_neg (nne0 (by omega) e2)]
    · rw [if_neg (nne0 (by omega) e1)]
theorem shc {c : Nat} (h : c < 25) : ((1 : Int32) <<< (nI c &&& 31)) = nI (1 <<< c) := by rw [n31 (by omega), show (1 : Int32) = nI 1 from rfl, nshl _ (by omega)]
theorem xx_lt {a b c : Nat} (ha : a < 25) (hb : b < 25) (hc : c < 25) : (1 <<< a ||| 1 <<< b) ||| 1 <<< c < 33554432 := Nat.or_lt_two_pow (n := 25) (Nat.or_lt_two_pow (bit_lt ha) (bit_lt hb)) (bit_lt hc)
/-- one visited more -/
theorem st_74 {m : MI} {w : WS} {W H cut a b c : Nat} {x1 x2 x3 : Int32} {k48 : MI → Int32 → Int32 → Int32 → Int32 → Int32 → Int32 → Option (Int32 × MI)} {k61 : MI → Int32 → Int32 → Int32 → Int32 → Int32 → Int32 → Int32 → Option (Int32 × MI)}
    (bw : BW W H) (mw : MW m W H) (ha : a < W * H) (hb : b < W * H) (hc : c < W * H) {V : Nat → Prop} {o : Option Nat} (B : BsP W H cut V o) (f : Nat) :
    ∃ o', L_X11_bridges_74 w k48 k61 (f + 1) m x1 x2 x3 (nI cut) (enO o) (nI a) (nI b) (nI c) = L_X11_bridges_74 w k48 k61 f m x1 x2 x3 (nI cut) (enO o') (nI a) (nI b) (nI (c + 1)) ∧ BsP W H cut (fun X => V X ∨ X = (1 <<< a ||| 1 <<< b) ||| 1 <<< c) o' := by
  have hC := cells_le bw.1.2 bw.2.2
  have hX := xx_lt (show a < 25 by omega) (show b < 25 by omega) (show c < 25 by omega)
  have K := fun s => try_ (m := m) w (W := W) (H := H) (cut := cut) (X := (1 <<< a ||| 1 <<< b) ||| 1 <<< c) (s := s) (fun s => L_X11_bridges_74 w k48 k61 f m x1 x2 x3 (nI cut) s (nI a) (nI b) (nI (c + 1))) bw mw hX
  rw [L_X11_bridges_74, mw.2.2, if_neg (by rw [nle (by omega) (by omega)]; omega), shc (by omega), shc (by omega), shc (by omega), nor, nor, show nI c + 1 = nI (c + 1) from nI_add c 1]
  obtain ⟨X, eX⟩ : ∃ X, X = (1 <<< a ||| 1 <<< b) ||| 1 <<< c := ⟨_, rfl⟩
  rw [← eX] at hX K ⊢
  have hpX := popN_le X
  rcases B with ⟨rfl, h1⟩ | ⟨B, rfl, h1, h2, h3, h4⟩
  · rw [show enO none = -1 from rfl, if_pos rfl, if_neg (by decide)]
    rcases gd_dec W H cut X with g | g
    · refine ⟨some X, (K (-1)).1 g, Or.inr ⟨X, rfl, Or.inr rfl, hX, g, fun Y q gY => ?_⟩⟩
      rcases q with q | q
      · exact absurd gY (h1 Y q)
      · rw [q]; exact Or.inr ⟨rfl, Nat.le_refl _⟩
    · refine ⟨none, (K (-1)).2 g, Or.inl ⟨rfl, fun Y q gY => ?_⟩⟩
      rcases q with q | q
      · exact h1 Y q gY
      · rw [q] at gY; exact g gY
  · have hpB := popN_le B
    have keep : ∀ (_ : gdN W H cut X → leP B X), BsP W H cut (fun Y => V Y ∨ Y = X) (some B) := fun hle => Or.inr ⟨B, rfl, Or.inl h1, h2, h3, fun Y q gY => by
      rcases q with q | q
      · exact h4 Y q gY
      · rw [q] at gY ⊢; exact hle gY⟩
    have newX : gdN W H cut X → (popN X < popN B ∨ popN X = popN B ∧ X < B) → BsP W H cut (fun Y => V Y ∨ Y = X) (some X) := fun g hlt => Or.inr ⟨X, rfl, Or.inr rfl, hX, g, fun Y q gY => by
      rcases q with q | q
      · have := h4 Y q gY
        unfold leP at this ⊢
        omega
      · rw [q]; exact Or.inr ⟨rfl, Nat.le_refl _⟩⟩
    rw [show enO (some B) = nI B from rfl, if_neg (not_m1 (by omega)), m_ones m w hX, m_ones m w h2, Option.bind_some, Option.bind_some, Option.bind_some]
    by_cases e1 : popN X < popN B
    · rw [if_pos (show nI (popN X) < nI (popN B) by rw [nlt (by omega) (by omega)]; exact e1), if_neg (by decide)]
      rcases gd_dec W H cut X with g | g
      · exact ⟨some X, (K (nI B)).1 g, newX g (Or.inl e1)⟩
      · exact ⟨some B, (K (nI B)).2 g, keep fun q => absurd q g⟩
    · rw [if_neg (show ¬ nI (popN X) < nI (popN B) by rw [nlt (by omega) (by omega)]; exact e1)]
      by_cases e2 : popN X = popN B
      · by_cases e3 : B ≤ X
        · rw [Option.bind_some, if_pos (show nI (popN X) = nI (popN B) by rw [e2]), if_pos (show nI B ≤ nI X by rw [nle (by omega) (by omega)]; exact e3), if_pos rfl]
          exact ⟨some B, rfl, keep fun _ => Or.inr ⟨e2.symm, e3⟩⟩
        · rw [Option.bind_some, if_pos (show nI (popN X) = nI (popN B) by rw [e2]), if_neg (show ¬ nI B ≤ nI X by rw [nle (by omega) (by omega)]; exact e3), if_neg (by decide)]
          rcases gd_dec W H cut X with g | g
          · exact ⟨some X, (K (nI B)).1 g, newX g (Or.inr ⟨e2, by omega⟩)⟩
          · exact ⟨some B, (K (nI B)).2 g, keep fun q => absurd q g⟩
      · rw [Option.bind_some, if_neg (show ¬ nI (popN X) = nI (popN B) by rw [neq (by omega) (by omega)]; exact e2), if_pos rfl]
        exact ⟨some B, rfl, keep fun _ => Or.inl (by omega)⟩
