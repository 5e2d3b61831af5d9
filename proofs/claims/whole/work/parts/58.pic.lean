/-! PICTURES AT SHOPS: plain, off -/
theorem pic_cells {W H i : Nat} (b : BW W H) (hi : i < W * H) : i / W < H ∧ i % W < W ∧ i / W < 5 ∧ i % W < 5 ∧ i / W * W + i % W = i := by
  have h1 : i / W < H := Nat.div_lt_of_lt_mul hi
  have h2 := Nat.mod_lt i b.1.1
  have h3 := Nat.div_add_mod i W
  rw [Nat.mul_comm] at h3
  have := b.1.2
  have := b.2.2
  exact ⟨h1, h2, by omega, by omega, h3⟩
/-- the cells of a shop that have a colour in a picture -/
def celN (W H : Nat) (co : Nat → Nat) (c : Nat) : Nat := orN (fun k => if co (5 * (k / W) + k % W) = c then 1 <<< k else 0) (W * H)
theorem cel_lt (W H : Nat) (co : Nat → Nat) (c : Nat) : celN W H co c < 2 ^ (W * H) := by
  refine orN_lt fun k hk => ?_
  have := bit_lt hk
  have := Nat.two_pow_pos (W * H)
  split <;> omega
theorem cel_tb {W H : Nat} {co : Nat → Nat} {c i : Nat} : (celN W H co c).testBit i = true ↔ i < W * H ∧ co (5 * (i / W) + i % W) = c := by
  unfold celN
  rw [orN_tb]
  constructor
  · rintro ⟨k, h1, h2⟩
    split at h2
    · rw [one_tb] at h2
      subst h2
      exact ⟨h1, by assumption⟩
    · simp at h2
  · rintro ⟨h1, h2⟩
    exact ⟨i, h1, by rw [if_pos h2, one_tb]⟩
theorem row_div {W y x : Nat} (hx : x < W) : (y * W + x) / W = y ∧ (y * W + x) % W = x := by
  have hW : 0 < W := by omega
  constructor
  · rw [Nat.mul_comm, Nat.mul_add_div hW, Nat.div_eq_of_lt hx, Nat.add_zero]
  · rw [Nat.mul_comm, Nat.mul_add_mod, Nat.mod_eq_of_lt hx]
theorem c_cells {mi : MI} (w : WS) {i p W H c : Nat} {co : Nat → Nat} (b : BW W H) (cw : CW mi i W H) (hc : c < 100) (h : ∀ k, k < 25 → co k ≤ 9 ∧ mi 30 p k = nI (co k)) : F_X4_cellsOf mi w p i (nI c) = some (nI (celN W H co c)) := by
  obtain ⟨⟨hW, hW5⟩, hH, hH5⟩ := id b
  have hC := cells_le hW5 hH5
  unfold F_X4_cellsOf
  have e : celN W H co c = foldN (fun y a => foldN (fun x a => a ||| if co (5 * y + x) = c then 1 <<< (y * W + x) else 0) a W) 0 H := by
    have e1 : ∀ y a, foldN (fun x a => a ||| if co (5 * y + x) = c then 1 <<< (y * W + x) else 0) a W = a ||| orN (fun x => if co (5 * y + x) = c then 1 <<< (y * W + x) else 0) W := fun y a => orN_from a W
    have e2 : foldN (fun y a => foldN (fun x a => a ||| if co (5 * y + x) = c then 1 <<< (y * W + x) else 0) a W) 0 H = orN (fun y => orN (fun x => if co (5 * y + x) = c then 1 <<< (y * W + x) else 0) W) H := by
      unfold orN
      congr 1
      funext y a
      exact e1 y a
    rw [e2]
    refine eq_tb fun i => ?_
    rw [cel_tb, orN_tb]
    constructor
    · rintro ⟨h1, h2⟩
      obtain ⟨g1, g2, g3, g4, g5⟩ := pic_cells b h1
      refine ⟨i / W, g1, ?_⟩
      rw [orN_tb]
      exact ⟨i % W, g2, by rw [if_pos h2, one_tb, g5]⟩
    · rintro ⟨y, hy, h2⟩
      rw [orN_tb] at h2
      obtain ⟨x, hx, h3⟩ := h2
      split at h3
      · rename_i h4
        rw [one_tb] at h3
        subst h3
        obtain ⟨q1, q2⟩ := row_div (y := y) hx
        refine ⟨?_, by rw [q1, q2]; exact h4⟩
        have := Nat.mul_le_mul_left W (show y + 1 ≤ H by omega)
        rw [Nat.mul_succ, Nat.mul_comm W y] at this
        omega
      · simp at h3
  rw [e]
  have e5 : (5 : Int32) = nI 5 := rfl
  refine lp_up (L := fun f a k => L_X4_cellsOf_5 mi w f p i (nI c) (nI a) (nI k)) (N := H) (f := fun y a => foldN (fun x a => a ||| if co (5 * y + x) = c then 1 <<< (y * W + x) else 0) a W) (post := fun a => some (nI a)) (fun _ _ => True) (fun f a _ => ?_) (fun f y a hy _ => ⟨?_, trivial⟩) (F := 1000000) (by omega) 0 trivial
  · show L_X4_cellsOf_5 mi w (f + 1) p i (nI c) (nI a) (nI H) = _
    rw [L_X4_cellsOf_5, if_pos (by rw [cw.1.2, nle (by omega) (by omega)]; omega)]
  · show L_X4_cellsOf_5 mi w (f + 1) p i (nI c) (nI a) (nI y) = _
    rw [L_X4_cellsOf_5, if_neg (by rw [cw.1.2, nle (by omega) (by omega)]; omega)]
    refine lp_up (L := fun f' a k => L_X4_cellsOf_17 mi w (fun i i1 x2 x3 x4 => L_X4_cellsOf_5 mi w f i i1 x2 x3 x4) f' p i (nI c) (nI a) (nI y) (nI k)) (N := W) (f := fun x a => a ||| if co (5 * y + x) = c then 1 <<< (y * W + x) else 0) (post := fun a => L_X4_cellsOf_5 mi w f p i (nI c) (nI a) (nI (y + 1))) (fun _ _ => True) (fun f' a _ => ?_) (fun f' x a hx _ => ⟨?_, trivial⟩) (F := 1000000) (by omega) a trivial
    · show L_X4_cellsOf_17 mi w _ (f' + 1) p i (nI c) (nI a) (nI y) (nI W) = _
      rw [L_X4_cellsOf_17, if_pos (by rw [cw.1.1, nle (by omega) (by omega)]; omega), i1, nadd]
    · obtain ⟨h1, h2⟩ := h (5 * y + x) (by omega)
      have hyW : y * W + W ≤ W * H := by
        have := Nat.mul_le_mul_left W (show y + 1 ≤ H by omega)
        rw [Nat.mul_succ, Nat.mul_comm W y] at this
        exact this
      show L_X4_cellsOf_17 mi w _ (f' + 1) p i (nI c) (nI a) (nI y) (nI x) = L_X4_cellsOf_17 mi w _ f' p i (nI c) (nI (a ||| if co (5 * y + x) = c then 1 <<< (y * W + x) else 0)) (nI y) (nI (x + 1))
      rw [L_X4_cellsOf_17, if_neg (by rw [cw.1.1, nle (by omega) (by omega)]; omega), c_colourAt w (by omega) (by omega), Option.bind_some, h2, cw.1.1, nmul, nadd, n31 (by omega), i1, nshl _ (by omega), nor, nadd]
      by_cases q : co (5 * y + x) = c
      · rw [if_pos (show nI (co (5 * y + x)) = nI c by rw [q]), if_pos q]
      · rw [if_neg (show ¬ nI (co (5 * y + x)) = nI c from nne (by omega) (by omega) q), if_neg q, Nat.or_zero]
theorem m_colourOf {m : MI} (w : WS) {j W H k : Nat} {co : Nat → Nat} (b : BW W H) (mw : MW m W H) (hj : j < 2) (h38 : m 10 0 38 = nI j) (h : ∀ k, k < 25 → co k ≤ 9 ∧ m 57 0 (26 * j + (1 + k)) = nI (co k)) (hk : k < W * H) : F_X11_colourOf m w (nI k) = some (nI (co (5 * (k / W) + k % W))) := by
  obtain ⟨g1, g2, g3, g4, g5⟩ := pic_cells b hk
  have hC := cells_le b.1.2 b.2.2
  have hW := b.1.1
  have := b.1.2
  unfold F_X11_colourOf
  rw [mw.1, ckT (nI_ne0 hW (by omega)), ckT (nI_ne0 hW (by omega)), nrem (by omega) hW (by omega), ndiv (by omega) hW (by omega), m_colourAt w h38 hj g4 g3, Option.bind_some, (h _ (by omega)).2]
/-- a picture and a shop at hand, on both sides -/
theorem ps_op {mi : MI} {w : WS} (I : Inv mi w) (x1 x2 : Int32) {F : Nat → Option Nat → Option Int32} {G : Int32 × MI → Option (Int32 × MI)} (bad : Int32) (hF : ∀ j, F j none = some bad) (hG : ∀ m, ∃ m', G (0, m) = some (bad, m'))
    (h : ∀ (j p W H sl n : Nat) (cu we co : Nat → Nat) (m : MI), j < 2 → p < 2 → shOK W H sl n cu we → ShC mi j W H sl n cu we → HD m j W H sl n cu we → m 10 0 38 = nI p → (∀ k, k < 25 → co k ≤ 9 ∧ mi 30 p k = nI (co k)) → (∀ k, k < 25 → co k ≤ 9 ∧ m 57 0 (26 * p + (1 + k)) = nI (co k)) → ∃ v m', F j (some p) = some v ∧ G (1, m) = some (v, m')) :
    ∃ c, (F_X8_shopAt mi w 0 x1).bind (fun c221 => onO c221 ((F_X8_pictureAt mi w 0 x2).bind fun c222 => onO c222 (some bad) fun _ => some bad) fun j => (F_X8_pictureAt mi w 0 x2).bind (F j)) = some c ∧ ∃ e, ((F_X11_hasPicture (u3 mi 10 0 0 0) w x2).bind fun c341 => if c341.1 = 0 then some (bad, c341.2) else (F_X11_hand c341.2 w x1).bind G) = some e ∧ c = e.1 := by
  rcases pic_at I x2 with ⟨p1, p2⟩ | ⟨p, ⟨hp, rfl⟩, p1, p3, p2⟩
  · have e2 : ((F_X11_hasPicture (u3 mi 10 0 0 0) w x2).bind fun c341 => if c341.1 = 0 then some (bad, c341.2) else (F_X11_hand c341.2 w x1).bind G) = some (bad, u3 (u3 mi 10 0 0 0) 10 0 38 x2) := by
      rw [p2 _ w (keep_c mi), Option.bind_some]
      exact if_pos rfl
    rcases shop_at I x1 with ⟨h1, h2⟩ | ⟨j, ⟨hj, rfl⟩, h1, -⟩
    · exact ⟨bad, by rw [h1, Option.bind_some, onO_n, p1, Option.bind_some, onO_n], _, e2, rfl⟩
    · exact ⟨bad, by rw [h1, Option.bind_some, onO_s, p1, Option.bind_some, hF], _, e2, rfl⟩
  · have K : Keep mi (u3 (u3 mi 10 0 0 0) 10 0 38 (nI p)) := keep_u3 rfl (keep_c mi)
    have e2 : ((F_X11_hasPicture (u3 mi 10 0 0 0) w (nI p)).bind fun c341 => if c341.1 = 0 then some (bad, c341.2) else (F_X11_hand c341.2 w x1).bind G) = (F_X11_hand (u3 (u3 mi 10 0 0 0) 10 0 38 (nI p)) w x1).bind G := by
      rw [p2 _ w (keep_c mi), Option.bind_some]
      exact if_neg ne10
    rw [e2]
    rcases shop_at I x1 with ⟨h1, h2⟩ | ⟨j, ⟨hj, rfl⟩, h1, W, H, sl, n, cu, we, ok, hc, h2⟩
    · obtain ⟨m', e⟩ := hG (u3 (u3 mi 10 0 0 0) 10 0 38 (nI p))
      exact ⟨bad, by rw [h1, Option.bind_some, onO_n, p1, Option.bind_some, onO_s], (bad, m'), by rw [h2 _ w K, Option.bind_some, e], rfl⟩
    · obtain ⟨m, e1, e3, e4⟩ := h2 _ w K
      obtain ⟨co, hco⟩ := p3
      have h38 : m 10 0 38 = nI p := by rw [e4 10 0 38 ⟨by omega, by omega⟩]; exact u3_s
      have h57 : ∀ k, m 57 0 k = mi 57 0 k := fun k => by rw [e4 57 0 k ⟨by omega, by omega⟩, u3_n (by omega), u3_n (by omega)]
      obtain ⟨v, m', f1, f2⟩ := h j p W H sl n cu we co m hj hp ok hc e3 h38 (fun k hk => ⟨(hco k hk).1, (hco k hk).2.1⟩) (fun k hk => ⟨(hco k hk).1, by rw [h57]; exact (hco k hk).2.2⟩)
      exact ⟨v, by rw [h1, Option.bind_some, onO_s, p1, Option.bind_some, f1], (v, m'), by rw [e1, Option.bind_some, f2], rfl⟩
