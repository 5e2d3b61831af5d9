/-! TEXT: the other literals; the model's row of a picture as a list -/
theorem kl_0 : lN (pkP (kwN 0) (kwN 0).length) = (1936292453 : Int64) := by decide +kernel
theorem kl_1 : lN (pkP (kwN 1) (kwN 1).length) = (1936484720 : Int64) := by decide +kernel
theorem kl_2 : lN (pkP (kwN 2) (kwN 2).length) = (495672714612 : Int64) := by decide +kernel
theorem kl_3 : lN (pkP (kwN 3) (kwN 3).length) = (2003132786 : Int64) := by decide +kernel
theorem kl_10 : lN (pkP (kwN 10) (kwN 10).length) = (7499639 : Int64) := by decide +kernel
theorem kl_11 : lN (pkP (kwN 11) (kwN 11).length) = (7630704 : Int64) := by decide +kernel
theorem kl_12 : lN (pkP (kwN 12) (kwN 12).length) = (1650553445 : Int64) := by decide +kernel
theorem pic_lis {m : MI} {w : WS} {x : Int64} {p : Int32} : F_X11_pictureLine m w x p = if lg_cmp x 7499639 = 0 then lisL m w 0 5 1 9 p else (F_X11_fails m w).bind fun c80 => ck (c80.1 = 0 ∨ c80.1 = 1) (some (c80.1, c80.2, w)) := rfl
theorem m_picLine {m : MI} {w : WS} {b : Nat → Nat} {len pos : Nat} {p : Int32} (hp : pos ≤ len) (htk : tokM m w.2.2.2 b len pos) : (wOk b len pos 10 ∧ F_X11_pictureLine m w (wdX m w.2.2.2) p = lisL m w 0 5 1 9 p) ∨ (¬ wOk b len pos 10 ∧ F_X11_pictureLine m w (wdX m w.2.2.2) p = some (0, u3 m 10 0 16 (nI (tkP b len pos)), w)) := by
  have s := m_sel (i := 10) hp htk (by omega)
  rw [kl_10] at s
  rw [pic_lis]
  by_cases c : wOk b len pos 10
  · exact Or.inl ⟨c, if_pos (s ▸ c)⟩
  · refine Or.inr ⟨c, ?_⟩
    rw [if_neg (fun z => c (s ▸ z))]
    unfold F_X11_fails
    rw [Option.bind_some]
    dsimp only
    rw [ckT (Or.inl rfl), htk.2.1]
