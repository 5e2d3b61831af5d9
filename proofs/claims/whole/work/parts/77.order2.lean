/-- a row of l places out of a number to the base 6, the last place last; none where a sheet is no sheet or stands twice -/
def laL (n : Nat) : Nat → Nat → Nat → List Nat → Option (List Nat)
  | 0, _, _, row => some row
  | l + 1, x, used, row => if n ≤ x % 6 then none else if used.testBit (x % 6) then none else laL n l (x / 6) (used ||| 1 <<< (x % 6)) (x % 6 :: row)
def enL (n l : Nat) : List (List Nat) := (List.range (6 ^ l)).filterMap fun x => laL n l x 0 []
theorem en_lay4 : ((List.range 7).all fun n => (List.range 5).all fun l => Nat.blt n l || enC n l 721 (fiL l 8 0 []) == enL n l) = true := by decide +kernel
