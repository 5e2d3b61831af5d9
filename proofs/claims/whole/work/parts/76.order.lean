/-! ORDERS, as lists -/
def luN (used : Nat) : Nat → Nat → Nat
  | 0, c => c
  | f + 1, c => if used.testBit c then luN used f (c + 1) else c
def fiL (l : Nat) : Nat → Nat → List Nat → List Nat
  | 0, _, row => row
  | f + 1, used, row => if row.length < l then fiL l f (used ||| 1 <<< luN used 8 0) (row ++ [luN used 8 0]) else row
def usL (row : List Nat) : Nat := row.foldl (fun a x => a ||| 1 <<< x) 0
/-- the class's next order: places from the last back -/
def adL (n l : Nat) : Nat → Nat → List Nat → Option (List Nat)
  | 0, _, _ => none
  | x + 1, used, row =>
    let u := used ^^^ (used &&& 1 <<< row.getD x 0)
    let c := luN u 8 (row.getD x 0 + 1)
    if n ≤ c then adL n l x u row else some (fiL l 8 (u ||| 1 <<< c) (row.take x ++ [c]))
def enC (n l : Nat) : Nat → List Nat → List (List Nat)
  | 0, _ => []
  | f + 1, row => row :: match adL n l l (usL row) row with
    | none => []
    | some r => enC n l f r
def swR (r : List Nat) (a b : Nat) : List Nat := (r.set a (r.getD b 0)).set b (r.getD a 0)
def n84 : Nat → List Nat → Nat → Nat → List Nat
  | 0, r, _, _ => r
  | f + 1, r, a, b => if b ≤ a then r else n84 f (swR r a b) (a + 1) (b - 1)
def n47 (n : Nat) : Nat → List Nat → Nat → Nat → List Nat
  | 0, r, _, _ => r
  | f + 1, r, a, b => if r.getD a 0 ≤ r.getD b 0 then n84 8 (swR r a b) (a + 1) (n - 1) else n47 n f r a (b - 1)
/-- the model's next order -/
def n7 (n : Nat) : Nat → List Nat → Option (List Nat)
  | 0, _ => none
  | x + 1, r => if r.getD x 0 ≤ r.getD (x + 1) 0 then some (n47 n 8 r x (n - 1)) else n7 n x r
def enM (n : Nat) : Nat → List Nat → List (List Nat)
  | 0, _ => []
  | f + 1, row => row :: match n7 n (n - 1) row with
    | none => []
    | some r => enM n f r
/-- both go through the same orders, in the same order -/
theorem en_eq : ((List.range 7).all fun n => enC n n 721 (fiL n 8 0 []) == enM n 721 (List.range n)) = true := by decide +kernel
