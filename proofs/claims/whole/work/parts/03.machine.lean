/-! THE ABSTRACT MACHINE. A value: an int, a long, a reference to the object of a kind and a number, null (true) or nothing known (false). The memory: whole numbers, other values, what is alive, each by kind, number, place. -/
abbrev AV : Type := Int32 ⊕ Int64 ⊕ (Nat × Nat) ⊕ Bool
abbrev aI (x : Int32) : AV := .inl x
abbrev aL (x : Int64) : AV := .inr (.inl x)
abbrev aR (c i : Nat) : AV := .inr (.inr (.inl (c, i)))
abbrev aN : AV := .inr (.inr (.inr true))
abbrev aU : AV := .inr (.inr (.inr false))
abbrev MI : Type := Nat → Nat → Nat → Int32
abbrev MR : Type := Nat → Nat → Nat → AV
abbrev LV : Type := Nat → Nat → Bool
abbrev MM : Type := MI × MR × LV
abbrev PL : Type := List (Nat × Nat)
abbrev PO : Type := AV → MM → Prop
abbrev XT : Type := Nat → PL → Nat → Nat → List AV → List AV → MM → PO → Prop
def u3 {α : Type} (f : Nat → Nat → Nat → α) (c i k : Nat) (v : α) : Nat → Nat → Nat → α := fun c' i' k' => if c' = c ∧ i' = i ∧ k' = k then v else f c' i' k'
def u2 {α : Type} (f : Nat → Nat → Nat → α) (c i : Nat) (g : Nat → α) : Nat → Nat → Nat → α := fun c' i' k' => if c' = c ∧ i' = i then g k' else f c' i' k'
def u1 {α : Type} (f : Nat → Nat → α) (c i : Nat) (v : α) : Nat → Nat → α := fun c' i' => if c' = c ∧ i' = i then v else f c' i'
/-- the kinds of objects: 0 Day, 1 Marks, 2 Orders, 3 Picture, 4 Reader, 5 Shop, 6 Tokens, 7 Told, 8 Wall, 9 the house, 10 the model; 11 the script, 12 .. 15 the reader's static arrays, 16 a text, 17 its bytes, 18 the wall's static array; arrays from 20 on -/
def aks : List (FieldType × Nat) := [(.int, 600), (.int, 4), (.object "StencilHouse$Shop", 2), (.object "StencilHouse$Day", 2), (.object "StencilHouse$Picture", 2), (.object "StencilHouse$Marks", 2), (.int, 6), (.int, 6), (.int, 6), (.int, 160), (.int, 25), (.int, 8), (.int, 8), (.int, 8), (.int, 30), (.int, 5), (.int, 0), (.int, 10), (.int, 6), (.int, 6), (.int, 6), (.int, 6), (.int, 6), (.int, 6), (.int, 6), (.int, 10), (.int, 175), (.object "StencilHouse$Told", 3), (.int, 0), (.int, 0), (.byte, 2400), (.int, 4), (.int, 4), (.int, 4), (.int, 16), (.int, 320), (.int, 1288), (.int, 208), (.int, 264), (.int, 161), (.int, 5), (.int, 6), (.int, 6), (.int, 6), (.int, 6), (.int, 6), (.int, 25), (.int, 6), (.int, 6), (.int, 6), (.int, 117649), (.int, 175), (.boolean, 3)]
def ak (c : Nat) : Option (FieldType × Nat) := match Nat.ble 20 c with
  | true => aks[c - 20]?
  | false => none
def stk (c : Nat) : Bool := Nat.ble 11 c && Nat.ble c 19
def sta (c : Nat) : Option (List Int32) := match c with
  | 12 => some [0, 4, 10, 11, 13]
  | 13 => some [2, 1, -1, 2, 2, 1, 1, 3, 3, 1, -1, 3, 2]
  | 14 => some [1, 1, 0, 0, 0, 0, 0, 0, 0, 0, 1, 0, 0, 1, 0, 0, 0, 0, 0, 0, 0, 0, 0, 0, 0, 0, 0, 1, 0, 0, 0, 0, 0, 0, 0, 0, 0, 0, 0]
  | 15 => some [5, 5, 0, 10, 0, 0, 31, 0, 0, 5, 9, 0, 5, 9, 0, 5, 0, 0, 5, 0, 0, 5, 4, 4, 5, 4, 4, 9, 0, 0, 9, 0, 0, 4, 4, 5, 4, 4, 0]
  | 18 => some [0, 0, 0, 0, 1, 2, 3, 3, 4, 5]
  | _ => none
def stx : List (List Int32) := [[115, 105, 122, 101], [115, 108, 105, 112], [115, 104, 101, 101, 116], [119, 101, 97, 114], [115, 112, 114, 97, 121], [102, 108, 105, 112], [116, 117, 114, 110], [115, 108, 105, 100, 101], [112, 97, 116, 99, 104], [119, 97, 115, 104], [114, 111, 119], [116, 111, 112], [98, 97, 114, 101]]
/-- links of a class: fields (kind, place, whether a whole number); calls (how, which, arguments beside the receiver, locals, answer, objects made); constants; made classes; array classes; static fields -/
abbrev LK : Type := List (Nat × Nat × Nat × Bool) × List (Nat × Nat × Nat × Nat × Nat × Nat × Nat) × List (Nat × AV) × List (Nat × Nat) × List (Nat × FieldType) × List (Nat × AV)
def cI (n : Int) : Int32 := match n with
  | .ofNat n => Int32.ofNat n
  | .negSucc n => - Int32.ofNat (n + 1)
def tg (pc : Nat) (off : Int) : Nat := match off with
  | .ofNat n => pc + n
  | .negSucc n => pc - (n + 1)
def pI (S : List AV) (f : Int32 → List AV → Prop) : Prop := match S with
  | .inl x :: S => f x S
  | _ => False
def pL (S : List AV) (f : Int64 → List AV → Prop) : Prop := match S with
  | .inr (.inl x) :: S => f x S
  | _ => False
def pR (S : List AV) (f : Nat → Nat → List AV → Prop) : Prop := match S with
  | .inr (.inr (.inl q)) :: S => f q.1 q.2 S
  | _ => False
/-- a reference or null -/
def pA (S : List AV) (f : AV → List AV → Prop) : Prop := match S with
  | .inr (.inr (.inl q)) :: S => f (aR q.1 q.2) S
  | .inr (.inr (.inr true)) :: S => f aN S
  | _ => False
def pN (S : List AV) (fr fn : List AV → Prop) : Prop := match S with
  | .inr (.inr (.inl _)) :: S => fr S
  | .inr (.inr (.inr true)) :: S => fn S
  | _ => False
def pV (S : List AV) (f : AV → List AV → Prop) : Prop := match S with
  | v :: S => f v S
  | _ => False
/-- a list's row of a key -/
def pK {α : Type} (l : List (Nat × α)) (k : Nat) (f : α → Prop) : Prop := match l.lookup k with
  | some v => f v
  | none => False
/-- a class's kind -/
def pB (b : Bool) (A : Prop) : Prop := match b with
  | true => A
  | false => False
def pP (P : PL) (f : Nat → Nat → PL → Prop) : Prop := match P with
  | q :: P => f q.1 q.2 P
  | [] => False
def pO {α : Type} (o : Option α) (f : α → Prop) : Prop := match o with
  | some v => f v
  | none => False
/-- an answer of one word that is a whole number -/
def isIT2 (t : FieldType) : Bool := match t with
  | .boolean | .byte | .char => true
  | _ => false
def p1 (v : AV) (f : AV → Prop) : Prop := match v with
  | .inl x => f (aI x)
  | .inr (.inr (.inl q)) => f (aR q.1 q.2)
  | .inr (.inr (.inr true)) => f aN
  | _ => False
def gL (L : List AV) (k : Nat) : AV := L.getD k aU
/-- a value of one word comes into a local -/
def sL (L : List AV) (k : Nat) (v : AV) (f : List AV → Prop) : Prop := match Nat.blt k L.length with
  | true => (match k with
    | 0 => f (L.set 0 v)
    | j + 1 => (match gL L j with
      | .inr (.inl _) => False
      | _ => f (L.set (j + 1) v)))
  | false => False
def sL2 (L : List AV) (k : Nat) (x : Int64) (f : List AV → Prop) : Prop := match Nat.blt (k + 1) L.length with
  | true => (match k with
    | 0 => f ((L.set 0 (aL x)).set 1 aU)
    | j + 1 => (match gL L j with
      | .inr (.inl _) => False
      | _ => f ((L.set (j + 1) (aL x)).set (j + 2) aU)))
  | false => False
def brc (c : Jvm.ClassFile.Cond) (x y : Int32) (a b : Prop) : Prop := match c with
  | .eq => (x = y → a) ∧ (¬ x = y → b)
  | .ne => (¬ x = y → a) ∧ (x = y → b)
  | .lt => (x < y → a) ∧ (¬ x < y → b)
  | .ge => (y ≤ x → a) ∧ (¬ y ≤ x → b)
  | .gt => (y < x → a) ∧ (¬ y < x → b)
  | .le => (x ≤ y → a) ∧ (¬ x ≤ y → b)
def onI (f : Int32 → MM → Prop) : PO := fun v M => match v with
  | .inl x => f x M
  | _ => False
def onA (c : Nat) (fn : MM → Prop) (f : Nat → MM → Prop) : PO := fun v M => match v with
  | .inr (.inr (.inl q)) => q.1 = c ∧ f q.2 M
  | .inr (.inr (.inr true)) => fn M
  | _ => False
/-- behind a call, by the kind of its answer: none, a whole number, a reference to an object of a kind or null -/
def onR (r : Nat) (fv : MM → Prop) (f : AV → MM → Prop) : PO := match r with
  | 0 => fun _ M => fv M
  | 1 => onI fun x M => f (aI x) M
  | r + 2 => onA r (fun M => f aN M) (fun j M => f (aR r j) M)
/-- one more call -/
def pD (d : Nat) (f : Nat → Prop) : Prop := match d with
  | 0 => False
  | d + 1 => f d
def isInt (t : FieldType) : Bool := match t with
  | .int => true
  | _ => false
/-- the locals at a method's entry -/
def ent : List AV → Nat → List AV
  | [], n => List.replicate n aU
  | .inr (.inl x) :: A, n => .inr (.inl x) :: aU :: ent A (n - 2)
  | v :: A, n => v :: ent A (n - 1)
def swT (x : Int32) (pc : Nat) (J : Nat → Prop) : Int → List Int → Prop
  | _, [] => True
  | lo, o :: os => (x = cI lo → J (tg pc o)) ∧ swT x pc J (lo + 1) os
def swL (x : Int32) (pc : Nat) (J : Nat → Prop) (dflt : Int) : List (Int × Int) → Prop
  | [] => J (tg pc dflt)
  | (v, o) :: os => (x = cI v → J (tg pc o)) ∧ (¬ x = cI v → swL x pc J dflt os)
def dv (t : FieldType) : AV := match t with
  | .long => aL 0
  | _ => aN
def isIT (t : FieldType) : Bool := match t with
  | .int | .boolean | .byte => true
  | _ => false
/-- the types of the objects' places -/
def fts : List (List FieldType) := [[.int, .array .int],
  [.int, .array .int, .array .int, .array .int],
  [.array .int, .array .int, .array .int, .array .int, .array .int, .int, .int],
  [.array .int],
  [.object "StencilHouse$Shop", .object "StencilHouse$Day", .object "StencilHouse$Picture", .object "StencilHouse$Marks", .int, .int, .object "StencilHouse$Tokens", .array .int, .array .int, .int, .int],
  [.int, .int, .int, .int, .array .int, .array .int, .array .int, .int, .int, .int, .int],
  [.array .int, .int, .int, .int, .int, .int],
  [.array .int, .int, .int, .int, .array .int, .array (.object "StencilHouse$Shop"), .array (.object "StencilHouse$Day"), .array (.object "StencilHouse$Picture"), .array (.object "StencilHouse$Marks")],
  [.object "StencilHouse$Shop", .array .int, .array .int, .array .int, .array .int, .array .int, .int, .int, .int, .int, .int, .int],
  [.object "StencilHouse$Told", .array (.object "StencilHouse$Told"), .object "StencilHouse$Reader", .object "StencilHouse$Wall", .object "StencilHouse$Orders"],
  [.int, .array .byte, .array .int, .array .int, .array .int, .array .int, .array .int, .array .int, .array .int, .array .int, .int, .int, .int, .int, .int, .long, .int, .int, .int, .array .int, .array .int, .int, .boolean, .int, .int, .int, .int, .int, .int, .array .int, .array .int, .array .int, .array .int, .array .int, .array .int, .int, .int, .int, .int, .array .int, .array .int, .array .int, .array .int, .int, .int, .int, .int, .int, .array .int, .int, .array .boolean]]
/-- the type of a place -/
def ftk (c k : Nat) : FieldType := match Nat.ble 20 c with
  | true => (match aks[c - 20]? with
    | some q => q.1
    | none => .int)
  | false => (fts.getD c []).getD k .int
def sz1 (k : Nat) : Nat := match Nat.ble 20 k with
  | true => ((ak k).getD (.int, 0)).2
  | false => (classes.getD k ("", fun _ => ("", "", "", false), 0)).2.2
/-- an object that was made: its places are empty, it is alive -/
def mk (M : MM) (c i : Nat) : MM := (u2 M.1 c i (fun _ => 0), u2 M.2.1 c i (fun k => if k < sz1 c then dv (ftk c k) else M.2.1 c i k), u1 M.2.2 c i true)
/-- whether a place is final -/
def finB (c j : Nat) : Bool := ((classes.getD c ("", fun _ => ("", "", "", false), 0)).2.1 j).2.2.2
def stepI (gl : Nat) (gx : Nat → Int32) (X : XT) (d : Nat) (R : LK) (rt : Option FieldType) (hw : Nat) (oc : String) (Q : PO) (K J : Nat → PL → List AV → List AV → MM → Prop) (i : Instr) (pc : Nat) (P : PL) (L S : List AV) (M : MM) : Prop :=
  match i with
  | .aload_n k => pA [gL L k.val] fun v _ => K (pc + 1) P L (v :: S) M
  | .aload k => pA [gL L k] fun v _ => K (pc + 2) P L (v :: S) M
  | .iload_n k => pI [gL L k.val] fun x _ => K (pc + 1) P L (aI x :: S) M
  | .iload k => pI [gL L k] fun x _ => K (pc + 2) P L (aI x :: S) M
  | .lload_n k => pL [gL L k.val] fun x _ => K (pc + 1) P L (aL x :: S) M
  | .lload k => pL [gL L k] fun x _ => K (pc + 2) P L (aL x :: S) M
  | .astore_n k => pA S fun v S => sL L k.val v fun L => K (pc + 1) P L S M
  | .astore k => pA S fun v S => sL L k v fun L => K (pc + 2) P L S M
  | .istore_n k => pI S fun x S => sL L k.val (aI x) fun L => K (pc + 1) P L S M
  | .istore k => pI S fun x S => sL L k (aI x) fun L => K (pc + 2) P L S M
  | .lstore k => pL S fun x S => sL2 L k x fun L => K (pc + 2) P L S M
  | .iinc k n => pI [gL L k] fun x _ => sL L k (aI (x + cI n)) fun L => K (pc + 3) P L S M
  | .iconst n => K (pc + 1) P L (aI (cI n) :: S) M
  | .bipush n => K (pc + 2) P L (aI (cI n) :: S) M
  | .sipush n => K (pc + 3) P L (aI (cI n) :: S) M
  | .lconst n => K (pc + 1) P L (aL (Int64.ofNat n.val) :: S) M
  | .aconst_null => K (pc + 1) P L (aN :: S) M
  | .ldc k => pK R.2.2.1 k fun v => p1 v fun v => K (pc + 2) P L (v :: S) M
  | .ldc_w k => pK R.2.2.1 k fun v => pI [v] fun x _ => K (pc + 3) P L (aI x :: S) M
  | .ldc2_w k => pK R.2.2.1 k fun v => pL [v] fun x _ => K (pc + 3) P L (aL x :: S) M
  | .iadd => pI S fun y S => pI S fun x S => K (pc + 1) P L (aI (x + y) :: S) M
  | .isub => pI S fun y S => pI S fun x S => K (pc + 1) P L (aI (x - y) :: S) M
  | .imul => pI S fun y S => pI S fun x S => K (pc + 1) P L (aI (x * y) :: S) M
  | .idiv => pI S fun y S => pI S fun x S => ¬ y = 0 ∧ K (pc + 1) P L (aI (x / y) :: S) M
  | .irem => pI S fun y S => pI S fun x S => ¬ y = 0 ∧ K (pc + 1) P L (aI (x - x / y * y) :: S) M
  | .iand => pI S fun y S => pI S fun x S => K (pc + 1) P L (aI (x &&& y) :: S) M
  | .ior => pI S fun y S => pI S fun x S => K (pc + 1) P L (aI (x ||| y) :: S) M
  | .ixor => pI S fun y S => pI S fun x S => K (pc + 1) P L (aI (x ^^^ y) :: S) M
  | .ishl => pI S fun y S => pI S fun x S => K (pc + 1) P L (aI (x <<< (y &&& 31)) :: S) M
  | .ishr => pI S fun y S => pI S fun x S => K (pc + 1) P L (aI (x >>> (y &&& 31)) :: S) M
  | .iushr => pI S fun y S => pI S fun x S => K (pc + 1) P L (aI ((x.toUInt32 >>> (y.toUInt32 &&& Int32.toUInt32 31)).toInt32) :: S) M
  | .ineg => pI S fun x S => K (pc + 1) P L (aI (- x) :: S) M
  | .i2l => pI S fun x S => K (pc + 1) P L (aL x.toInt64 :: S) M
  | .i2b => pI S fun x S => K (pc + 1) P L (aI x.toInt8.toInt32 :: S) M
  | .i2c => pI S fun x S => K (pc + 1) P L (aI (x.toUInt32 % 65536).toInt32 :: S) M
  | .lshl => pI S fun y S => pL S fun x S => K (pc + 1) P L (aL (x <<< (y.toInt64 &&& 63)) :: S) M
  | .lor => pL S fun y S => pL S fun x S => K (pc + 1) P L (aL (x ||| y) :: S) M
  | .lcmp => pL S fun y S => pL S fun x S => K (pc + 1) P L (aI (lg_cmp x y) :: S) M
  | .dup => pV S fun v S => p1 v fun v => K (pc + 1) P L (v :: v :: S) M
  | .dup2 => pV S fun w S => pV S fun v S => p1 w fun w => p1 v fun v => K (pc + 1) P L (w :: v :: w :: v :: S) M
  | .pop => pV S fun v S => p1 v fun _ => K (pc + 1) P L S M
  | .goto o => J (tg pc o) P L S M
  | .if_icmp c o => pI S fun y S => pI S fun x S => brc c x y (J (tg pc o) P L S M) (K (pc + 3) P L S M)
  | .ifCond c o => pI S fun x S => brc c x 0 (J (tg pc o) P L S M) (K (pc + 3) P L S M)
  | .ifnull o => pN S (fun S => K (pc + 3) P L S M) (fun S => J (tg pc o) P L S M)
  | .ifnonnull o => pN S (fun S => J (tg pc o) P L S M) (fun S => K (pc + 3) P L S M)
  | .tableswitch o lo hi os => pI S fun x S => (x < cI lo ∨ cI hi < x → J (tg pc o) P L S M) ∧ swT x pc (fun t => J t P L S M) lo os.toList
  | .lookupswitch o ps => pI S fun x S => swL x pc (fun t => J t P L S M) o ps.toList
  | .getfield k => pR S fun c i S => pK R.1 k fun e => pB (Nat.beq c e.1) (match Nat.beq e.1 16 with
    | true => K (pc + 3) P L ((match e.2.2 with
      | true => aI 0
      | false => aR 17 i) :: S) M
    | false => K (pc + 3) P L ((match e.2.2 with
      | true => aI (M.1 c i e.2.1)
      | false => M.2.1 c i e.2.1) :: S) M)
  | .putfield k => pV S fun v S => pR S fun c i S => pK R.1 k fun e => pB (Nat.beq c e.1) <| pB (match finB c e.2.1 with
    | true => Nat.beq hw 2 && decide (oc = (classes.getD c ("", fun _ => ("", "", "", false), 0)).1)
    | false => Nat.blt c 11) (match e.2.2 with
    | true => pI [v] fun x _ => (match ftk c e.2.1 with
      | .int => K (pc + 3) P L S (u3 M.1 c i e.2.1 x, M.2)
      | t => (narrow t (.int x) = .int x ∧ fits t (.int x) = true) ∧ K (pc + 3) P L S (u3 M.1 c i e.2.1 x, M.2))
    | false => (match ftk c e.2.1 with
      | .long => pL [v] fun x _ => K (pc + 3) P L S (M.1, u3 M.2.1 c i e.2.1 (aL x), M.2.2)
      | _ => pA [v] fun v _ => K (pc + 3) P L S (M.1, u3 M.2.1 c i e.2.1 v, M.2.2)))
  | .getstatic k => pK R.2.2.2.2.2 k fun v => p1 v fun v => K (pc + 3) P L (v :: S) M
  | .iaload => pI S fun j S => pR S fun c i S => (match ak c with
    | some q => pB (isInt q.1) (vp_in j q.2 ∧ K (pc + 1) P L (aI (M.1 c i j.toNatClampNeg) :: S) M)
    | none => (match sta c with
      | some l => vp_in j l.length ∧ K (pc + 1) P L (aI (l.getD j.toNatClampNeg 0) :: S) M
      | none => pB (Nat.beq c 11) (vp_in j gl ∧ K (pc + 1) P L (aI (gx j.toNatClampNeg) :: S) M)))
  | .baload => pI S fun j S => pR S fun c i S => (match ak c with
    | some q => pB (isIT q.1 && !isInt q.1) (vp_in j q.2 ∧ K (pc + 1) P L (aI (M.1 c i j.toNatClampNeg) :: S) M)
    | none => pB (Nat.beq c 17) (vp_in j (stx.getD i []).length ∧ K (pc + 1) P L (aI ((stx.getD i []).getD j.toNatClampNeg 0) :: S) M))
  | .aaload => pI S fun j S => pR S fun c i S => pO (ak c) fun q => (match q.1 with
    | .object _ => vp_in j q.2 ∧ K (pc + 1) P L (M.2.1 c i j.toNatClampNeg :: S) M
    | _ => False)
  | .iastore => pI S fun x S => pI S fun j S => pR S fun c i S => pO (ak c) fun q => pB (isInt q.1) (vp_in j q.2 ∧ K (pc + 1) P L S (u3 M.1 c i j.toNatClampNeg x, M.2))
  | .bastore => pI S fun x S => pI S fun j S => pR S fun c i S => pO (ak c) fun q => pB (isIT q.1 && !isInt q.1) (vp_in j q.2 ∧ K (pc + 1) P L S (u3 M.1 c i j.toNatClampNeg (vp_nar q.1 x), M.2))
  | .aastore => pR S fun c' i' S => pI S fun j S => pR S fun c i S => pO (ak c) fun q => (match q.1 with
    | .object C => ((classes.getD c' ("", fun _ => ("", "", "", false), 0)).1 = C ∧ c' < 11) ∧ vp_in j q.2 ∧ K (pc + 1) P L S (M.1, u3 M.2.1 c i j.toNatClampNeg (aR c' i'), M.2.2)
    | _ => False)
  | .arraylength => pR S fun c i S => (match ak c with
    | some q => K (pc + 1) P L (aI (Int32.ofNat q.2) :: S) M
    | none => (match sta c with
      | some l => K (pc + 1) P L (aI (Int32.ofNat l.length) :: S) M
      | none => (match Nat.beq c 11 with
        | true => K (pc + 1) P L (aI (Int32.ofNat gl) :: S) M
        | false => pB (Nat.beq c 17) (K (pc + 1) P L (aI (Int32.ofNat (stx.getD i []).length) :: S) M))))
  | .new k => pP P fun c i P => pK R.2.2.2.1 k fun c' => pB (Nat.beq c c') (M.2.2 c i = false ∧ K (pc + 3) P L (aR c i :: S) (mk M c i))
  | .newarray t => pI S fun x S => pP P fun c i P => pO (ak c) fun q => (newarray.typeOf t = q.1 ∧ x = Int32.ofNat q.2) ∧ M.2.2 c i = false ∧ K (pc + 2) P L (aR c i :: S) (mk M c i)
  | .anewarray k => pI S fun x S => pP P fun c i P => pO (ak c) fun q => (R.2.2.2.2.1.lookup k = some q.1 ∧ x = Int32.ofNat q.2) ∧ M.2.2 c i = false ∧ K (pc + 3) P L (aR c i :: S) (mk M c i)
  | .ireturn => pI S fun x S => pB S.isEmpty (match rt with
    | some .int => Q (aI x) M
    | some t => (match isIT2 t with
      | true => narrow t (.int x) = .int x ∧ Q (aI x) M
      | false => False)
    | _ => False)
  | .areturn => pA S fun v S => pB S.isEmpty (match rt with
    | some (.object _) => Q v M
    | _ => False)
  | .return_ => pB S.isEmpty (match rt with
    | none => Q aU M
    | _ => False)
  | .invokevirtual k => pK R.2.1 k fun e => pR (S.drop e.2.2.1) fun c i T => pB (Nat.beq (c + 10) e.1) (pD d fun d => (T.length ≤ 4 ∧ (S.take e.2.2.1).length = e.2.2.1 ∧ (ent (aR c i :: (S.take e.2.2.1).reverse) e.2.2.2.1).length = e.2.2.2.1) ∧ X d (P.take e.2.2.2.2.2) e.2.1 0 (ent (aR c i :: (S.take e.2.2.1).reverse) e.2.2.2.1) [] M (onR e.2.2.2.2.1 (fun M => K (pc + 3) (P.drop e.2.2.2.2.2) L T M) fun v M => K (pc + 3) (P.drop e.2.2.2.2.2) L (v :: T) M))
  | .invokestatic k => pK R.2.1 k fun e => (match e.1 with
    | 1 => pD d fun d => ((S.drop e.2.2.1).length ≤ 4 ∧ (S.take e.2.2.1).length = e.2.2.1 ∧ (ent (S.take e.2.2.1).reverse e.2.2.2.1).length = e.2.2.2.1) ∧ X d (P.take e.2.2.2.2.2) e.2.1 0 (ent (S.take e.2.2.1).reverse e.2.2.2.1) [] M (onR e.2.2.2.2.1 (fun M => K (pc + 3) (P.drop e.2.2.2.2.2) L (S.drop e.2.2.1) M) fun v M => K (pc + 3) (P.drop e.2.2.2.2.2) L (v :: S.drop e.2.2.1) M)
    | 5 => pD d fun _ => pI S fun n S => pI S fun dp S => pR S fun c' i' S => pI S fun sp S => pR S fun c i S => pO (ak c) fun q => pO (ak c') fun q' => pB (isInt q.1 && isInt q'.1) ((S.length ≤ 4 ∧ ¬ sp < 0 ∧ ¬ dp < 0 ∧ ¬ n < 0 ∧ sp.toNatClampNeg + n.toNatClampNeg ≤ q.2 ∧ dp.toNatClampNeg + n.toNatClampNeg ≤ q'.2) ∧ K (pc + 3) P L S (u2 M.1 c' i' (va_cpy (M.1 c i) (M.1 c' i') sp.toNatClampNeg dp.toNatClampNeg n.toNatClampNeg), M.2))
    | 6 => pD d fun d => pD d fun _ => pI S fun n S => pI S fun x S => (S.length ≤ 4 ∧ ¬ x < 0 ∧ x < n) ∧ K (pc + 3) P L S M
    | 7 => pD d fun _ => pI S fun y S => pI S fun x S => S.length ≤ 4 ∧ K (pc + 3) P L (aI (if x < y then y else x) :: S) M
    | 8 => pD d fun _ => pI S fun y S => pI S fun x S => S.length ≤ 4 ∧ K (pc + 3) P L (aI (if y < x then y else x) :: S) M
    | _ => False)
  | .invokespecial k => pK R.2.1 k fun e => (match e.1 with
    | 2 => pR (S.drop e.2.2.1) fun c i T => pD d fun d => (T.length ≤ 4 ∧ (S.take e.2.2.1).length = e.2.2.1 ∧ (ent (aR c i :: (S.take e.2.2.1).reverse) e.2.2.2.1).length = e.2.2.2.1) ∧ X d (P.take e.2.2.2.2.2) e.2.1 0 (ent (aR c i :: (S.take e.2.2.1).reverse) e.2.2.2.1) [] M (fun _ M => K (pc + 3) (P.drop e.2.2.2.2.2) L T M)
    | 3 => pR (S.drop e.2.2.1) fun c i T => pD d fun d => (T.length ≤ 4 ∧ (S.take e.2.2.1).length = e.2.2.1 ∧ (ent (aR c i :: (S.take e.2.2.1).reverse) e.2.2.2.1).length = e.2.2.2.1) ∧ X d (P.take e.2.2.2.2.2) e.2.1 0 (ent (aR c i :: (S.take e.2.2.1).reverse) e.2.2.2.1) [] M (fun _ M => K (pc + 3) (P.drop e.2.2.2.2.2) L T M)
    | 4 => pD d fun _ => pR S fun _ _ S => S.length ≤ 4 ∧ K (pc + 3) P L S M
    | _ => False)
  | _ => False
/-- a run of pieces of code: it goes on from a place where a piece begins, and leaves to X at any other -/
def runB (gl : Nat) (gx : Nat → Int32) (X : XT) (d : Nat) (R : LK) (rt : Option FieldType) (hw : Nat) (oc : String) (Q : PO) (y : Nat) (T : List (Nat × List Instr)) : Nat → List Instr → Nat → PL → List AV → List AV → MM → Prop
  | 0, _, pc, P, L, S, M => X d P y pc L S M Q
  | f + 1, [], pc, P, L, S, M => (match T.lookup pc with
    | some is => runB gl gx X d R rt hw oc Q y T f is pc P L S M
    | none => X d P y pc L S M Q)
  | f + 1, i :: is, pc, P, L, S, M => stepI gl gx X d R rt hw oc Q (fun pc P L S M => runB gl gx X d R rt hw oc Q y T f is pc P L S M) (fun pc P L S M => runB gl gx X d R rt hw oc Q y T f [] pc P L S M) i pc P L S M
