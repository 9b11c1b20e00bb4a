/-! THE ABSTRACT MACHINE. Addresses below am_NC are constants (enum constants, static arrays, Strings and their bytes, the script), those from it on are cells made, in their order. A heap: kinds, ints, longs, references, how many cells are there (with the constants), what was counted of cells and slots. -/
abbrev AH : Type := (Nat → Nat × Nat) × (Nat → Nat → Int32) × (Nat → Nat → Int64) × (Nat → Nat → Option Nat) × Nat × Nat × Nat
def am_NC : Nat := 200
def kd (h : AH) (a : Nat) : Nat × Nat := h.1 a
def iv (h : AH) (a j : Nat) : Int32 := h.2.1 a j
def jv (h : AH) (a j : Nat) : Int64 := h.2.2.1 a j
def rv (h : AH) (a j : Nat) : Option Nat := h.2.2.2.1 a j
def nx (h : AH) : Nat := h.2.2.2.2.1
def nc (h : AH) : Nat := h.2.2.2.2.2.1
def ns (h : AH) : Nat := h.2.2.2.2.2.2
def u2 {α : Type} (f : Nat → Nat → α) (a j : Nat) (x : α) : Nat → Nat → α := fun b i => if b = a ∧ i = j then x else f b i
def setI (h : AH) (a j : Nat) (x : Int32) : AH := (h.1, u2 h.2.1 a j x, h.2.2)
def setJ (h : AH) (a j : Nat) (x : Int64) : AH := (h.1, h.2.1, u2 h.2.2.1 a j x, h.2.2.2)
def setR (h : AH) (a j : Nat) (x : Option Nat) : AH := (h.1, h.2.1, h.2.2.1, u2 h.2.2.2.1 a j x, h.2.2.2.2)
/-- a new cell of n slots -/
def mkA (h : AH) (k : Nat × Nat) (n : Nat) : AH := (fun b => if b = nx h then k else h.1 b, fun b i => if b = nx h then 0 else h.2.1 b i, fun b i => if b = nx h then 0 else h.2.2.1 b i, fun b i => if b = nx h then none else h.2.2.2.1 b i, nx h + 1, nc h + 1, ns h + n)
/-- cells that nobody keeps -/
def bump (h : AH) (c n : Nat) : AH := (h.1, h.2.1, h.2.2.1, h.2.2.2.1, nx h, nc h + c, ns h + n)
/-- System.arraycopy of ints -/
def cpyI (h : AH) (a sp b dp n : Nat) : AH := (h.1, fun x i => if x = b ∧ dp ≤ i ∧ i < dp + n then h.2.1 a (sp + (i - dp)) else h.2.1 x i, h.2.2)
/-- a copy of an array of ints, bytes or booleans -/
def clnI (h : AH) (a : Nat) : AH := (fun b => if b = nx h then kd h a else h.1 b, fun b i => if b = nx h then iv h a i else h.2.1 b i, fun b i => if b = nx h then 0 else h.2.2.1 b i, fun b i => if b = nx h then none else h.2.2.2.1 b i, nx h + 1, nc h + 1, ns h + (kd h a).2)
/-- a value that a byte holds -/
def isBy (x : Int32) : Bool := decide (x.toInt8.toInt32 = x)
/-- an outcome: what is returned, or which exception leaves (0 IllegalState, 1 IllegalArgument, 2 IndexOutOfBounds) -/
abbrev AO : Type := Option Value ⊕ Nat
abbrev AR : Type := Option (AO × AH)
abbrev ALs : Type := List (Option Value)
/-- locals: W are the slots where a long or double may lie -/
def clrW (_W : List Nat) (L : ALs) (i : Nat) : ALs := match i with
  | 0 => L
  | j + 1 => match L[j]? with
    | some (some (.long _)) => L.set j none
    | some (some (.double _)) => L.set j none
    | _ => L
def st1 (W : List Nat) (L : ALs) (i : Nat) (v : Option Value) : ALs := (clrW W L i).set i v
def st2 (W : List Nat) (L : ALs) (i : Nat) (v : Value) : ALs := ((clrW W L i).set i (some v)).set (i + 1) none
def ldA (L : ALs) (i : Nat) : Option Value := match L[i]? with
  | some (some v) => some v
  | _ => none
/-- a method's locals at its entry -/
def mkL (W : List Nat) : Nat → List Value → ALs
  | _, [] => []
  | i, .long x :: vs => (if W.contains i then some (.long x) else none) :: none :: mkL W (i + 2) vs
  | i, .double x :: vs => (if W.contains i then some (.double x) else none) :: none :: mkL W (i + 2) vs
  | i, v :: vs => some v :: mkL W (i + 1) vs
def padL (n : Nat) (L : ALs) : ALs := L ++ List.replicate (n - L.length) none
/-- a branch' target -/
def am_tg (pc : Nat) (off : Int) : Option Nat := match (pc : Int) + off with
  | .ofNat t => some t
  | .negSucc _ => none
/-- what ireturn does to an int, by the method's type (1 int, 5 boolean, 6 char, 7 byte) -/
def am_nar (t : Nat) (v : Int32) : Option Int32 := if t = 1 then some v else if t = 5 then (if v = 0 ∨ v = 1 then some v else none) else if t = 6 then (if (v.toUInt32 % 65536).toInt32 = v then some v else none) else if t = 7 then (if v.toInt8.toInt32 = v then some v else none) else none
/-- an index in its row -/
def inR (i : Int32) (n : Nat) : Bool := decide (¬ i < 0) && decide (i.toNatClampNeg < n)
def isRf : Value → Bool
  | .ref _ => true
  | .null => true
  | .float _ => true
  | _ => false
/-- may this method write this field: it isn't final, or it is the class's own constructor -/
def pfOK (k ci j : Nat) : Bool := !((vwCl.getD ci ("", TX1, 0)).2.1 j).2.2.2 || ((mY k).name == "<init>" && ((vwCl.getD ci ("", TX1, 0)).2.1 j).1 == cNm (mC k))
