/-! THE ABSTRACT MACHINE. Addresses below am_NC are constants (enum constants, static arrays, Strings and their bytes, the script), those from it on are cells made, in their order. A heap: kinds, ints, longs, references, how many cells are there (with the constants), what was counted of cells and slots. -/
abbrev AH : Type := (Nat → Nat × Nat) × (Nat → Nat → Int32) × (Nat → Nat → Int64) × (Nat → Nat → Option Nat) × Nat × Nat × Nat
def am_NC : Nat := 200
def kd (h : AH) (a : Nat) : Nat × Nat := h.1 a
def iv (h : AH) (a j : Nat) : Int32 := h.2.1 a j
def jv (h : AH) (a j : Nat) : Int64 := h.2.2.1 a j
def rv (h : AH) (a j : Nat) : Option Nat := h.2.2.2.1 a j
def nx (h : AH) : Nat := h.2.2.2.2.1
def nc (h : AH) : Nat := h.2.2.2.2.2.1
def ns (h : AH) : Nat := h.2.2.2.2.2.2
def u2 {α : Type} (f : Nat → Nat → α) (a j : Nat) (x : α) : Nat → Nat → α := fun b i => if b = a ∧ i = j then x else f b i
def setI (h : AH) (a j : Nat) (x : Int32) : AH := (h.1, u2 h.2.1 a j x, h.2.2)
def setJ (h : AH) (a j : Nat) (x : Int64) : AH := (h.1, h.2.1, u2 h.2.2.1 a j x, h.2.2.2)
def setR (h : AH) (a j : Nat) (x : Option Nat) : AH := (h.1, h.2.1, h.2.2.1, u2 h.2.2.2.1 a j x, h.2.2.2.2)
/-- a new cell of n slots -/
def mkA (h : AH) (k : Nat × Nat) (n : Nat) : AH := (fun b => if b = nx h then k else h.1 b, fun b i => if b = nx h then 0 else h.2.1 b i, fun b i => if b = nx h then 0 else h.2.2.1 b i, fun b i => if b = nx h then none else h.2.2.2.1 b i, nx h + 1, nc h + 1, ns h + n)
/-- cells that nobody keeps -/
def bump (h : AH) (c n : Nat) : AH := (h.1, h.2.1, h.2.2.1, h.2.2.2.1, nx h, nc h + c, ns h + n)
/-- System.arraycopy of ints -/
def cpyI (h : AH) (a sp b dp n : Nat) : AH := (h.1, fun x i => if x = b ∧ dp ≤ i ∧ i < dp + n then h.2.1 a (sp + (i - dp)) else h.2.1 x i, h.2.2)
/-- an outcome: what is returned, or which exception leaves (0 IllegalState, 1 IllegalArgument, 2 IndexOutOfBounds) -/
abbrev AO : Type := Option Value ⊕ Nat
abbrev AR : Type := Option (AO × AH)
abbrev ALs : Type := List (Option Value)
/-- locals: W are the slots where a long or double may lie -/
def clrW (W : List Nat) (L : ALs) (i : Nat) : ALs := match i with
  | 0 => L
  | j + 1 => if W.contains j then L.set j none else L
def st1 (W : List Nat) (L : ALs) (i : Nat) (v : Option Value) : ALs := (clrW W L i).set i v
def st2 (W : List Nat) (L : ALs) (i : Nat) (v : Value) : ALs := ((clrW W L i).set i (some v)).set (i + 1) none
def ldA (L : ALs) (i : Nat) : Option Value := match L[i]? with
  | some (some v) => some v
  | _ => none
/-- a method's locals at its entry -/
def mkL (W : List Nat) : Nat → List Value → ALs
  | _, [] => []
  | i, .long x :: vs => (if W.contains i then some (.long x) else none) :: none :: mkL W (i + 2) vs
  | i, .double x :: vs => (if W.contains i then some (.double x) else none) :: none :: mkL W (i + 2) vs
  | i, v :: vs => some v :: mkL W (i + 1) vs
def padL (n : Nat) (L : ALs) : ALs := L ++ List.replicate (n - L.length) none
/-- a branch' target -/
def am_tg (pc : Nat) (off : Int) : Option Nat := match (pc : Int) + off with
  | .ofNat t => some t
  | .negSucc _ => none
/-- what ireturn does to an int, by the method's type (1 int, 5 boolean, 6 char, 7 byte) -/
def am_nar (t : Nat) (v : Int32) : Option Int32 := if t = 1 then some v else if t = 5 then (if v = 0 ∨ v = 1 then some v else none) else if t = 6 then (if (v.toUInt32 % 65536).toInt32 = v then some v else none) else if t = 7 then (if v.toInt8.toInt32 = v then some v else none) else none
/-- an index in its row -/
def inR (i : Int32) (n : Nat) : Bool := decide (¬ i < 0) && decide (i.toNatClampNeg < n)
abbrev ARun : Type := Nat → Nat → Nat → ALs → List Value → AH → AR
/-- where an exception that leaves a callee is caught: the place behind the handler's astore, and its slot -/
def hdl (k pc E : Nat) : Option (Nat × Nat) := match mH k with
  | [] => none
  | hs => match hs.find? (fun x => decide (x.1 ≤ pc) && decide (pc < x.2.1) && x.2.2.2 == ([13, 19, 24].getD E 0)) with
    | some (_, _, hpc, _) => match decode (mB k) hpc with
      | .ok (.astore_n i, n) => some (hpc + n, i)
      | .ok (.astore i, n) => some (hpc + n, i)
      | _ => none
    | none => none
/-- a callee has ended: on, or to the handler, or out -/
def aEnd (rec : ARun) (d k pc n : Nat) (L : ALs) (rest : List Value) : AR → AR
  | none => none
  | some (.inl v, h) => rec d k (pc + n) L (v.toList ++ rest) h
  | some (.inr E, h) => match mH k with
    | [] => some (.inr E, h)
    | _ => match hdl k pc E with
      | some (p, i) => rec d k p (st1 (mW k) L i none) [] h
      | none => none
/-- a method is begun -/
def aGo (rec : ARun) (d k : Nat) (args : List Value) (h : AH) : AR := match d with
  | 0 => none
  | d + 1 => if (mkL (mW k) 0 args).length ≤ mL k then rec d k 0 (padL (mL k) (mkL (mW k) 0 args)) [] h else none
def isRf : Value → Bool
  | .ref _ => true
  | .null => true
  | .float _ => true
  | _ => false
def aInv (rec : ARun) (d k pc n : Nat) (L : ALs) (st : List Value) (h : AH) (m : Nat × Nat × Nat × (Nat × Nat)) : AR :=
  let (y, na, kc, rk) := m
  if kc = 0 ∨ kc = 1 ∨ kc = 7 then
    (if na ≤ st.length ∧ (st.drop na).length ≤ 4 then aEnd rec d k pc n L (st.drop na) (aGo rec d y (st.take na).reverse h) else none)
  else if kc = 2 ∨ kc = 3 ∨ kc = 4 ∨ kc = 5 then
    (match st.drop na with
     | .ref b :: rest => if kd h b = rk ∧ rest.length ≤ 4 then aEnd rec d k pc n L rest (aGo rec d y (.ref b :: (st.take na).reverse) h) else none
     | _ => none)
  else if kc = 8 then
    (match d, st with
     | d' + 1, .int z :: .int dp :: .ref b :: .int sp :: .ref a :: rest =>
       if (kd h a).1 = 1 ∧ (kd h b).1 = 1 ∧ ¬ sp < 0 ∧ ¬ dp < 0 ∧ ¬ z < 0 ∧ sp.toNatClampNeg + z.toNatClampNeg ≤ (kd h a).2 ∧ dp.toNatClampNeg + z.toNatClampNeg ≤ (kd h b).2 ∧ rest.length ≤ 4 then
         rec (d' + 1) k (pc + n) L rest (cpyI h a sp.toNatClampNeg b dp.toNatClampNeg z.toNatClampNeg) else none
     | _, _ => none)
  else if kc = 9 then
    (match d, st with
     | d' + 1, .ref _ :: rest => if rest.length ≤ 4 then rec (d' + 1) k (pc + n) L rest h else none
     | _, _ => none)
  else if kc = 10 ∨ kc = 11 then
    (match d, st with
     | d' + 1, .int y :: .int x :: rest => if rest.length ≤ 4 then rec (d' + 1) k (pc + n) L (.int (if kc = 10 then (if x < y then y else x) else (if y < x then y else x)) :: rest) h else none
     | _, _ => none)
  else none
def aIf (rec : ARun) (d k pc n : Nat) (L : ALs) (st : List Value) (h : AH) (off : Int) (c : Prop) [Decidable c] : AR := match am_tg pc off with
  | some t => if c then rec d k t L st h else rec d k (pc + n) L st h
  | none => none
def aNewA (rec : ARun) (d k pc n t : Nat) (L : ALs) (st : List Value) (h : AH) : AR := match st with
  | .int z :: st => if ¬ z < 0 ∧ z.toNatClampNeg ≤ 10000 then rec d k (pc + n) L (.ref (nx h) :: st) (mkA h (t, z.toNatClampNeg) z.toNatClampNeg) else none
  | _ => none
/-- an instruction's length -/
def ilen : Instr → Nat
  | .bipush _ => 2
  | .sipush _ => 3
  | .ldc _ => 2
  | .ldc2_w _ => 3
  | .iload _ => 2
  | .lload _ => 2
  | .dload _ => 2
  | .aload _ => 2
  | .istore _ => 2
  | .lstore _ => 2
  | .dstore _ => 2
  | .astore _ => 2
  | .iinc _ _ => 3
  | .goto _ => 3
  | .ifCond _ _ => 3
  | .if_icmp _ _ => 3
  | .if_acmp _ _ => 3
  | .ifnull _ => 3
  | .ifnonnull _ => 3
  | .getfield _ => 3
  | .putfield _ => 3
  | .getstatic _ => 3
  | .newarray _ => 2
  | .anewarray _ => 3
  | .new _ => 3
  | .invokestatic _ => 3
  | .invokevirtual _ => 3
  | .invokespecial _ => 3
  | _ => 1
def ilOK (i : Instr) (n : Nat) : Bool := match i with
  | .tableswitch .. => true
  | i => n == ilen i
/-- may this method write this field: it isn't final, or it is the class's own constructor -/
def pfOK (k ci j : Nat) : Bool := !((vwCl.getD ci ("", TX1, 0)).2.1 j).2.2.2 || ((mY k).name == "<init>" && ((vwCl.getD ci ("", TX1, 0)).2.1 j).1 == cNm (mC k))
set_option maxRecDepth 100000 in
set_option maxHeartbeats 4000000 in
/-- one instruction, the rest by rec -/
def aStep (rec : ARun) : ARun := fun d k pc L st h => match decode (mB k) pc with
  | .ok (i, n) => if ilOK i n = true then (match i with
    | .aconst_null => rec d k (pc + n) L (.null :: st) h
    | .iconst z => rec d k (pc + n) L (.int (Int32.ofInt z) :: st) h
    | .bipush z => rec d k (pc + n) L (.int (Int8.ofInt z).toInt32 :: st) h
    | .sipush z => rec d k (pc + n) L (.int (Int16.ofInt z).toInt32 :: st) h
    | .lconst z => rec d k (pc + n) L (.long (Int64.ofNat (z : Nat)) :: st) h
    | .dconst z => if z = 0 then rec d k (pc + n) L (.double 0 :: st) h else none
    | .ldc ix => (match lR (mC k) ix with
      | some (.ref v) => rec d k (pc + n) L (.ref v :: st) h
      | _ => none)
    | .ldc2_w ix => (match lR (mC k) ix with
      | some (.long v) => rec d k (pc + n) L (.long v :: st) h
      | _ => none)
    | .iload_n j => (match ldA L j with
      | some (.int x) => rec d k (pc + n) L (.int x :: st) h
      | _ => none)
    | .iload j => (match ldA L j with
      | some (.int x) => rec d k (pc + n) L (.int x :: st) h
      | _ => none)
    | .lload_n j => (match ldA L j with
      | some (.long x) => rec d k (pc + n) L (.long x :: st) h
      | _ => none)
    | .lload j => (match ldA L j with
      | some (.long x) => rec d k (pc + n) L (.long x :: st) h
      | _ => none)
    | .dload j => (match ldA L j with
      | some (.double x) => rec d k (pc + n) L (.double x :: st) h
      | _ => none)
    | .aload_n j => (match ldA L j with
      | some v => if isRf v then rec d k (pc + n) L (v :: st) h else none
      | _ => none)
    | .aload j => (match ldA L j with
      | some v => if isRf v then rec d k (pc + n) L (v :: st) h else none
      | _ => none)
    | .istore_n j => (match st with
      | .int x :: st => if (j : Nat) < mL k then rec d k (pc + n) (st1 (mW k) L j (some (.int x))) st h else none
      | _ => none)
    | .istore j => (match st with
      | .int x :: st => if j < mL k then rec d k (pc + n) (st1 (mW k) L j (some (.int x))) st h else none
      | _ => none)
    | .astore_n j => (match st with
      | v :: st => if isRf v ∧ (j : Nat) < mL k then rec d k (pc + n) (st1 (mW k) L j (some v)) st h else none
      | _ => none)
    | .astore j => (match st with
      | v :: st => if isRf v ∧ j < mL k then rec d k (pc + n) (st1 (mW k) L j (some v)) st h else none
      | _ => none)
    | .lstore_n j => (match st with
      | .long x :: st => if (j : Nat) + 1 < mL k ∧ (mW k).contains (j : Nat) then rec d k (pc + n) (st2 (mW k) L j (.long x)) st h else none
      | _ => none)
    | .lstore j => (match st with
      | .long x :: st => if j + 1 < mL k ∧ (mW k).contains j then rec d k (pc + n) (st2 (mW k) L j (.long x)) st h else none
      | _ => none)
    | .dstore j => (match st with
      | .double x :: st => if j + 1 < mL k ∧ (mW k).contains j then rec d k (pc + n) (st2 (mW k) L j (.double x)) st h else none
      | _ => none)
    | .iinc j z => (match ldA L j with
      | some (.int x) => if j < mL k then rec d k (pc + n) (st1 (mW k) L j (some (.int (x + Int32.ofInt z)))) st h else none
      | _ => none)
    | .dup => (match st with
      | .int x :: st => rec d k (pc + n) L (.int x :: .int x :: st) h
      | .ref x :: st => rec d k (pc + n) L (.ref x :: .ref x :: st) h
      | _ => none)
    | .pop => (match st with
      | .int _ :: st => rec d k (pc + n) L st h
      | .ref _ :: st => rec d k (pc + n) L st h
      | _ => none)
    | .iadd => (match st with
      | .int y :: .int x :: st => rec d k (pc + n) L (.int (x + y) :: st) h
      | _ => none)
    | .isub => (match st with
      | .int y :: .int x :: st => rec d k (pc + n) L (.int (x - y) :: st) h
      | _ => none)
    | .imul => (match st with
      | .int y :: .int x :: st => rec d k (pc + n) L (.int (x * y) :: st) h
      | _ => none)
    | .iand => (match st with
      | .int y :: .int x :: st => rec d k (pc + n) L (.int (x &&& y) :: st) h
      | _ => none)
    | .ior => (match st with
      | .int y :: .int x :: st => rec d k (pc + n) L (.int (x ||| y) :: st) h
      | _ => none)
    | .idiv => (match st with
      | .int y :: .int x :: st => if y = 0 then none else rec d k (pc + n) L (.int (x / y) :: st) h
      | _ => none)
    | .irem => (match st with
      | .int y :: .int x :: st => if y = 0 then none else rec d k (pc + n) L (.int (x - x / y * y) :: st) h
      | _ => none)
    | .ineg => (match st with
      | .int x :: st => rec d k (pc + n) L (.int (-x) :: st) h
      | _ => none)
    | .ishr => (match st with
      | .int y :: .int x :: st => rec d k (pc + n) L (.int (x >>> (y &&& 31)) :: st) h
      | _ => none)
    | .iushr => (match st with
      | .int y :: .int x :: st => rec d k (pc + n) L (.int (x.toUInt32 >>> (y.toUInt32 &&& Int32.toUInt32 31)).toInt32 :: st) h
      | _ => none)
    | .ladd => (match st with
      | .long y :: .long x :: st => rec d k (pc + n) L (.long (x + y) :: st) h
      | _ => none)
    | .lmul => (match st with
      | .long y :: .long x :: st => rec d k (pc + n) L (.long (x * y) :: st) h
      | _ => none)
    | .lcmp => (match st with
      | .long y :: .long x :: st => rec d k (pc + n) L (.int (lg_cmp x y) :: st) h
      | _ => none)
    | .i2l => (match st with
      | .int x :: st => rec d k (pc + n) L (.long x.toInt64 :: st) h
      | _ => none)
    | .l2i => (match st with
      | .long x :: st => rec d k (pc + n) L (.int x.toInt32 :: st) h
      | _ => none)
    | .i2b => (match st with
      | .int x :: st => rec d k (pc + n) L (.int x.toInt8.toInt32 :: st) h
      | _ => none)
    | .i2c => (match st with
      | .int x :: st => rec d k (pc + n) L (.int (x.toUInt32 % 65536).toInt32 :: st) h
      | _ => none)
    | .i2d => (match st with
      | .int x :: st => rec d k (pc + n) L (.double (FP.i2d x) :: st) h
      | _ => none)
    | .ddiv => (match st with
      | .double y :: .double x :: st => if FP.ddiv x y &&& 0x7fffffffffffffff ≤ 0x7ff0000000000000 then rec d k (pc + n) L (.double (FP.ddiv x y) :: st) h else none
      | _ => none)
    | .dcmp op => (match st with
      | .double y :: .double x :: st => rec d k (pc + n) L (.int (Op.cmpValue (FP.dcmp x y) op) :: st) h
      | _ => none)
    | .goto off => (match am_tg pc off with
      | some t => rec d k t L st h
      | none => none)
    | .ifCond c off => (match st with
      | .int x :: st => (match c with
        | .eq => aIf rec d k pc n L st h off (x = 0)
        | .ne => aIf rec d k pc n L st h off (¬ x = 0)
        | .lt => aIf rec d k pc n L st h off (x < 0)
        | .ge => aIf rec d k pc n L st h off (0 ≤ x)
        | .gt => aIf rec d k pc n L st h off (0 < x)
        | .le => aIf rec d k pc n L st h off (x ≤ 0))
      | _ => none)
    | .if_icmp c off => (match st with
      | .int y :: .int x :: st => (match c with
        | .eq => aIf rec d k pc n L st h off (x = y)
        | .ne => aIf rec d k pc n L st h off (¬ x = y)
        | .lt => aIf rec d k pc n L st h off (x < y)
        | .ge => aIf rec d k pc n L st h off (y ≤ x)
        | .gt => aIf rec d k pc n L st h off (y < x)
        | .le => aIf rec d k pc n L st h off (x ≤ y))
      | _ => none)
    | .if_acmp c off => (match st with
      | .ref y :: .ref x :: st => if (x < 49 ∧ y < 49) ∨ (am_NC ≤ x ∧ am_NC ≤ y) then (match c with
        | .eq => aIf rec d k pc n L st h off (x = y)
        | .ne => aIf rec d k pc n L st h off (¬ x = y)) else none
      | _ => none)
    | .ifnull off => (match st with
      | .ref _ :: st => rec d k (pc + n) L st h
      | .null :: st => (match am_tg pc off with
        | some t => rec d k t L st h
        | none => none)
      | _ => none)
    | .ifnonnull off => (match st with
      | .null :: st => rec d k (pc + n) L st h
      | .ref _ :: st => (match am_tg pc off with
        | some t => rec d k t L st h
        | none => none)
      | _ => none)
    | .tableswitch df lo hi offs => (match st with
      | .int x :: st => if x.toInt < lo ∨ hi < x.toInt then (match am_tg pc df with
          | some t => rec d k t L st h
          | none => none)
        else (match offs[(x.toInt - lo).toNat]? with
          | some off => (match am_tg pc off with
            | some t => rec d k t L st h
            | none => none)
          | none => none)
      | _ => none)
    | .getfield ix => (match fR (mC k) ix, st with
      | some (kk, j, t), .ref a :: st => if kd h a = kk then (if t = 1 then rec d k (pc + n) L (.int (iv h a j) :: st) h else if t = 2 then rec d k (pc + n) L (.long (jv h a j) :: st) h else if t = 4 then rec d k (pc + n) L (va_rf (rv h a j) :: st) h else none) else none
      | _, _ => none)
    | .putfield ix => (match fR (mC k) ix, st with
      | some (kk, j, t), v :: .ref a :: st => if kd h a = kk ∧ kk.1 = 0 ∧ pfOK k kk.2 j = true then (match v with
          | .int x => if t = 1 then rec d k (pc + n) L st (setI h a j x) else none
          | .long x => if t = 2 then rec d k (pc + n) L st (setJ h a j x) else none
          | .ref x => if t = 4 then rec d k (pc + n) L st (setR h a j (some x)) else none
          | _ => none) else none
      | _, _ => none)
    | .getstatic ix => (match sR (mC k) ix with
      | some v => rec d k (pc + n) L (v :: st) h
      | none => none)
    | .arraylength => (match st with
      | .ref a :: st => if (1 ≤ (kd h a).1 ∧ (kd h a).1 ≤ 6) ∨ (12 ≤ (kd h a).1 ∧ (kd h a).1 ≤ 15) then rec d k (pc + n) L (.int (nI (kd h a).2) :: st) h else none
      | _ => none)
    | .iaload => (match st with
      | .int i :: .ref a :: st => if ((kd h a).1 = 1 ∨ (kd h a).1 = 12) ∧ inR i (kd h a).2 then rec d k (pc + n) L (.int (iv h a i.toNatClampNeg) :: st) h else none
      | _ => none)
    | .baload => (match st with
      | .int i :: .ref a :: st => if ((kd h a).1 = 3 ∨ (kd h a).1 = 13) ∧ inR i (kd h a).2 then rec d k (pc + n) L (.int (iv h a i.toNatClampNeg) :: st) h else none
      | _ => none)
    | .laload => (match st with
      | .int i :: .ref a :: st => if (kd h a).1 = 2 ∧ inR i (kd h a).2 then rec d k (pc + n) L (.long (jv h a i.toNatClampNeg) :: st) h else none
      | _ => none)
    | .aaload => (match st with
      | .int i :: .ref a :: st => if ((4 ≤ (kd h a).1 ∧ (kd h a).1 ≤ 6) ∨ (kd h a).1 = 14 ∨ (kd h a).1 = 15) ∧ inR i (kd h a).2 then rec d k (pc + n) L (va_rf (rv h a i.toNatClampNeg) :: st) h else none
      | _ => none)
    | .iastore => (match st with
      | .int x :: .int i :: .ref a :: st => if (kd h a).1 = 1 ∧ inR i (kd h a).2 then rec d k (pc + n) L st (setI h a i.toNatClampNeg x) else none
      | _ => none)
    | .bastore => (match st with
      | .int x :: .int i :: .ref a :: st => if (kd h a).1 = 3 ∧ inR i (kd h a).2 then rec d k (pc + n) L st (setI h a i.toNatClampNeg x.toInt8.toInt32) else none
      | _ => none)
    | .lastore => (match st with
      | .long x :: .int i :: .ref a :: st => if (kd h a).1 = 2 ∧ inR i (kd h a).2 then rec d k (pc + n) L st (setJ h a i.toNatClampNeg x) else none
      | _ => none)
    | .aastore => (match st with
      | .ref x :: .int i :: .ref a :: st => if inR i (kd h a).2 ∧ (((kd h a).1 = 4 ∧ kd h x = (10, 0)) ∨ ((kd h a).1 = 5 ∧ kd h x = (0, 4)) ∨ ((kd h a).1 = 6 ∧ kd h x = (0, 2))) then rec d k (pc + n) L st (setR h a i.toNatClampNeg (some x)) else none
      | _ => none)
    | .newarray t => (match t with
      | .int => aNewA rec d k pc n 1 L st h
      | .long => aNewA rec d k pc n 2 L st h
      | .byte => aNewA rec d k pc n 3 L st h
      | _ => none)
    | .anewarray ix => (match aR (mC k) ix with
      | some t => aNewA rec d k pc n t L st h
      | none => none)
    | .new ix => (match tR k pc with
      | some E => if 10 ≤ d ∧ st.length ≤ 4 then some (.inr E, bump h 1 6) else none
      | none => (match nR (mC k) ix with
        | some (ci, N) => rec d k (pc + n) L (.ref (nx h) :: st) (mkA h (0, ci) N)
        | none => none))
    | .invokestatic ix => (match cR (mC k) ix with
      | some m => aInv rec d k pc n L st h m
      | none => none)
    | .invokevirtual ix => (match cR (mC k) ix with
      | some m => aInv rec d k pc n L st h m
      | none => none)
    | .invokespecial ix => (match cR (mC k) ix with
      | some m => aInv rec d k pc n L st h m
      | none => none)
    | .ireturn => (match st with
      | [.int v] => (match am_nar (mR k) v with
        | some w => some (.inl (some (.int w)), h)
        | none => none)
      | _ => none)
    | .lreturn => (match st with
      | [.long v] => if mR k = 2 then some (.inl (some (.long v)), h) else none
      | _ => none)
    | .dreturn => (match st with
      | [.double v] => if mR k = 3 then some (.inl (some (.double v)), h) else none
      | _ => none)
    | .areturn => (match st with
      | [.ref v] => if mR k = 4 then some (.inl (some (.ref v)), h) else none
      | [.null] => if mR k = 4 then some (.inl (some .null), h) else none
      | _ => none)
    | .return_ => (match st with
      | [] => if mR k = 0 then some (.inl none, h) else none
      | _ => none)
    | _ => none) else none
  | _ => none
def exec : Nat → ARun
  | 0 => fun _ _ _ _ _ _ => none
  | f + 1 => aStep (exec f)
