/-! THE ABSTRACT MACHINE'S STEP. -/
abbrev ARun : Type := Nat → Nat → Nat → ALs → List Value → AH → AR
/-- where an exception that leaves a callee is caught: the place behind the handler's astore, and its slot -/
def hdl (k pc E : Nat) : Option (Nat × Nat) := match mH k with
  | [] => none
  | hs => match hs.find? (fun x => decide (x.1 ≤ pc) && decide (pc < x.2.1) && x.2.2.2 == ([79].getD E 0)) with
    | some (_, _, hpc, _) => match decode (mB k) hpc with
      | .ok (.astore_n i, 1) => if (i : Nat) < mL k then some (hpc + 1, i) else none
      | .ok (.astore i, 2) => if i < mL k then some (hpc + 2, i) else none
      | _ => none
    | none => none
/-- a callee has ended: on, or to the handler, or out -/
def aEnd (rec : ARun) (d k pc n : Nat) (L : ALs) (rest : List Value) : AR → AR
  | none => none
  | some (.inl v, h) => rec d k (pc + n) L (v.toList ++ rest) h
  | some (.inr E, h) => match mH k with
    | [] => some (.inr E, h)
    | _ => match hdl k pc E with
      | some (p, i) => rec d k p (st1 (mW k) L i none) [] h
      | none => none
/-- a method is begun -/
def aGo (rec : ARun) (d k : Nat) (args : List Value) (h : AH) : AR := match d with
  | 0 => none
  | d + 1 => if (mkL (mW k) 0 args).length ≤ mL k then rec d k 0 (padL (mL k) (mkL (mW k) 0 args)) [] h else none
/-- what one instruction does: on (place, locals, stack, heap); a call (method, arguments, the instruction's length, locals, rest of the stack, heap); an end -/
abbrev ACt : Type := (Nat × ALs × List Value × AH) ⊕ ((Nat × List Value × Nat × ALs × List Value × AH) ⊕ AR)
def aNo : ACt := .inr (.inr none)
/-- which sorts of call an instruction makes (0 invokestatic, 1 invokevirtual, 2 invokespecial) -/
def ikOK (ik kc : Nat) : Bool := if ik = 0 then [0, 1, 7, 8, 10, 11].contains kc else if ik = 1 then [2, 5, 6, 14, 15, 16].contains kc else [3, 4, 9, 13].contains kc
/-- what arraycopy may copy: ints, bytes, a text's bytes -/
def am_cpk (h : AH) (a b : Nat) (sp z : Int32) : Bool := (decide ((kd h a).1 = 1) && decide ((kd h b).1 = 1)) || (decide ((kd h a).1 = 3) && decide ((kd h b).1 = 3) && (List.range z.toNatClampNeg).all (fun i => isBy (iv h a (sp.toNatClampNeg + i)))) || (decide ((kd h a).1 = 13) && decide (54 ≤ a) && decide ((kd h b).1 = 3))
def aInv (ik d pc n : Nat) (L : ALs) (st : List Value) (h : AH) (m : Nat × Nat × Nat × (Nat × Nat)) : ACt :=
  let (y, na, kc, rk) := m
  if ikOK ik kc = false then aNo
  else if kc = 0 ∨ kc = 1 ∨ kc = 7 then
    (if na ≤ st.length ∧ ((st.drop na).length ≤ 4 ∨ stB (st.drop na) = true) then .inr (.inl (y, (st.take na).reverse, n, L, st.drop na, h)) else aNo)
  else if kc = 2 ∨ kc = 3 ∨ kc = 4 ∨ kc = 5 ∨ kc = 6 ∨ kc = 13 ∨ kc = 14 ∨ kc = 15 then
    (match st.drop na with
     | .ref b :: rest => if (kd h b = rk ∨ (rk = (0, 9) ∧ kd h b = (11, 0))) ∧ rest.length ≤ 4 then .inr (.inl (y, .ref b :: (st.take na).reverse, n, L, rest, h)) else aNo
     | _ => aNo)
  else if kc = 8 then
    (match d, st with
     | d' + 1, .int z :: .int dp :: .ref b :: .int sp :: .ref a :: rest =>
       if am_cpk h a b sp z = true ∧ ¬ sp < 0 ∧ ¬ dp < 0 ∧ ¬ z < 0 ∧ sp.toNatClampNeg + z.toNatClampNeg ≤ (kd h a).2 ∧ dp.toNatClampNeg + z.toNatClampNeg ≤ (kd h b).2 ∧ rest.length ≤ 4 then
         .inl (pc + n, L, rest, cpyI h a sp.toNatClampNeg b dp.toNatClampNeg z.toNatClampNeg) else aNo
     | _, _ => aNo)
  else if kc = 16 then
    (match d, st with
     | d' + 1, .ref a :: rest => if ((kd h a).1 = rk.1 ∧ (rk.1 = 1 ∨ rk.1 = 3) ∧ (rk.1 = 3 → (List.range (kd h a).2).all (fun i => isBy (iv h a i)) = true)) ∧ rest.length ≤ 4 then .inl (pc + n, L, .ref (nx h) :: rest, clnI h a) else aNo
     | _, _ => aNo)
  else if kc = 9 then
    (match d, st with
     | d' + 1, .ref _ :: rest => if rest.length ≤ 4 then .inl (pc + n, L, rest, h) else aNo
     | _, _ => aNo)
  else if kc = 10 ∨ kc = 11 then
    (match d, st with
     | d' + 1, .int y :: .int x :: rest => if rest.length ≤ 4 then .inl (pc + n, L, .int (if kc = 10 then (if x < y then y else x) else (if y < x then y else x)) :: rest, h) else aNo
     | _, _ => aNo)
  else aNo
def aIf (pc n : Nat) (L : ALs) (st : List Value) (h : AH) (off : Int) (c : Prop) [Decidable c] : ACt := match am_tg pc off with
  | some t => if c then .inl (t, L, st, h) else .inl (pc + n, L, st, h)
  | none => aNo
def aNewA (pc n t : Nat) (L : ALs) (st : List Value) (h : AH) : ACt := match st with
  | .int z :: st => if ¬ z < 0 ∧ z.toNatClampNeg ≤ 10000 then .inl (pc + n, L, .ref (nx h) :: st, mkA h (t, z.toNatClampNeg) z.toNatClampNeg) else aNo
  | _ => aNo
/-- an instruction's length -/
def ilen : Instr → Nat
  | .bipush _ => 2
  | .sipush _ => 3
  | .ldc _ => 2
  | .ldc2_w _ => 3
  | .iload _ => 2
  | .lload _ => 2
  | .dload _ => 2
  | .aload _ => 2
  | .istore _ => 2
  | .lstore _ => 2
  | .dstore _ => 2
  | .astore _ => 2
  | .iinc _ _ => 3
  | .goto _ => 3
  | .ifCond _ _ => 3
  | .if_icmp _ _ => 3
  | .if_acmp _ _ => 3
  | .ifnull _ => 3
  | .ifnonnull _ => 3
  | .getfield _ => 3
  | .putfield _ => 3
  | .getstatic _ => 3
  | .newarray _ => 2
  | .anewarray _ => 3
  | .new _ => 3
  | .checkcast _ => 3
  | .invokestatic _ => 3
  | .invokevirtual _ => 3
  | .invokespecial _ => 3
  | _ => 1
def ilOK (i : Instr) (n : Nat) : Bool := match i with
  | .tableswitch .. => true
  | i => n == ilen i
set_option maxRecDepth 100000 in
set_option maxHeartbeats 4000000 in
/-- one instruction -/
def aOne (d k pc : Nat) (L : ALs) (st : List Value) (h : AH) : ACt := match decode (mB k) pc with
  | .ok (i, n) => if ilOK i n = true then (match i with
    | .aconst_null => .inl (pc + n, L, .null :: st, h)
    | .iconst z => .inl (pc + n, L, .int (Int32.ofInt z) :: st, h)
    | .bipush z => .inl (pc + n, L, .int (Int8.ofInt z).toInt32 :: st, h)
    | .sipush z => .inl (pc + n, L, .int (Int16.ofInt z).toInt32 :: st, h)
    | .lconst z => .inl (pc + n, L, .long (Int64.ofNat (z : Nat)) :: st, h)
    | .dconst z => if z = 0 then .inl (pc + n, L, .double 0 :: st, h) else aNo
    | .ldc ix => (match lR (mC k) ix with
      | some (.ref v) => .inl (pc + n, L, .ref v :: st, h)
      | some (.int v) => .inl (pc + n, L, .int v :: st, h)
      | _ => aNo)
    | .ldc2_w ix => (match lR (mC k) ix with
      | some (.long v) => .inl (pc + n, L, .long v :: st, h)
      | _ => aNo)
    | .iload_n j => (match ldA L j with
      | some (.int x) => .inl (pc + n, L, .int x :: st, h)
      | _ => aNo)
    | .iload j => (match ldA L j with
      | some (.int x) => .inl (pc + n, L, .int x :: st, h)
      | _ => aNo)
    | .lload_n j => (match ldA L j with
      | some (.long x) => .inl (pc + n, L, .long x :: st, h)
      | _ => aNo)
    | .lload j => (match ldA L j with
      | some (.long x) => .inl (pc + n, L, .long x :: st, h)
      | _ => aNo)
    | .dload j => (match ldA L j with
      | some (.double x) => .inl (pc + n, L, .double x :: st, h)
      | _ => aNo)
    | .aload_n j => (match ldA L j with
      | some v => if isRf v then .inl (pc + n, L, v :: st, h) else aNo
      | _ => aNo)
    | .aload j => (match ldA L j with
      | some v => if isRf v then .inl (pc + n, L, v :: st, h) else aNo
      | _ => aNo)
    | .istore_n j => (match st with
      | .int x :: st => if (j : Nat) < mL k then .inl (pc + n, st1 (mW k) L j (some (.int x)), st, h) else aNo
      | _ => aNo)
    | .istore j => (match st with
      | .int x :: st => if j < mL k then .inl (pc + n, st1 (mW k) L j (some (.int x)), st, h) else aNo
      | _ => aNo)
    | .astore_n j => (match st with
      | v :: st => if isRf v ∧ (j : Nat) < mL k then .inl (pc + n, st1 (mW k) L j (some v), st, h) else aNo
      | _ => aNo)
    | .astore j => (match st with
      | v :: st => if isRf v ∧ j < mL k then .inl (pc + n, st1 (mW k) L j (some v), st, h) else aNo
      | _ => aNo)
    | .lstore_n j => (match st with
      | .long x :: st => if (j : Nat) + 1 < mL k ∧ (mW k).contains (j : Nat) then .inl (pc + n, st2 (mW k) L j (.long x), st, h) else aNo
      | _ => aNo)
    | .lstore j => (match st with
      | .long x :: st => if j + 1 < mL k ∧ (mW k).contains j then .inl (pc + n, st2 (mW k) L j (.long x), st, h) else aNo
      | _ => aNo)
    | .dstore j => (match st with
      | .double x :: st => if j + 1 < mL k ∧ (mW k).contains j then .inl (pc + n, st2 (mW k) L j (.double x), st, h) else aNo
      | _ => aNo)
    | .iinc j z => (match ldA L j with
      | some (.int x) => if j < mL k then .inl (pc + n, st1 (mW k) L j (some (.int (x + Int32.ofInt z))), st, h) else aNo
      | _ => aNo)
    | .dup => (match st with
      | .int x :: st => .inl (pc + n, L, .int x :: .int x :: st, h)
      | .ref x :: st => .inl (pc + n, L, .ref x :: .ref x :: st, h)
      | _ => aNo)
    | .dup2 => (match st with
      | .int x :: .ref y :: st => .inl (pc + n, L, .int x :: .ref y :: .int x :: .ref y :: st, h)
      | _ => aNo)
    | .pop => (match st with
      | .int _ :: st => .inl (pc + n, L, st, h)
      | .ref _ :: st => .inl (pc + n, L, st, h)
      | _ => aNo)
    | .iadd => (match st with
      | .int y :: .int x :: st => .inl (pc + n, L, .int (x + y) :: st, h)
      | _ => aNo)
    | .isub => (match st with
      | .int y :: .int x :: st => .inl (pc + n, L, .int (x - y) :: st, h)
      | _ => aNo)
    | .imul => (match st with
      | .int y :: .int x :: st => .inl (pc + n, L, .int (x * y) :: st, h)
      | _ => aNo)
    | .iand => (match st with
      | .int y :: .int x :: st => .inl (pc + n, L, .int (x &&& y) :: st, h)
      | _ => aNo)
    | .ior => (match st with
      | .int y :: .int x :: st => .inl (pc + n, L, .int (x ||| y) :: st, h)
      | _ => aNo)
    | .idiv => (match st with
      | .int y :: .int x :: st => if y = 0 then aNo else .inl (pc + n, L, .int (x / y) :: st, h)
      | _ => aNo)
    | .irem => (match st with
      | .int y :: .int x :: st => if y = 0 then aNo else .inl (pc + n, L, .int (x - x / y * y) :: st, h)
      | _ => aNo)
    | .ineg => (match st with
      | .int x :: st => .inl (pc + n, L, .int (-x) :: st, h)
      | _ => aNo)
    | .ishl => (match st with
      | .int y :: .int x :: st => .inl (pc + n, L, .int (x <<< (y &&& 31)) :: st, h)
      | _ => aNo)
    | .ishr => (match st with
      | .int y :: .int x :: st => .inl (pc + n, L, .int (x >>> (y &&& 31)) :: st, h)
      | _ => aNo)
    | .iushr => (match st with
      | .int y :: .int x :: st => .inl (pc + n, L, .int (x.toUInt32 >>> (y.toUInt32 &&& Int32.toUInt32 31)).toInt32 :: st, h)
      | _ => aNo)
    | .ladd => (match st with
      | .long y :: .long x :: st => .inl (pc + n, L, .long (x + y) :: st, h)
      | _ => aNo)
    | .lmul => (match st with
      | .long y :: .long x :: st => .inl (pc + n, L, .long (x * y) :: st, h)
      | _ => aNo)
    | .lcmp => (match st with
      | .long y :: .long x :: st => .inl (pc + n, L, .int (lg_cmp x y) :: st, h)
      | _ => aNo)
    | .i2l => (match st with
      | .int x :: st => .inl (pc + n, L, .long x.toInt64 :: st, h)
      | _ => aNo)
    | .l2i => (match st with
      | .long x :: st => .inl (pc + n, L, .int x.toInt32 :: st, h)
      | _ => aNo)
    | .i2b => (match st with
      | .int x :: st => .inl (pc + n, L, .int x.toInt8.toInt32 :: st, h)
      | _ => aNo)
    | .i2c => (match st with
      | .int x :: st => .inl (pc + n, L, .int (x.toUInt32 % 65536).toInt32 :: st, h)
      | _ => aNo)
    | .i2d => (match st with
      | .int x :: st => .inl (pc + n, L, .double (FP.i2d x) :: st, h)
      | _ => aNo)
    | .ddiv => (match st with
      | .double y :: .double x :: st => if FP.ddiv x y &&& 0x7fffffffffffffff ≤ 0x7ff0000000000000 then .inl (pc + n, L, .double (FP.ddiv x y) :: st, h) else aNo
      | _ => aNo)
    | .dcmp op => (match st with
      | .double y :: .double x :: st => .inl (pc + n, L, .int (Op.cmpValue (FP.dcmp x y) op) :: st, h)
      | _ => aNo)
    | .goto off => (match am_tg pc off with
      | some t => .inl (t, L, st, h)
      | none => aNo)
    | .ifCond c off => (match st with
      | .int x :: st => (match c with
        | .eq => aIf pc n L st h off (x = 0)
        | .ne => aIf pc n L st h off (¬ x = 0)
        | .lt => aIf pc n L st h off (x < 0)
        | .ge => aIf pc n L st h off (0 ≤ x)
        | .gt => aIf pc n L st h off (0 < x)
        | .le => aIf pc n L st h off (x ≤ 0))
      | _ => aNo)
    | .if_icmp c off => (match st with
      | .int y :: .int x :: st => (match c with
        | .eq => aIf pc n L st h off (x = y)
        | .ne => aIf pc n L st h off (¬ x = y)
        | .lt => aIf pc n L st h off (x < y)
        | .ge => aIf pc n L st h off (y ≤ x)
        | .gt => aIf pc n L st h off (y < x)
        | .le => aIf pc n L st h off (x ≤ y))
      | _ => aNo)
    | .if_acmp c off => (match st with
      | .ref y :: .ref x :: st => if (x < 49 ∧ y < 49) ∨ (am_NC ≤ x ∧ am_NC ≤ y) then (match c with
        | .eq => aIf pc n L st h off (x = y)
        | .ne => aIf pc n L st h off (¬ x = y)) else aNo
      | _ => aNo)
    | .ifnull off => (match st with
      | .ref _ :: st => .inl (pc + n, L, st, h)
      | .null :: st => (match am_tg pc off with
        | some t => .inl (t, L, st, h)
        | none => aNo)
      | _ => aNo)
    | .ifnonnull off => (match st with
      | .null :: st => .inl (pc + n, L, st, h)
      | .ref _ :: st => (match am_tg pc off with
        | some t => .inl (t, L, st, h)
        | none => aNo)
      | _ => aNo)
    | .tableswitch df lo hi offs => (match st with
      | .int x :: st => if x.toInt < lo ∨ hi < x.toInt then (match am_tg pc df with
          | some t => .inl (t, L, st, h)
          | none => aNo)
        else (match offs[(x.toInt - lo).toNat]? with
          | some off => (match am_tg pc off with
            | some t => .inl (t, L, st, h)
            | none => aNo)
          | none => aNo)
      | _ => aNo)
    | .getfield ix => (match fR (mC k) ix, st with
      | some (kk, j, t), .ref a :: st => if kd h a = kk ∨ (kk = (0, 9) ∧ kd h a = (11, 0)) then (if t = 1 ∨ t = 7 then .inl (pc + n, L, .int (iv h a j) :: st, h) else if t = 2 then .inl (pc + n, L, .long (jv h a j) :: st, h) else if t = 4 then .inl (pc + n, L, va_rf (rv h a j) :: st, h) else aNo) else aNo
      | _, _ => aNo)
    | .putfield ix => (match fR (mC k) ix, st with
      | some (kk, j, t), v :: .ref a :: st => if kd h a = kk ∧ kk.1 = 0 ∧ pfOK k kk.2 j = true then (match v with
          | .int x => if t = 1 ∨ (t = 7 ∧ isBy x = true) then .inl (pc + n, L, st, setI h a j x) else aNo
          | .long x => if t = 2 then .inl (pc + n, L, st, setJ h a j x) else aNo
          | .ref x => if t = 4 then .inl (pc + n, L, st, setR h a j (some x)) else aNo
          | _ => aNo) else aNo
      | _, _ => aNo)
    | .getstatic ix => (match sR (mC k) ix with
      | some v => .inl (pc + n, L, v :: st, h)
      | none => aNo)
    | .arraylength => (match st with
      | .ref a :: st => if (1 ≤ (kd h a).1 ∧ (kd h a).1 ≤ 9) ∨ (12 ≤ (kd h a).1 ∧ (kd h a).1 ≤ 14) then .inl (pc + n, L, .int (nI (kd h a).2) :: st, h) else aNo
      | _ => aNo)
    | .iaload => (match st with
      | .int i :: .ref a :: st => if ((kd h a).1 = 1 ∨ (kd h a).1 = 12) ∧ inR i (kd h a).2 then .inl (pc + n, L, .int (iv h a i.toNatClampNeg) :: st, h) else aNo
      | _ => aNo)
    | .baload => (match st with
      | .int i :: .ref a :: st => if ((kd h a).1 = 3 ∨ (kd h a).1 = 13 ∨ (kd h a).1 = 9) ∧ inR i (kd h a).2 then .inl (pc + n, L, .int (iv h a i.toNatClampNeg) :: st, h) else aNo
      | _ => aNo)
    | .laload => (match st with
      | .int i :: .ref a :: st => if (kd h a).1 = 2 ∧ inR i (kd h a).2 then .inl (pc + n, L, .long (jv h a i.toNatClampNeg) :: st, h) else aNo
      | _ => aNo)
    | .aaload => (match st with
      | .int i :: .ref a :: st => if ((4 ≤ (kd h a).1 ∧ (kd h a).1 ≤ 8) ∨ (kd h a).1 = 14) ∧ inR i (kd h a).2 then .inl (pc + n, L, va_rf (rv h a i.toNatClampNeg) :: st, h) else aNo
      | _ => aNo)
    | .iastore => (match st with
      | .int x :: .int i :: .ref a :: st => if (kd h a).1 = 1 ∧ inR i (kd h a).2 then .inl (pc + n, L, st, setI h a i.toNatClampNeg x) else aNo
      | _ => aNo)
    | .bastore => (match st with
      | .int x :: .int i :: .ref a :: st => if (kd h a).1 = 3 ∧ inR i (kd h a).2 then .inl (pc + n, L, st, setI h a i.toNatClampNeg x.toInt8.toInt32) else if ((kd h a).1 = 9 ∧ (x = 0 ∨ x = 1)) ∧ inR i (kd h a).2 then .inl (pc + n, L, st, setI h a i.toNatClampNeg x) else aNo
      | _ => aNo)
    | .lastore => (match st with
      | .long x :: .int i :: .ref a :: st => if (kd h a).1 = 2 ∧ inR i (kd h a).2 then .inl (pc + n, L, st, setJ h a i.toNatClampNeg x) else aNo
      | _ => aNo)
    | .aastore => (match st with
      | .ref x :: .int i :: .ref a :: st => if inR i (kd h a).2 ∧ (((kd h a).1 = 4 ∧ kd h x = (10, 0)) ∨ ((kd h a).1 = 5 ∧ kd h x = (0, 4)) ∨ ((kd h a).1 = 6 ∧ kd h x = (0, 2)) ∨ ((kd h a).1 = 7 ∧ kd h x = (11, 0)) ∨ ((kd h a).1 = 8 ∧ (kd h x).1 = 1)) then .inl (pc + n, L, st, setR h a i.toNatClampNeg (some x)) else aNo
      | _ => aNo)
    | .newarray t => (match t with
      | .int => aNewA pc n 1 L st h
      | .long => aNewA pc n 2 L st h
      | .byte => aNewA pc n 3 L st h
      | .boolean => aNewA pc n 9 L st h
      | _ => aNo)
    | .anewarray ix => (match aR (mC k) ix with
      | some t => aNewA pc n t L st h
      | none => aNo)
    | .checkcast ix => (match xR (mC k) ix, st with
      | some t, .ref a :: st => if (kd h a).1 = t then .inl (pc + n, L, .ref a :: st, h) else aNo
      | _, _ => aNo)
    | .new ix => (match tR k pc with
      | some E => if 10 ≤ d ∧ st.length ≤ 4 then .inr (.inr (some (.inr E, bump h 1 6))) else aNo
      | none => (match nR (mC k) ix with
        | some (ci, N) => .inl (pc + n, L, .ref (nx h) :: st, mkA h (0, ci) N)
        | none => aNo))
    | .invokestatic ix => (match cR (mC k) ix with
      | some m => aInv 0 d pc n L st h m
      | none => aNo)
    | .invokevirtual ix => (match cR (mC k) ix with
      | some m => aInv 1 d pc n L st h m
      | none => aNo)
    | .invokespecial ix => (match cR (mC k) ix with
      | some m => aInv 2 d pc n L st h m
      | none => aNo)
    | .ireturn => (match st with
      | [.int v] => (match am_nar (mR k) v with
        | some w => .inr (.inr (some (.inl (some (.int w)), h)))
        | none => aNo)
      | _ => aNo)
    | .lreturn => (match st with
      | [.long v] => if mR k = 2 then .inr (.inr (some (.inl (some (.long v)), h))) else aNo
      | _ => aNo)
    | .dreturn => (match st with
      | [.double v] => if mR k = 3 then .inr (.inr (some (.inl (some (.double v)), h))) else aNo
      | _ => aNo)
    | .areturn => (match st with
      | [.ref v] => if mR k = 4 then .inr (.inr (some (.inl (some (.ref v)), h))) else aNo
      | [.null] => if mR k = 4 then .inr (.inr (some (.inl (some .null), h))) else aNo
      | _ => aNo)
    | .return_ => (match st with
      | [] => if mR k = 0 then .inr (.inr (some (.inl none, h))) else aNo
      | _ => aNo)
    | _ => aNo) else aNo
  | _ => aNo
/-- one instruction, the rest by rec -/
def aStep (rec : ARun) : ARun := fun d k pc L st h => match aOne d k pc L st h with
  | .inl (pc', L', st', h') => rec d k pc' L' st' h'
  | .inr (.inl (y, av, n, L', rest, h')) => aEnd rec d k pc n L' rest (aGo rec d y av h')
  | .inr (.inr r) => r
def exec : Nat → ARun
  | 0 => fun _ _ _ _ _ _ => none
  | f + 1 => aStep (exec f)
/-! counters grow, and more fuel changes nothing -/
def am_mono (h : AH) : ACt → Prop
  | .inl (_, _, _, h') => nc h ≤ nc h' ∧ ns h ≤ ns h'
  | .inr (.inl (_, _, _, _, _, h')) => nc h ≤ nc h' ∧ ns h ≤ ns h'
  | .inr (.inr (some (_, h'))) => nc h ≤ nc h' ∧ ns h ≤ ns h'
  | .inr (.inr none) => True
theorem am_mono_no {h : AH} : am_mono h aNo := trivial
theorem am_mono_if {pc n : Nat} {L : ALs} {st : List Value} {h : AH} {off : Int} {c : Prop} [Decidable c] : am_mono h (aIf pc n L st h off c) := by
  unfold aIf
  split
  · split <;> exact ⟨Nat.le_refl _, Nat.le_refl _⟩
  · exact trivial
theorem am_mono_newA {pc n t : Nat} {L : ALs} {st : List Value} {h : AH} : am_mono h (aNewA pc n t L st h) := by
  unfold aNewA
  split
  · split
    · exact ⟨Nat.le_succ _, Nat.le_add_right _ _⟩
    · exact trivial
  · exact trivial
set_option maxHeartbeats 1000000 in
theorem am_mono_inv {ik d pc n : Nat} {L : ALs} {st : List Value} {h : AH} {m : Nat × Nat × Nat × (Nat × Nat)} : am_mono h (aInv ik d pc n L st h m) := by
  unfold aInv
  obtain ⟨y, na, kc, rk⟩ := m
  dsimp only
  repeat' split
  all_goals first | exact trivial | exact ⟨Nat.le_refl _, Nat.le_refl _⟩ | exact ⟨Nat.le_succ _, Nat.le_add_right _ _⟩
set_option maxHeartbeats 4000000 in
set_option maxRecDepth 100000 in
theorem am_mono_one {d k pc : Nat} {L : ALs} {st : List Value} {h : AH} : am_mono h (aOne d k pc L st h) := by
  unfold aOne
  split
  · split
    · split
      all_goals first | exact am_mono_if | exact am_mono_newA | exact am_mono_inv | exact trivial | exact ⟨Nat.le_refl _, Nat.le_refl _⟩ | (repeat' split) <;> first | exact am_mono_if | exact am_mono_newA | exact am_mono_inv | exact trivial | exact ⟨Nat.le_refl _, Nat.le_refl _⟩ | exact ⟨Nat.le_succ _, Nat.le_add_right _ _⟩
    · exact trivial
  · exact trivial
def am_MonoR (rec : ARun) : Prop := ∀ d k pc L st h o h', rec d k pc L st h = some (o, h') → nc h ≤ nc h' ∧ ns h ≤ ns h'
theorem am_mono_step {rec : ARun} (ih : am_MonoR rec) : am_MonoR (aStep rec) := by
  intro d k pc L st h o h' hh
  have h1 := am_mono_one (d := d) (k := k) (pc := pc) (L := L) (st := st) (h := h)
  unfold aStep at hh
  split at hh
  · rename_i pc' L' st' h9 e
    rw [e] at h1
    have h2 := ih _ _ _ _ _ _ _ _ hh
    exact ⟨Nat.le_trans h1.1 h2.1, Nat.le_trans h1.2 h2.2⟩
  · rename_i y av n L' rest h9 e
    rw [e] at h1
    have key : ∀ r, aGo rec d y av h9 = some r → nc h9 ≤ nc r.2 ∧ ns h9 ≤ ns r.2 := by
      intro r hr
      obtain ⟨r1, r2⟩ := r
      unfold aGo at hr
      split at hr
      · cases hr
      · split at hr
        · exact ih _ _ _ _ _ _ _ _ hr
        · cases hr
    cases eg : aGo rec d y av h9 with
    | none => rw [eg] at hh; cases hh
    | some r =>
      have h3 := key r eg
      obtain ⟨r1, r2⟩ := r
      rw [eg] at hh
      have h4 : nc r2 ≤ nc h' ∧ ns r2 ≤ ns h' := by
        cases r1 with
        | inl v => exact ih _ _ _ _ _ _ _ _ hh
        | inr E =>
          unfold aEnd at hh
          dsimp only at hh
          split at hh
          · cases hh; exact ⟨Nat.le_refl _, Nat.le_refl _⟩
          · split at hh
            · exact ih _ _ _ _ _ _ _ _ hh
            · cases hh
      exact ⟨Nat.le_trans h1.1 (Nat.le_trans h3.1 h4.1), Nat.le_trans h1.2 (Nat.le_trans h3.2 h4.2)⟩
  · rename_i r e
    rw [e, hh] at h1
    exact h1
theorem am_mono_exec : ∀ f, am_MonoR (exec f)
  | 0 => fun _ _ _ _ _ _ _ _ h => by cases h
  | f + 1 => am_mono_step (am_mono_exec f)
def am_LeR (rec rec' : ARun) : Prop := ∀ d k pc L st h r, rec d k pc L st h = some r → rec' d k pc L st h = some r
theorem am_le_step {rec rec' : ARun} (ih : am_LeR rec rec') : am_LeR (aStep rec) (aStep rec') := by
  intro d k pc L st h r hh
  unfold aStep at hh ⊢
  split at hh
  · rename_i e
    exact ih _ _ _ _ _ _ _ hh
  · rename_i y av n L' rest h9 e
    cases eg : aGo rec d y av h9 with
    | none => rw [eg] at hh; cases hh
    | some q =>
      have eg' : aGo rec' d y av h9 = some q := by
        unfold aGo at eg ⊢
        cases d with
        | zero => cases eg
        | succ d =>
          dsimp only at eg ⊢
          split at eg
          · rename_i hc
            rw [if_pos hc]
            exact ih _ _ _ _ _ _ _ eg
          · cases eg
      rw [eg] at hh
      rw [eg']
      obtain ⟨q1, q2⟩ := q
      cases q1 with
      | inl v => exact ih _ _ _ _ _ _ _ hh
      | inr E =>
        unfold aEnd at hh ⊢
        dsimp only at hh ⊢
        split at hh
        · exact hh
        · split at hh
          · exact ih _ _ _ _ _ _ _ hh
          · cases hh
  · exact hh
theorem am_le_exec : ∀ f, am_LeR (exec f) (exec (f + 1))
  | 0 => fun _ _ _ _ _ _ _ h => by cases h
  | f + 1 => am_le_step (am_le_exec f)
theorem am_le_add (f n : Nat) : am_LeR (exec f) (exec (f + n)) := by
  induction n with
  | zero => exact fun _ _ _ _ _ _ _ h => h
  | succ n ih => exact fun d k pc L st h r hh => am_le_exec _ _ _ _ _ _ _ _ (ih _ _ _ _ _ _ _ hh)
