/-! A METHOD'S WALK: the context in which it runs, and what it means that the machine goes on from a place as the abstract one does. -/
def am_A (bs : Nat) : Nat → Prop := fun q => bs ≤ q
def am_Cx (l : Launch) (D : va_G) (dA : Nat → ClassId) (ad : Nat → Nat) (zz : Value) (bs Ln : Nat) (xs : Nat → Int32) (d k : Nat) (p : Program) (R : Room) (s : State) (m : MethodId) (args : Array Value) (meth : Method) (c : Code) : Prop :=
  p.tables.exec = Jvm.exec ∧ c.code = mB k ∧ c.maxLocals = mL k ∧ meth.sig.returnType = mRT k ∧ meth.locks = false ∧ s.vm.findClass (cNm (mC k)) = some m.cls ∧ l.stackTraces = false ∧ ((mY k).name = "<init>" → meth.name = "<init>") ∧
  ((mY k).name = "law" ∨ c.exceptionTable.toList = tableOf (mH k)) ∧ (d ≤ R.frames ∧ 40 * d ≤ R.locals) ∧ am_KV ad s ∧ va_K D vwCl (am_tys dA) s ∧ am_CF ad zz Ln xs (am_A bs) s s.heap ∧ (bs ≤ s.heap.size ∧ Ln < 2 ^ 31) ∧ (zz = .null ∨ ∃ a, zz = .ref a) ∧ (∀ i j, i < 49 → j < 49 → ad i = ad j → i = j) ∧ (∀ n, n < am_NC → ad n < bs) ∧ (vx_Zq Bundle.tN "UNASSIGNED_STACK" Bundle.steD (am_A bs) s s.heap ∧ vx_Zq Bundle.tN "SUPPRESSED_SENTINEL" Bundle.listD (am_A bs) s s.heap)
def am_Sim (D : va_G) (dA : Nat → ClassId) (ad : Nat → Nat) (zz : Value) (bs Ln : Nat) (xs : Nat → Int32) (k : Nat) (p : Program) (l : Launch) (e : Env) (R : Room) (s : State) (m : MethodId) (args : Array Value) (below : List Frame) (meth : Method) (c : Code) (as0 : List Nat) (c0 s0 : Nat) (Q : State → Prop) (pc : Nat) (Lo : ALs) (st : List Value) (h : AH) : Prop :=
  ∀ (as : List Nat) (H : Heap) (locs : List Loc) (ls : Array Slot), (∃ t9, as = as0 ++ t9) → am_WS D dA ad bs Ln xs as h H → va_S (am_A bs) s.heap H locs → am_LR (mW k) (am_cv ad zz as) Lo ls (mL k) → am_VL (nx h) Lo → am_VS (nx h) st → c0 ≤ nc h → s0 ≤ ns h →
    W p l e R s m args below meth c H locs (nc h - c0) (ns h - s0) Q (F0 m pc ls (st.map (am_cv ad zz as)))
theorem am_zcat {zz : Value} (h : zz = .null ∨ ∃ a, zz = .ref a) : zz.category = 1 := by
  rcases h with rfl | ⟨a, rfl⟩ <;> rfl
section SIM
variable {l : Launch} {D : va_G} {dA : Nat → ClassId} {ad : Nat → Nat} {zz : Value} {bs Ln : Nat} {xs : Nat → Int32} {d k : Nat} {p : Program} {e : Env} {R : Room} {s : State} {m : MethodId} {args : Array Value} {below : List Frame} {meth : Method} {c : Code} {as0 : List Nat} {c0 s0 : Nat} {Q : State → Prop} {pc : Nat} {Lo : ALs} {st : List Value} {h : AH}
theorem sm_iconst {z : Int} (C : am_Cx l D dA ad zz bs Ln xs d k p R s m args meth c) (hd : decode (mB k) pc = .ok (.iconst z, 1)) (K : am_Sim D dA ad zz bs Ln xs k p l e R s m args below meth c as0 c0 s0 Q (pc + 1) Lo (.int (Int32.ofInt z) :: st) h) : am_Sim D dA ad zz bs Ln xs k p l e R s m args below meth c as0 c0 s0 Q pc Lo st h := by
  obtain ⟨hx, hb, hml, hr, hlk, hown, htr, hnm, hHH, ⟨hfr, hlo⟩, hKV, hK, hCF, ⟨hbs, hLn⟩, hzz, hinj, hadb, hU1, hU2⟩ := C
  intro as H locs ls hX hW hS hL hVL hVS hc hs
  exact lv_iconst hx hb hd rfl (K as H locs ls hX hW hS hL hVL (am_VS.cons trivial (hVS)) hc hs)
theorem sm_bipush {z : Int} (C : am_Cx l D dA ad zz bs Ln xs d k p R s m args meth c) (hd : decode (mB k) pc = .ok (.bipush z, 2)) (K : am_Sim D dA ad zz bs Ln xs k p l e R s m args below meth c as0 c0 s0 Q (pc + 2) Lo (.int (Int8.ofInt z).toInt32 :: st) h) : am_Sim D dA ad zz bs Ln xs k p l e R s m args below meth c as0 c0 s0 Q pc Lo st h := by
  obtain ⟨hx, hb, hml, hr, hlk, hown, htr, hnm, hHH, ⟨hfr, hlo⟩, hKV, hK, hCF, ⟨hbs, hLn⟩, hzz, hinj, hadb, hU1, hU2⟩ := C
  intro as H locs ls hX hW hS hL hVL hVS hc hs
  exact lv_bipush hx hb hd rfl (K as H locs ls hX hW hS hL hVL (am_VS.cons trivial (hVS)) hc hs)
theorem sm_sipush {z : Int} (C : am_Cx l D dA ad zz bs Ln xs d k p R s m args meth c) (hd : decode (mB k) pc = .ok (.sipush z, 3)) (K : am_Sim D dA ad zz bs Ln xs k p l e R s m args below meth c as0 c0 s0 Q (pc + 3) Lo (.int (Int16.ofInt z).toInt32 :: st) h) : am_Sim D dA ad zz bs Ln xs k p l e R s m args below meth c as0 c0 s0 Q pc Lo st h := by
  obtain ⟨hx, hb, hml, hr, hlk, hown, htr, hnm, hHH, ⟨hfr, hlo⟩, hKV, hK, hCF, ⟨hbs, hLn⟩, hzz, hinj, hadb, hU1, hU2⟩ := C
  intro as H locs ls hX hW hS hL hVL hVS hc hs
  exact lv_sipush hx hb hd rfl (K as H locs ls hX hW hS hL hVL (am_VS.cons trivial (hVS)) hc hs)
theorem sm_lconst {z : Fin 2} (C : am_Cx l D dA ad zz bs Ln xs d k p R s m args meth c) (hd : decode (mB k) pc = .ok (.lconst z, 1)) (K : am_Sim D dA ad zz bs Ln xs k p l e R s m args below meth c as0 c0 s0 Q (pc + 1) Lo (.long (Int64.ofNat (z : Nat)) :: st) h) : am_Sim D dA ad zz bs Ln xs k p l e R s m args below meth c as0 c0 s0 Q pc Lo st h := by
  obtain ⟨hx, hb, hml, hr, hlk, hown, htr, hnm, hHH, ⟨hfr, hlo⟩, hKV, hK, hCF, ⟨hbs, hLn⟩, hzz, hinj, hadb, hU1, hU2⟩ := C
  intro as H locs ls hX hW hS hL hVL hVS hc hs
  exact lv_lconst hx hb hd rfl (K as H locs ls hX hW hS hL hVL (am_VS.cons trivial (hVS)) hc hs)
theorem sm_dconst0 (C : am_Cx l D dA ad zz bs Ln xs d k p R s m args meth c) (hd : decode (mB k) pc = .ok (.dconst 0, 1)) (K : am_Sim D dA ad zz bs Ln xs k p l e R s m args below meth c as0 c0 s0 Q (pc + 1) Lo (.double 0 :: st) h) : am_Sim D dA ad zz bs Ln xs k p l e R s m args below meth c as0 c0 s0 Q pc Lo st h := by
  obtain ⟨hx, hb, hml, hr, hlk, hown, htr, hnm, hHH, ⟨hfr, hlo⟩, hKV, hK, hCF, ⟨hbs, hLn⟩, hzz, hinj, hadb, hU1, hU2⟩ := C
  intro as H locs ls hX hW hS hL hVL hVS hc hs
  exact lv_dconst0 hx hb hd (K as H locs ls hX hW hS hL hVL (am_VS.cons trivial (hVS)) hc hs)
theorem sm_null (C : am_Cx l D dA ad zz bs Ln xs d k p R s m args meth c) (hd : decode (mB k) pc = .ok (.aconst_null, 1)) (K : am_Sim D dA ad zz bs Ln xs k p l e R s m args below meth c as0 c0 s0 Q (pc + 1) Lo (.null :: st) h) : am_Sim D dA ad zz bs Ln xs k p l e R s m args below meth c as0 c0 s0 Q pc Lo st h := by
  obtain ⟨hx, hb, hml, hr, hlk, hown, htr, hnm, hHH, ⟨hfr, hlo⟩, hKV, hK, hCF, ⟨hbs, hLn⟩, hzz, hinj, hadb, hU1, hU2⟩ := C
  intro as H locs ls hX hW hS hL hVL hVS hc hs
  exact lv_null hx hb hd (K as H locs ls hX hW hS hL hVL (am_VS.cons trivial (hVS)) hc hs)
theorem sm_iadd {x y : Int32} (C : am_Cx l D dA ad zz bs Ln xs d k p R s m args meth c) (hd : decode (mB k) pc = .ok (.iadd, 1)) (K : am_Sim D dA ad zz bs Ln xs k p l e R s m args below meth c as0 c0 s0 Q (pc + 1) Lo (.int (x + y) :: st) h) : am_Sim D dA ad zz bs Ln xs k p l e R s m args below meth c as0 c0 s0 Q pc Lo (.int y :: .int x :: st) h := by
  obtain ⟨hx, hb, hml, hr, hlk, hown, htr, hnm, hHH, ⟨hfr, hlo⟩, hKV, hK, hCF, ⟨hbs, hLn⟩, hzz, hinj, hadb, hU1, hU2⟩ := C
  intro as H locs ls hX hW hS hL hVL hVS hc hs
  exact lv_iadd hx hb hd (K as H locs ls hX hW hS hL hVL (am_VS.cons trivial (hVS.tl.tl)) hc hs)
theorem sm_isub {x y : Int32} (C : am_Cx l D dA ad zz bs Ln xs d k p R s m args meth c) (hd : decode (mB k) pc = .ok (.isub, 1)) (K : am_Sim D dA ad zz bs Ln xs k p l e R s m args below meth c as0 c0 s0 Q (pc + 1) Lo (.int (x - y) :: st) h) : am_Sim D dA ad zz bs Ln xs k p l e R s m args below meth c as0 c0 s0 Q pc Lo (.int y :: .int x :: st) h := by
  obtain ⟨hx, hb, hml, hr, hlk, hown, htr, hnm, hHH, ⟨hfr, hlo⟩, hKV, hK, hCF, ⟨hbs, hLn⟩, hzz, hinj, hadb, hU1, hU2⟩ := C
  intro as H locs ls hX hW hS hL hVL hVS hc hs
  exact lv_isub hx hb hd (K as H locs ls hX hW hS hL hVL (am_VS.cons trivial (hVS.tl.tl)) hc hs)
theorem sm_imul {x y : Int32} (C : am_Cx l D dA ad zz bs Ln xs d k p R s m args meth c) (hd : decode (mB k) pc = .ok (.imul, 1)) (K : am_Sim D dA ad zz bs Ln xs k p l e R s m args below meth c as0 c0 s0 Q (pc + 1) Lo (.int (x * y) :: st) h) : am_Sim D dA ad zz bs Ln xs k p l e R s m args below meth c as0 c0 s0 Q pc Lo (.int y :: .int x :: st) h := by
  obtain ⟨hx, hb, hml, hr, hlk, hown, htr, hnm, hHH, ⟨hfr, hlo⟩, hKV, hK, hCF, ⟨hbs, hLn⟩, hzz, hinj, hadb, hU1, hU2⟩ := C
  intro as H locs ls hX hW hS hL hVL hVS hc hs
  exact lv_imul hx hb hd (K as H locs ls hX hW hS hL hVL (am_VS.cons trivial (hVS.tl.tl)) hc hs)
theorem sm_iand {x y : Int32} (C : am_Cx l D dA ad zz bs Ln xs d k p R s m args meth c) (hd : decode (mB k) pc = .ok (.iand, 1)) (K : am_Sim D dA ad zz bs Ln xs k p l e R s m args below meth c as0 c0 s0 Q (pc + 1) Lo (.int (x &&& y) :: st) h) : am_Sim D dA ad zz bs Ln xs k p l e R s m args below meth c as0 c0 s0 Q pc Lo (.int y :: .int x :: st) h := by
  obtain ⟨hx, hb, hml, hr, hlk, hown, htr, hnm, hHH, ⟨hfr, hlo⟩, hKV, hK, hCF, ⟨hbs, hLn⟩, hzz, hinj, hadb, hU1, hU2⟩ := C
  intro as H locs ls hX hW hS hL hVL hVS hc hs
  exact lv_iand hx hb hd (K as H locs ls hX hW hS hL hVL (am_VS.cons trivial (hVS.tl.tl)) hc hs)
theorem sm_ior {x y : Int32} (C : am_Cx l D dA ad zz bs Ln xs d k p R s m args meth c) (hd : decode (mB k) pc = .ok (.ior, 1)) (K : am_Sim D dA ad zz bs Ln xs k p l e R s m args below meth c as0 c0 s0 Q (pc + 1) Lo (.int (x ||| y) :: st) h) : am_Sim D dA ad zz bs Ln xs k p l e R s m args below meth c as0 c0 s0 Q pc Lo (.int y :: .int x :: st) h := by
  obtain ⟨hx, hb, hml, hr, hlk, hown, htr, hnm, hHH, ⟨hfr, hlo⟩, hKV, hK, hCF, ⟨hbs, hLn⟩, hzz, hinj, hadb, hU1, hU2⟩ := C
  intro as H locs ls hX hW hS hL hVL hVS hc hs
  exact lv_ior hx hb hd (K as H locs ls hX hW hS hL hVL (am_VS.cons trivial (hVS.tl.tl)) hc hs)
theorem sm_ishr {x y : Int32} (C : am_Cx l D dA ad zz bs Ln xs d k p R s m args meth c) (hd : decode (mB k) pc = .ok (.ishr, 1)) (K : am_Sim D dA ad zz bs Ln xs k p l e R s m args below meth c as0 c0 s0 Q (pc + 1) Lo (.int (x >>> (y &&& 31)) :: st) h) : am_Sim D dA ad zz bs Ln xs k p l e R s m args below meth c as0 c0 s0 Q pc Lo (.int y :: .int x :: st) h := by
  obtain ⟨hx, hb, hml, hr, hlk, hown, htr, hnm, hHH, ⟨hfr, hlo⟩, hKV, hK, hCF, ⟨hbs, hLn⟩, hzz, hinj, hadb, hU1, hU2⟩ := C
  intro as H locs ls hX hW hS hL hVL hVS hc hs
  exact lv_ishr hx hb hd (K as H locs ls hX hW hS hL hVL (am_VS.cons trivial (hVS.tl.tl)) hc hs)
theorem sm_iushr {x y : Int32} (C : am_Cx l D dA ad zz bs Ln xs d k p R s m args meth c) (hd : decode (mB k) pc = .ok (.iushr, 1)) (K : am_Sim D dA ad zz bs Ln xs k p l e R s m args below meth c as0 c0 s0 Q (pc + 1) Lo (.int (x.toUInt32 >>> (y.toUInt32 &&& Int32.toUInt32 31)).toInt32 :: st) h) : am_Sim D dA ad zz bs Ln xs k p l e R s m args below meth c as0 c0 s0 Q pc Lo (.int y :: .int x :: st) h := by
  obtain ⟨hx, hb, hml, hr, hlk, hown, htr, hnm, hHH, ⟨hfr, hlo⟩, hKV, hK, hCF, ⟨hbs, hLn⟩, hzz, hinj, hadb, hU1, hU2⟩ := C
  intro as H locs ls hX hW hS hL hVL hVS hc hs
  exact lv_iushr hx hb hd rfl (K as H locs ls hX hW hS hL hVL (am_VS.cons trivial (hVS.tl.tl)) hc hs)
theorem sm_idiv {x y : Int32} (C : am_Cx l D dA ad zz bs Ln xs d k p R s m args meth c) (hd : decode (mB k) pc = .ok (.idiv, 1)) (hy : ¬ y = 0) (K : am_Sim D dA ad zz bs Ln xs k p l e R s m args below meth c as0 c0 s0 Q (pc + 1) Lo (.int (x / y) :: st) h) : am_Sim D dA ad zz bs Ln xs k p l e R s m args below meth c as0 c0 s0 Q pc Lo (.int y :: .int x :: st) h := by
  obtain ⟨hx, hb, hml, hr, hlk, hown, htr, hnm, hHH, ⟨hfr, hlo⟩, hKV, hK, hCF, ⟨hbs, hLn⟩, hzz, hinj, hadb, hU1, hU2⟩ := C
  intro as H locs ls hX hW hS hL hVL hVS hc hs
  exact lv_idiv hx hb hd hy (K as H locs ls hX hW hS hL hVL (am_VS.cons trivial (hVS.tl.tl)) hc hs)
theorem sm_irem {x y : Int32} (C : am_Cx l D dA ad zz bs Ln xs d k p R s m args meth c) (hd : decode (mB k) pc = .ok (.irem, 1)) (hy : ¬ y = 0) (K : am_Sim D dA ad zz bs Ln xs k p l e R s m args below meth c as0 c0 s0 Q (pc + 1) Lo (.int (x - x / y * y) :: st) h) : am_Sim D dA ad zz bs Ln xs k p l e R s m args below meth c as0 c0 s0 Q pc Lo (.int y :: .int x :: st) h := by
  obtain ⟨hx, hb, hml, hr, hlk, hown, htr, hnm, hHH, ⟨hfr, hlo⟩, hKV, hK, hCF, ⟨hbs, hLn⟩, hzz, hinj, hadb, hU1, hU2⟩ := C
  intro as H locs ls hX hW hS hL hVL hVS hc hs
  exact lv_irem hx hb hd hy (K as H locs ls hX hW hS hL hVL (am_VS.cons trivial (hVS.tl.tl)) hc hs)
theorem sm_ishl {x y : Int32} (C : am_Cx l D dA ad zz bs Ln xs d k p R s m args meth c) (hd : decode (mB k) pc = .ok (.ishl, 1)) (K : am_Sim D dA ad zz bs Ln xs k p l e R s m args below meth c as0 c0 s0 Q (pc + 1) Lo (.int (x <<< (y &&& 31)) :: st) h) : am_Sim D dA ad zz bs Ln xs k p l e R s m args below meth c as0 c0 s0 Q pc Lo (.int y :: .int x :: st) h := by
  obtain ⟨hx, hb, hml, hr, hlk, hown, htr, hnm, hHH, ⟨hfr, hlo⟩, hKV, hK, hCF, ⟨hbs, hLn⟩, hzz, hinj, hadb, hU1, hU2⟩ := C
  intro as H locs ls hX hW hS hL hVL hVS hc hs
  exact lv_ishl hx hb hd (K as H locs ls hX hW hS hL hVL (am_VS.cons trivial (hVS.tl.tl)) hc hs)
theorem sm_ineg {x : Int32} (C : am_Cx l D dA ad zz bs Ln xs d k p R s m args meth c) (hd : decode (mB k) pc = .ok (.ineg, 1)) (K : am_Sim D dA ad zz bs Ln xs k p l e R s m args below meth c as0 c0 s0 Q (pc + 1) Lo (.int (-x) :: st) h) : am_Sim D dA ad zz bs Ln xs k p l e R s m args below meth c as0 c0 s0 Q pc Lo (.int x :: st) h := by
  obtain ⟨hx, hb, hml, hr, hlk, hown, htr, hnm, hHH, ⟨hfr, hlo⟩, hKV, hK, hCF, ⟨hbs, hLn⟩, hzz, hinj, hadb, hU1, hU2⟩ := C
  intro as H locs ls hX hW hS hL hVL hVS hc hs
  exact lv_ineg hx hb hd (K as H locs ls hX hW hS hL hVL (am_VS.cons trivial (hVS.tl)) hc hs)
theorem sm_ladd {x y : Int64} (C : am_Cx l D dA ad zz bs Ln xs d k p R s m args meth c) (hd : decode (mB k) pc = .ok (.ladd, 1)) (K : am_Sim D dA ad zz bs Ln xs k p l e R s m args below meth c as0 c0 s0 Q (pc + 1) Lo (.long (x + y) :: st) h) : am_Sim D dA ad zz bs Ln xs k p l e R s m args below meth c as0 c0 s0 Q pc Lo (.long y :: .long x :: st) h := by
  obtain ⟨hx, hb, hml, hr, hlk, hown, htr, hnm, hHH, ⟨hfr, hlo⟩, hKV, hK, hCF, ⟨hbs, hLn⟩, hzz, hinj, hadb, hU1, hU2⟩ := C
  intro as H locs ls hX hW hS hL hVL hVS hc hs
  exact lv_ladd hx hb hd (K as H locs ls hX hW hS hL hVL (am_VS.cons trivial (hVS.tl.tl)) hc hs)
theorem sm_lmul {x y : Int64} (C : am_Cx l D dA ad zz bs Ln xs d k p R s m args meth c) (hd : decode (mB k) pc = .ok (.lmul, 1)) (K : am_Sim D dA ad zz bs Ln xs k p l e R s m args below meth c as0 c0 s0 Q (pc + 1) Lo (.long (x * y) :: st) h) : am_Sim D dA ad zz bs Ln xs k p l e R s m args below meth c as0 c0 s0 Q pc Lo (.long y :: .long x :: st) h := by
  obtain ⟨hx, hb, hml, hr, hlk, hown, htr, hnm, hHH, ⟨hfr, hlo⟩, hKV, hK, hCF, ⟨hbs, hLn⟩, hzz, hinj, hadb, hU1, hU2⟩ := C
  intro as H locs ls hX hW hS hL hVL hVS hc hs
  exact lv_lmul hx hb hd (K as H locs ls hX hW hS hL hVL (am_VS.cons trivial (hVS.tl.tl)) hc hs)
theorem sm_lcmp {x y : Int64} (C : am_Cx l D dA ad zz bs Ln xs d k p R s m args meth c) (hd : decode (mB k) pc = .ok (.lcmp, 1)) (K : am_Sim D dA ad zz bs Ln xs k p l e R s m args below meth c as0 c0 s0 Q (pc + 1) Lo (.int (lg_cmp x y) :: st) h) : am_Sim D dA ad zz bs Ln xs k p l e R s m args below meth c as0 c0 s0 Q pc Lo (.long y :: .long x :: st) h := by
  obtain ⟨hx, hb, hml, hr, hlk, hown, htr, hnm, hHH, ⟨hfr, hlo⟩, hKV, hK, hCF, ⟨hbs, hLn⟩, hzz, hinj, hadb, hU1, hU2⟩ := C
  intro as H locs ls hX hW hS hL hVL hVS hc hs
  exact W.lcmp hx hb hd (K as H locs ls hX hW hS hL hVL (am_VS.cons trivial (hVS.tl.tl)) hc hs)
theorem sm_i2l {x : Int32} (C : am_Cx l D dA ad zz bs Ln xs d k p R s m args meth c) (hd : decode (mB k) pc = .ok (.i2l, 1)) (K : am_Sim D dA ad zz bs Ln xs k p l e R s m args below meth c as0 c0 s0 Q (pc + 1) Lo (.long x.toInt64 :: st) h) : am_Sim D dA ad zz bs Ln xs k p l e R s m args below meth c as0 c0 s0 Q pc Lo (.int x :: st) h := by
  obtain ⟨hx, hb, hml, hr, hlk, hown, htr, hnm, hHH, ⟨hfr, hlo⟩, hKV, hK, hCF, ⟨hbs, hLn⟩, hzz, hinj, hadb, hU1, hU2⟩ := C
  intro as H locs ls hX hW hS hL hVL hVS hc hs
  exact lv_i2l hx hb hd rfl (K as H locs ls hX hW hS hL hVL (am_VS.cons trivial (hVS.tl)) hc hs)
theorem sm_l2i {x : Int64} (C : am_Cx l D dA ad zz bs Ln xs d k p R s m args meth c) (hd : decode (mB k) pc = .ok (.l2i, 1)) (K : am_Sim D dA ad zz bs Ln xs k p l e R s m args below meth c as0 c0 s0 Q (pc + 1) Lo (.int x.toInt32 :: st) h) : am_Sim D dA ad zz bs Ln xs k p l e R s m args below meth c as0 c0 s0 Q pc Lo (.long x :: st) h := by
  obtain ⟨hx, hb, hml, hr, hlk, hown, htr, hnm, hHH, ⟨hfr, hlo⟩, hKV, hK, hCF, ⟨hbs, hLn⟩, hzz, hinj, hadb, hU1, hU2⟩ := C
  intro as H locs ls hX hW hS hL hVL hVS hc hs
  exact lv_l2i hx hb hd rfl (K as H locs ls hX hW hS hL hVL (am_VS.cons trivial (hVS.tl)) hc hs)
theorem sm_i2b {x : Int32} (C : am_Cx l D dA ad zz bs Ln xs d k p R s m args meth c) (hd : decode (mB k) pc = .ok (.i2b, 1)) (K : am_Sim D dA ad zz bs Ln xs k p l e R s m args below meth c as0 c0 s0 Q (pc + 1) Lo (.int x.toInt8.toInt32 :: st) h) : am_Sim D dA ad zz bs Ln xs k p l e R s m args below meth c as0 c0 s0 Q pc Lo (.int x :: st) h := by
  obtain ⟨hx, hb, hml, hr, hlk, hown, htr, hnm, hHH, ⟨hfr, hlo⟩, hKV, hK, hCF, ⟨hbs, hLn⟩, hzz, hinj, hadb, hU1, hU2⟩ := C
  intro as H locs ls hX hW hS hL hVL hVS hc hs
  exact lv_i2b hx hb hd rfl (K as H locs ls hX hW hS hL hVL (am_VS.cons trivial (hVS.tl)) hc hs)
theorem sm_i2c {x : Int32} (C : am_Cx l D dA ad zz bs Ln xs d k p R s m args meth c) (hd : decode (mB k) pc = .ok (.i2c, 1)) (K : am_Sim D dA ad zz bs Ln xs k p l e R s m args below meth c as0 c0 s0 Q (pc + 1) Lo (.int (x.toUInt32 % 65536).toInt32 :: st) h) : am_Sim D dA ad zz bs Ln xs k p l e R s m args below meth c as0 c0 s0 Q pc Lo (.int x :: st) h := by
  obtain ⟨hx, hb, hml, hr, hlk, hown, htr, hnm, hHH, ⟨hfr, hlo⟩, hKV, hK, hCF, ⟨hbs, hLn⟩, hzz, hinj, hadb, hU1, hU2⟩ := C
  intro as H locs ls hX hW hS hL hVL hVS hc hs
  exact lv_i2c hx hb hd rfl (K as H locs ls hX hW hS hL hVL (am_VS.cons trivial (hVS.tl)) hc hs)
theorem sm_i2d {x : Int32} (C : am_Cx l D dA ad zz bs Ln xs d k p R s m args meth c) (hd : decode (mB k) pc = .ok (.i2d, 1)) (K : am_Sim D dA ad zz bs Ln xs k p l e R s m args below meth c as0 c0 s0 Q (pc + 1) Lo (.double (FP.i2d x) :: st) h) : am_Sim D dA ad zz bs Ln xs k p l e R s m args below meth c as0 c0 s0 Q pc Lo (.int x :: st) h := by
  obtain ⟨hx, hb, hml, hr, hlk, hown, htr, hnm, hHH, ⟨hfr, hlo⟩, hKV, hK, hCF, ⟨hbs, hLn⟩, hzz, hinj, hadb, hU1, hU2⟩ := C
  intro as H locs ls hX hW hS hL hVL hVS hc hs
  exact lv_i2d hx hb hd (K as H locs ls hX hW hS hL hVL (am_VS.cons trivial (hVS.tl)) hc hs)
theorem sm_ddiv {x y : UInt64} (C : am_Cx l D dA ad zz bs Ln xs d k p R s m args meth c) (hd : decode (mB k) pc = .ok (.ddiv, 1)) (hn : FP.ddiv x y &&& 0x7fffffffffffffff ≤ 0x7ff0000000000000) (K : am_Sim D dA ad zz bs Ln xs k p l e R s m args below meth c as0 c0 s0 Q (pc + 1) Lo (.double (FP.ddiv x y) :: st) h) : am_Sim D dA ad zz bs Ln xs k p l e R s m args below meth c as0 c0 s0 Q pc Lo (.double y :: .double x :: st) h := by
  obtain ⟨hx, hb, hml, hr, hlk, hown, htr, hnm, hHH, ⟨hfr, hlo⟩, hKV, hK, hCF, ⟨hbs, hLn⟩, hzz, hinj, hadb, hU1, hU2⟩ := C
  intro as H locs ls hX hW hS hL hVL hVS hc hs
  exact lv_ddiv hx hb hd hn (K as H locs ls hX hW hS hL hVL (am_VS.cons trivial (hVS.tl.tl)) hc hs)
theorem sm_dcmp {x y : UInt64} {op : CmpOp} (C : am_Cx l D dA ad zz bs Ln xs d k p R s m args meth c) (hd : decode (mB k) pc = .ok (.dcmp op, 1)) (K : am_Sim D dA ad zz bs Ln xs k p l e R s m args below meth c as0 c0 s0 Q (pc + 1) Lo (.int (Op.cmpValue (FP.dcmp x y) op) :: st) h) : am_Sim D dA ad zz bs Ln xs k p l e R s m args below meth c as0 c0 s0 Q pc Lo (.double y :: .double x :: st) h := by
  obtain ⟨hx, hb, hml, hr, hlk, hown, htr, hnm, hHH, ⟨hfr, hlo⟩, hKV, hK, hCF, ⟨hbs, hLn⟩, hzz, hinj, hadb, hU1, hU2⟩ := C
  intro as H locs ls hX hW hS hL hVL hVS hc hs
  exact lv_dcmp hx hb hd (K as H locs ls hX hW hS hL hVL (am_VS.cons trivial (hVS.tl.tl)) hc hs)
theorem sm_popi {x : Int32} (C : am_Cx l D dA ad zz bs Ln xs d k p R s m args meth c) (hd : decode (mB k) pc = .ok (.pop, 1)) (K : am_Sim D dA ad zz bs Ln xs k p l e R s m args below meth c as0 c0 s0 Q (pc + 1) Lo st h) : am_Sim D dA ad zz bs Ln xs k p l e R s m args below meth c as0 c0 s0 Q pc Lo (.int x :: st) h := by
  obtain ⟨hx, hb, hml, hr, hlk, hown, htr, hnm, hHH, ⟨hfr, hlo⟩, hKV, hK, hCF, ⟨hbs, hLn⟩, hzz, hinj, hadb, hU1, hU2⟩ := C
  intro as H locs ls hX hW hS hL hVL hVS hc hs
  exact lv_pop hx hb hd rfl (K as H locs ls hX hW hS hL hVL (hVS.tl) hc hs)
theorem sm_popr {x : Nat} (C : am_Cx l D dA ad zz bs Ln xs d k p R s m args meth c) (hd : decode (mB k) pc = .ok (.pop, 1)) (K : am_Sim D dA ad zz bs Ln xs k p l e R s m args below meth c as0 c0 s0 Q (pc + 1) Lo st h) : am_Sim D dA ad zz bs Ln xs k p l e R s m args below meth c as0 c0 s0 Q pc Lo (.ref x :: st) h := by
  obtain ⟨hx, hb, hml, hr, hlk, hown, htr, hnm, hHH, ⟨hfr, hlo⟩, hKV, hK, hCF, ⟨hbs, hLn⟩, hzz, hinj, hadb, hU1, hU2⟩ := C
  intro as H locs ls hX hW hS hL hVL hVS hc hs
  exact lv_pop hx hb hd rfl (K as H locs ls hX hW hS hL hVL (hVS.tl) hc hs)
theorem sm_dupi {x : Int32} (C : am_Cx l D dA ad zz bs Ln xs d k p R s m args meth c) (hd : decode (mB k) pc = .ok (.dup, 1)) (K : am_Sim D dA ad zz bs Ln xs k p l e R s m args below meth c as0 c0 s0 Q (pc + 1) Lo (.int x :: .int x :: st) h) : am_Sim D dA ad zz bs Ln xs k p l e R s m args below meth c as0 c0 s0 Q pc Lo (.int x :: st) h := by
  obtain ⟨hx, hb, hml, hr, hlk, hown, htr, hnm, hHH, ⟨hfr, hlo⟩, hKV, hK, hCF, ⟨hbs, hLn⟩, hzz, hinj, hadb, hU1, hU2⟩ := C
  intro as H locs ls hX hW hS hL hVL hVS hc hs
  exact lv_dup hx hb hd rfl (K as H locs ls hX hW hS hL hVL (am_VS.cons trivial (am_VS.cons trivial (hVS.tl))) hc hs)
theorem sm_dupr {x : Nat} (C : am_Cx l D dA ad zz bs Ln xs d k p R s m args meth c) (hd : decode (mB k) pc = .ok (.dup, 1)) (K : am_Sim D dA ad zz bs Ln xs k p l e R s m args below meth c as0 c0 s0 Q (pc + 1) Lo (.ref x :: .ref x :: st) h) : am_Sim D dA ad zz bs Ln xs k p l e R s m args below meth c as0 c0 s0 Q pc Lo (.ref x :: st) h := by
  obtain ⟨hx, hb, hml, hr, hlk, hown, htr, hnm, hHH, ⟨hfr, hlo⟩, hKV, hK, hCF, ⟨hbs, hLn⟩, hzz, hinj, hadb, hU1, hU2⟩ := C
  intro as H locs ls hX hW hS hL hVL hVS hc hs
  exact lv_dup hx hb hd rfl (K as H locs ls hX hW hS hL hVL (am_VS.cons hVS.hd hVS) hc hs)
theorem sm_dup2 {x : Int32} {y : Nat} (C : am_Cx l D dA ad zz bs Ln xs d k p R s m args meth c) (hd : decode (mB k) pc = .ok (.dup2, 1)) (K : am_Sim D dA ad zz bs Ln xs k p l e R s m args below meth c as0 c0 s0 Q (pc + 1) Lo (.int x :: .ref y :: .int x :: .ref y :: st) h) : am_Sim D dA ad zz bs Ln xs k p l e R s m args below meth c as0 c0 s0 Q pc Lo (.int x :: .ref y :: st) h := by
  obtain ⟨hx, hb, hml, hr, hlk, hown, htr, hnm, hHH, ⟨hfr, hlo⟩, hKV, hK, hCF, ⟨hbs, hLn⟩, hzz, hinj, hadb, hU1, hU2⟩ := C
  intro as H locs ls hX hW hS hL hVL hVS hc hs
  exact lv_dup2_11 hx hb hd rfl rfl (K as H locs ls hX hW hS hL hVL (am_VS.cons trivial (am_VS.cons hVS.tl.hd hVS)) hc hs)
theorem sm_iload_n {j : Fin 4} {x : Int32} (C : am_Cx l D dA ad zz bs Ln xs d k p R s m args meth c) (hd : decode (mB k) pc = .ok (.iload_n j, 1)) (hl : ldA Lo j = some (.int x)) (K : am_Sim D dA ad zz bs Ln xs k p l e R s m args below meth c as0 c0 s0 Q (pc + 1) Lo (.int x :: st) h) : am_Sim D dA ad zz bs Ln xs k p l e R s m args below meth c as0 c0 s0 Q pc Lo st h := by
  obtain ⟨hx, hb, hml, hr, hlk, hown, htr, hnm, hHH, ⟨hfr, hlo⟩, hKV, hK, hCF, ⟨hbs, hLn⟩, hzz, hinj, hadb, hU1, hU2⟩ := C
  intro as H locs ls hX hW hS hL hVL hVS hc hs
  exact lv_iload_n hx hb hd rfl (hL.2.2.1 _ _ (am_ldA hl)) (K as H locs ls hX hW hS hL hVL (am_VS.cons trivial hVS) hc hs)
theorem sm_iload {j : Nat} {x : Int32} (C : am_Cx l D dA ad zz bs Ln xs d k p R s m args meth c) (hd : decode (mB k) pc = .ok (.iload j, 2)) (hl : ldA Lo j = some (.int x)) (K : am_Sim D dA ad zz bs Ln xs k p l e R s m args below meth c as0 c0 s0 Q (pc + 2) Lo (.int x :: st) h) : am_Sim D dA ad zz bs Ln xs k p l e R s m args below meth c as0 c0 s0 Q pc Lo st h := by
  obtain ⟨hx, hb, hml, hr, hlk, hown, htr, hnm, hHH, ⟨hfr, hlo⟩, hKV, hK, hCF, ⟨hbs, hLn⟩, hzz, hinj, hadb, hU1, hU2⟩ := C
  intro as H locs ls hX hW hS hL hVL hVS hc hs
  exact lv_iload hx hb hd (hL.2.2.1 _ _ (am_ldA hl)) (K as H locs ls hX hW hS hL hVL (am_VS.cons trivial hVS) hc hs)
theorem sm_lload_n {j : Fin 4} {x : Int64} (C : am_Cx l D dA ad zz bs Ln xs d k p R s m args meth c) (hd : decode (mB k) pc = .ok (.lload_n j, 1)) (hl : ldA Lo j = some (.long x)) (K : am_Sim D dA ad zz bs Ln xs k p l e R s m args below meth c as0 c0 s0 Q (pc + 1) Lo (.long x :: st) h) : am_Sim D dA ad zz bs Ln xs k p l e R s m args below meth c as0 c0 s0 Q pc Lo st h := by
  obtain ⟨hx, hb, hml, hr, hlk, hown, htr, hnm, hHH, ⟨hfr, hlo⟩, hKV, hK, hCF, ⟨hbs, hLn⟩, hzz, hinj, hadb, hU1, hU2⟩ := C
  intro as H locs ls hX hW hS hL hVL hVS hc hs
  exact lv_lload_n hx hb hd rfl (hL.2.2.1 _ _ (am_ldA hl)) (K as H locs ls hX hW hS hL hVL (am_VS.cons trivial hVS) hc hs)
theorem sm_lload {j : Nat} {x : Int64} (C : am_Cx l D dA ad zz bs Ln xs d k p R s m args meth c) (hd : decode (mB k) pc = .ok (.lload j, 2)) (hl : ldA Lo j = some (.long x)) (K : am_Sim D dA ad zz bs Ln xs k p l e R s m args below meth c as0 c0 s0 Q (pc + 2) Lo (.long x :: st) h) : am_Sim D dA ad zz bs Ln xs k p l e R s m args below meth c as0 c0 s0 Q pc Lo st h := by
  obtain ⟨hx, hb, hml, hr, hlk, hown, htr, hnm, hHH, ⟨hfr, hlo⟩, hKV, hK, hCF, ⟨hbs, hLn⟩, hzz, hinj, hadb, hU1, hU2⟩ := C
  intro as H locs ls hX hW hS hL hVL hVS hc hs
  exact lv_lload hx hb hd (hL.2.2.1 _ _ (am_ldA hl)) (K as H locs ls hX hW hS hL hVL (am_VS.cons trivial hVS) hc hs)
theorem sm_dload {j : Nat} {x : UInt64} (C : am_Cx l D dA ad zz bs Ln xs d k p R s m args meth c) (hd : decode (mB k) pc = .ok (.dload j, 2)) (hl : ldA Lo j = some (.double x)) (K : am_Sim D dA ad zz bs Ln xs k p l e R s m args below meth c as0 c0 s0 Q (pc + 2) Lo (.double x :: st) h) : am_Sim D dA ad zz bs Ln xs k p l e R s m args below meth c as0 c0 s0 Q pc Lo st h := by
  obtain ⟨hx, hb, hml, hr, hlk, hown, htr, hnm, hHH, ⟨hfr, hlo⟩, hKV, hK, hCF, ⟨hbs, hLn⟩, hzz, hinj, hadb, hU1, hU2⟩ := C
  intro as H locs ls hX hW hS hL hVL hVS hc hs
  exact lv_dload hx hb hd (hL.2.2.1 _ _ (am_ldA hl)) (K as H locs ls hX hW hS hL hVL (am_VS.cons trivial hVS) hc hs)
theorem sm_aload_n {j : Fin 4} {v : Value} (C : am_Cx l D dA ad zz bs Ln xs d k p R s m args meth c) (hd : decode (mB k) pc = .ok (.aload_n j, 1)) (hl : ldA Lo j = some v) (hv : isRf v = true) (K : am_Sim D dA ad zz bs Ln xs k p l e R s m args below meth c as0 c0 s0 Q (pc + 1) Lo (v :: st) h) : am_Sim D dA ad zz bs Ln xs k p l e R s m args below meth c as0 c0 s0 Q pc Lo st h := by
  obtain ⟨hx, hb, hml, hr, hlk, hown, htr, hnm, hHH, ⟨hfr, hlo⟩, hKV, hK, hCF, ⟨hbs, hLn⟩, hzz, hinj, hadb, hU1, hU2⟩ := C
  intro as H locs ls hX hW hS hL hVL hVS hc hs
  have hg := hL.2.2.1 _ _ (am_ldA hl)
  have hK9 := K as H locs ls hX hW hS hL hVL (am_VS.cons (hVL.ld hl) hVS) hc hs
  cases v with
  | ref a => exact lv_aload_n hx hb hd rfl hg hK9
  | null => exact lv_aload_nN hx hb hd rfl hg hK9
  | float w =>
    rcases hzz with rfl | ⟨a, rfl⟩
    · exact lv_aload_nN hx hb hd rfl hg hK9
    · exact lv_aload_n hx hb hd rfl hg hK9
  | _ => cases hv
theorem sm_aload {j : Nat} {v : Value} (C : am_Cx l D dA ad zz bs Ln xs d k p R s m args meth c) (hd : decode (mB k) pc = .ok (.aload j, 2)) (hl : ldA Lo j = some v) (hv : isRf v = true) (K : am_Sim D dA ad zz bs Ln xs k p l e R s m args below meth c as0 c0 s0 Q (pc + 2) Lo (v :: st) h) : am_Sim D dA ad zz bs Ln xs k p l e R s m args below meth c as0 c0 s0 Q pc Lo st h := by
  obtain ⟨hx, hb, hml, hr, hlk, hown, htr, hnm, hHH, ⟨hfr, hlo⟩, hKV, hK, hCF, ⟨hbs, hLn⟩, hzz, hinj, hadb, hU1, hU2⟩ := C
  intro as H locs ls hX hW hS hL hVL hVS hc hs
  have hg := hL.2.2.1 _ _ (am_ldA hl)
  have hK9 := K as H locs ls hX hW hS hL hVL (am_VS.cons (hVL.ld hl) hVS) hc hs
  cases v with
  | ref a => exact lv_aload hx hb hd hg hK9
  | null => exact lv_aloadN hx hb hd hg hK9
  | float w =>
    rcases hzz with rfl | ⟨a, rfl⟩
    · exact lv_aloadN hx hb hd hg hK9
    · exact lv_aload hx hb hd hg hK9
  | _ => cases hv
theorem sm_istore_n {j : Fin 4} {x : Int32} (C : am_Cx l D dA ad zz bs Ln xs d k p R s m args meth c) (hd : decode (mB k) pc = .ok (.istore_n j, 1)) (hj : (j : Nat) < mL k) (K : am_Sim D dA ad zz bs Ln xs k p l e R s m args below meth c as0 c0 s0 Q (pc + 1) (st1 (mW k) Lo (j : Nat) (some (.int x))) st h) : am_Sim D dA ad zz bs Ln xs k p l e R s m args below meth c as0 c0 s0 Q pc Lo (.int x :: st) h := by
  obtain ⟨hx, hb, hml, hr, hlk, hown, htr, hnm, hHH, ⟨hfr, hlo⟩, hKV, hK, hCF, ⟨hbs, hLn⟩, hzz, hinj, hadb, hU1, hU2⟩ := C
  intro as H locs ls hX hW hS hL hVL hVS hc hs
  exact lv_istore_n hx hb hd rfl hL.has hj rfl (fun ls1 h1 => K as H locs ls1 hX hW hS (am_st1 hL rfl (fun v hv => by cases hv; rfl) (am_cat (am_zcat hzz)) h1) (hVL.st1 (fun v hv => by cases hv; trivial)) hVS.tl hc hs)
theorem sm_istore {j : Nat} {x : Int32} (C : am_Cx l D dA ad zz bs Ln xs d k p R s m args meth c) (hd : decode (mB k) pc = .ok (.istore j, 2)) (hj : j < mL k) (K : am_Sim D dA ad zz bs Ln xs k p l e R s m args below meth c as0 c0 s0 Q (pc + 2) (st1 (mW k) Lo j (some (.int x))) st h) : am_Sim D dA ad zz bs Ln xs k p l e R s m args below meth c as0 c0 s0 Q pc Lo (.int x :: st) h := by
  obtain ⟨hx, hb, hml, hr, hlk, hown, htr, hnm, hHH, ⟨hfr, hlo⟩, hKV, hK, hCF, ⟨hbs, hLn⟩, hzz, hinj, hadb, hU1, hU2⟩ := C
  intro as H locs ls hX hW hS hL hVL hVS hc hs
  exact lv_istore hx hb hd hL.has hj rfl (fun ls1 h1 => K as H locs ls1 hX hW hS (am_st1 hL rfl (fun v hv => by cases hv; rfl) (am_cat (am_zcat hzz)) h1) (hVL.st1 (fun v hv => by cases hv; trivial)) hVS.tl hc hs)
theorem sm_lstore_n {j : Fin 4} {x : Int64} (C : am_Cx l D dA ad zz bs Ln xs d k p R s m args meth c) (hd : decode (mB k) pc = .ok (.lstore_n j, 1)) (hj : (j : Nat) + 1 < mL k) (hw : (mW k).contains (j : Nat) = true) (K : am_Sim D dA ad zz bs Ln xs k p l e R s m args below meth c as0 c0 s0 Q (pc + 1) (st2 (mW k) Lo (j : Nat) (.long x)) st h) : am_Sim D dA ad zz bs Ln xs k p l e R s m args below meth c as0 c0 s0 Q pc Lo (.long x :: st) h := by
  obtain ⟨hx, hb, hml, hr, hlk, hown, htr, hnm, hHH, ⟨hfr, hlo⟩, hKV, hK, hCF, ⟨hbs, hLn⟩, hzz, hinj, hadb, hU1, hU2⟩ := C
  intro as H locs ls hX hW hS hL hVL hVS hc hs
  exact lv_lstore_n hx hb hd rfl hL.has hj rfl (fun ls1 h1 => K as H locs ls1 hX hW hS (am_st2 hL (by simpa using hw) rfl (am_cat (am_zcat hzz)) h1) (hVL.st2 trivial) hVS.tl hc hs)
theorem sm_lstore {j : Nat} {x : Int64} (C : am_Cx l D dA ad zz bs Ln xs d k p R s m args meth c) (hd : decode (mB k) pc = .ok (.lstore j, 2)) (hj : j + 1 < mL k) (hw : (mW k).contains j = true) (K : am_Sim D dA ad zz bs Ln xs k p l e R s m args below meth c as0 c0 s0 Q (pc + 2) (st2 (mW k) Lo j (.long x)) st h) : am_Sim D dA ad zz bs Ln xs k p l e R s m args below meth c as0 c0 s0 Q pc Lo (.long x :: st) h := by
  obtain ⟨hx, hb, hml, hr, hlk, hown, htr, hnm, hHH, ⟨hfr, hlo⟩, hKV, hK, hCF, ⟨hbs, hLn⟩, hzz, hinj, hadb, hU1, hU2⟩ := C
  intro as H locs ls hX hW hS hL hVL hVS hc hs
  exact lv_lstore hx hb hd hL.has hj rfl (fun ls1 h1 => K as H locs ls1 hX hW hS (am_st2 hL (by simpa using hw) rfl (am_cat (am_zcat hzz)) h1) (hVL.st2 trivial) hVS.tl hc hs)
theorem sm_dstore {j : Nat} {x : UInt64} (C : am_Cx l D dA ad zz bs Ln xs d k p R s m args meth c) (hd : decode (mB k) pc = .ok (.dstore j, 2)) (hj : j + 1 < mL k) (hw : (mW k).contains j = true) (K : am_Sim D dA ad zz bs Ln xs k p l e R s m args below meth c as0 c0 s0 Q (pc + 2) (st2 (mW k) Lo j (.double x)) st h) : am_Sim D dA ad zz bs Ln xs k p l e R s m args below meth c as0 c0 s0 Q pc Lo (.double x :: st) h := by
  obtain ⟨hx, hb, hml, hr, hlk, hown, htr, hnm, hHH, ⟨hfr, hlo⟩, hKV, hK, hCF, ⟨hbs, hLn⟩, hzz, hinj, hadb, hU1, hU2⟩ := C
  intro as H locs ls hX hW hS hL hVL hVS hc hs
  exact lv_dstore hx hb hd hL.has hj rfl (fun ls1 h1 => K as H locs ls1 hX hW hS (am_st2 hL (by simpa using hw) rfl (am_cat (am_zcat hzz)) h1) (hVL.st2 trivial) hVS.tl hc hs)
theorem sm_astore_n {j : Fin 4} {v : Value} (C : am_Cx l D dA ad zz bs Ln xs d k p R s m args meth c) (hd : decode (mB k) pc = .ok (.astore_n j, 1)) (hv : isRf v = true) (hj : (j : Nat) < mL k) (K : am_Sim D dA ad zz bs Ln xs k p l e R s m args below meth c as0 c0 s0 Q (pc + 1) (st1 (mW k) Lo (j : Nat) (some v)) st h) : am_Sim D dA ad zz bs Ln xs k p l e R s m args below meth c as0 c0 s0 Q pc Lo (v :: st) h := by
  obtain ⟨hx, hb, hml, hr, hlk, hown, htr, hnm, hHH, ⟨hfr, hlo⟩, hKV, hK, hCF, ⟨hbs, hLn⟩, hzz, hinj, hadb, hU1, hU2⟩ := C
  intro as H locs ls hX hW hS hL hVL hVS hc hs
  have hst : ∀ (w : Value), w.category = 1 → am_cv ad zz as v = w → ∀ ls1, lv_has ls1 (mL k) (((j : Nat), w) :: (am_al (am_cv ad zz as) 0 Lo).filter (fun q => !(q.1 == (j : Nat)) && !(q.1 + 1 == (j : Nat) && q.2.category == 2))) → W p l e R s m args below meth c H locs (nc h - c0) (ns h - s0) Q (F0 m (pc + 1) ls1 (st.map (am_cv ad zz as))) := fun w hw e1 ls1 h1 => K as H locs ls1 hX hW hS (am_st1 hL hw (fun v9 hv9 => by cases hv9; exact e1) (am_cat (am_zcat hzz)) h1) (hVL.st1 (fun v9 hv9 => by cases hv9; exact hVS.hd)) hVS.tl hc hs
  cases v with
  | ref a => exact lv_astore_n hx hb hd rfl hL.has hj rfl (hst _ rfl rfl)
  | null => exact lv_astore_nN hx hb hd rfl hL.has hj rfl (hst _ rfl rfl)
  | float w =>
    rcases hzz with rfl | ⟨a, rfl⟩
    · exact lv_astore_nN hx hb hd rfl hL.has hj rfl (hst _ rfl rfl)
    · exact lv_astore_n hx hb hd rfl hL.has hj rfl (hst _ rfl rfl)
  | _ => cases hv
theorem sm_astore {j : Nat} {v : Value} (C : am_Cx l D dA ad zz bs Ln xs d k p R s m args meth c) (hd : decode (mB k) pc = .ok (.astore j, 2)) (hv : isRf v = true) (hj : j < mL k) (K : am_Sim D dA ad zz bs Ln xs k p l e R s m args below meth c as0 c0 s0 Q (pc + 2) (st1 (mW k) Lo j (some v)) st h) : am_Sim D dA ad zz bs Ln xs k p l e R s m args below meth c as0 c0 s0 Q pc Lo (v :: st) h := by
  obtain ⟨hx, hb, hml, hr, hlk, hown, htr, hnm, hHH, ⟨hfr, hlo⟩, hKV, hK, hCF, ⟨hbs, hLn⟩, hzz, hinj, hadb, hU1, hU2⟩ := C
  intro as H locs ls hX hW hS hL hVL hVS hc hs
  have hst : ∀ (w : Value), w.category = 1 → am_cv ad zz as v = w → ∀ ls1, lv_has ls1 (mL k) ((j, w) :: (am_al (am_cv ad zz as) 0 Lo).filter (fun q => !(q.1 == j) && !(q.1 + 1 == j && q.2.category == 2))) → W p l e R s m args below meth c H locs (nc h - c0) (ns h - s0) Q (F0 m (pc + 2) ls1 (st.map (am_cv ad zz as))) := fun w hw e1 ls1 h1 => K as H locs ls1 hX hW hS (am_st1 hL hw (fun v9 hv9 => by cases hv9; exact e1) (am_cat (am_zcat hzz)) h1) (hVL.st1 (fun v9 hv9 => by cases hv9; exact hVS.hd)) hVS.tl hc hs
  cases v with
  | ref a => exact lv_astore hx hb hd hL.has hj rfl (hst _ rfl rfl)
  | null => exact lv_astoreN hx hb hd hL.has hj rfl (hst _ rfl rfl)
  | float w =>
    rcases hzz with rfl | ⟨a, rfl⟩
    · exact lv_astoreN hx hb hd hL.has hj rfl (hst _ rfl rfl)
    · exact lv_astore hx hb hd hL.has hj rfl (hst _ rfl rfl)
  | _ => cases hv
theorem sm_iinc {j : Nat} {z : Int} {x : Int32} (C : am_Cx l D dA ad zz bs Ln xs d k p R s m args meth c) (hd : decode (mB k) pc = .ok (.iinc j z, 3)) (hl : ldA Lo j = some (.int x)) (hj : j < mL k) (K : am_Sim D dA ad zz bs Ln xs k p l e R s m args below meth c as0 c0 s0 Q (pc + 3) (st1 (mW k) Lo j (some (.int (x + Int32.ofInt z)))) st h) : am_Sim D dA ad zz bs Ln xs k p l e R s m args below meth c as0 c0 s0 Q pc Lo st h := by
  obtain ⟨hx, hb, hml, hr, hlk, hown, htr, hnm, hHH, ⟨hfr, hlo⟩, hKV, hK, hCF, ⟨hbs, hLn⟩, hzz, hinj, hadb, hU1, hU2⟩ := C
  intro as H locs ls hX hW hS hL hVL hVS hc hs
  obtain ⟨i9, hi9⟩ := List.getElem?_of_mem ((am_al_mem (f := am_cv ad zz as) (L := Lo) (i := 0) (q := (0 + j, am_cv ad zz as (.int x)))).mpr ⟨j, _, am_ldA hl, rfl⟩)
  rw [Nat.zero_add] at hi9
  exact lv_iinc hx hb hd hL.has hi9 rfl hj rfl (fun ls1 h1 => K as H locs ls1 hX hW hS (am_st1 hL rfl (fun v hv => by cases hv; rfl) (am_cat (am_zcat hzz)) h1) (hVL.st1 (fun v hv => by cases hv; trivial)) hVS hc hs)
theorem am_tg_spec {pc t : Nat} {off : Int} (h : am_tg pc off = some t) : (pc : Int) + off = (t : Int) := by
  unfold am_tg at h
  split at h
  · rename_i u hu
    rw [hu]
    cases h
    rfl
  · cases h
theorem sm_if_eq {x : Int32} {off : Int} {t : Nat} (C : am_Cx l D dA ad zz bs Ln xs d k p R s m args meth c) (hd : decode (mB k) pc = .ok (.ifCond .eq off, 3)) (ht : am_tg pc off = some t) (K1 : (x = 0) → am_Sim D dA ad zz bs Ln xs k p l e R s m args below meth c as0 c0 s0 Q t Lo st h) (K2 : ¬ (x = 0) → am_Sim D dA ad zz bs Ln xs k p l e R s m args below meth c as0 c0 s0 Q (pc + 3) Lo st h) : am_Sim D dA ad zz bs Ln xs k p l e R s m args below meth c as0 c0 s0 Q pc Lo (.int x :: st) h := by
  obtain ⟨hx, hb, hml, hr, hlk, hown, htr, hnm, hHH, ⟨hfr, hlo⟩, hKV, hK, hCF, ⟨hbs, hLn⟩, hzz, hinj, hadb, hU1, hU2⟩ := C
  intro as H locs ls hX hW hS hL hVL hVS hc hs
  exact lv_if_eq hx hb hd (am_tg_spec ht) (fun q => K1 q as H locs ls hX hW hS hL hVL hVS.tl hc hs) (fun q => K2 q as H locs ls hX hW hS hL hVL hVS.tl hc hs)
theorem sm_icmp_eq {x y : Int32} {off : Int} {t : Nat} (C : am_Cx l D dA ad zz bs Ln xs d k p R s m args meth c) (hd : decode (mB k) pc = .ok (.if_icmp .eq off, 3)) (ht : am_tg pc off = some t) (K1 : (x = y) → am_Sim D dA ad zz bs Ln xs k p l e R s m args below meth c as0 c0 s0 Q t Lo st h) (K2 : ¬ (x = y) → am_Sim D dA ad zz bs Ln xs k p l e R s m args below meth c as0 c0 s0 Q (pc + 3) Lo st h) : am_Sim D dA ad zz bs Ln xs k p l e R s m args below meth c as0 c0 s0 Q pc Lo (.int y :: .int x :: st) h := by
  obtain ⟨hx, hb, hml, hr, hlk, hown, htr, hnm, hHH, ⟨hfr, hlo⟩, hKV, hK, hCF, ⟨hbs, hLn⟩, hzz, hinj, hadb, hU1, hU2⟩ := C
  intro as H locs ls hX hW hS hL hVL hVS hc hs
  exact lv_icmp_eq hx hb hd (am_tg_spec ht) (fun q => K1 q as H locs ls hX hW hS hL hVL hVS.tl.tl hc hs) (fun q => K2 q as H locs ls hX hW hS hL hVL hVS.tl.tl hc hs)
theorem sm_if_ne {x : Int32} {off : Int} {t : Nat} (C : am_Cx l D dA ad zz bs Ln xs d k p R s m args meth c) (hd : decode (mB k) pc = .ok (.ifCond .ne off, 3)) (ht : am_tg pc off = some t) (K1 : (¬ x = 0) → am_Sim D dA ad zz bs Ln xs k p l e R s m args below meth c as0 c0 s0 Q t Lo st h) (K2 : ¬ (¬ x = 0) → am_Sim D dA ad zz bs Ln xs k p l e R s m args below meth c as0 c0 s0 Q (pc + 3) Lo st h) : am_Sim D dA ad zz bs Ln xs k p l e R s m args below meth c as0 c0 s0 Q pc Lo (.int x :: st) h := by
  obtain ⟨hx, hb, hml, hr, hlk, hown, htr, hnm, hHH, ⟨hfr, hlo⟩, hKV, hK, hCF, ⟨hbs, hLn⟩, hzz, hinj, hadb, hU1, hU2⟩ := C
  intro as H locs ls hX hW hS hL hVL hVS hc hs
  exact lv_if_ne hx hb hd (am_tg_spec ht) (fun q => K1 q as H locs ls hX hW hS hL hVL hVS.tl hc hs) (fun q => K2 (fun z => z q) as H locs ls hX hW hS hL hVL hVS.tl hc hs)
theorem sm_icmp_ne {x y : Int32} {off : Int} {t : Nat} (C : am_Cx l D dA ad zz bs Ln xs d k p R s m args meth c) (hd : decode (mB k) pc = .ok (.if_icmp .ne off, 3)) (ht : am_tg pc off = some t) (K1 : (¬ x = y) → am_Sim D dA ad zz bs Ln xs k p l e R s m args below meth c as0 c0 s0 Q t Lo st h) (K2 : ¬ (¬ x = y) → am_Sim D dA ad zz bs Ln xs k p l e R s m args below meth c as0 c0 s0 Q (pc + 3) Lo st h) : am_Sim D dA ad zz bs Ln xs k p l e R s m args below meth c as0 c0 s0 Q pc Lo (.int y :: .int x :: st) h := by
  obtain ⟨hx, hb, hml, hr, hlk, hown, htr, hnm, hHH, ⟨hfr, hlo⟩, hKV, hK, hCF, ⟨hbs, hLn⟩, hzz, hinj, hadb, hU1, hU2⟩ := C
  intro as H locs ls hX hW hS hL hVL hVS hc hs
  exact lv_icmp_ne hx hb hd (am_tg_spec ht) (fun q => K1 q as H locs ls hX hW hS hL hVL hVS.tl.tl hc hs) (fun q => K2 (fun z => z q) as H locs ls hX hW hS hL hVL hVS.tl.tl hc hs)
theorem sm_if_lt {x : Int32} {off : Int} {t : Nat} (C : am_Cx l D dA ad zz bs Ln xs d k p R s m args meth c) (hd : decode (mB k) pc = .ok (.ifCond .lt off, 3)) (ht : am_tg pc off = some t) (K1 : (x < 0) → am_Sim D dA ad zz bs Ln xs k p l e R s m args below meth c as0 c0 s0 Q t Lo st h) (K2 : ¬ (x < 0) → am_Sim D dA ad zz bs Ln xs k p l e R s m args below meth c as0 c0 s0 Q (pc + 3) Lo st h) : am_Sim D dA ad zz bs Ln xs k p l e R s m args below meth c as0 c0 s0 Q pc Lo (.int x :: st) h := by
  obtain ⟨hx, hb, hml, hr, hlk, hown, htr, hnm, hHH, ⟨hfr, hlo⟩, hKV, hK, hCF, ⟨hbs, hLn⟩, hzz, hinj, hadb, hU1, hU2⟩ := C
  intro as H locs ls hX hW hS hL hVL hVS hc hs
  exact lv_if_lt hx hb hd (am_tg_spec ht) (fun q => K1 q as H locs ls hX hW hS hL hVL hVS.tl hc hs) (fun q => K2 q as H locs ls hX hW hS hL hVL hVS.tl hc hs)
theorem sm_icmp_lt {x y : Int32} {off : Int} {t : Nat} (C : am_Cx l D dA ad zz bs Ln xs d k p R s m args meth c) (hd : decode (mB k) pc = .ok (.if_icmp .lt off, 3)) (ht : am_tg pc off = some t) (K1 : (x < y) → am_Sim D dA ad zz bs Ln xs k p l e R s m args below meth c as0 c0 s0 Q t Lo st h) (K2 : ¬ (x < y) → am_Sim D dA ad zz bs Ln xs k p l e R s m args below meth c as0 c0 s0 Q (pc + 3) Lo st h) : am_Sim D dA ad zz bs Ln xs k p l e R s m args below meth c as0 c0 s0 Q pc Lo (.int y :: .int x :: st) h := by
  obtain ⟨hx, hb, hml, hr, hlk, hown, htr, hnm, hHH, ⟨hfr, hlo⟩, hKV, hK, hCF, ⟨hbs, hLn⟩, hzz, hinj, hadb, hU1, hU2⟩ := C
  intro as H locs ls hX hW hS hL hVL hVS hc hs
  exact lv_icmp_lt hx hb hd (am_tg_spec ht) (fun q => K1 q as H locs ls hX hW hS hL hVL hVS.tl.tl hc hs) (fun q => K2 q as H locs ls hX hW hS hL hVL hVS.tl.tl hc hs)
theorem sm_if_ge {x : Int32} {off : Int} {t : Nat} (C : am_Cx l D dA ad zz bs Ln xs d k p R s m args meth c) (hd : decode (mB k) pc = .ok (.ifCond .ge off, 3)) (ht : am_tg pc off = some t) (K1 : (0 ≤ x) → am_Sim D dA ad zz bs Ln xs k p l e R s m args below meth c as0 c0 s0 Q t Lo st h) (K2 : ¬ (0 ≤ x) → am_Sim D dA ad zz bs Ln xs k p l e R s m args below meth c as0 c0 s0 Q (pc + 3) Lo st h) : am_Sim D dA ad zz bs Ln xs k p l e R s m args below meth c as0 c0 s0 Q pc Lo (.int x :: st) h := by
  obtain ⟨hx, hb, hml, hr, hlk, hown, htr, hnm, hHH, ⟨hfr, hlo⟩, hKV, hK, hCF, ⟨hbs, hLn⟩, hzz, hinj, hadb, hU1, hU2⟩ := C
  intro as H locs ls hX hW hS hL hVL hVS hc hs
  exact lv_if_ge hx hb hd (am_tg_spec ht) (fun q => K1 q as H locs ls hX hW hS hL hVL hVS.tl hc hs) (fun q => K2 q as H locs ls hX hW hS hL hVL hVS.tl hc hs)
theorem sm_icmp_ge {x y : Int32} {off : Int} {t : Nat} (C : am_Cx l D dA ad zz bs Ln xs d k p R s m args meth c) (hd : decode (mB k) pc = .ok (.if_icmp .ge off, 3)) (ht : am_tg pc off = some t) (K1 : (y ≤ x) → am_Sim D dA ad zz bs Ln xs k p l e R s m args below meth c as0 c0 s0 Q t Lo st h) (K2 : ¬ (y ≤ x) → am_Sim D dA ad zz bs Ln xs k p l e R s m args below meth c as0 c0 s0 Q (pc + 3) Lo st h) : am_Sim D dA ad zz bs Ln xs k p l e R s m args below meth c as0 c0 s0 Q pc Lo (.int y :: .int x :: st) h := by
  obtain ⟨hx, hb, hml, hr, hlk, hown, htr, hnm, hHH, ⟨hfr, hlo⟩, hKV, hK, hCF, ⟨hbs, hLn⟩, hzz, hinj, hadb, hU1, hU2⟩ := C
  intro as H locs ls hX hW hS hL hVL hVS hc hs
  exact lv_icmp_ge hx hb hd (am_tg_spec ht) (fun q => K1 q as H locs ls hX hW hS hL hVL hVS.tl.tl hc hs) (fun q => K2 q as H locs ls hX hW hS hL hVL hVS.tl.tl hc hs)
theorem sm_if_gt {x : Int32} {off : Int} {t : Nat} (C : am_Cx l D dA ad zz bs Ln xs d k p R s m args meth c) (hd : decode (mB k) pc = .ok (.ifCond .gt off, 3)) (ht : am_tg pc off = some t) (K1 : (0 < x) → am_Sim D dA ad zz bs Ln xs k p l e R s m args below meth c as0 c0 s0 Q t Lo st h) (K2 : ¬ (0 < x) → am_Sim D dA ad zz bs Ln xs k p l e R s m args below meth c as0 c0 s0 Q (pc + 3) Lo st h) : am_Sim D dA ad zz bs Ln xs k p l e R s m args below meth c as0 c0 s0 Q pc Lo (.int x :: st) h := by
  obtain ⟨hx, hb, hml, hr, hlk, hown, htr, hnm, hHH, ⟨hfr, hlo⟩, hKV, hK, hCF, ⟨hbs, hLn⟩, hzz, hinj, hadb, hU1, hU2⟩ := C
  intro as H locs ls hX hW hS hL hVL hVS hc hs
  exact lv_if_gt hx hb hd (am_tg_spec ht) (fun q => K1 q as H locs ls hX hW hS hL hVL hVS.tl hc hs) (fun q => K2 q as H locs ls hX hW hS hL hVL hVS.tl hc hs)
theorem sm_icmp_gt {x y : Int32} {off : Int} {t : Nat} (C : am_Cx l D dA ad zz bs Ln xs d k p R s m args meth c) (hd : decode (mB k) pc = .ok (.if_icmp .gt off, 3)) (ht : am_tg pc off = some t) (K1 : (y < x) → am_Sim D dA ad zz bs Ln xs k p l e R s m args below meth c as0 c0 s0 Q t Lo st h) (K2 : ¬ (y < x) → am_Sim D dA ad zz bs Ln xs k p l e R s m args below meth c as0 c0 s0 Q (pc + 3) Lo st h) : am_Sim D dA ad zz bs Ln xs k p l e R s m args below meth c as0 c0 s0 Q pc Lo (.int y :: .int x :: st) h := by
  obtain ⟨hx, hb, hml, hr, hlk, hown, htr, hnm, hHH, ⟨hfr, hlo⟩, hKV, hK, hCF, ⟨hbs, hLn⟩, hzz, hinj, hadb, hU1, hU2⟩ := C
  intro as H locs ls hX hW hS hL hVL hVS hc hs
  exact lv_icmp_gt hx hb hd (am_tg_spec ht) (fun q => K1 q as H locs ls hX hW hS hL hVL hVS.tl.tl hc hs) (fun q => K2 q as H locs ls hX hW hS hL hVL hVS.tl.tl hc hs)
theorem sm_if_le {x : Int32} {off : Int} {t : Nat} (C : am_Cx l D dA ad zz bs Ln xs d k p R s m args meth c) (hd : decode (mB k) pc = .ok (.ifCond .le off, 3)) (ht : am_tg pc off = some t) (K1 : (x ≤ 0) → am_Sim D dA ad zz bs Ln xs k p l e R s m args below meth c as0 c0 s0 Q t Lo st h) (K2 : ¬ (x ≤ 0) → am_Sim D dA ad zz bs Ln xs k p l e R s m args below meth c as0 c0 s0 Q (pc + 3) Lo st h) : am_Sim D dA ad zz bs Ln xs k p l e R s m args below meth c as0 c0 s0 Q pc Lo (.int x :: st) h := by
  obtain ⟨hx, hb, hml, hr, hlk, hown, htr, hnm, hHH, ⟨hfr, hlo⟩, hKV, hK, hCF, ⟨hbs, hLn⟩, hzz, hinj, hadb, hU1, hU2⟩ := C
  intro as H locs ls hX hW hS hL hVL hVS hc hs
  exact lv_if_le hx hb hd (am_tg_spec ht) (fun q => K1 q as H locs ls hX hW hS hL hVL hVS.tl hc hs) (fun q => K2 q as H locs ls hX hW hS hL hVL hVS.tl hc hs)
theorem sm_icmp_le {x y : Int32} {off : Int} {t : Nat} (C : am_Cx l D dA ad zz bs Ln xs d k p R s m args meth c) (hd : decode (mB k) pc = .ok (.if_icmp .le off, 3)) (ht : am_tg pc off = some t) (K1 : (x ≤ y) → am_Sim D dA ad zz bs Ln xs k p l e R s m args below meth c as0 c0 s0 Q t Lo st h) (K2 : ¬ (x ≤ y) → am_Sim D dA ad zz bs Ln xs k p l e R s m args below meth c as0 c0 s0 Q (pc + 3) Lo st h) : am_Sim D dA ad zz bs Ln xs k p l e R s m args below meth c as0 c0 s0 Q pc Lo (.int y :: .int x :: st) h := by
  obtain ⟨hx, hb, hml, hr, hlk, hown, htr, hnm, hHH, ⟨hfr, hlo⟩, hKV, hK, hCF, ⟨hbs, hLn⟩, hzz, hinj, hadb, hU1, hU2⟩ := C
  intro as H locs ls hX hW hS hL hVL hVS hc hs
  exact lv_icmp_le hx hb hd (am_tg_spec ht) (fun q => K1 q as H locs ls hX hW hS hL hVL hVS.tl.tl hc hs) (fun q => K2 q as H locs ls hX hW hS hL hVL hVS.tl.tl hc hs)
theorem sm_goto {off : Int} {t : Nat} (C : am_Cx l D dA ad zz bs Ln xs d k p R s m args meth c) (hd : decode (mB k) pc = .ok (.goto off, 3)) (ht : am_tg pc off = some t) (K : am_Sim D dA ad zz bs Ln xs k p l e R s m args below meth c as0 c0 s0 Q t Lo st h) : am_Sim D dA ad zz bs Ln xs k p l e R s m args below meth c as0 c0 s0 Q pc Lo st h := by
  obtain ⟨hx, hb, hml, hr, hlk, hown, htr, hnm, hHH, ⟨hfr, hlo⟩, hKV, hK, hCF, ⟨hbs, hLn⟩, hzz, hinj, hadb, hU1, hU2⟩ := C
  intro as H locs ls hX hW hS hL hVL hVS hc hs
  exact lv_goto hx hb hd (am_tg_spec ht) (K as H locs ls hX hW hS hL hVL hVS hc hs)
theorem sm_ifnullN {a : Nat} {off : Int} {t : Nat} (C : am_Cx l D dA ad zz bs Ln xs d k p R s m args meth c) (hd : decode (mB k) pc = .ok (.ifnull off, 3)) (ht : am_tg pc off = some t) (K : am_Sim D dA ad zz bs Ln xs k p l e R s m args below meth c as0 c0 s0 Q t Lo st h) : am_Sim D dA ad zz bs Ln xs k p l e R s m args below meth c as0 c0 s0 Q pc Lo (.null :: st) h := by
  obtain ⟨hx, hb, hml, hr, hlk, hown, htr, hnm, hHH, ⟨hfr, hlo⟩, hKV, hK, hCF, ⟨hbs, hLn⟩, hzz, hinj, hadb, hU1, hU2⟩ := C
  intro as H locs ls hX hW hS hL hVL hVS hc hs
  exact lv_ifnullN hx hb hd (am_tg_spec ht) (K as H locs ls hX hW hS hL hVL hVS.tl hc hs)
theorem sm_ifnonnullR {a : Nat} {off : Int} {t : Nat} (C : am_Cx l D dA ad zz bs Ln xs d k p R s m args meth c) (hd : decode (mB k) pc = .ok (.ifnonnull off, 3)) (ht : am_tg pc off = some t) (K : am_Sim D dA ad zz bs Ln xs k p l e R s m args below meth c as0 c0 s0 Q t Lo st h) : am_Sim D dA ad zz bs Ln xs k p l e R s m args below meth c as0 c0 s0 Q pc Lo (.ref a :: st) h := by
  obtain ⟨hx, hb, hml, hr, hlk, hown, htr, hnm, hHH, ⟨hfr, hlo⟩, hKV, hK, hCF, ⟨hbs, hLn⟩, hzz, hinj, hadb, hU1, hU2⟩ := C
  intro as H locs ls hX hW hS hL hVL hVS hc hs
  exact lv_ifnonnull hx hb hd (am_tg_spec ht) (K as H locs ls hX hW hS hL hVL hVS.tl hc hs)
theorem sm_ifnullR {a : Nat} {off : Int} (C : am_Cx l D dA ad zz bs Ln xs d k p R s m args meth c) (hd : decode (mB k) pc = .ok (.ifnull off, 3)) (K : am_Sim D dA ad zz bs Ln xs k p l e R s m args below meth c as0 c0 s0 Q (pc + 3) Lo st h) : am_Sim D dA ad zz bs Ln xs k p l e R s m args below meth c as0 c0 s0 Q pc Lo (.ref a :: st) h := by
  obtain ⟨hx, hb, hml, hr, hlk, hown, htr, hnm, hHH, ⟨hfr, hlo⟩, hKV, hK, hCF, ⟨hbs, hLn⟩, hzz, hinj, hadb, hU1, hU2⟩ := C
  intro as H locs ls hX hW hS hL hVL hVS hc hs
  exact lv_ifnull hx hb hd (K as H locs ls hX hW hS hL hVL hVS.tl hc hs)
theorem sm_ifnonnullN {a : Nat} {off : Int} (C : am_Cx l D dA ad zz bs Ln xs d k p R s m args meth c) (hd : decode (mB k) pc = .ok (.ifnonnull off, 3)) (K : am_Sim D dA ad zz bs Ln xs k p l e R s m args below meth c as0 c0 s0 Q (pc + 3) Lo st h) : am_Sim D dA ad zz bs Ln xs k p l e R s m args below meth c as0 c0 s0 Q pc Lo (.null :: st) h := by
  obtain ⟨hx, hb, hml, hr, hlk, hown, htr, hnm, hHH, ⟨hfr, hlo⟩, hKV, hK, hCF, ⟨hbs, hLn⟩, hzz, hinj, hadb, hU1, hU2⟩ := C
  intro as H locs ls hX hW hS hL hVL hVS hc hs
  exact lv_ifnonnullN hx hb hd (K as H locs ls hX hW hS hL hVL hVS.tl hc hs)
theorem sm_tableOut {x : Int32} {df lo hi : Int} {offs : Array Int} {len t : Nat} (C : am_Cx l D dA ad zz bs Ln xs d k p R s m args meth c) (hd : decode (mB k) pc = .ok (.tableswitch df lo hi offs, len)) (hq : x.toInt < lo ∨ hi < x.toInt) (ht : am_tg pc df = some t) (K : am_Sim D dA ad zz bs Ln xs k p l e R s m args below meth c as0 c0 s0 Q t Lo st h) : am_Sim D dA ad zz bs Ln xs k p l e R s m args below meth c as0 c0 s0 Q pc Lo (.int x :: st) h := by
  obtain ⟨hx, hb, hml, hr, hlk, hown, htr, hnm, hHH, ⟨hfr, hlo⟩, hKV, hK, hCF, ⟨hbs, hLn⟩, hzz, hinj, hadb, hU1, hU2⟩ := C
  intro as H locs ls hX hW hS hL hVL hVS hc hs
  exact lv_tableOut hx hb hd hq (am_tg_spec ht) (K as H locs ls hX hW hS hL hVL hVS.tl hc hs)
theorem sm_tableIn {x : Int32} {df lo hi off : Int} {offs : Array Int} {len t : Nat} (C : am_Cx l D dA ad zz bs Ln xs d k p R s m args meth c) (hd : decode (mB k) pc = .ok (.tableswitch df lo hi offs, len)) (hq : ¬ (x.toInt < lo ∨ hi < x.toInt)) (ho : offs[(x.toInt - lo).toNat]? = some off) (ht : am_tg pc off = some t) (K : am_Sim D dA ad zz bs Ln xs k p l e R s m args below meth c as0 c0 s0 Q t Lo st h) : am_Sim D dA ad zz bs Ln xs k p l e R s m args below meth c as0 c0 s0 Q pc Lo (.int x :: st) h := by
  obtain ⟨hx, hb, hml, hr, hlk, hown, htr, hnm, hHH, ⟨hfr, hlo⟩, hKV, hK, hCF, ⟨hbs, hLn⟩, hzz, hinj, hadb, hU1, hU2⟩ := C
  intro as H locs ls hX hW hS hL hVL hVS hc hs
  exact lv_tableIn hx hb hd (fun q => hq (Or.inl q)) (fun q => hq (Or.inr q)) ho (am_tg_spec ht) (K as H locs ls hX hW hS hL hVL hVS.tl hc hs)
end SIM
