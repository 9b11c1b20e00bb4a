/-! CALLEES, HELD TO THEIR WORDS. -/
def am_mhd (y : MethodName) : Bool := decide (y.cls ≠ "java/lang/invoke/MethodHandle") && decide (y.cls ≠ "java/lang/invoke/VarHandle") && plainName y.cls && decide (y.name ≠ "law")
def am_cw (k : Nat) : Cond := .code (mY k) (mB k) (mL k) (mRT k)
def am_cwH (k : Nat) : Cond := .codeWith (mY k) (mB k) (mL k) (mRT k) (mH k)
/-- a callee, held to its words -/
def am_kok (y kc : Nat) (w : Nat × Nat × Nat × Nat) : Bool :=
  am_mhd (mY y) && decide ((mY y).cls = cNm (mC y)) && decide (mL y ≤ 20) && am_wd w.1 (.initialized (mY y).cls) &&
  am_wd w.2.1 (if kc = 7 then am_cwH y else am_cw y) &&
  am_wd w.2.2.1 (if kc = 0 ∨ kc = 1 ∨ kc = 7 then .static (mY y) else .instanceMethod (mY y)) &&
  (if kc = 2 then am_wd w.2.2.2 (.selects (mY y).cls (mY y) (mY y)) else if kc = 5 then am_wd w.2.2.2 (.selects "MarkShelter$Sign" ⟨"MarkShelter$Sign", "ordinal", "()I"⟩ (mY y)) else true)
theorem am_kck0 : kT0.all (fun q => am_kok q.1 q.2.1 q.2.2) = true := by decide +kernel
theorem am_kck1 : kT1.all (fun q => am_kok q.1 q.2.1 q.2.2) = true := by decide +kernel
theorem am_kck2 : kT2.all (fun q => am_kok q.1 q.2.1 q.2.2) = true := by decide +kernel
theorem am_kck3 : kT3.all (fun q => am_kok q.1 q.2.1 q.2.2) = true := by decide +kernel
theorem am_kck4 : kT4.all (fun q => am_kok q.1 q.2.1 q.2.2) = true := by decide +kernel
theorem am_kck5 : kT5.all (fun q => am_kok q.1 q.2.1 q.2.2) = true := by decide +kernel
