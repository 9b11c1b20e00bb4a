/-! THE TABLES' WORDS, with those that follow of AbstractStringBuilder's methods on a StringBuilder. -/
theorem am_selP {y : MethodName} {s : State} {args : Array Value} {C nm ds : String} {n : Nat} (hy : y.cls ≠ "java/lang/invoke/MethodHandle" ∧ y.cls ≠ "java/lang/invoke/VarHandle")
    (hins : (Cond.instantiable C n).before args s = true) (hpriv : (Cond.privateMethod y).before args s = true) (hinst : (Cond.instanceMethod y).before args s = true)
    (hi2 : (Cond.instanceMethod ⟨y.cls, nm, ds⟩).before args s = true) (hsame : (Cond.sameMethod y.cls y.cls nm ds).before args s = true) : (Cond.selects C y y).before args s = true := by
  obtain ⟨c, k, hc, hk, -, hniab, -, -⟩ := Cond.instantiable_spec hins
  obtain ⟨mk, methM, hnamed, hmethM, -, -⟩ := Cond.instanceMethod_spec hinst
  obtain ⟨mk2, methM2, hnamed2, -, -, -⟩ := Cond.instanceMethod_spec hi2
  have hfound : s.methodFound? y.cls y.name y.desc = some mk := State.methodFound?_of_named hnamed hy
  have hfound2 : s.methodFound? y.cls nm ds = some mk2 := State.methodFound?_of_named (x := ⟨y.cls, nm, ds⟩) hnamed2 hy
  have hcy : s.vm.findClass y.cls = some mk.cls := findClass_of_methodNamed hnamed
  obtain ⟨-, k2, hk2, hni⟩ := Cond.sameMethod_spec hcy hfound2 hsame
  have hsel : selectMethod {} s.vm c mk = .method mk := selectMethod_private hmethM (Cond.privateMethod_at hpriv mk methM hnamed hmethM)
  simp only [Cond.before, Cond.holds, Cond.value, hc, hfound, hnamed, hsel, hk2]
  simp; exact hni
theorem am_samP {y : MethodName} {s : State} {args : Array Value} {nm ds : String} (hy : y.cls ≠ "java/lang/invoke/MethodHandle" ∧ y.cls ≠ "java/lang/invoke/VarHandle")
    (hinst : (Cond.instanceMethod y).before args s = true)
    (hi2 : (Cond.instanceMethod ⟨y.cls, nm, ds⟩).before args s = true) (hsame : (Cond.sameMethod y.cls y.cls nm ds).before args s = true) : (Cond.sameMethod y.cls y.cls y.name y.desc).before args s = true := by
  obtain ⟨mk, methM, hnamed, hmethM, -, -⟩ := Cond.instanceMethod_spec hinst
  obtain ⟨mk2, methM2, hnamed2, -, -, -⟩ := Cond.instanceMethod_spec hi2
  have hfound : s.methodFound? y.cls y.name y.desc = some mk := State.methodFound?_of_named hnamed hy
  have hfound2 : s.methodFound? y.cls nm ds = some mk2 := State.methodFound?_of_named (x := ⟨y.cls, nm, ds⟩) hnamed2 hy
  have hcy : s.vm.findClass y.cls = some mk.cls := findClass_of_methodNamed hnamed
  obtain ⟨-, k2, hk2, hni⟩ := Cond.sameMethod_spec hcy hfound2 hsame
  have hn3 : s.methodNamed? ⟨y.cls, y.name, y.desc⟩ = some mk := hnamed
  simp only [Cond.before, Cond.holds, Cond.value, hcy, hfound, hn3, hk2]
  simp; exact hni
def am_xw : List Cond := k_asb.map (fun y => Cond.selects "java/lang/StringBuilder" y y) ++ k_sup.map (fun y => Cond.sameMethod y.cls y.cls y.name y.desc)
def am_tb : List Cond := lw_tbl ++ am_xw
def am_xl : MethodName := ⟨"java/lang/AbstractStringBuilder", "isLatin1", "()Z"⟩
theorem am_xck : (k_asb.all (fun y => decide (y.cls = "java/lang/AbstractStringBuilder") && decide (Cond.privateMethod y ∈ lw_tbl) && decide (Cond.instanceMethod y ∈ lw_tbl)) && k_sup.all (fun y => decide (y.cls = "java/lang/AbstractStringBuilder") && decide (Cond.instanceMethod y ∈ lw_tbl)) &&
  decide (Cond.instantiable "java/lang/StringBuilder" 4 ∈ lw_tbl) && decide (Cond.instanceMethod am_xl ∈ lw_tbl) && decide (Cond.sameMethod am_xl.cls am_xl.cls am_xl.name am_xl.desc ∈ lw_tbl)) = true := by decide +kernel
theorem am_tb_ok {s : State} {args : Array Value} (h : ∀ w ∈ lw_tbl, w.before args s = true) : ∀ w ∈ am_tb, w.before args s = true := by
  have hk := am_xck
  simp only [Bool.and_eq_true, decide_eq_true_eq] at hk
  obtain ⟨⟨⟨⟨k1, k2⟩, k3⟩, k4⟩, k5⟩ := hk
  intro w hw
  rcases List.mem_append.mp hw with hw | hw
  · exact h w hw
  · rcases List.mem_append.mp hw with hw | hw
    · obtain ⟨y, hy, rfl⟩ := List.mem_map.mp hw
      have hy1 := List.all_eq_true.mp k1 y hy
      simp only [Bool.and_eq_true, decide_eq_true_eq] at hy1
      obtain ⟨⟨e, p1⟩, p2⟩ := hy1
      exact am_selP (C := "java/lang/StringBuilder") (n := 4) (nm := am_xl.name) (ds := am_xl.desc) (by rw [e]; decide) (h _ k3) (h _ p1) (h _ p2) (by rw [e]; exact h _ k4) (by rw [e]; exact h _ k5)
    · obtain ⟨y, hy, rfl⟩ := List.mem_map.mp hw
      have hy1 := List.all_eq_true.mp k2 y hy
      simp only [Bool.and_eq_true, decide_eq_true_eq] at hy1
      obtain ⟨e, p2⟩ := hy1
      exact am_samP (nm := am_xl.name) (ds := am_xl.desc) (by rw [e]; decide) (h _ p2) (by rw [e]; exact h _ k4) (by rw [e]; exact h _ k5)
