/-! THE TABLES' WORDS, and what else stands in the tables and the constants, and stays. -/
def am_isN : Cond → Bool
  | .fieldLinkNest .. => true
  | .methodLinkNest .. => true
  | .castable .. => true
  | .declares .. => true
  | _ => false
def am_GW : List Cond := am_tb.filter goodWord
def am_NW : List Cond := am_tb.filter am_isN
def am_tys (dA : Nat → ClassId) : List (ClassId × FieldType) := [(dA 1, .int), (dA 2, .long), (dA 3, .byte), (dA 4, .object "MarkShelter$Sign"), (dA 5, .object "MarkShelter$Stray"), (dA 6, .object "MarkShelter$Order"), (dA 7, .object "java/lang/String"), (dA 8, .array .int), (dA 9, .boolean)]
/-- the texts of exceptions: by the throw sites -/
def k_txt : List (String × Nat × String) := [("MarkShelter", 46, "the tape is full"), ("MarkShelter", 57, "not 0 to the bytes of the tape"), ("MarkShelter", 123, "in no house"), ("MarkShelter", 139, "no such stray"), ("MarkShelter", 142, "not here"), ("MarkShelter", 144, "no such house"), ("MarkShelter", 171, "not 1 to 99 coins"), ("MarkShelter", 177, "it cannot be done"), ("MarkShelter", 212, "not 1 to 30 days")]
/-- the class of rows of rows of ints -/
def am_AA (U : State) : Prop := (Cond.arrayOver (.array .int)).before #[] U = true
theorem am_AAs {args : Array Value} {s : State} (h : (Cond.arrayOver (.array .int)).before args s = true) : ∃ comp c k, s.vm.findClass "[I" = some comp ∧ (s.vm.classes.findIdx? fun x => match x.kind with | .array component _ => component == comp | _ => false) = some c ∧ s.vm.classes[c]? = some k ∧ k.kind = .array comp (.array .int) ∧ s.vm.findClass "[[I" = some c := by
  obtain ⟨comp, c, k, h1, h2, h3, h4, h5⟩ := arrayOverA_spec h
  exact ⟨comp, c, k, h1, h2, h3, h4, h5⟩
theorem am_AA.moved {u U : State} (hvm : u.vm.Alike U.vm) (h : am_AA u) : am_AA U := by
  obtain ⟨comp, c, k, h1, h2, h3, h4, h5⟩ := am_AAs h
  obtain ⟨k', hk', he⟩ := hvm.2.2 _ _ h3
  have hi : (U.vm.classes.findIdx? fun (x : Class) => match x.kind with | .array component _ => component == comp | _ => false) = some c := by
    refine Eq.trans (va_idx_bare U.vm comp).symm ?_
    first | rw [hvm.bare_eq] | rw [← hvm.bare_eq]
    exact (va_idx_bare u.vm comp).trans h2
  have hkind : k'.kind = .array comp (.array .int) := by rw [he]; exact h4
  have f1 : U.vm.findClass (FieldType.array .int).toString = some comp := by rw [hvm.findClass]; exact h1
  have f2 : U.vm.findClass ("[" ++ (FieldType.array .int).toString) = some c := by rw [hvm.findClass]; exact h5
  unfold am_AA Cond.before Cond.holds
  simp only [Cond.value]
  rw [f1, Option.bind_some]
  refine (congrArg (fun o : Option Nat => (o.bind (fun c => (U.vm.classes[c]?).map fun (k : Class) => match k.kind with | .array _ ty => decide (ty = FieldType.array .int) && decide (U.vm.findClass ("[" ++ (FieldType.array .int).toString) = some c) | _ => false) == some true)) hi).trans ?_
  simp [hk', hkind, f2]
/-- what the law's own exceptions are not -/
def am_CX (U : State) : Prop := U = U
theorem am_CX.moved {u U : State} (_hvm : u.vm.Alike U.vm) (_h : am_CX u) : am_CX U := rfl
def am_KV (ad : Nat → Nat) (U : State) : Prop :=
  (∀ w ∈ am_GW, w.before #[] U = true) ∧ (∀ w ∈ am_NW, va_Nw w U) ∧ (va_AO "MarkShelter$Sign" U ∧ va_AO "MarkShelter$Stray" U ∧ va_AO "MarkShelter$Order" U ∧ va_AO "java/lang/String" U ∧ am_AA U) ∧
  (∀ e ∈ k_txt, ∃ a, vk_R e.1 e.2.1 e.2.2 a U) ∧ (∀ e ∈ k_ldc, vk_R e.1 e.2.1 e.2.2.1 (ad (k_sA e.2.2.2)) U) ∧ am_CX U
theorem am_gw {w : Cond} (hg : goodWord w = true) {args : Array Value} {U : State} (h : w.before #[] U = true) : w.before args U = true := word_at (State.WarmedH.refl U) (good_of_word hg) h
theorem am_gwf {w : Cond} (h : w ∈ am_GW) : goodWord w = true := (List.mem_filter.mp h).2
theorem am_warmD {y : MethodName} {s U : State} (hW : s.WarmedH U.vm) (hZ : va_Nw (.declares y) s) : va_Nw (.declares y) U := va_tabs rfl (rfl : (s.setVm U.vm).vm = U.vm) (by rw [Cond.declares_setVm hW.alike]; exact hZ)
theorem am_nw {w : Cond} (hw : am_isN w = true) {s U : State} (hW : s.WarmedH U.vm) (h : va_Nw w s) : va_Nw w U := by
  cases w <;> first | exact va_Nw.warmF hW h | exact va_Nw.warmM hW h | exact va_Nw.warmC hW h | exact am_warmD hW h | (exact absurd hw Bool.false_ne_true)
theorem am_KV.warm {ad : Nat → Nat} {s U : State} (hW : s.WarmedH U.vm) (h : am_KV ad s) : am_KV ad U := by
  obtain ⟨h1, h2, ⟨h3, h4, h5, h6a, h6b⟩, h6, h7, h8⟩ := h
  refine ⟨fun w hw => word_at hW (good_of_word (am_gwf hw)) (h1 w hw), fun w hw => am_nw (List.mem_filter.mp hw).2 hW (h2 w hw), ⟨h3.moved hW.alike, h4.moved hW.alike, h5.moved hW.alike, h6a.moved hW.alike, h6b.moved hW.alike⟩, fun e he => ?_, fun e he => (h7 e he).warm hW, h8.moved hW.alike⟩
  obtain ⟨a, ha⟩ := h6 e he
  exact ⟨a, ha.warm hW⟩
/-- the constants, in the tables and the heap -/
def am_CF (ad : Nat → Nat) (zz : Value) (L : Nat) (xs : Nat → Int32) (A : Nat → Prop) (U : State) (H : Heap) : Prop :=
  (∀ i, i < 49 → va_O "MarkShelter$Sign" (ad i) A U H ∧ va_OF "java/lang/Enum" "ordinal" "I" (.int (nI i)) (ad i) A U H ∧ va_OF "MarkShelter$Sign" "text" "Ljava/lang/String;" (.ref (ad (60 + k_text.getD i 0))) (ad i) A U H) ∧
  (∀ i, i < 65 → va_O "java/lang/String" (ad (k_sA i)) A U H ∧ va_OF "java/lang/String" "value" "[B" (.ref (ad (k_bA i))) (ad (k_sA i)) A U H ∧ va_OF "java/lang/String" "coder" "B" (.int 0) (ad (k_sA i)) A U H ∧ va_T .byte (ad (k_bA i)) (k_len.getD i 0) (fun j => .int ((k_byt.getD i []).getD j 0)) A U H) ∧
  (∀ (i : Nat) (e : (Nat × Nat) × Value) (w : String × String × String × String × Nat), sT[i]? = some e → sWs[i]? = some w → va_Z w.1 w.2.1 w.2.2.1 (am_cv ad zz [] e.2) A U H) ∧
  va_T (.object "MarkShelter$Sign") (ad 49) 49 (fun j => .ref (ad j)) A U H ∧ va_T .byte (ad 50) 100 (fun j => .int (k_tens.getD j 0)) A U H ∧
  va_T .byte (ad 51) 100 (fun j => .int (k_ones.getD j 0)) A U H ∧ va_T .int (ad 52) 49 (fun j => .int (k_switch.getD j 0)) A U H ∧ va_T .int (ad 53) L (fun j => .int (xs j)) A U H
theorem am_CF.moved {ad : Nat → Nat} {zz : Value} {L : Nat} {xs : Nat → Int32} {A : Nat → Prop} {u U : State} {H : Heap} (hvm : u.vm.Alike U.vm) (h : am_CF ad zz L xs A u H) : am_CF ad zz L xs A U H := by
  obtain ⟨h1, h2, h3, h4, h5, h6, h7, h8⟩ := h
  exact ⟨fun i hi => ⟨(h1 i hi).1.moved hvm, (h1 i hi).2.1.moved hvm, (h1 i hi).2.2.moved hvm⟩, fun i hi => ⟨(h2 i hi).1.moved hvm, (h2 i hi).2.1.moved hvm, (h2 i hi).2.2.1.moved hvm, (h2 i hi).2.2.2.moved hvm⟩, fun i e w he hw => (h3 i e w he hw).moved hvm, h4.moved hvm, h5.moved hvm, h6.moved hvm, h7.moved hvm, h8.moved hvm⟩
theorem am_CF.kept {ad : Nat → Nat} {zz : Value} {L : Nat} {xs : Nat → Int32} {A : Nat → Prop} {U : State} {H H1 : Heap} (hq : ∀ a : Nat, a < H.size → ¬ A a → H1[a]? = H[a]?) (h : am_CF ad zz L xs A U H) : am_CF ad zz L xs A U H1 := by
  obtain ⟨h1, h2, h3, h4, h5, h6, h7, h8⟩ := h
  exact ⟨fun i hi => ⟨(h1 i hi).1.kept hq, (h1 i hi).2.1.kept hq, (h1 i hi).2.2.kept hq⟩, fun i hi => ⟨(h2 i hi).1.kept hq, (h2 i hi).2.1.kept hq, (h2 i hi).2.2.1.kept hq, (h2 i hi).2.2.2.kept hq⟩, fun i e w he hw => (h3 i e w he hw).kept hq, h4.kept hq, h5.kept hq, h6.kept hq, h7.kept hq, h8.kept hq⟩
/-! the tables' entries, each held to its words -/
/-- word i of the tables -/
def am_wd (i : Nat) (w : Cond) : Bool := decide (am_tb[i]? = some w) && goodWord w
theorem am_wd_mem {i : Nat} {w : Cond} (h : am_wd i w = true) : w ∈ am_GW := by
  unfold am_wd at h
  rw [Bool.and_eq_true, decide_eq_true_eq] at h
  exact List.mem_filter.mpr ⟨List.mem_of_getElem? h.1, h.2⟩
def am_wn (i : Nat) (w : Cond) : Bool := decide (am_tb[i]? = some w) && am_isN w
theorem am_wn_mem {i : Nat} {w : Cond} (h : am_wn i w = true) : w ∈ am_NW := by
  unfold am_wn at h
  rw [Bool.and_eq_true, decide_eq_true_eq] at h
  exact List.mem_filter.mpr ⟨List.mem_of_getElem? h.1, h.2⟩
theorem am_lays : vwCl.all (fun q => (u_ws q.1 q.2.1 q.2.2).all (fun w => decide (w ∈ am_tb) && goodWord w)) = true := by decide +kernel
theorem am_lays_in {ci : Nat} {q : vw_C} (h : vwCl[ci]? = some q) : ∀ w ∈ u_ws q.1 q.2.1 q.2.2, w ∈ am_GW := by
  intro w hw
  have h1 := List.all_eq_true.mp (List.all_eq_true.mp am_lays q (List.mem_of_getElem? h)) w hw
  rw [Bool.and_eq_true, decide_eq_true_eq] at h1
  exact List.mem_filter.mpr h1
