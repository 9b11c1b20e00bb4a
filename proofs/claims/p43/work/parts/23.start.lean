/-! THE START: what the Statement gives of it is what the abstract machine's context asks. -/
theorem am_rg {N : Nat} {f : Nat → Bool} (h : (List.range N).all f = true) {i : Nat} (hi : i < N) : f i = true := List.all_eq_true.mp h i (List.mem_range.mpr hi)
noncomputable def am_ads (args : Array Value) (s : State) (b n : Nat) : Nat := match (am_tm n).eval args s none [] s with
  | some (.ref a) => a
  | _ => b
section START
variable {s : State} {args : Array Value} {b L : Nat} {xs : Nat → Int32}
theorem am_nh (hN : ∀ w ∈ am_nl, w.before args s = true) {i : Nat} {w : Cond} (h : am_nq i w = true) : w.before args s = true := hN w (List.mem_of_getElem? (of_decide_eq_true h))
theorem am_ads_of {n a : Nat} (h : (am_tm n).eval args s none [] s = some (.ref a)) : am_ads args s b n = a := by
  unfold am_ads
  rw [h]
theorem am_hA (a : Nat) (h : a < s.heap.size) : ¬ am_A s.heap.size a := fun q => absurd (Nat.lt_of_lt_of_le h q) (Nat.lt_irrefl _)
theorem am_ex {t : Term} {E : String} (h : (Cond.exactly t E).before args s = true) : ∃ a : Nat, t.eval args s none [] s = some (.ref a) ∧ va_O E a (am_A s.heap.size) s s.heap := by
  obtain ⟨a, c, cell, k, q1, q2, q3, q4, q5, q6, -⟩ := Cond.exactly_spec h
  exact ⟨a, q1, cell, q3, q5, by rw [q6]; exact q2, am_hA a (Array.getElem?_eq_some_iff.mp q3).1⟩
theorem am_s1 (hN : ∀ w ∈ am_nl, w.before args s = true) (b : Nat) {i : Nat} (hi : i < 49) : (am_tm i).eval args s none [] s = some (.ref (am_ads args s b i)) ∧ va_O "MarkShelter$Sign" (am_ads args s b i) (am_A s.heap.size) s s.heap := by
  obtain ⟨a, h1, h2⟩ := am_ex (am_nh hN (am_rg am_f1 hi))
  rw [am_ads_of h1]
  exact ⟨h1, h2⟩
theorem am_s4 (hN : ∀ w ∈ am_nl, w.before args s = true) (b : Nat) {i : Nat} (hi : i < 65) : (am_tm (k_sA i)).eval args s none [] s = some (.ref (am_ads args s b (k_sA i))) ∧ va_O "java/lang/String" (am_ads args s b (k_sA i)) (am_A s.heap.size) s s.heap := by
  obtain ⟨a, h1, h2⟩ := am_ex (am_nh hN (am_rg am_f4 hi))
  rw [am_ads_of h1]
  exact ⟨h1, h2⟩
theorem am_klen : (List.range 65).all (fun i => decide (k_len.getD i 0 < 2 ^ 31)) = true := by decide +kernel
theorem am_ktx : (List.range 49).all (fun i => decide (k_text.getD i 0 < 46 ∧ k_sA (k_text.getD i 0) = 60 + k_text.getD i 0)) = true := by decide +kernel
theorem am_tm60 : (List.range 65).all (fun i => decide (am_tm (k_bA i) = .field (am_tm (k_sA i)) "java/lang/String" "value" "[B")) = true := by decide +kernel
theorem am_s6 (hN : ∀ w ∈ am_nl, w.before args s = true) (b : Nat) {i : Nat} (hi : i < 65) : (am_tm (k_bA i)).eval args s none [] s = some (.ref (am_ads args s b (k_bA i))) ∧ va_T .byte (am_ads args s b (k_bA i)) (k_len.getD i 0) (fun j => .int ((k_byt.getD i []).getD j 0)) (am_A s.heap.size) s s.heap := by
  obtain ⟨t, h1, h2⟩ := va_Tof (f := fun j => .int ((k_byt.getD i []).getD j 0)) (A := am_A s.heap.size) (of_decide_eq_true (am_rg am_klen hi)) (am_nh hN (am_rg am_f6 hi)) (va_eqt (am_nh hN (am_rg am_f7 hi))) (fun j hj => va_eqt (am_nh hN (am_rg (am_rg am_f9 hi) hj))) am_hA
  rw [am_ads_of h1]
  exact ⟨h1, h2⟩
theorem am_s2 (hN : ∀ w ∈ am_nl, w.before args s = true) (b : Nat) {i : Nat} (hi : i < 49) : va_OF "java/lang/Enum" "ordinal" "I" (.int (nI i)) (am_ads args s b i) (am_A s.heap.size) s s.heap :=
  vk_OFof (am_s1 hN b hi).1 (va_eqt (am_nh hN (am_rg am_f2 hi))) am_hA
theorem am_s3 (hN : ∀ w ∈ am_nl, w.before args s = true) (b : Nat) {i : Nat} (hi : i < 49) : va_OF "MarkShelter$Sign" "text" "Ljava/lang/String;" (.ref (am_ads args s b (60 + k_text.getD i 0))) (am_ads args s b i) (am_A s.heap.size) s s.heap :=
  vk_OFof (am_s1 hN b hi).1 (va_eqv (am_nh hN (am_rg am_f3 hi)) (by have h9 := of_decide_eq_true (am_rg am_ktx hi); have h8 := (am_s4 hN b (i := k_text.getD i 0) (by omega)).1; rwa [h9.2] at h8)) am_hA
theorem am_s5 (hN : ∀ w ∈ am_nl, w.before args s = true) (b : Nat) {i : Nat} (hi : i < 65) : va_OF "java/lang/String" "coder" "B" (.int 0) (am_ads args s b (k_sA i)) (am_A s.heap.size) s s.heap :=
  vk_OFof (am_s4 hN b hi).1 (va_eqt (am_nh hN (am_rg am_f5 hi))) am_hA
theorem am_s5v (hN : ∀ w ∈ am_nl, w.before args s = true) (b : Nat) {i : Nat} (hi : i < 65) : va_OF "java/lang/String" "value" "[B" (.ref (am_ads args s b (k_bA i))) (am_ads args s b (k_sA i)) (am_A s.heap.size) s s.heap := by
  have h1 := (am_s6 hN b hi).1
  rw [of_decide_eq_true (am_rg am_tm60 hi)] at h1
  exact vk_OFof (am_s4 hN b hi).1 h1 am_hA
theorem am_s10 (hN : ∀ w ∈ am_nl, w.before args s = true) (b : Nat) : (am_tm 49).eval args s none [] s = some (.ref (am_ads args s b 49)) ∧ va_T (.object "MarkShelter$Sign") (am_ads args s b 49) 49 (fun j => .ref (am_ads args s b j)) (am_A s.heap.size) s s.heap := by
  have h15 := am_f15
  simp only [Bool.and_eq_true] at h15
  obtain ⟨⟨⟨⟨⟨⟨⟨h1, h2⟩, h3⟩, h4⟩, h5⟩, h6⟩, h7⟩, h8⟩ := h15
  obtain ⟨t, q1, q2⟩ := va_Tof (N := 49) (f := fun j => .ref (am_ads args s b j)) (A := am_A s.heap.size) (by decide) (am_nh hN h1) (va_eqt (am_nh hN h2)) (fun j hj => va_eqv (am_nh hN (am_rg am_f10 hj)) (am_s1 hN b hj).1) am_hA
  rw [am_ads_of q1]
  exact ⟨q1, q2⟩
theorem am_s11 (hN : ∀ w ∈ am_nl, w.before args s = true) (b : Nat) : (am_tm 50).eval args s none [] s = some (.ref (am_ads args s b 50)) ∧ va_T .byte (am_ads args s b 50) 100 (fun j => .int (k_tens.getD j 0)) (am_A s.heap.size) s s.heap := by
  have h15 := am_f15
  simp only [Bool.and_eq_true] at h15
  obtain ⟨⟨⟨⟨⟨⟨⟨h1, h2⟩, h3⟩, h4⟩, h5⟩, h6⟩, h7⟩, h8⟩ := h15
  obtain ⟨t, q1, q2⟩ := va_Tof (N := 100) (f := fun j => .int (k_tens.getD j 0)) (A := am_A s.heap.size) (by decide) (am_nh hN h3) (va_eqt (am_nh hN h4)) (fun j hj => va_eqt (am_nh hN (am_rg am_f11 hj))) am_hA
  rw [am_ads_of q1]
  exact ⟨q1, q2⟩
theorem am_s13 (hN : ∀ w ∈ am_nl, w.before args s = true) (b : Nat) : (am_tm 51).eval args s none [] s = some (.ref (am_ads args s b 51)) ∧ va_T .byte (am_ads args s b 51) 100 (fun j => .int (k_ones.getD j 0)) (am_A s.heap.size) s s.heap := by
  have h15 := am_f15
  simp only [Bool.and_eq_true] at h15
  obtain ⟨⟨⟨⟨⟨⟨⟨h1, h2⟩, h3⟩, h4⟩, h5⟩, h6⟩, h7⟩, h8⟩ := h15
  obtain ⟨t, q1, q2⟩ := va_Tof (N := 100) (f := fun j => .int (k_ones.getD j 0)) (A := am_A s.heap.size) (by decide) (am_nh hN h5) (va_eqt (am_nh hN h6)) (fun j hj => va_eqt (am_nh hN (am_rg am_f13 hj))) am_hA
  rw [am_ads_of q1]
  exact ⟨q1, q2⟩
theorem am_s14 (hN : ∀ w ∈ am_nl, w.before args s = true) (b : Nat) : (am_tm 52).eval args s none [] s = some (.ref (am_ads args s b 52)) ∧ va_T .int (am_ads args s b 52) 49 (fun j => .int (k_switch.getD j 0)) (am_A s.heap.size) s s.heap := by
  have h15 := am_f15
  simp only [Bool.and_eq_true] at h15
  obtain ⟨⟨⟨⟨⟨⟨⟨h1, h2⟩, h3⟩, h4⟩, h5⟩, h6⟩, h7⟩, h8⟩ := h15
  obtain ⟨t, q1, q2⟩ := va_Tof (N := 49) (f := fun j => .int (k_switch.getD j 0)) (A := am_A s.heap.size) (by decide) (am_nh hN h7) (va_eqt (am_nh hN h8)) (fun j hj => va_eqt (am_nh hN (am_rg am_f14 hj))) am_hA
  rw [am_ads_of q1]
  exact ⟨q1, q2⟩
theorem am_s53 (ha : args = #[.ref b]) {n : Nat} (hn : am_tm n = .arg 0) : am_ads args s b n = b := am_ads_of (by rw [hn, ha]; rfl)
/-- each constant's term names its cell -/
theorem am_sev (hN : ∀ w ∈ am_nl, w.before args s = true) (b : Nat) {n : Nat} (hn : n < 53) : (am_tm n).eval args s none [] s = some (.ref (am_ads args s b n)) := by
  by_cases h1 : n < 49
  · exact (am_s1 hN b h1).1
  · rcases (by omega : n = 49 ∨ n = 50 ∨ n = 51 ∨ n = 52) with rfl | rfl | rfl | rfl
    · exact (am_s10 hN b).1
    · exact (am_s11 hN b).1
    · exact (am_s13 hN b).1
    · exact (am_s14 hN b).1
theorem am_sT_lt {ty : FieldType} {t N : Nat} {f : Nat → Value} {A : Nat → Prop} {U : State} {H : Heap} (h : va_T ty t N f A U H) : t < H.size := by
  obtain ⟨cell, h1, -⟩ := h
  exact (Array.getElem?_eq_some_iff.mp h1).1
theorem am_sO_lt {E : String} {t : Nat} {A : Nat → Prop} {U : State} {H : Heap} (h : va_O E t A U H) : t < H.size := by
  obtain ⟨cell, h1, -⟩ := h
  exact (Array.getElem?_eq_some_iff.mp h1).1
theorem am_tm_arg : (List.range 200).all (fun n => decide (n < 53) || (decide (60 ≤ n) && decide (n < 106)) || (decide (110 ≤ n) && decide (n < 156)) || (decide (156 ≤ n) && decide (n < 194)) || decide (am_tm n = .arg 0)) = true := by decide +kernel
theorem am_adb (hN : ∀ w ∈ am_nl, w.before args s = true) (ha : args = #[.ref b]) (hb : b < s.heap.size) {n : Nat} (hn : n < am_NC) : am_ads args s b n < s.heap.size := by
  have h := am_rg am_tm_arg hn
  simp only [Bool.or_eq_true, Bool.and_eq_true, decide_eq_true_eq] at h
  rcases h with (((h | ⟨h1, h2⟩) | ⟨h1, h2⟩) | ⟨h1, h2⟩) | h
  · by_cases h1 : n < 49
    · exact am_sO_lt (am_s1 hN b h1).2
    · rcases (by omega : n = 49 ∨ n = 50 ∨ n = 51 ∨ n = 52) with rfl | rfl | rfl | rfl
      · exact am_sT_lt (am_s10 hN b).2
      · exact am_sT_lt (am_s11 hN b).2
      · exact am_sT_lt (am_s13 hN b).2
      · exact am_sT_lt (am_s14 hN b).2
  · have := am_sO_lt (am_s4 hN b (i := n - 60) (by omega)).2
    rwa [show k_sA (n - 60) = n by unfold k_sA; rw [if_pos (by omega)]; omega] at this
  · have := am_sT_lt (am_s6 hN b (i := n - 110) (by omega)).2
    rwa [show k_bA (n - 110) = n by unfold k_bA; rw [if_pos (by omega)]; omega] at this
  · by_cases h3 : n < 175
    · have := am_sO_lt (am_s4 hN b (i := n - 110) (by omega)).2
      rwa [show k_sA (n - 110) = n by unfold k_sA; rw [if_neg (by omega)]; omega] at this
    · have := am_sT_lt (am_s6 hN b (i := n - 129) (by omega)).2
      rwa [show k_bA (n - 129) = n by unfold k_bA; rw [if_neg (by omega)]; omega] at this
  · rw [am_s53 ha h]
    exact hb
theorem am_inj (hN : ∀ w ∈ am_nl, w.before args s = true) (b : Nat) : ∀ i j, i < 49 → j < 49 → am_ads args s b i = am_ads args s b j → i = j := by
  intro i j hi hj e
  obtain ⟨cf, k, fi, f, cell, h1, h2, h3, h4, h5, -⟩ := am_s2 hN b hi
  obtain ⟨cf', k', fi', f', cell', h1', h2', h3', h4', h5', -⟩ := am_s2 hN b hj
  rw [h1] at h1'
  cases h1'
  rw [← e, h3] at h3'
  cases h3'
  rw [h5] at h5'
  have hij : nI i = nI j := by simpa using h5'
  exact (nI_eq (by omega) (by omega)).mp hij
end START
