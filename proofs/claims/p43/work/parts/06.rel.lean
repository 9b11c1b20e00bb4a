/-! WHAT THE ABSTRACT MACHINE'S STATES SAY OF THE MACHINE'S. -/
def am_phi (ad : Nat → Nat) (as : List Nat) (n : Nat) : Nat := if n < am_NC then ad n else as.getD (n - am_NC) 0
def am_cv (ad : Nat → Nat) (zz : Value) (as : List Nat) : Value → Value
  | .ref n => .ref (am_phi ad as n)
  | .float _ => zz
  | v => v
def am_fv (ad : Nat → Nat) (as : List Nat) (h : AH) (n ci j : Nat) : Value := match (fsT.getD ci []).getD j 0 with
  | 1 => .int (iv h n j)
  | 2 => .long (jv h n j)
  | 5 => .int (iv h n j)
  | 7 => .int (iv h n j)
  | _ => va_rf ((rv h n j).map (am_phi ad as))
def am_arr (dA : Nat → ClassId) (ad : Nat → Nat) (as : List Nat) (h : AH) (n t z : Nat) : va_E := match t with
  | 1 => .inl (dA 1, z, .inl (fun i => iv h n i))
  | 2 => .inl (dA 2, z, .inr (.inl (fun i => jv h n i)))
  | 3 => .inl (dA 3, z, .inl (fun i => iv h n i))
  | 9 => .inl (dA 9, z, .inl (fun i => iv h n i))
  | t => .inl (dA t, z, .inr (.inr (.inr (.inr (fun i => (rv h n i).map (am_phi ad as))))))
def am_ob (dA : Nat → ClassId) (ad : Nat → Nat) (as : List Nat) (h : AH) (n : Nat) : va_E :=
  if (kd h n).1 = 0 then .inr ((kd h n).2, (List.range (fnum (kd h n).2)).map (am_fv ad as h n (kd h n).2)) else am_arr dA ad as h n (kd h n).1 (kd h n).2
def am_ws (dA : Nat → ClassId) (ad : Nat → Nat) (as : List Nat) (h : AH) : va_W := (List.range as.length).map (fun i => (am_phi ad as (am_NC + i), am_ob dA ad as h (am_NC + i)))
/-- where a text lies, and its bytes -/
def k_sA (t : Nat) : Nat := if t < 46 then 60 + t else 110 + t
def k_bA (t : Nat) : Nat := if t < 46 then 110 + t else 129 + t
/-- what the constants hold -/
def k_kd (L n : Nat) : Nat × Nat := if n < 49 then (10, 0) else if n = 49 then (14, 49) else if n = 50 then (13, 100) else if n = 51 then (13, 100) else if n = 52 then (12, 49) else if n = 53 then (12, L) else if 60 ≤ n ∧ n < 106 then (11, 0) else if 110 ≤ n ∧ n < 156 then (13, k_len.getD (n - 110) 0) else if 156 ≤ n ∧ n < 175 then (11, 0) else if 175 ≤ n ∧ n < 194 then (13, k_len.getD (n - 129) 0) else (99, 0)
def k_iv (xs : Nat → Int32) (n j : Nat) : Int32 := if n < 49 then (if j = 1 then nI n else 0) else if n = 50 then k_tens.getD j 0 else if n = 51 then k_ones.getD j 0 else if n = 52 then k_switch.getD j 0 else if n = 53 then xs j else if 110 ≤ n ∧ n < 156 then (k_byt.getD (n - 110) []).getD j 0 else if 175 ≤ n ∧ n < 194 then (k_byt.getD (n - 129) []).getD j 0 else 0
def k_rv (n j : Nat) : Option Nat := if n < 49 then (if j = 0 then some (60 + k_text.getD n 0) else none) else if n = 49 then (if j < 49 then some j else none) else if 60 ≤ n ∧ n < 106 then (if j = 0 then some (n + 50) else none) else if 156 ≤ n ∧ n < 175 then (if j = 0 then some (n + 19) else none) else none
def am_h0 (L : Nat) (xs : Nat → Int32) : AH := (k_kd L, k_iv xs, fun _ _ => 0, k_rv, am_NC, 0, 0)
/-- the constants are as they were -/
def am_CA (L : Nat) (xs : Nat → Int32) (h : AH) : Prop := ∀ n, n < am_NC → kd h n = k_kd L n ∧ ∀ j, iv h n j = k_iv xs n j ∧ rv h n j = k_rv n j
/-- references are to cells that are there; a made cell is an object of ours or an array -/
def am_VH (h : AH) : Prop := am_NC ≤ nx h ∧ (∀ a j b, rv h a j = some b → b < nx h) ∧ ∀ n, am_NC ≤ n → n < nx h → (kd h n).1 ≤ 9 ∧ ((kd h n).1 = 0 → (kd h n).2 < 10)
def am_V (n : Nat) : Value → Prop
  | .ref a => a < n
  | _ => True
def am_VS (n : Nat) (st : List Value) : Prop := ∀ v ∈ st, am_V n v
def am_VL (n : Nat) (L : ALs) : Prop := ∀ (i : Nat) (v : Value), L[i]? = some (some v) → am_V n v
/-- locals -/
def am_LR (W : List Nat) (f : Value → Value) (L : ALs) (ls : Array Slot) (nL : Nat) : Prop := ls.size = nL ∧ lv_wf ls ∧ (∀ (i : Nat) (v : Value), L[i]? = some (some v) → ls[i]? = some (.val (f v))) ∧ ∀ (i : Nat) (v : Value), L[i]? = some (some v) → v.category = 2 → i ∈ W
def am_al (f : Value → Value) : Nat → ALs → List (Nat × Value)
  | _, [] => []
  | i, none :: t => am_al f (i + 1) t
  | i, some v :: t => (i, f v) :: am_al f (i + 1) t
theorem am_al_mem {f : Value → Value} : ∀ {L : ALs} {i : Nat} {q : Nat × Value}, q ∈ am_al f i L ↔ ∃ (j : Nat) (v : Value), L[j]? = some (some v) ∧ q = (i + j, f v)
  | [], i, q => by simp [am_al]
  | none :: t, i, q => by
    rw [am_al, am_al_mem]
    constructor
    · rintro ⟨j, v, h1, h2⟩
      exact ⟨j + 1, v, by simpa using h1, by rw [h2]; congr 1; omega⟩
    · rintro ⟨j, v, h1, h2⟩
      cases j with
      | zero => simp at h1
      | succ j => exact ⟨j, v, by simpa using h1, by rw [h2]; congr 1; omega⟩
  | some w :: t, i, q => by
    rw [am_al, List.mem_cons, am_al_mem]
    constructor
    · rintro (h | ⟨j, v, h1, h2⟩)
      · exact ⟨0, w, by simp, by simpa using h⟩
      · exact ⟨j + 1, v, by simpa using h1, by rw [h2]; congr 1; omega⟩
    · rintro ⟨j, v, h1, h2⟩
      cases j with
      | zero =>
        left
        simp at h1
        rw [h2, h1]; rfl
      | succ j => exact Or.inr ⟨j, v, by simpa using h1, by rw [h2]; congr 1; omega⟩
theorem am_LR.has {W : List Nat} {f : Value → Value} {L : ALs} {ls : Array Slot} {nL : Nat} (h : am_LR W f L ls nL) : lv_has ls nL (am_al f 0 L) := by
  refine ⟨h.1, h.2.1, fun q hq => ?_⟩
  obtain ⟨j, v, h1, rfl⟩ := am_al_mem.mp hq
  simpa using h.2.2.1 j v h1
/-- the slots behind a store, out of the kit's list -/
theorem am_clr_get {W : List Nat} {L : ALs} {i j : Nat} {v : Value} (h : (clrW W L i)[j]? = some (some v)) : L[j]? = some (some v) ∧ (j + 1 = i → ¬ v.category = 2) := by
  unfold clrW at h
  cases i with
  | zero => exact ⟨h, fun e => by omega⟩
  | succ i =>
    dsimp only at h
    split at h
    · rw [List.getElem?_set] at h
      by_cases e : i = j
      · rw [if_pos e] at h
        split at h <;> simp at h
      · rw [if_neg e] at h
        exact ⟨h, fun q => absurd (by omega) e⟩
    · rw [List.getElem?_set] at h
      by_cases e : i = j
      · rw [if_pos e] at h
        split at h <;> simp at h
      · rw [if_neg e] at h
        exact ⟨h, fun q => absurd (by omega) e⟩
    · rename_i h1 h2
      refine ⟨h, fun q hc => ?_⟩
      have e : j = i := by omega
      subst e
      cases v with
      | long x => exact h1 x h
      | double x => exact h2 x h
      | _ => exact absurd (show (1 : Nat) = 2 from hc) (by decide)
theorem am_st1_key {W : List Nat} {L : ALs} {i j : Nat} {ov : Option Value} {v : Value} (hj : (st1 W L i ov)[j]? = some (some v)) : (j = i ∧ ov = some v) ∨ (j ≠ i ∧ L[j]? = some (some v) ∧ (j + 1 = i → ¬ v.category = 2)) := by
  unfold st1 at hj
  rw [List.getElem?_set] at hj
  by_cases e : i = j
  · rw [if_pos e] at hj
    left
    split at hj
    · exact ⟨e.symm, by simpa using hj⟩
    · simp at hj
  · rw [if_neg e] at hj
    obtain ⟨a, b⟩ := am_clr_get hj
    exact Or.inr ⟨fun q => e q.symm, a, b⟩
theorem am_st1 {W : List Nat} {f : Value → Value} {L : ALs} {ls ls' : Array Slot} {nL i : Nat} {ov : Option Value} {w : Value} (h : am_LR W f L ls nL) (hc : w.category = 1) (hv : ∀ v, ov = some v → f v = w) (hf : ∀ v, (f v).category = v.category)
    (h' : lv_has ls' nL ((i, w) :: (am_al f 0 L).filter (fun q => !(q.1 == i) && !(q.1 + 1 == i && q.2.category == 2)))) : am_LR W f (st1 W L i ov) ls' nL := by
  refine ⟨h'.1, h'.2.1, fun j v hj => ?_, fun j v hj h2 => ?_⟩
  · rcases am_st1_key hj with ⟨rfl, e⟩ | ⟨e, hl, hw⟩
    · rw [hv v e]
      exact h'.2.2 (j, w) List.mem_cons_self
    · refine h'.2.2 (j, f v) (List.mem_cons_of_mem _ (List.mem_filter.mpr ⟨am_al_mem.mpr ⟨j, v, hl, by simp⟩, ?_⟩))
      have e1 : (j == i) = false := by simpa using e
      dsimp only
      rw [e1]
      by_cases e2 : j + 1 = i
      · have h4 : ¬ (f v).category = 2 := fun q => hw e2 (by rw [← hf]; exact q)
        simp [e2, h4]
      · have e3 : (j + 1 == i) = false := by simpa using e2
        simp [e3]
  · rcases am_st1_key hj with ⟨rfl, e⟩ | ⟨e, hl, hw⟩
    · have h3 := hf v
      rw [hv v e] at h3
      omega
    · exact h.2.2.2 j v hl h2
theorem am_st2_key {W : List Nat} {L : ALs} {i j : Nat} {x v : Value} (hj : (st2 W L i x)[j]? = some (some v)) : (j = i ∧ x = v) ∨ (j ≠ i ∧ j ≠ i + 1 ∧ L[j]? = some (some v) ∧ (j + 1 = i → ¬ v.category = 2)) := by
  unfold st2 at hj
  rw [List.getElem?_set] at hj
  by_cases e : i + 1 = j
  · rw [if_pos e] at hj
    split at hj <;> simp at hj
  · rw [if_neg e] at hj
    rcases am_st1_key (ov := some x) (by unfold st1; exact hj) with ⟨a, b⟩ | ⟨a, b, c⟩
    · exact Or.inl ⟨a, by simpa using b⟩
    · exact Or.inr ⟨a, fun q => e q.symm, b, c⟩
theorem am_st2 {W : List Nat} {f : Value → Value} {L : ALs} {ls ls' : Array Slot} {nL i : Nat} {x w : Value} (h : am_LR W f L ls nL) (hi : i ∈ W) (hv : f x = w) (hf : ∀ v, (f v).category = v.category)
    (h' : lv_has ls' nL ((i, w) :: (am_al f 0 L).filter (fun q => !(q.1 == i) && (!(q.1 == i + 1) && !(q.1 + 1 == i && q.2.category == 2))))) : am_LR W f (st2 W L i x) ls' nL := by
  refine ⟨h'.1, h'.2.1, fun j v hj => ?_, fun j v hj h2 => ?_⟩
  · rcases am_st2_key hj with ⟨rfl, e⟩ | ⟨e, e9, hl, hw⟩
    · rw [← e, hv]
      exact h'.2.2 (j, w) List.mem_cons_self
    · refine h'.2.2 (j, f v) (List.mem_cons_of_mem _ (List.mem_filter.mpr ⟨am_al_mem.mpr ⟨j, v, hl, by simp⟩, ?_⟩))
      have e1 : (j == i) = false := by simpa using e
      have e8 : (j == i + 1) = false := by simpa using e9
      dsimp only
      rw [e1, e8]
      by_cases e2 : j + 1 = i
      · have h4 : ¬ (f v).category = 2 := fun q => hw e2 (by rw [← hf]; exact q)
        simp [e2, h4]
      · have e3 : (j + 1 == i) = false := by simpa using e2
        simp [e3]
  · rcases am_st2_key hj with ⟨rfl, e⟩ | ⟨e, e9, hl, hw⟩
    · exact hi
    · exact h.2.2.2 j v hl h2
theorem am_ldA {L : ALs} {i : Nat} {v : Value} (h : ldA L i = some v) : L[i]? = some (some v) := by
  unfold ldA at h
  split at h
  · rename_i w hw
    rw [hw]
    simpa using h
  · simp at h
theorem am_VL.ld {n : Nat} {L : ALs} {i : Nat} {v : Value} (h : am_VL n L) (hl : ldA L i = some v) : am_V n v := h i v (am_ldA hl)
theorem am_VL.st1 {n : Nat} {W : List Nat} {L : ALs} {i : Nat} {ov : Option Value} (h : am_VL n L) (hv : ∀ v, ov = some v → am_V n v) : am_VL n (st1 W L i ov) := by
  intro j v hj
  rcases am_st1_key hj with ⟨_, e⟩ | ⟨_, hl, _⟩
  · exact hv v e
  · exact h j v hl
theorem am_VL.st2 {n : Nat} {W : List Nat} {L : ALs} {i : Nat} {x : Value} (h : am_VL n L) (hv : am_V n x) : am_VL n (st2 W L i x) := by
  intro j v hj
  rcases am_st2_key hj with ⟨_, e⟩ | ⟨_, _, hl, _⟩
  · rw [← e]; exact hv
  · exact h j v hl
theorem am_V.mono {n m : Nat} (hnm : n ≤ m) {v : Value} (h : am_V n v) : am_V m v := by
  cases v <;> first | exact trivial | exact Nat.lt_of_lt_of_le h hnm
theorem am_VS.mono {n m : Nat} (hnm : n ≤ m) {st : List Value} (h : am_VS n st) : am_VS m st := fun v hv => (h v hv).mono hnm
theorem am_VL.mono {n m : Nat} (hnm : n ≤ m) {L : ALs} (h : am_VL n L) : am_VL m L := fun i v hv => (h i v hv).mono hnm
theorem am_VS.cons {n : Nat} {v : Value} {st : List Value} (hv : am_V n v) (h : am_VS n st) : am_VS n (v :: st) := fun w hw => (List.mem_cons.mp hw).elim (fun e => e ▸ hv) (h w)
theorem am_VS.tl {n : Nat} {v : Value} {st : List Value} (h : am_VS n (v :: st)) : am_VS n st := fun w hw => h w (List.mem_cons_of_mem _ hw)
theorem am_VS.hd {n : Nat} {v : Value} {st : List Value} (h : am_VS n (v :: st)) : am_V n v := h v List.mem_cons_self
/-- more cells: what was named keeps its place -/
theorem am_phi_app {ad : Nat → Nat} {as : List Nat} {q n : Nat} (h : n < am_NC + as.length) : am_phi ad (as ++ [q]) n = am_phi ad as n := by
  unfold am_phi
  by_cases e : n < am_NC
  · rw [if_pos e, if_pos e]
  · rw [if_neg e, if_neg e, List.getD_eq_getElem?_getD, List.getD_eq_getElem?_getD, List.getElem?_append_left (by omega)]
theorem am_cv_app {ad : Nat → Nat} {zz : Value} {as : List Nat} {q n : Nat} {v : Value} (h : am_V n v) (hn : n ≤ am_NC + as.length) : am_cv ad zz (as ++ [q]) v = am_cv ad zz as v := by
  cases v <;> first | rfl | (show Value.ref _ = Value.ref _; rw [am_phi_app (Nat.lt_of_lt_of_le h hn)])
theorem am_cat {ad : Nat → Nat} {zz : Value} {as : List Nat} (hz : zz.category = 1) (v : Value) : (am_cv ad zz as v).category = v.category := by
  cases v <;> first | rfl | exact hz
