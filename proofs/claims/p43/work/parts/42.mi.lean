/-! WHAT STAYS TRUE of the strays from call to call. -/
/-- n strays, H houses, day t: who is still to come is as at first; who is housed is here, and in a house; no house holds more than 2 -/
def MI (n H t : Nat) (M : SM) : Prop := (n ≤ 12 ∧ H ≤ 6 ∧ M 0 3 = nI t) ∧ (∀ i, i < n → ∃ dd, dd ≤ 30 ∧ M (i + 2) 1 = nI dd ∧ (t < dd → M (i + 2) 2 = 0 ∧ M (i + 2) 3 = 4 ∧ M (i + 2) 4 = m_W (M (i + 2) 0))) ∧ (∀ i, n ≤ i → i < 12 → M (i + 2) 0 = 0 ∧ M (i + 2) 2 = 0 ∧ M (i + 2) 5 = -1) ∧ (∀ i, i < n → M (i + 2) 5 = -1 ∨ (M (i + 2) 2 = 1 ∧ ∃ w, w < H ∧ M (i + 2) 5 = nI w)) ∧ ∀ w, w < H → m_in M (nI w) ≤ 2
theorem cntB_mono {p q : Nat → Bool} : ∀ {n : Nat}, (∀ i, i < n → q i = true → p i = true) → cntB q n ≤ cntB p n
  | 0, _ => Nat.le_refl _
  | n + 1, h => by
    have a := cntB_mono (p := p) (q := q) (n := n) (fun i hi => h i (by omega))
    have b := h n (by omega)
    unfold cntB
    by_cases c : q n = true
    · rw [if_pos c, if_pos (b c)]; omega
    · rw [if_neg c]; omega
theorem cntB_one {p q : Nat → Bool} {k : Nat} : ∀ {n : Nat}, (∀ i, i < n → i ≠ k → q i = true → p i = true) → cntB q n ≤ cntB p n + 1
  | 0, _ => Nat.zero_le _
  | n + 1, h => by
    by_cases e : n = k
    · have a := cntB_mono (p := p) (q := q) (n := n) (fun i hi => h i (by omega) (by omega))
      unfold cntB
      split <;> split <;> omega
    · have a := cntB_one (p := p) (q := q) (k := k) (n := n) (fun i hi => h i (by omega))
      have b := h n (by omega) e
      unfold cntB
      by_cases c : q n = true
      · rw [if_pos c, if_pos (b c)]; omega
      · rw [if_neg c]; omega
/-- strays in the first H houses, and in none: all -/
def sumN (g : Nat → Nat) : Nat → Nat
  | 0 => 0
  | n + 1 => sumN g n + g n
theorem sumN_congr {g g' : Nat → Nat} : ∀ {n : Nat}, (∀ i, i < n → g i = g' i) → sumN g n = sumN g' n
  | 0, _ => rfl
  | n + 1, h => by unfold sumN; rw [sumN_congr (fun i hi => h i (by omega)), h n (by omega)]
theorem sumN_add {g g' : Nat → Nat} : ∀ {n : Nat}, sumN (fun i => g i + g' i) n = sumN g n + sumN g' n
  | 0 => rfl
  | n + 1 => by unfold sumN; rw [sumN_add]; omega
theorem sumN_0 {g : Nat → Nat} : ∀ {n : Nat}, (∀ i, i < n → g i = 0) → sumN g n = 0
  | 0, _ => rfl
  | n + 1, h => by unfold sumN; rw [sumN_0 (fun i hi => h i (by omega)), h n (by omega)]
theorem sumN_1 {g : Nat → Nat} {k : Nat} : ∀ {n : Nat}, k < n → g k = 1 → (∀ i, i < n → i ≠ k → g i = 0) → sumN g n = 1
  | 0, h, _, _ => by omega
  | n + 1, h, h1, h0 => by
    unfold sumN
    by_cases e : k = n
    · subst e
      rw [sumN_0 (fun i hi => h0 i (by omega) (by omega)), h1]
    · rw [sumN_1 (k := k) (by omega) h1 (fun i hi => h0 i (by omega)), h0 n (by omega) (Ne.symm e)]
theorem sumN_le {g : Nat → Nat} {c : Nat} : ∀ {n : Nat}, (∀ i, i < n → g i ≤ c) → sumN g n ≤ c * n
  | 0, _ => Nat.zero_le _
  | n + 1, h => by
    have a := sumN_le (g := g) (c := c) (n := n) (fun i hi => h i (by omega))
    have b := h n (by omega)
    unfold sumN
    rw [Nat.mul_add]
    omega
theorem sumN_lt {g : Nat → Nat} {c k : Nat} : ∀ {n : Nat}, (∀ i, i < n → g i ≤ c) → k < n → g k < c → sumN g n < c * n
  | 0, _, h, _ => by omega
  | n + 1, h, hk, hl => by
    have b := h n (by omega)
    unfold sumN
    rw [Nat.mul_add]
    by_cases e : k = n
    · subst e
      have a := sumN_le (g := g) (c := c) (n := k) (fun i hi => h i (by omega))
      omega
    · have a := sumN_lt (g := g) (c := c) (k := k) (n := n) (fun i hi => h i (by omega)) (by omega) hl
      omega
theorem sumN_ge {g : Nat → Nat} {c : Nat} : ∀ {n : Nat}, (∀ i, i < n → c ≤ g i) → c * n ≤ sumN g n
  | 0, _ => Nat.le_refl _
  | n + 1, h => by
    have a := sumN_ge (g := g) (c := c) (n := n) (fun i hi => h i (by omega))
    have b := h n (by omega)
    unfold sumN
    rw [Nat.mul_add]
    omega
section MIS
variable {n H t k i v : Nat} {M : SM} {x w : Int32}
theorem houses_sum (hH : H < 2 ^ 31) : ∀ m, (∀ i, i < m → M (i + 2) 5 = -1 ∨ ∃ w, w < H ∧ M (i + 2) 5 = nI w) → sumN (fun w => cntB (fun o => decide (M (o + 2) 5 = nI w)) m) H + cntB (fun o => decide (M (o + 2) 5 = -1)) m = m
  | 0, _ => (congrArg (fun z => z + 0) (sumN_0 (g := fun w => cntB (fun o => decide (M (o + 2) 5 = nI w)) 0) (n := H) (fun i _ => rfl)))
  | m + 1, h => by
    have ih := houses_sum hH m (fun i hi => h i (by omega))
    have e : sumN (fun w => cntB (fun o => decide (M (o + 2) 5 = nI w)) (m + 1)) H = sumN (fun w => cntB (fun o => decide (M (o + 2) 5 = nI w)) m) H + sumN (fun w => if decide (M (m + 2) 5 = nI w) = true then 1 else 0) H := sumN_add
    rw [e]
    show _ + (cntB (fun o => decide (M (o + 2) 5 = -1)) m + (if decide (M (m + 2) 5 = -1) = true then 1 else 0)) = m + 1
    rcases h m (by omega) with q | ⟨w, hw, q⟩
    · have e0 : sumN (fun w => if decide (M (m + 2) 5 = nI w) = true then 1 else 0) H = 0 := sumN_0 (fun i hi => if_neg (fun z => by
        have z := of_decide_eq_true z
        rw [q] at z
        exact nI_nm1 (j := i) (by omega) z.symm))
      rw [e0, if_pos (decide_eq_true q)]
      omega
    · have e0 : sumN (fun w => if decide (M (m + 2) 5 = nI w) = true then 1 else 0) H = 1 := sumN_1 (k := w) hw (if_pos (decide_eq_true q)) (fun i hi hne => if_neg (fun z => by
        have z := of_decide_eq_true z
        rw [q] at z
        exact hne ((nI_eq (by omega) (by omega)).mp z).symm))
      rw [e0, if_neg (fun z => by
        have z := of_decide_eq_true z
        rw [q] at z
        exact nI_nm1 (by omega) z)]
      omega
theorem MI.hom (I : MI n H t M) (hi : i < 12) : M (i + 2) 5 = -1 ∨ ∃ w, w < H ∧ M (i + 2) 5 = nI w := by
  by_cases c : i < n
  · rcases I.2.2.2.1 i c with q | ⟨_, w, hw, q⟩
    · exact Or.inl q
    · exact Or.inr ⟨w, hw, q⟩
  · exact Or.inl (I.2.2.1 i (by omega) hi).2.2
theorem one_in (hw : ¬ w = -1) (I : MI n H t M) (h : m_one M w = true) : m_in M w = 1 := by
  have e1 := cnt_qn M w 12
  have l1 := cntB_le (m_q M w) 12
  have l2 := cntB_le (m_nq M w) 12
  unfold m_one at h
  simp only [Bool.and_eq_true, decide_eq_true_eq] at h
  rw [show (1 : Int32) = nI 1 from rfl, show (0 : Int32) = nI 0 from rfl, nI_eq (by omega) (by decide), nI_eq (by omega) (by decide)] at h
  unfold m_in
  omega
theorem fnd_none {p : Nat → Bool} : ∀ {n i : Nat}, fnd p n i = none → ∀ j, i ≤ j → j < i + n → p j = false
  | 0, _, _, j, h1, h2 => by omega
  | n + 1, i, h, j, h1, h2 => by
    unfold fnd at h
    split at h
    · cases h
    · rename_i c
      by_cases e : j = i
      · subst e; simpa using c
      · exact fnd_none h j (by omega) (by omega)
/-- the house into which one comes: there is one with room, or none has room -/
theorem hf_spec (I : MI n H t M) (k : Nat) : (m_hf M H k = -1 ∧ ∀ w, w < H → m_in M (nI w) = 2) ∨ ∃ w, w < H ∧ m_hf M H k = nI w ∧ m_in M (nI w) < 2 := by
  have hH := I.1.2.1
  have h2 := I.2.2.2.2
  have two : (oI (fnd (fun w => m_two M (nI w)) H 0) = -1 ∧ ∀ w, w < H → m_in M (nI w) = 2) ∨ ∃ w, w < H ∧ oI (fnd (fun w => m_two M (nI w)) H 0) = nI w ∧ m_in M (nI w) < 2 := by
    cases e : fnd (fun w => m_two M (nI w)) H 0 with
    | none =>
      refine Or.inl ⟨rfl, fun w hw => ?_⟩
      have q := fnd_none e w (by omega) (by omega)
      have l := h2 w hw
      have l12 := cntB_le (fun i => decide (M (i + 2) 5 = nI w)) 12
      have q2 := of_decide_eq_false q
      rw [show (2 : Int32) = nI 2 from rfl, nI_ltI (by omega) (by decide)] at q2
      omega
    | some w =>
      obtain ⟨a, b, c⟩ := fnd_lt e
      have l := h2 w (by omega)
      have q2 := of_decide_eq_true c
      rw [show (2 : Int32) = nI 2 from rfl, nI_ltI (by omega) (by decide)] at q2
      exact Or.inr ⟨w, by omega, rfl, q2⟩
  unfold m_hf
  by_cases q : M (k + 2) 0 = 3
  · rw [if_pos q]
    cases e : fnd (fun w => m_one M (nI w)) H 0 with
    | none => exact two
    | some w =>
      obtain ⟨a, b, c⟩ := fnd_lt e
      have := one_in (nI_nm1 (by omega)) I c
      exact Or.inr ⟨w, by omega, rfl, by omega⟩
  · rw [if_neg q]
    exact two
theorem free_spec (I : MI n H t M) (hm : M 0 1 = nI H) : m_free M = nI (2 * H - sumN (fun w => m_in M (nI w)) H) ∧ sumN (fun w => m_in M (nI w)) H ≤ 2 * H := by
  have hH := I.1.2.1
  have e := houses_sum (M := M) (H := H) (by omega) 12 (fun i hi => I.hom hi)
  have l := sumN_le (g := fun w => m_in M (nI w)) (c := 2) (n := H) I.2.2.2.2
  refine ⟨?_, l⟩
  unfold m_free
  unfold m_in at l ⊢
  rw [hm, ← nI_12, nI_sub (by omega), show (2 : Int32) = nI 2 from rfl, pk_mul, nI_sub (by omega)]
  congr 1
  omega
theorem free_hf (I : MI n H t M) (hm : M 0 1 = nI H) (k : Nat) : decide (0 < m_free M) = !decide (m_hf M H k = -1) := by
  have hH := I.1.2.1
  obtain ⟨e, l⟩ := free_spec I hm
  rw [e]
  rcases hf_spec I k with ⟨q, a⟩ | ⟨w, hw, q, a⟩
  · have := sumN_ge (g := fun w => m_in M (nI w)) (c := 2) (n := H) (fun w hw => by rw [a w hw]; exact Nat.le_refl _)
    rw [q, show 2 * H - sumN (fun w => m_in M (nI w)) H = 0 by omega]
    rfl
  · have := sumN_lt (g := fun w => m_in M (nI w)) (c := 2) (k := w) (n := H) I.2.2.2.2 hw a
    rw [q, decide_eq_true (by rw [show (0 : Int32) = nI 0 from rfl]; exact nI_lt (by omega) (by omega)), decide_eq_false (nI_nm1 (by omega))]
    rfl
/-- hunger, wildness, coins, orders: nothing of it is told of but who is to come -/
theorem MI.set0 {j : Nat} (I : MI n H t M) (hj : j = 2 ∨ j = 4) : MI n H t (u2 M 0 j x) := by
  have z : ∀ i q, u2 M 0 j x (i + 2) q = M (i + 2) q := fun i q => u2_ne (by omega)
  obtain ⟨⟨a, b, c⟩, d, e, f, g⟩ := I
  refine ⟨⟨a, b, ?_⟩, fun i hi => ?_, fun i h1 h2 => ?_, fun i hi => ?_, fun w hw => ?_⟩
  · rw [u2_ni (by omega)]; exact c
  · rw [z, z, z, z, z]; exact d i hi
  · rw [z, z, z]; exact e i h1 h2
  · rw [z, z]; exact f i hi
  · have := g w hw
    unfold m_in at this ⊢
    simp only [z]
    exact this
theorem MI.set34 {j : Nat} (I : MI n H t M) (hi : i < n) (hh : M (i + 2) 2 = 1) (hj : j = 3 ∨ j = 4) : MI n H t (u2 M (i + 2) j x) := by
  have z : ∀ k q, (q < 3 ∨ q = 5) → u2 M (i + 2) j x k q = M k q := fun k q hq => by unfold u2; rw [if_neg (by omega)]
  have z2 : ∀ k q, k ≠ i → u2 M (i + 2) j x (k + 2) q = M (k + 2) q := fun k q hq => u2_ne (by omega)
  obtain ⟨⟨a, b, c⟩, d, e, f, g⟩ := I
  refine ⟨⟨a, b, ?_⟩, fun k hk => ?_, fun k h1 h2 => ?_, fun k hk => ?_, fun w hw => ?_⟩
  · rw [u2_ne (by omega)]; exact c
  · by_cases q : k = i
    · subst q
      obtain ⟨dd, d1, d2, d3⟩ := d k hk
      refine ⟨dd, d1, (z _ _ (by omega)).trans d2, fun l => ?_⟩
      have := (d3 l).1
      rw [hh] at this
      exact absurd this (by decide)
    · rw [z2 _ _ q, z2 _ _ q, z2 _ _ q, z2 _ _ q, z2 _ _ q]; exact d k hk
  · rw [z _ _ (by omega), z _ _ (by omega), z _ _ (by omega)]; exact e k h1 h2
  · rw [z _ _ (by omega), z _ _ (by omega)]; exact f k hk
  · have := g w hw
    unfold m_in at this ⊢
    simp only [z _ 5 (by omega)]
    exact this
theorem MI.free (I : MI n H t M) (hi : i < n) : MI n H t (u2 M (i + 2) 5 (-1)) := by
  have z : ∀ k q, q ≠ 5 → u2 M (i + 2) 5 (-1) k q = M k q := fun k q hq => by unfold u2; rw [if_neg (by omega)]
  have z2 : ∀ k q, k ≠ i → u2 M (i + 2) 5 (-1) (k + 2) q = M (k + 2) q := fun k q hq => u2_ne (by omega)
  obtain ⟨⟨a, b, c⟩, d, e, f, g⟩ := I
  refine ⟨⟨a, b, ?_⟩, fun k hk => ?_, fun k h1 h2 => ?_, fun k hk => ?_, fun w hw => ?_⟩
  · rw [u2_ne (by omega)]; exact c
  · rw [z _ _ (by omega), z _ _ (by omega), z _ _ (by omega), z _ _ (by omega), z _ _ (by omega)]; exact d k hk
  · rw [z2 _ _ (by omega), z2 _ _ (by omega), z2 _ _ (by omega)]; exact e k h1 h2
  · by_cases q : k = i
    · subst q; exact Or.inl u2_eq
    · rw [z2 _ _ q, z2 _ _ q]; exact f k hk
  · refine Nat.le_trans (cntB_mono (fun k hk q => ?_)) (g w hw)
    by_cases e9 : k = i
    · subst e9
      rw [u2_eq] at q
      exact absurd (of_decide_eq_true q).symm (nI_nm1 (by omega))
    · rwa [z2 _ _ e9] at q
theorem MI.where_ (I : MI n H t M) (hi : i < n) (hh : M (i + 2) 2 = 1) (h5 : M (i + 2) 5 = -1) : MI n H t (u2 M (i + 2) 2 x) := by
  have z : ∀ k q, q ≠ 2 → u2 M (i + 2) 2 x k q = M k q := fun k q hq => by unfold u2; rw [if_neg (by omega)]
  have z2 : ∀ k q, k ≠ i → u2 M (i + 2) 2 x (k + 2) q = M (k + 2) q := fun k q hq => u2_ne (by omega)
  obtain ⟨⟨a, b, c⟩, d, e, f, g⟩ := I
  refine ⟨⟨a, b, ?_⟩, fun k hk => ?_, fun k h1 h2 => ?_, fun k hk => ?_, fun w hw => ?_⟩
  · rw [u2_ne (by omega)]; exact c
  · by_cases q : k = i
    · subst q
      obtain ⟨dd, d1, d2, d3⟩ := d k hk
      refine ⟨dd, d1, (z _ _ (by omega)).trans d2, fun l => ?_⟩
      have := (d3 l).1
      rw [hh] at this
      exact absurd this (by decide)
    · rw [z2 _ _ q, z2 _ _ q, z2 _ _ q, z2 _ _ q, z2 _ _ q]; exact d k hk
  · rw [z2 _ _ (by omega), z2 _ _ (by omega), z2 _ _ (by omega)]; exact e k h1 h2
  · by_cases q : k = i
    · subst q; rw [z _ _ (by omega)]; exact Or.inl h5
    · rw [z2 _ _ q, z2 _ _ q]; exact f k hk
  · have := g w hw
    unfold m_in at this ⊢
    simp only [z _ 5 (by omega)]
    exact this
theorem u2_comm {f : SM} {a b j q : Nat} {x y : Int32} (h : ¬ (a = b ∧ j = q)) : u2 (u2 f a j x) b q y = u2 (u2 f b q y) a j x := by
  funext r s
  unfold u2
  by_cases e1 : r = b ∧ s = q
  · rw [if_pos e1, if_neg (fun e2 => h ⟨e2.1.symm.trans e1.1, e2.2.symm.trans e1.2⟩), if_pos e1]
  · rw [if_neg e1, if_neg e1]
theorem MI.leave (I : MI n H t M) (hi : i < n) (hh : M (i + 2) 2 = 1) : MI n H t (m_leave M i w) := by
  unfold m_leave
  rw [u2_comm (by omega)]
  exact (I.free hi).where_ hi (by rw [u2_ni (by decide)]; exact hh) u2_eq
theorem MI.paid (I : MI n H t M) : MI n H t (m_paid M) := I.set0 (by omega)
theorem MI.house (I : MI n H t M) (hi : i < n) (hh : M (i + 2) 2 = 1) (h5 : M (i + 2) 5 = -1) {w : Nat} (hw : w < H) (hl : m_in M (nI w) < 2) : MI n H t (u2 M (i + 2) 5 (nI w)) := by
  have z : ∀ k q, q ≠ 5 → u2 M (i + 2) 5 (nI w) k q = M k q := fun k q hq => by unfold u2; rw [if_neg (by omega)]
  have z2 : ∀ k q, k ≠ i → u2 M (i + 2) 5 (nI w) (k + 2) q = M (k + 2) q := fun k q hq => u2_ne (by omega)
  obtain ⟨⟨a, b, c⟩, d, e, f, g⟩ := I
  refine ⟨⟨a, b, ?_⟩, fun k hk => ?_, fun k h1 h2 => ?_, fun k hk => ?_, fun w' hw' => ?_⟩
  · rw [u2_ne (by omega)]; exact c
  · rw [z _ _ (by omega), z _ _ (by omega), z _ _ (by omega), z _ _ (by omega), z _ _ (by omega)]; exact d k hk
  · rw [z2 _ _ (by omega), z2 _ _ (by omega), z2 _ _ (by omega)]; exact e k h1 h2
  · by_cases q : k = i
    · subst q; exact Or.inr ⟨(z _ _ (by omega)).trans hh, w, hw, u2_eq⟩
    · rw [z2 _ _ q, z2 _ _ q]; exact f k hk
  · by_cases e9 : w' = w
    · subst e9
      have := cntB_one (p := fun o => decide (M (o + 2) 5 = nI w')) (q := fun o => decide (u2 M (i + 2) 5 (nI w') (o + 2) 5 = nI w')) (k := i) (n := 12) (fun k hk hne q => by rwa [z2 _ _ hne] at q)
      unfold m_in at hl ⊢
      omega
    · refine Nat.le_trans (cntB_mono (fun k hk q => ?_)) (g w' hw')
      by_cases e8 : k = i
      · subst e8
        rw [u2_eq] at q
        exact absurd ((nI_eq (by omega) (by omega)).mp (of_decide_eq_true q)).symm e9
      · rwa [z2 _ _ e8] at q
theorem fit_here {s : Nat → Int32} (h : fitB s = true) : s 2 = 1 := by
  unfold fitB at h
  simp only [Bool.and_eq_true, decide_eq_true_eq] at h
  exact h.1.1
theorem ready_here (h : m_ready M i = true) : M (i + 2) 2 = 1 := by
  unfold m_ready at h
  rw [Bool.and_eq_true] at h
  exact fit_here h.1
theorem mate_ne {j : Nat} (e : m_mate M i = some j) : j ≠ i ∧ ¬ M (j + 2) 5 = -1 ∧ j < 12 ∧ M (j + 2) 0 = 3 := by
  unfold m_mate at e
  split at e
  · rename_i c
    obtain ⟨_, a, b⟩ := fnd_lt e
    unfold m_isM at b
    simp only [Bool.and_eq_true, Bool.not_eq_true', decide_eq_true_eq, decide_eq_false_iff_not] at b
    exact ⟨b.1.1, by rw [b.2]; exact c.2, by omega, b.1.2⟩
  · cases e
theorem MI.off0 (I : MI n H t M) (hi : i < 12) (h : ¬ M (i + 2) 5 = -1) : i < n := by
  by_cases c : i < n
  · exact c
  · exact absurd (I.2.2.1 i (by omega) hi).2.2 h
theorem MI.adopt (I : MI n H t M) (hi : i < n) (hh : M (i + 2) 2 = 1) : MI n H t (m_adopt M i) := by
  unfold m_adopt
  cases e : m_mate M i with
  | none => exact (I.leave hi hh).paid
  | some j =>
    obtain ⟨a, b, c, _⟩ := mate_ne e
    have hj := I.off0 c b
    have h1 : M (j + 2) 2 = 1 := ((I.2.2.2.1 j hj).resolve_left b).1
    have e2 : m_paid (m_leave M i 2) (j + 2) 2 = 1 := by
      unfold m_paid m_leave
      rw [u2_ne (by omega), u2_ne (by omega), u2_ne (by omega)]
      exact h1
    exact ((I.leave hi hh).paid.leave hj e2).paid
theorem MI.act (I : MI n H t M) (hm : M 0 1 = nI H) (hi : i < n) (hv : 9 ≤ v ∧ v < 14) (hc : m_can M v i = true) : MI n H t (m_act M H v i) := by
  rcases (by omega : v = 9 ∨ v = 10 ∨ v = 11 ∨ v = 12 ∨ v = 13) with rfl | rfl | rfl | rfl | rfl
  · have hc : (decide (M (i + 2) 2 = 1) && decide (0 < M 0 2)) = true := hc
    simp only [Bool.and_eq_true, decide_eq_true_eq] at hc
    exact (I.set0 (by omega)).set34 hi (by rw [u2_ne (by omega)]; exact hc.1) (by omega)
  · have hc : decide (M (i + 2) 2 = 1) = true := hc
    have hc := of_decide_eq_true hc
    exact (I.set34 hi hc (by omega)).set34 hi (by rw [u2_ni (by decide)]; exact hc) (by omega)
  · have hc : (decide (M (i + 2) 2 = 1) && decide (M (i + 2) 5 = -1) && decide (0 < m_free M)) = true := hc
    simp only [Bool.and_eq_true, decide_eq_true_eq] at hc
    have q := free_hf I hm i
    rw [decide_eq_true hc.2] at q
    rcases hf_spec I i with ⟨q2, _⟩ | ⟨w, hw, q2, a⟩
    · rw [q2] at q; cases q
    · show MI n H t (u2 M (i + 2) 5 (m_hf M H i))
      rw [q2]
      exact I.house hi hc.1.1 hc.1.2 hw a
  · exact I.free hi
  · exact I.adopt hi (ready_here hc)
theorem itr_app (f : SM → Nat → SM) : ∀ a b i M, itr f (a + b) i M = itr f b (i + a) (itr f a i M)
  | 0, b, i, M => by rw [Nat.zero_add]; rfl
  | a + 1, b, i, M => by
    rw [show a + 1 + b = (a + b) + 1 by omega, itr_s, itr_s, itr_app f a b (i + 1), show i + (a + 1) = i + 1 + a by omega]
theorem itr_id (f : SM → Nat → SM) : ∀ a i M, (∀ j, i ≤ j → j < i + a → f M j = M) → itr f a i M = M
  | 0, _, _, _ => rfl
  | a + 1, i, M, h => by rw [itr_s, h i (by omega) (by omega), itr_id f a (i + 1) M (fun j a b => h j (by omega) (by omega))]
theorem itr_12 {f : SM → Nat → SM} {n : Nat} {M : SM} (hn : n ≤ 12) (h : ∀ j, n ≤ j → j < 12 → f (itr f n 0 M) j = itr f n 0 M) : itr f 12 0 M = itr f n 0 M := by
  have e := itr_app f n (12 - n) 0 M
  rw [show n + (12 - n) = 12 by omega] at e
  rw [e, itr_id f _ _ _ (fun j a b => h j (by omega) (by omega))]
theorem MI.wear (I : MI n H t M) (hi : i < n) : MI n H t (m_wear M i) := by
  unfold m_wear
  split
  · rename_i c
    have c2 : m_hungry M i (wA M i) (i + 2) 2 = 1 := by unfold m_hungry; rw [u2_ni (by decide)]; exact c
    split
    · exact (I.set34 hi c (by omega)).set34 hi c2 (by omega)
    · exact I.set34 hi c (by omega)
  · exact I
theorem MI.run (I : MI n H t M) (hi : i < n) : MI n H t (m_run M i) := by
  unfold m_run
  split
  · rename_i c
    exact I.leave hi c.1
  · exact I
theorem MI.iter {f : SM → Nat → SM} (hf : ∀ M i, MI n H t M → i < n → MI n H t (f M i)) : ∀ m i M, i + m ≤ n → MI n H t M → MI n H t (itr f m i M)
  | 0, _, _, _, I => I
  | m + 1, i, M, h, I => by rw [itr_s]; exact MI.iter hf m (i + 1) _ (by omega) (hf _ _ I (by omega))
theorem wear_12 (I : MI n H t M) : itr m_wear 12 0 M = itr m_wear n 0 M ∧ MI n H t (itr m_wear n 0 M) := by
  have J := MI.iter (f := m_wear) (fun M i I hi => MI.wear I hi) n 0 M (by omega) I
  exact ⟨itr_12 I.1.1 (fun j a b => wear_0 (by rw [(J.2.2.1 j a b).2.1]; decide)), J⟩
theorem run_12 (I : MI n H t M) : itr m_run 12 0 M = itr m_run n 0 M ∧ MI n H t (itr m_run n 0 M) := by
  have J := MI.iter (f := m_run) (fun M i I hi => MI.run I hi) n 0 M (by omega) I
  exact ⟨itr_12 I.1.1 (fun j a b => if_neg (fun q => by have := q.1; rw [(J.2.2.1 j a b).2.1] at this; exact absurd this (by decide))), J⟩
/-- before the strays come: the day is t + 1, and whose day it is is as at first -/
def MC (n : Nat) (M : SM) : Prop := ∀ i, i < n → M (i + 2) 1 = M 0 3 → M (i + 2) 3 = 4 ∧ M (i + 2) 4 = m_W (M (i + 2) 0)
theorem MI.next (I : MI n H t M) (ht : t < 2 ^ 30) : MI n H (t + 1) (m_next M) ∧ MC n (m_next M) := by
  have z : ∀ k q, m_next M (k + 2) q = M (k + 2) q := fun k q => u2_ne (by omega)
  have e : m_next M 0 3 = nI (t + 1) := by unfold m_next; rw [u2_eq, I.1.2.2, nI_1]
  obtain ⟨⟨a, b, c⟩, d, f, g, h⟩ := I
  refine ⟨⟨⟨a, b, e⟩, fun k hk => ?_, fun k h1 h2 => ?_, fun k hk => ?_, fun w hw => ?_⟩, fun k hk q => ?_⟩
  · rw [z, z, z, z, z]
    obtain ⟨dd, d1, d2, d3⟩ := d k hk
    exact ⟨dd, d1, d2, fun l => d3 (by omega)⟩
  · rw [z, z, z]; exact f k h1 h2
  · rw [z, z]; exact g k hk
  · have := h w hw
    unfold m_in at this ⊢
    simp only [z]
    exact this
  · obtain ⟨dd, d1, d2, d3⟩ := d k hk
    rw [z, e, d2] at q
    have := (nI_eq (by omega) (by omega)).mp q
    rw [z, z, z]
    exact (d3 (by omega)).2
theorem MI.come (I : MI n H t M) (hi : i < n) (ht : t < 2 ^ 31) : MI n H t (m_come M i) := by
  unfold m_come
  split
  · rename_i cc
    have z : ∀ k q, q ≠ 2 → u2 M (i + 2) 2 1 k q = M k q := fun k q hq => by unfold u2; rw [if_neg (by omega)]
    have z2 : ∀ k q, k ≠ i → u2 M (i + 2) 2 1 (k + 2) q = M (k + 2) q := fun k q hq => u2_ne (by omega)
    obtain ⟨⟨a, b, c⟩, d, e, f, g⟩ := I
    refine ⟨⟨a, b, ?_⟩, fun k hk => ?_, fun k h1 h2 => ?_, fun k hk => ?_, fun w hw => ?_⟩
    · rw [u2_ne (by omega)]; exact c
    · by_cases q : k = i
      · subst q
        obtain ⟨dd, d1, d2, d3⟩ := d k hk
        refine ⟨dd, d1, (z _ _ (by omega)).trans d2, fun l => ?_⟩
        rw [c, d2] at cc
        have := (nI_eq (by omega) (by omega)).mp cc
        omega
      · rw [z2 _ _ q, z2 _ _ q, z2 _ _ q, z2 _ _ q, z2 _ _ q]; exact d k hk
    · rw [z2 _ _ (by omega), z2 _ _ (by omega), z2 _ _ (by omega)]; exact e k h1 h2
    · by_cases q : k = i
      · subst q
        rw [z _ _ (by omega), u2_eq]
        exact (f k hk).imp id (fun q => ⟨rfl, q.2⟩)
      · rw [z2 _ _ q, z2 _ _ q]; exact f k hk
    · have := g w hw
      unfold m_in at this ⊢
      simp only [z _ 5 (by omega)]
      exact this
  · exact I
theorem MC.come (C : MC n M) : MC n (m_come M i) := by
  intro k hk
  have z : ∀ a j, ¬ j = 2 → m_come M i a j = M a j := fun a j hj => by
    unfold m_come
    split
    · unfold u2; rw [if_neg (by omega)]
    · rfl
  rw [z _ _ (by decide), z _ _ (by decide), z _ _ (by decide), z _ _ (by decide), z _ _ (by decide)]
  exact C k hk
end MIS
