/-! COUNTS, CHOICES: what the rows of part 40 of whole hold that speaks of no reference. -/
theorem iS_set {h : AH} {f : SM} {a j : Nat} {x : Int32} : setI (ivS h f) a j x = ivS h (u2 f a j x) := rfl
theorem iS_st {h : AH} {f : SM} {a i : Nat} {x : Int32} (hi : i < 2 ^ 31) : setI (ivS h f) a (nI i).toNatClampNeg x = ivS h (u2 f a i x) := by rw [nI_clamp hi]; rfl
theorem cs_t {p : Nat → Bool} {i : Nat} (h : p i = true) : nI (cntB p i) + 1 = nI (cntB p (i + 1)) := by rw [cntB_t h, nI_1]
theorem cs_f {p : Nat → Bool} {i : Nat} (h : p i = false) : nI (cntB p i) + 0 = nI (cntB p (i + 1)) := by rw [cntB_f h, Int32.add_zero]
theorem cntB_tr {p : Nat → Bool} {n : Nat} : ∀ m, (∀ i, n ≤ i → i < n + m → p i = false) → cntB p (n + m) = cntB p n
  | 0, _ => rfl
  | m + 1, h => by
    rw [← Nat.add_assoc, cntB_f (h (n + m) (by omega) (by omega))]
    exact cntB_tr m (fun i a b => h i a (by omega))
theorem cntB_12 {p : Nat → Bool} {n : Nat} (hn : n ≤ 12) (h : ∀ i, n ≤ i → i < 12 → p i = false) : cntB p 12 = cntB p n := by
  have e := cntB_tr (p := p) (n := n) (12 - n) (fun i a b => h i a (by omega))
  rwa [show n + (12 - n) = 12 by omega] at e
theorem fnd_tr {p : Nat → Bool} : ∀ n m i, (∀ j, i + n ≤ j → j < i + n + m → p j = false) → fnd p (n + m) i = fnd p n i
  | 0, 0, _, _ => rfl
  | 0, m + 1, i, h => by
    have hi := h i (by omega) (by omega)
    rw [Nat.zero_add, fnd_f hi]
    have := fnd_tr 0 m (i + 1) (fun j a b => h j (by omega) (by omega))
    rw [Nat.zero_add] at this
    rw [this]
    rfl
  | n + 1, m, i, h => by
    rw [show n + 1 + m = (n + m) + 1 by omega]
    unfold fnd
    rw [fnd_tr n m (i + 1) (fun j a b => h j (by omega) (by omega))]
theorem fnd_12 {p : Nat → Bool} {n : Nat} (hn : n ≤ 12) (h : ∀ i, n ≤ i → i < 12 → p i = false) : fnd p 12 0 = fnd p n 0 := by
  have e := fnd_tr (p := p) n (12 - n) 0 (fun j a b => h j (by omega) (by omega))
  rwa [show n + (12 - n) = 12 by omega] at e
theorem i_ge {x a b : Int32} (h : a.toInt + 1 = b.toInt) : b ≤ x ↔ a < x := by
  rw [Int32.le_iff_toInt_le, Int32.lt_iff_toInt_lt]
  omega
theorem b_t : bI true = 1 := rfl
theorem b_f : bI false = 0 := rfl
