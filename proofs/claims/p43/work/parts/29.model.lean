/-! REGIONS of the heap's ints; counting and finding. -/
abbrev SM : Type := Nat → Nat → Int32
/-- the heap with other ints -/
def ivS (h : AH) (f : Nat → Nat → Int32) : AH := (h.1, f, h.2.2)
/-- the heap with the ints of its n cells from r on as R has them -/
def rg (r n : Nat) (h : AH) (R : SM) : AH := ivS h (fun a j => if r ≤ a ∧ a < r + n then R (a - r) j else iv h a j)
theorem rg_iv {r n i j : Nat} {h : AH} {R : SM} (hi : i < n) : iv (rg r n h R) (r + i) j = R i j := by
  show (if r ≤ r + i ∧ r + i < r + n then R (r + i - r) j else iv h (r + i) j) = _
  rw [if_pos ⟨by omega, by omega⟩, Nat.add_sub_cancel_left]
theorem rg_iv0 {r n j : Nat} {h : AH} {R : SM} (hn : 0 < n) : iv (rg r n h R) r j = R 0 j := rg_iv (i := 0) hn
theorem rg_out {r n a j : Nat} {h : AH} {R : SM} (ha : a < r ∨ r + n ≤ a) : iv (rg r n h R) a j = iv h a j := by
  show (if r ≤ a ∧ a < r + n then R (a - r) j else iv h a j) = _
  rw [if_neg (by omega)]
theorem rg_set {r n i j : Nat} {x : Int32} {h : AH} {R : SM} (hi : i < n) : setI (rg r n h R) (r + i) j x = rg r n h (u2 R i j x) := by
  show ivS h (u2 _ (r + i) j x) = ivS h _
  congr 1
  funext a q
  unfold u2
  by_cases e : a = r + i ∧ q = j
  · obtain ⟨rfl, rfl⟩ := e
    rw [if_pos ⟨rfl, rfl⟩, if_pos ⟨by omega, by omega⟩, if_pos ⟨by omega, rfl⟩]
  · rw [if_neg e]
    show (if r ≤ a ∧ a < r + n then R (a - r) q else iv h a q) = _
    by_cases e2 : r ≤ a ∧ a < r + n
    · rw [if_pos e2, if_pos e2, if_neg (fun q9 => e ⟨by omega, q9.2⟩)]
    · rw [if_neg e2, if_neg e2]
theorem rg_set0 {r n j : Nat} {x : Int32} {h : AH} {R : SM} (hn : 0 < n) : setI (rg r n h R) r j x = rg r n h (u2 R 0 j x) := rg_set (i := 0) hn
theorem rg_rg (r n : Nat) (h : AH) (R R' : SM) : rg r n (rg r n h R) R' = rg r n h R' := by
  show ivS h _ = ivS h _
  congr 1
  funext a q
  show (if r ≤ a ∧ a < r + n then R' (a - r) q else (if r ≤ a ∧ a < r + n then R (a - r) q else iv h a q)) = _
  by_cases e2 : r ≤ a ∧ a < r + n
  · rw [if_pos e2, if_pos e2]
  · rw [if_neg e2, if_neg e2, if_neg e2]
theorem rg_self (r n : Nat) (h : AH) : rg r n h (fun i j => iv h (r + i) j) = h := by
  show ivS h _ = ivS h (iv h)
  congr 1
  funext a q
  show (if r ≤ a ∧ a < r + n then iv h (r + (a - r)) q else iv h a q) = iv h a q
  by_cases e2 : r ≤ a ∧ a < r + n
  · rw [if_pos e2, show r + (a - r) = a by omega]
  · rw [if_neg e2]
theorem rg_comm {r n r' n' : Nat} (h : AH) (R R' : SM) (hd : r + n ≤ r' ∨ r' + n' ≤ r) : rg r n (rg r' n' h R') R = rg r' n' (rg r n h R) R' := by
  show ivS h _ = ivS h _
  congr 1
  funext a q
  show (if r ≤ a ∧ a < r + n then R (a - r) q else (if r' ≤ a ∧ a < r' + n' then R' (a - r') q else iv h a q)) = (if r' ≤ a ∧ a < r' + n' then R' (a - r') q else (if r ≤ a ∧ a < r + n then R (a - r) q else iv h a q))
  by_cases e2 : r ≤ a ∧ a < r + n
  · rw [if_pos e2, if_neg (by omega), if_pos e2]
  · rw [if_neg e2, if_neg e2]
theorem rg_congr {r n : Nat} {h : AH} {R R' : SM} (e : ∀ i, i < n → ∀ j, R i j = R' i j) : rg r n h R = rg r n h R' := by
  show ivS h _ = ivS h _
  congr 1
  funext a q
  show (if r ≤ a ∧ a < r + n then R (a - r) q else iv h a q) = (if r ≤ a ∧ a < r + n then R' (a - r) q else iv h a q)
  by_cases e2 : r ≤ a ∧ a < r + n
  · rw [if_pos e2, if_pos e2, e _ (by omega)]
  · rw [if_neg e2, if_neg e2]
def cntB (p : Nat → Bool) : Nat → Nat
  | 0 => 0
  | n + 1 => cntB p n + (if p n = true then 1 else 0)
theorem cntB_f {p : Nat → Bool} {i : Nat} (h : p i = false) : cntB p (i + 1) = cntB p i := by simp [cntB, h]
theorem cntB_t {p : Nat → Bool} {i : Nat} (h : p i = true) : cntB p (i + 1) = cntB p i + 1 := by simp [cntB, h]
theorem cntB_le (p : Nat → Bool) : ∀ n, cntB p n ≤ n
  | 0 => Nat.le_refl _
  | n + 1 => by
    have := cntB_le p n
    unfold cntB
    split <;> omega
theorem cntB_congr {p q : Nat → Bool} : ∀ {n : Nat}, (∀ i, i < n → p i = q i) → cntB p n = cntB q n
  | 0, _ => rfl
  | n + 1, h => by
    unfold cntB
    rw [cntB_congr (fun i hi => h i (by omega)), h n (by omega)]
/-- the first place from i on, of n, where p holds -/
def fnd (p : Nat → Bool) : Nat → Nat → Option Nat
  | 0, _ => none
  | n + 1, i => if p i = true then some i else fnd p n (i + 1)
theorem fnd_t {p : Nat → Bool} {n i : Nat} (h : p i = true) : fnd p (n + 1) i = some i := by rw [fnd, if_pos h]
theorem fnd_f {p : Nat → Bool} {n i : Nat} (h : p i = false) : fnd p (n + 1) i = fnd p n (i + 1) := by rw [fnd, h]; rfl
theorem fnd_lt {p : Nat → Bool} : ∀ {n i m : Nat}, fnd p n i = some m → i ≤ m ∧ m < i + n ∧ p m = true
  | 0, i, m, h => by cases h
  | n + 1, i, m, h => by
    unfold fnd at h
    split at h
    · rename_i e
      cases h
      exact ⟨Nat.le_refl _, by omega, e⟩
    · obtain ⟨a, b, c⟩ := fnd_lt h
      exact ⟨by omega, by omega, c⟩
theorem fnd_congr {p q : Nat → Bool} : ∀ {n i : Nat}, (∀ j, i ≤ j → j < i + n → p j = q j) → fnd p n i = fnd q n i
  | 0, _, _ => rfl
  | n + 1, i, h => by
    unfold fnd
    rw [h i (by omega) (by omega), fnd_congr (fun j a b => h j (by omega) (by omega))]
def bI (c : Bool) : Int32 := if c = true then 1 else 0
theorem bI_or (c : Bool) : bI c = 0 ∨ bI c = 1 := by cases c <;> simp [bI]
theorem bI_ne {c : Bool} (h : ¬ bI c = 0) : c = true := by cases c <;> simp_all [bI]
theorem bI_eq {c : Bool} (h : bI c = 0) : c = false := by cases c <;> simp_all [bI]
theorem inR_nI {i n : Nat} (h : i < n) (hn : n < 2 ^ 31) : inR (nI i) n = true := by
  unfold inR
  rw [nI_clamp (by omega)]
  simp [nI_pos (show i < 2 ^ 31 by omega), h]
theorem nI_12 : nI 12 = 12 := by decide
section OKE
variable {d k pc q t j ci n kk y na kc ik E : Nat} {L : ALs} {st : List Value} {h h1 h2 : AH} {Q P : AO → AH → Prop} {x z : Int32} {u w : Int64} {r a : Nat}
theorem ok_getIe (a : AtF k pc q ci j 1 kk) (c : kd h r = (kk, ci)) (e : iv h r j = x) (K : Ok d k q L (.int x :: st) h Q) : Ok d k pc L (.ref r :: st) h Q := by subst e; exact ok_getI a c K
theorem ok_putIe (a : AtP k pc q ci j 1) (c : kd h r = (0, ci)) (e : setI h r j x = h2) (K : Ok d k q L st h2 Q) : Ok d k pc L (.int x :: .ref r :: st) h Q := by subst e; exact ok_putI a c K
theorem ok_ialde (a : At k pc .iaload q) (c : kd h r = (1, n)) (g : inR x n = true) (e : iv h r x.toNatClampNeg = z) (K : Ok d k q L (.int z :: st) h Q) : Ok d k pc L (.int x :: .ref r :: st) h Q := by subst e; exact ok_iald a c g K
theorem ok_iald12e (a : At k pc .iaload q) (c : kd h r = (12, n)) (g : inR x n = true) (e : iv h r x.toNatClampNeg = z) (K : Ok d k q L (.int z :: st) h Q) : Ok d k pc L (.int x :: .ref r :: st) h Q := by subst e; exact ok_iald12 a c g K
theorem ok_iaste (a : At k pc .iastore q) (c : kd h r = (1, n)) (g : inR x n = true) (e : setI h r x.toNatClampNeg z = h2) (K : Ok d k q L st h2 Q) : Ok d k pc L (.int z :: .int x :: .ref r :: st) h Q := by subst e; exact ok_iast a c g K
/-- an int on the stack, called otherwise -/
theorem ok_eq (e : x = z) (K : Ok d k pc L (.int z :: st) h Q) : Ok d k pc L (.int x :: st) h Q := by subst e; exact K
end OKE
/-! the strays, as the class tells of them: M 0 the shelter's own (0 strays, 1 houses, 2 coins, 3 today, 4 carried out), M (i + 2) stray i's (0 kind, 1 coming day, 2 whereabouts, 3 hunger, 4 wildness, 5 home) -/
/-- the kinds and references of a Shelter at b: its array at b + 1, its strays from b + 2 on -/
def ShK (b : Nat) (h : AH) : Prop := kd h b = (0, 3) ∧ rv h b 5 = some (b + 1) ∧ kd h (b + 1) = (5, 12) ∧ (∀ i, i < 12 → rv h (b + 1) i = some (b + (i + 2)) ∧ kd h (b + (i + 2)) = (0, 4)) ∧ 200 ≤ b
theorem ShK.ar {b i : Nat} {h : AH} (S : ShK b h) (hi : i < 12) : rv h (b + 1) (nI i).toNatClampNeg = some (b + (i + 2)) := by
  rw [nI_clamp (by omega)]
  exact (S.2.2.2.1 i hi).1
def m_cnt (M : SM) (n : Nat) (w : Int32) : Nat := cntB (fun i => decide (M (i + 2) 2 = w)) n
def m_in (M : SM) (w : Int32) : Nat := cntB (fun i => decide (M (i + 2) 5 = w)) 12
def m_free (M : SM) : Int32 := M 0 1 * 2 - (12 - nI (m_in M (-1)))
def m_isM (M : SM) (i o : Nat) : Bool := !decide (o = i) && decide (M (o + 2) 0 = 3) && decide (M (o + 2) 5 = M (i + 2) 5)
def m_mate (M : SM) (i : Nat) : Option Nat := if M (i + 2) 0 = 3 ∧ ¬ M (i + 2) 5 = -1 then fnd (m_isM M i) 12 0 else none
def fitB (s : Nat → Int32) : Bool := decide (s 2 = 1) && !decide (2 < s 4) && !decide (5 < s 3)
def m_ready (M : SM) (i : Nat) : Bool := fitB (M (i + 2)) && (if M (i + 2) 0 = 2 then !decide (M (i + 2) 5 = -1) else if M (i + 2) 0 = 3 then (match m_mate M i with | some m => fitB (M (m + 2)) | none => false) else true)
