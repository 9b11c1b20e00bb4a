/-! THE GRAMMAR OF TESTS AND SUMS, over the signs T of the tokens. -/
abbrev PR : Type := Option (Bool × Nat × List (Nat × Nat))
def seqP (r : PR) (k : Nat → List (Nat × Nat) → PR) : PR := match r with
  | none => none
  | some (b, j, c) => if b = true then k j c else some (false, j, [])
def okP (j : Nat) (c : List (Nat × Nat)) : PR := some (true, j, c)
def noP (j : Nat) : PR := some (false, j, [])
def isRel (v : Nat) : Bool := decide (v = 39) || decide (v = 40) || decide (v = 41) || decide (v = 42) || decide (v = 43)
/-- 0 test, 1 its rest, 2 both, 3 its rest, 4 single, 5 sum, 6 its rest, 7 product, 8 its rest, 9 value -/
def gram (T : Nat → Nat) (P : Nat → Nat → Nat → PR) (nt i dep : Nat) : PR := match nt with
  | 0 => seqP (P 2 i dep) fun j c => seqP (P 1 j dep) fun j' c' => okP j' (c ++ c')
  | 1 => if T i = 26 then seqP (P 2 (i + 1) dep) (fun j c => seqP (P 1 j dep) fun j' c' => okP j' (c ++ (26, 0) :: c')) else okP i []
  | 2 => seqP (P 4 i dep) fun j c => seqP (P 3 j dep) fun j' c' => okP j' (c ++ c')
  | 3 => if T i = 25 then seqP (P 4 (i + 1) dep) (fun j c => seqP (P 3 j dep) fun j' c' => okP j' (c ++ (25, 0) :: c')) else okP i []
  | 4 => if T i = 24 then (if 8 ≤ dep then noP i else seqP (P 4 (i + 1) (dep + 1)) fun j c => okP j (c ++ [(24, 0)]))
      else if T i = 31 then (if 8 ≤ dep then noP i else seqP (P 0 (i + 1) (dep + 1)) fun j c => if T j = 32 then okP (j + 1) c else noP j)
      else if T i = 21 ∨ T i = 22 ∨ T i = 23 then (if T (i + 1) = 44 then okP (i + 2) [(T i, i + 1)] else noP (i + 1))
      else seqP (P 5 i dep) fun j c => if isRel (T j) = true then seqP (P 5 (j + 1) dep) (fun j' c' => okP j' (c ++ c' ++ [(T j, 0)])) else noP j
  | 5 => seqP (P 7 i dep) fun j c => seqP (P 6 j dep) fun j' c' => okP j' (c ++ c')
  | 6 => if T i = 35 ∨ T i = 36 then seqP (P 7 (i + 1) dep) (fun j c => seqP (P 6 j dep) fun j' c' => okP j' (c ++ (T i, 0) :: c')) else okP i []
  | 7 => seqP (P 9 i dep) fun j c => seqP (P 8 j dep) fun j' c' => okP j' (c ++ c')
  | 8 => if T i = 37 ∨ T i = 38 then seqP (P 9 (i + 1) dep) (fun j c => seqP (P 8 j dep) fun j' c' => okP j' (c ++ (T i, 0) :: c')) else okP i []
  | _ => if T i = 45 then okP (i + 1) [(45, i)]
      else if T i = 15 ∨ T i = 16 ∨ T i = 1 ∨ T i = 17 then okP (i + 1) [(T i, 0)]
      else if T i = 18 ∨ T i = 19 then (if T (i + 1) = 20 then (if T (i + 2) = 44 then okP (i + 3) [(T i, i + 2)] else noP (i + 2)) else noP (i + 1))
      else if T i = 36 then (if 8 ≤ dep then noP i else seqP (P 9 (i + 1) (dep + 1)) fun j c => okP j (c ++ [(48, 0)]))
      else if T i = 29 then (if 8 ≤ dep then noP i else seqP (P 5 (i + 1) (dep + 1)) fun j c => if T j = 30 then okP (j + 1) c else noP j)
      else if T i = 27 ∨ T i = 28 then (if T (i + 1) = 29 then (if 8 ≤ dep then noP (i + 1) else seqP (P 5 (i + 2) (dep + 1)) fun j c => if T j = 34 then seqP (P 5 (j + 1) (dep + 1)) (fun j' c' => if T j' = 30 then okP (j' + 1) (c ++ c' ++ [(T i, 0)]) else noP j') else noP j) else noP (i + 1))
      else noP i
def pg (T : Nat → Nat) : Nat → Nat → Nat → Nat → PR
  | 0, _, _, _ => none
  | f + 1, nt, i, dep => gram T (pg T f) nt i dep
theorem pg_s {T : Nat → Nat} {f nt i dep : Nat} : pg T (f + 1) nt i dep = gram T (pg T f) nt i dep := rfl
theorem seqP_inv {r : PR} {k : Nat → List (Nat × Nat) → PR} {b : Bool} {j : Nat} {c : List (Nat × Nat)} (h : seqP r k = some (b, j, c)) : (∃ c1, r = some (false, j, c1) ∧ b = false ∧ c = []) ∨ ∃ j1 c1, r = some (true, j1, c1) ∧ k j1 c1 = some (b, j, c) := by
  unfold seqP at h
  split at h
  · cases h
  · rename_i b1 j1 c1
    split at h
    · rename_i e
      subst e
      exact Or.inr ⟨j1, c1, rfl, h⟩
    · rename_i e
      cases b1
      · cases h
        exact Or.inl ⟨c1, rfl, rfl, rfl⟩
      · exact absurd rfl e
theorem okP_inv {j0 j : Nat} {c0 c : List (Nat × Nat)} {b : Bool} (h : okP j0 c0 = some (b, j, c)) : b = true ∧ j = j0 ∧ c = c0 := by cases h; exact ⟨rfl, rfl, rfl⟩
theorem noP_inv {j0 j : Nat} {c : List (Nat × Nat)} {b : Bool} (h : noP j0 = some (b, j, c)) : b = false ∧ j = j0 ∧ c = [] := by cases h; exact ⟨rfl, rfl, rfl⟩
/-- places grow, the code is no longer than the tokens -/
def PgB (T : Nat → Nat) (K f nt : Nat) : Prop := ∀ i dep b j c, i ≤ K → pg T f nt i dep = some (b, j, c) → i ≤ j ∧ j ≤ K ∧ c.length + i ≤ j ∧ (b = true → ¬ (nt = 1 ∨ nt = 3 ∨ nt = 6 ∨ nt = 8) → i < j)
section PGB
variable {T : Nat → Nat} {K f nt i j dep : Nat} {b : Bool} {c : List (Nat × Nat)}
/-- the end of the tokens is none of the signs of the grammar -/
def TE (T : Nat → Nat) (K : Nat) : Prop := T K = 46 ∨ T K = 47
theorem TE.lt (hT : TE T K) (hi : i ≤ K) {v : Nat} (h : T i = v) (h1 : ¬ v = 46) (h2 : ¬ v = 47) : i < K := by
  by_cases e : i = K
  · subst e
    rcases hT with z | z
    · exact absurd (h.symm.trans z) h1
    · exact absurd (h.symm.trans z) h2
  · omega
theorem pgb_two {a d : Nat} {k : List (Nat × Nat) → List (Nat × Nat) → List (Nat × Nat)} (hk : ∀ x y, (k x y).length ≤ x.length + y.length + 1) (A : PgB T K f a) (D : PgB T K f d) (ha : ¬ (a = 1 ∨ a = 3 ∨ a = 6 ∨ a = 8)) {i0 : Nat} (hi0 : i0 + 1 ≤ K) (h : seqP (pg T f a (i0 + 1) dep) (fun j c => seqP (pg T f d j dep) fun j' c' => okP j' (k c c')) = some (b, j, c)) : i0 ≤ j ∧ j ≤ K ∧ c.length + i0 ≤ j := by
  rcases seqP_inv h with ⟨c1, h1, rfl, rfl⟩ | ⟨j1, c1, h1, h⟩
  · obtain ⟨a1, a2, a3, a4⟩ := A _ _ _ _ _ hi0 h1
    exact ⟨by omega, a2, by show 0 + i0 ≤ j; omega⟩
  · obtain ⟨a1, a2, a3, a4⟩ := A _ _ _ _ _ hi0 h1
    rcases seqP_inv h with ⟨c2, h2, rfl, rfl⟩ | ⟨j2, c2, h2, h⟩
    · obtain ⟨b1, b2, b3, b4⟩ := D _ _ _ _ _ a2 h2
      exact ⟨by omega, b2, by show 0 + i0 ≤ j; omega⟩
    · obtain ⟨b1, b2, b3, b4⟩ := D _ _ _ _ _ a2 h2
      obtain ⟨rfl, rfl, rfl⟩ := okP_inv h
      have := hk c1 c2
      exact ⟨by omega, b2, by omega⟩
theorem pgb_app {a d : Nat} (A : PgB T K f a) (D : PgB T K f d) (ha : ¬ (a = 1 ∨ a = 3 ∨ a = 6 ∨ a = 8)) (hi : i ≤ K) (h : seqP (pg T f a i dep) (fun j c => seqP (pg T f d j dep) fun j' c' => okP j' (c ++ c')) = some (b, j, c)) : i ≤ j ∧ j ≤ K ∧ c.length + i ≤ j ∧ (b = true → i < j) := by
  rcases seqP_inv h with ⟨c1, h1, rfl, rfl⟩ | ⟨j1, c1, h1, h⟩
  · obtain ⟨a1, a2, a3, a4⟩ := A _ _ _ _ _ hi h1
    exact ⟨a1, a2, by show 0 + i ≤ j; omega, fun z => Bool.noConfusion z⟩
  · obtain ⟨a1, a2, a3, a4⟩ := A _ _ _ _ _ hi h1
    have a4 := a4 rfl ha
    rcases seqP_inv h with ⟨c2, h2, rfl, rfl⟩ | ⟨j2, c2, h2, h⟩
    · obtain ⟨b1, b2, b3, b4⟩ := D _ _ _ _ _ a2 h2
      exact ⟨by omega, b2, by show 0 + i ≤ j; omega, fun z => Bool.noConfusion z⟩
    · obtain ⟨b1, b2, b3, b4⟩ := D _ _ _ _ _ a2 h2
      obtain ⟨rfl, rfl, rfl⟩ := okP_inv h
      rw [List.length_append]
      exact ⟨by omega, b2, by omega, fun _ => by omega⟩
theorem pgB (hT : TE T K) : ∀ f nt, PgB T K f nt
  | 0, nt => fun i dep b j c hi h => by cases h
  | f + 1, nt => fun i dep b j c hi h => by
    have ih := pgB hT f
    rw [pg_s] at h
    have lt : ∀ {q v : Nat}, q ≤ K → T q = v → ¬ v = 46 → ¬ v = 47 → q < K := fun hq h1 h2 h3 => TE.lt hT hq h1 h2 h3
    have fin : ∀ {q : Nat}, i ≤ q → q ≤ K → noP q = some (b, j, c) → i ≤ j ∧ j ≤ K ∧ c.length + i ≤ j ∧ (b = true → ¬ (nt = 1 ∨ nt = 3 ∨ nt = 6 ∨ nt = 8) → i < j) := fun h1 h2 h => by
      obtain ⟨rfl, rfl, rfl⟩ := noP_inv h
      exact ⟨h1, h2, by show 0 + i ≤ _; omega, fun z => Bool.noConfusion z⟩
    have finT : ∀ {q : Nat} {x : List (Nat × Nat)}, i + x.length ≤ q → i < q → q ≤ K → okP q x = some (b, j, c) → i ≤ j ∧ j ≤ K ∧ c.length + i ≤ j ∧ (b = true → ¬ (nt = 1 ∨ nt = 3 ∨ nt = 6 ∨ nt = 8) → i < j) := fun h0 h1 h2 h => by
      obtain ⟨rfl, rfl, rfl⟩ := okP_inv h
      exact ⟨by omega, h2, by omega, fun _ _ => h1⟩
    have sub : ∀ {a q dp : Nat} {kk : Nat → List (Nat × Nat) → PR}, i ≤ q → q ≤ K → ¬ (a = 1 ∨ a = 3 ∨ a = 6 ∨ a = 8) → seqP (pg T f a q dp) kk = some (b, j, c) → (∀ j1 c1, q < j1 → j1 ≤ K → c1.length + q ≤ j1 → kk j1 c1 = some (b, j, c) → i ≤ j ∧ j ≤ K ∧ c.length + i ≤ j ∧ (b = true → ¬ (nt = 1 ∨ nt = 3 ∨ nt = 6 ∨ nt = 8) → i < j)) → i ≤ j ∧ j ≤ K ∧ c.length + i ≤ j ∧ (b = true → ¬ (nt = 1 ∨ nt = 3 ∨ nt = 6 ∨ nt = 8) → i < j) := fun {a q dp kk} h1 h2 ha h G => by
      rcases seqP_inv h with ⟨c1, h3, rfl, rfl⟩ | ⟨j1, c1, h3, h⟩
      · obtain ⟨a1, a2, a3, a4⟩ := ih a _ _ _ _ _ h2 h3
        exact ⟨by omega, a2, by show 0 + i ≤ j; omega, fun z => Bool.noConfusion z⟩
      · obtain ⟨a1, a2, a3, a4⟩ := ih a _ _ _ _ _ h2 h3
        exact G j1 c1 (a4 rfl ha) a2 a3 h
    unfold gram at h
    split at h
    · exact let ⟨x1, x2, x3, x4⟩ := pgb_app (ih 2) (ih 1) (by decide) hi h; ⟨x1, x2, x3, fun z _ => x4 z⟩
    · split at h
      · rename_i e
        obtain ⟨x1, x2, x3⟩ := pgb_two (k := fun x y => x ++ (26, 0) :: y) (fun x y => by rw [List.length_append]; show x.length + (y.length + 1) ≤ _; omega) (ih 2) (ih 1) (by decide) (lt hi e (by decide) (by decide)) h
        exact ⟨x1, x2, x3, fun _ z => absurd (Or.inl rfl) z⟩
      · obtain ⟨rfl, rfl, rfl⟩ := okP_inv h
        exact ⟨by omega, hi, by show 0 + j ≤ j; omega, fun _ z => absurd (Or.inl rfl) z⟩
    · exact let ⟨x1, x2, x3, x4⟩ := pgb_app (ih 4) (ih 3) (by decide) hi h; ⟨x1, x2, x3, fun z _ => x4 z⟩
    · split at h
      · rename_i e
        obtain ⟨x1, x2, x3⟩ := pgb_two (k := fun x y => x ++ (25, 0) :: y) (fun x y => by rw [List.length_append]; show x.length + (y.length + 1) ≤ _; omega) (ih 4) (ih 3) (by decide) (lt hi e (by decide) (by decide)) h
        exact ⟨x1, x2, x3, fun _ z => absurd (Or.inr (Or.inl rfl)) z⟩
      · obtain ⟨rfl, rfl, rfl⟩ := okP_inv h
        exact ⟨by omega, hi, by show 0 + j ≤ j; omega, fun _ z => absurd (Or.inr (Or.inl rfl)) z⟩
    · split at h
      · rename_i e
        have l := lt hi e (by decide) (by decide)
        split at h
        · exact fin (by omega) hi h
        · refine sub (a := 4) (by omega) (by omega) (by decide) h (fun j1 c1 h1 h2 h3 h => finT (x := c1 ++ [(24, 0)]) ?_ (by omega) h2 h)
          rw [List.length_append]
          show i + (c1.length + 1) ≤ j1
          omega
      · split at h
        · rename_i e
          have l := lt hi e (by decide) (by decide)
          split at h
          · exact fin (by omega) hi h
          · refine sub (a := 0) (by omega) (by omega) (by decide) h (fun j1 c1 h1 h2 h3 h => ?_)
            split at h
            · rename_i e2
              have l2 := lt h2 e2 (by decide) (by decide)
              exact finT (x := c1) (by omega) (by omega) (by omega) h
            · exact fin (by omega) (by omega) h
        · split at h
          · rename_i e
            have l : i < K := e.elim (fun e => lt hi e (by decide) (by decide)) (fun e => e.elim (fun e => lt hi e (by decide) (by decide)) (fun e => lt hi e (by decide) (by decide)))
            split at h
            · rename_i e2
              have l2 := lt (by omega) e2 (by decide) (by decide)
              exact finT (x := [(T i, i + 1)]) (by show i + 1 ≤ i + 2; omega) (by omega) (by omega) h
            · exact fin (by omega) (by omega) h
          · refine sub (a := 5) (by omega) hi (by decide) h (fun j1 c1 h1 h2 h3 h => ?_)
            split at h
            · rename_i e2
              have l2 : j1 < K := by
                unfold isRel at e2
                simp only [Bool.or_eq_true, decide_eq_true_eq] at e2
                rcases e2 with (((e2 | e2) | e2) | e2) | e2 <;> exact lt h2 e2 (by decide) (by decide)
              refine sub (a := 5) (by omega) (by omega) (by decide) h (fun j2 c2 g1 g2 g3 h => finT (x := c1 ++ c2 ++ [(T j1, 0)]) ?_ (by omega) g2 h)
              rw [List.length_append, List.length_append]
              show i + (c1.length + c2.length + 1) ≤ j2
              omega
            · exact fin (by omega) (by omega) h
    · exact let ⟨x1, x2, x3, x4⟩ := pgb_app (ih 7) (ih 6) (by decide) hi h; ⟨x1, x2, x3, fun z _ => x4 z⟩
    · split at h
      · rename_i e
        have l : i < K := e.elim (fun e => lt hi e (by decide) (by decide)) (fun e => lt hi e (by decide) (by decide))
        obtain ⟨x1, x2, x3⟩ := pgb_two (k := fun x y => x ++ (T i, 0) :: y) (fun x y => by rw [List.length_append]; show x.length + (y.length + 1) ≤ _; omega) (ih 7) (ih 6) (by decide) (by omega) h
        exact ⟨x1, x2, x3, fun _ z => absurd (Or.inr (Or.inr (Or.inl rfl))) z⟩
      · obtain ⟨rfl, rfl, rfl⟩ := okP_inv h
        exact ⟨by omega, hi, by show 0 + j ≤ j; omega, fun _ z => absurd (Or.inr (Or.inr (Or.inl rfl))) z⟩
    · exact let ⟨x1, x2, x3, x4⟩ := pgb_app (ih 9) (ih 8) (by decide) hi h; ⟨x1, x2, x3, fun z _ => x4 z⟩
    · split at h
      · rename_i e
        have l : i < K := e.elim (fun e => lt hi e (by decide) (by decide)) (fun e => lt hi e (by decide) (by decide))
        obtain ⟨x1, x2, x3⟩ := pgb_two (k := fun x y => x ++ (T i, 0) :: y) (fun x y => by rw [List.length_append]; show x.length + (y.length + 1) ≤ _; omega) (ih 9) (ih 8) (by decide) (by omega) h
        exact ⟨x1, x2, x3, fun _ z => absurd (Or.inr (Or.inr (Or.inr rfl))) z⟩
      · obtain ⟨rfl, rfl, rfl⟩ := okP_inv h
        exact ⟨by omega, hi, by show 0 + j ≤ j; omega, fun _ z => absurd (Or.inr (Or.inr (Or.inr rfl))) z⟩
    · split at h
      · rename_i e
        have l := lt hi e (by decide) (by decide)
        exact finT (x := [(45, i)]) (by show i + 1 ≤ i + 1; omega) (by omega) (by omega) h
      · split at h
        · rename_i e
          have l : i < K := by rcases e with e | e | e | e <;> exact lt hi e (by decide) (by decide)
          exact finT (x := [(T i, 0)]) (by show i + 1 ≤ i + 1; omega) (by omega) (by omega) h
        · split at h
          · rename_i e
            have l : i < K := by rcases e with e | e <;> exact lt hi e (by decide) (by decide)
            split at h
            · rename_i e2
              have l2 := lt (q := i + 1) (by omega) e2 (by decide) (by decide)
              split at h
              · rename_i e3
                have l3 := lt (q := i + 2) (by omega) e3 (by decide) (by decide)
                exact finT (x := [(T i, i + 2)]) (by show i + 1 ≤ i + 3; omega) (by omega) (by omega) h
              · exact fin (by omega) (by omega) h
            · exact fin (by omega) (by omega) h
          · split at h
            · rename_i e
              have l := lt hi e (by decide) (by decide)
              split at h
              · exact fin (by omega) hi h
              · refine sub (a := 9) (by omega) (by omega) (by decide) h (fun j1 c1 h1 h2 h3 h => finT (x := c1 ++ [(48, 0)]) ?_ (by omega) h2 h)
                rw [List.length_append]
                show i + (c1.length + 1) ≤ j1
                omega
            · split at h
              · rename_i e
                have l := lt hi e (by decide) (by decide)
                split at h
                · exact fin (by omega) hi h
                · refine sub (a := 5) (by omega) (by omega) (by decide) h (fun j1 c1 h1 h2 h3 h => ?_)
                  split at h
                  · rename_i e2
                    have l2 := lt h2 e2 (by decide) (by decide)
                    exact finT (x := c1) (by omega) (by omega) (by omega) h
                  · exact fin (by omega) (by omega) h
              · split at h
                · rename_i e
                  have l : i < K := by rcases e with e | e <;> exact lt hi e (by decide) (by decide)
                  split at h
                  · rename_i e2
                    have l2 := lt (q := i + 1) (by omega) e2 (by decide) (by decide)
                    split at h
                    · exact fin (by omega) (by omega) h
                    · refine sub (a := 5) (by omega) (by omega) (by decide) h (fun j1 c1 h1 h2 h3 h => ?_)
                      split at h
                      · rename_i e3
                        have l3 := lt h2 e3 (by decide) (by decide)
                        refine sub (a := 5) (by omega) (by omega) (by decide) h (fun j2 c2 g1 g2 g3 h => ?_)
                        split at h
                        · rename_i e4
                          have l4 := lt g2 e4 (by decide) (by decide)
                          refine finT (x := c1 ++ c2 ++ [(T i, 0)]) ?_ (by omega) (by omega) h
                          rw [List.length_append, List.length_append]
                          show i + (c1.length + c2.length + 1) ≤ j2 + 1
                          omega
                        · exact fin (by omega) (by omega) h
                      · exact fin (by omega) (by omega) h
                  · exact fin (by omega) (by omega) h
                · exact fin (by omega) (by omega) h
/-- there is a result, with enough fuel -/
def pgr (nt : Nat) : Nat := if nt = 0 then 6 else if nt = 2 then 5 else if nt = 4 then 4 else if nt = 5 then 3 else if nt = 7 then 2 else if nt = 9 then 1 else 8
theorem seqP_some {r : PR} {k : Nat → List (Nat × Nat) → PR} (h1 : ∃ x, r = some x) (h2 : ∀ j c, r = some (true, j, c) → ∃ x, k j c = some x) : ∃ x, seqP r k = some x := by
  obtain ⟨⟨b, j, c⟩, rfl⟩ := h1
  unfold seqP
  dsimp only
  split
  · rename_i e
    subst e
    exact h2 j c rfl
  · exact ⟨_, rfl⟩
theorem ite_some {p : Prop} [Decidable p] {x y : PR} (h1 : p → ∃ z, x = some z) (h2 : ¬ p → ∃ z, y = some z) : ∃ z, (if p then x else y) = some z := by
  split
  · rename_i e; exact h1 e
  · rename_i e; exact h2 e
theorem pg_some (hT : TE T K) : ∀ f nt i dep, i ≤ K → 9 * (K - i) + pgr nt + 1 ≤ f → ∃ x, pg T f nt i dep = some x
  | 0, nt, i, dep, hi, hf => by omega
  | f + 1, nt, i, dep, hi, hf => by
    have ih := pg_some hT f
    have pb := pgB hT f
    rw [pg_s]
    have lt : ∀ {q v : Nat}, q ≤ K → T q = v → ¬ v = 46 → ¬ v = 47 → q < K := fun hq h1 h2 h3 => TE.lt hT hq h1 h2 h3
    have r9 : ∀ nt, pgr nt ≤ 8 := fun nt => by unfold pgr; (repeat' split) <;> decide
    have no : ∀ q, ∃ x, noP q = some x := fun q => ⟨_, rfl⟩
    have ok : ∀ q c, ∃ x, okP q c = some x := fun q c => ⟨_, rfl⟩
    have aft : ∀ a q dp j c, ¬ (a = 1 ∨ a = 3 ∨ a = 6 ∨ a = 8) → q ≤ K → pg T f a q dp = some (true, j, c) → q < j ∧ j ≤ K := fun a q dp j c ha hq h => let ⟨_, x2, _, x4⟩ := pb a _ _ _ _ _ hq h; ⟨x4 rfl ha, x2⟩
    have lat : ∀ a q dp, i < q → q ≤ K → ∃ x, pg T f a q dp = some x := fun a q dp h1 h2 => ih a q dp h2 (by have := r9 a; omega)
    have rep : ∀ a q dp, pgr nt = 8 → i < q → q ≤ K → ∃ x, pg T f a q dp = some x := fun a q dp _ h1 h2 => lat a q dp h1 h2
    unfold gram
    split
    · exact seqP_some (ih 2 i dep hi (by have : pgr 0 = 6 := rfl; have : pgr 2 = 5 := rfl; omega)) (fun j c h => seqP_some (lat 1 j dep (aft _ _ _ _ _ (by decide) hi h).1 (aft _ _ _ _ _ (by decide) hi h).2) (fun _ _ _ => ok _ _))
    · refine ite_some (fun e => ?_) (fun _ => ok _ _)
      have l := lt hi e (by decide) (by decide)
      exact seqP_some (lat 2 _ dep (by omega) (by omega)) (fun j c h => seqP_some (lat 1 j dep (by have := aft _ _ _ _ _ (by decide) (by omega) h; omega) (aft _ _ _ _ _ (by decide) (by omega) h).2) (fun _ _ _ => ok _ _))
    · exact seqP_some (ih 4 i dep hi (by have : pgr 2 = 5 := rfl; have : pgr 4 = 4 := rfl; omega)) (fun j c h => seqP_some (lat 3 j dep (aft _ _ _ _ _ (by decide) hi h).1 (aft _ _ _ _ _ (by decide) hi h).2) (fun _ _ _ => ok _ _))
    · refine ite_some (fun e => ?_) (fun _ => ok _ _)
      have l := lt hi e (by decide) (by decide)
      exact seqP_some (lat 4 _ dep (by omega) (by omega)) (fun j c h => seqP_some (lat 3 j dep (by have := aft _ _ _ _ _ (by decide) (by omega) h; omega) (aft _ _ _ _ _ (by decide) (by omega) h).2) (fun _ _ _ => ok _ _))
    · refine ite_some (fun e => ?_) (fun _ => ite_some (fun e => ?_) (fun _ => ite_some (fun _ => ite_some (fun _ => ok _ _) (fun _ => no _)) (fun _ => ?_)))
      · have l := lt hi e (by decide) (by decide)
        exact ite_some (fun _ => no _) (fun _ => seqP_some (lat 4 _ _ (by omega) (by omega)) (fun _ _ _ => ok _ _))
      · have l := lt hi e (by decide) (by decide)
        exact ite_some (fun _ => no _) (fun _ => seqP_some (lat 0 _ _ (by omega) (by omega)) (fun _ _ _ => ite_some (fun _ => ok _ _) (fun _ => no _)))
      · refine seqP_some (ih 5 i dep hi (by have : pgr 4 = 4 := rfl; have : pgr 5 = 3 := rfl; omega)) (fun j c h => ite_some (fun e2 => ?_) (fun _ => no _))
        have aa := aft _ _ _ _ _ (by decide) hi h
        have l2 : j < K := by
          unfold isRel at e2
          simp only [Bool.or_eq_true, decide_eq_true_eq] at e2
          rcases e2 with (((e2 | e2) | e2) | e2) | e2 <;> exact lt aa.2 e2 (by decide) (by decide)
        exact seqP_some (lat 5 _ dep (by omega) (by omega)) (fun _ _ _ => ok _ _)
    · exact seqP_some (ih 7 i dep hi (by have : pgr 5 = 3 := rfl; have : pgr 7 = 2 := rfl; omega)) (fun j c h => seqP_some (lat 6 j dep (aft _ _ _ _ _ (by decide) hi h).1 (aft _ _ _ _ _ (by decide) hi h).2) (fun _ _ _ => ok _ _))
    · refine ite_some (fun e => ?_) (fun _ => ok _ _)
      have l : i < K := by rcases e with e | e <;> exact lt hi e (by decide) (by decide)
      exact seqP_some (lat 7 _ dep (by omega) (by omega)) (fun j c h => seqP_some (lat 6 j dep (by have := aft _ _ _ _ _ (by decide) (by omega) h; omega) (aft _ _ _ _ _ (by decide) (by omega) h).2) (fun _ _ _ => ok _ _))
    · exact seqP_some (ih 9 i dep hi (by have : pgr 7 = 2 := rfl; have : pgr 9 = 1 := rfl; omega)) (fun j c h => seqP_some (lat 8 j dep (aft _ _ _ _ _ (by decide) hi h).1 (aft _ _ _ _ _ (by decide) hi h).2) (fun _ _ _ => ok _ _))
    · refine ite_some (fun e => ?_) (fun _ => ok _ _)
      have l : i < K := by rcases e with e | e <;> exact lt hi e (by decide) (by decide)
      exact seqP_some (lat 9 _ dep (by omega) (by omega)) (fun j c h => seqP_some (lat 8 j dep (by have := aft _ _ _ _ _ (by decide) (by omega) h; omega) (aft _ _ _ _ _ (by decide) (by omega) h).2) (fun _ _ _ => ok _ _))
    · refine ite_some (fun _ => ok _ _) (fun _ => ite_some (fun _ => ok _ _) (fun _ => ite_some (fun _ => ite_some (fun _ => ite_some (fun _ => ok _ _) (fun _ => no _)) (fun _ => no _)) (fun _ => ite_some (fun e => ?_) (fun _ => ite_some (fun e => ?_) (fun _ => ite_some (fun e => ?_) (fun _ => no _))))))
      · have l := lt hi e (by decide) (by decide)
        exact ite_some (fun _ => no _) (fun _ => seqP_some (lat 9 _ _ (by omega) (by omega)) (fun _ _ _ => ok _ _))
      · have l := lt hi e (by decide) (by decide)
        exact ite_some (fun _ => no _) (fun _ => seqP_some (lat 5 _ _ (by omega) (by omega)) (fun _ _ _ => ite_some (fun _ => ok _ _) (fun _ => no _)))
      · have l : i < K := by rcases e with e | e <;> exact lt hi e (by decide) (by decide)
        refine ite_some (fun e2 => ite_some (fun _ => no _) (fun _ => ?_)) (fun _ => no _)
        have l2 := lt (q := i + 1) (by omega) e2 (by decide) (by decide)
        refine seqP_some (lat 5 _ _ (by omega) (by omega)) (fun j c h => ite_some (fun e3 => ?_) (fun _ => no _))
        have aa := aft _ _ _ _ _ (by decide) (by omega) h
        have l3 := lt aa.2 e3 (by decide) (by decide)
        exact seqP_some (lat 5 _ _ (by omega) (by omega)) (fun _ _ _ => ite_some (fun _ => ok _ _) (fun _ => no _))
end PGB
