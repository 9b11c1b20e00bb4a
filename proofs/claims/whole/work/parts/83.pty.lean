/-! WHAT THE GRAMMAR'S CODE IS: its types; its names and numbers are tokens of the line. -/
def tyl : List (Nat × Nat) → List Bool → Option (List Bool)
  | [], s => some s
  | a :: l, s => (tyr a.1 s).bind (tyl l)
theorem tyl_app : ∀ (l m : List (Nat × Nat)) (s : List Bool), tyl (l ++ m) s = (tyl l s).bind (tyl m)
  | [], m, s => rfl
  | a :: l, m, s => by
    show (tyr a.1 s).bind (tyl (l ++ m)) = ((tyr a.1 s).bind (tyl l)).bind (tyl m)
    cases tyr a.1 s with
    | none => rfl
    | some s1 => exact tyl_app l m s1
def inN (nt : Nat) (s : List Bool) : List Bool := if nt = 1 ∨ nt = 3 then true :: s else if nt = 6 ∨ nt = 8 then false :: s else s
def outN (nt : Nat) (s : List Bool) : List Bool := if nt ≤ 4 then true :: s else false :: s
def nmd (g : Nat) : Prop := g = 18 ∨ g = 19 ∨ g = 21 ∨ g = 22 ∨ g = 23
def okE (T : Nat → Nat) (i j : Nat) (a : Nat × Nat) : Prop := (a.1 = 45 → T a.2 = 45) ∧ (nmd a.1 → T a.2 = 44 ∧ i ≤ a.2 ∧ a.2 < j)
theorem okE.w {T : Nat → Nat} {i j i' j' : Nat} {a : Nat × Nat} (h : okE T i j a) (h1 : i' ≤ i) (h2 : j ≤ j') : okE T i' j' a := ⟨h.1, fun z => by obtain ⟨x, y, w⟩ := h.2 z; exact ⟨x, by omega, by omega⟩⟩
theorem okE.op {T : Nat → Nat} {i j g t : Nat} (h1 : ¬ g = 45) (h2 : ¬ nmd g) : okE T i j (g, t) := ⟨fun z => absurd z h1, fun z => absurd z h2⟩
def PgT (T : Nat → Nat) (i j nt : Nat) (l : List (Nat × Nat)) : Prop := (∀ a, a ∈ l → okE T i j a) ∧ ∀ s, tyl l (inN nt s) = some (outN nt s)
section PTY
variable {T : Nat → Nat} {K i j nt : Nat}
theorem all_app {P : Nat × Nat → Prop} {l m : List (Nat × Nat)} (h1 : ∀ a, a ∈ l → P a) (h2 : ∀ a, a ∈ m → P a) : ∀ a, a ∈ l ++ m → P a := fun a h => (List.mem_append.mp h).elim (h1 a) (h2 a)
theorem all_cons {P : Nat × Nat → Prop} {x : Nat × Nat} {m : List (Nat × Nat)} (h1 : P x) (h2 : ∀ a, a ∈ m → P a) : ∀ a, a ∈ x :: m → P a := fun a h => (List.mem_cons.mp h).elim (fun e => e ▸ h1) (h2 a)
theorem all_nil {P : Nat × Nat → Prop} : ∀ a, a ∈ ([] : List (Nat × Nat)) → P a := fun a h => absurd h List.not_mem_nil
theorem pgT (hT : TE T K) : ∀ f nt i dep j l, i ≤ K → pg T f nt i dep = some (true, j, l) → PgT T i j nt l
  | 0, nt, i, dep, j, l, hi, h => by cases h
  | f + 1, nt, i, dep, j, l, hi, h => by
    have ih := pgT hT f
    have pb := pgB hT f
    rw [pg_s] at h
    have lt : ∀ {q v : Nat}, q ≤ K → T q = v → ¬ v = 46 → ¬ v = 47 → q < K := fun hq h1 h2 h3 => TE.lt hT hq h1 h2 h3
    unfold gram at h
    split at h
    · rcases seqP_inv h with ⟨c1, h1, h2, h3⟩ | ⟨j1, c1, h1, h⟩
      · cases h2
      · obtain ⟨a1, a2, a3, a4⟩ := pb _ _ _ _ _ _ hi h1
        rcases seqP_inv h with ⟨c2, h2, h3, h4⟩ | ⟨j2, c2, h2, h⟩
        · cases h3
        · obtain ⟨b1, b2, b3, b4⟩ := pb _ _ _ _ _ _ a2 h2
          obtain ⟨-, rfl, rfl⟩ := okP_inv2 h
          have e1 := ih _ _ _ _ _ hi h1
          have e2 := ih _ _ _ _ _ a2 h2
          refine ⟨all_app (fun a ha => (e1.1 a ha).w (by omega) (by omega)) (fun a ha => (e2.1 a ha).w (by omega) (by omega)), fun s => ?_⟩
          have x1 : tyl c1 s = some (true :: s) := e1.2 s
          have x2 : tyl c2 (true :: s) = some (true :: s) := e2.2 s
          show tyl (c1 ++ c2) s = some (true :: s)
          rw [tyl_app, x1]
          exact x2
    · split at h
      · rename_i e
        have l1 := lt hi e (by decide) (by decide)
        rcases seqP_inv h with ⟨c1, h1, h2, h3⟩ | ⟨j1, c1, h1, h⟩
        · cases h2
        · obtain ⟨a1, a2, a3, a4⟩ := pb _ _ _ _ _ _ (by omega) h1
          rcases seqP_inv h with ⟨c2, h2, h3, h4⟩ | ⟨j2, c2, h2, h⟩
          · cases h3
          · obtain ⟨b1, b2, b3, b4⟩ := pb _ _ _ _ _ _ a2 h2
            obtain ⟨-, rfl, rfl⟩ := okP_inv2 h
            have e1 := ih _ _ _ _ _ (by omega) h1
            have e2 := ih _ _ _ _ _ a2 h2
            refine ⟨all_app (fun a ha => (e1.1 a ha).w (by omega) (by omega)) (all_cons (okE.op (by decide) (by unfold nmd; decide)) (fun a ha => (e2.1 a ha).w (by omega) (by omega))), fun s => ?_⟩
            have x1 : tyl c1 (true :: s) = some (true :: true :: s) := e1.2 (true :: s)
            have x2 : tyl c2 (true :: s) = some (true :: s) := e2.2 s
            show tyl (c1 ++ (26, 0) :: c2) (true :: s) = some (true :: s)
            rw [tyl_app, x1]
            exact x2
      · obtain ⟨-, rfl, rfl⟩ := okP_inv2 h
        exact ⟨all_nil, fun s => rfl⟩
    · rcases seqP_inv h with ⟨c1, h1, h2, h3⟩ | ⟨j1, c1, h1, h⟩
      · cases h2
      · obtain ⟨a1, a2, a3, a4⟩ := pb _ _ _ _ _ _ hi h1
        rcases seqP_inv h with ⟨c2, h2, h3, h4⟩ | ⟨j2, c2, h2, h⟩
        · cases h3
        · obtain ⟨b1, b2, b3, b4⟩ := pb _ _ _ _ _ _ a2 h2
          obtain ⟨-, rfl, rfl⟩ := okP_inv2 h
          have e1 := ih _ _ _ _ _ hi h1
          have e2 := ih _ _ _ _ _ a2 h2
          refine ⟨all_app (fun a ha => (e1.1 a ha).w (by omega) (by omega)) (fun a ha => (e2.1 a ha).w (by omega) (by omega)), fun s => ?_⟩
          have x1 : tyl c1 s = some (true :: s) := e1.2 s
          have x2 : tyl c2 (true :: s) = some (true :: s) := e2.2 s
          show tyl (c1 ++ c2) s = some (true :: s)
          rw [tyl_app, x1]
          exact x2
    · split at h
      · rename_i e
        have l1 := lt hi e (by decide) (by decide)
        rcases seqP_inv h with ⟨c1, h1, h2, h3⟩ | ⟨j1, c1, h1, h⟩
        · cases h2
        · obtain ⟨a1, a2, a3, a4⟩ := pb _ _ _ _ _ _ (by omega) h1
          rcases seqP_inv h with ⟨c2, h2, h3, h4⟩ | ⟨j2, c2, h2, h⟩
          · cases h3
          · obtain ⟨b1, b2, b3, b4⟩ := pb _ _ _ _ _ _ a2 h2
            obtain ⟨-, rfl, rfl⟩ := okP_inv2 h
            have e1 := ih _ _ _ _ _ (by omega) h1
            have e2 := ih _ _ _ _ _ a2 h2
            refine ⟨all_app (fun a ha => (e1.1 a ha).w (by omega) (by omega)) (all_cons (okE.op (by decide) (by unfold nmd; decide)) (fun a ha => (e2.1 a ha).w (by omega) (by omega))), fun s => ?_⟩
            have x1 : tyl c1 (true :: s) = some (true :: true :: s) := e1.2 (true :: s)
            have x2 : tyl c2 (true :: s) = some (true :: s) := e2.2 s
            show tyl (c1 ++ (25, 0) :: c2) (true :: s) = some (true :: s)
            rw [tyl_app, x1]
            exact x2
      · obtain ⟨-, rfl, rfl⟩ := okP_inv2 h
        exact ⟨all_nil, fun s => rfl⟩
    · split at h
      · rename_i e
        have l1 := lt hi e (by decide) (by decide)
        split at h
        · cases h
        · rcases seqP_inv h with ⟨c1, h1, h2, h3⟩ | ⟨j1, c1, h1, h⟩
          · cases h2
          · obtain ⟨a1, a2, a3, a4⟩ := pb _ _ _ _ _ _ (by omega) h1
            obtain ⟨-, rfl, rfl⟩ := okP_inv2 h
            have e1 := ih _ _ _ _ _ (by omega) h1
            refine ⟨all_app (fun a ha => (e1.1 a ha).w (by omega) (by omega)) (all_cons (okE.op (by decide) (by unfold nmd; decide)) all_nil), fun s => ?_⟩
            have x1 : tyl c1 s = some (true :: s) := e1.2 s
            show tyl (c1 ++ [(24, 0)]) s = some (true :: s)
            rw [tyl_app, x1]
            rfl
      · split at h
        · rename_i e
          have l1 := lt hi e (by decide) (by decide)
          split at h
          · cases h
          · rcases seqP_inv h with ⟨c1, h1, h2, h3⟩ | ⟨j1, c1, h1, h⟩
            · cases h2
            · obtain ⟨a1, a2, a3, a4⟩ := pb _ _ _ _ _ _ (by omega) h1
              split at h
              · obtain ⟨-, rfl, rfl⟩ := okP_inv2 h
                have e1 := ih _ _ _ _ _ (by omega) h1
                exact ⟨fun a ha => (e1.1 a ha).w (by omega) (by omega), fun s => e1.2 s⟩
              · cases h
        · split at h
          · rename_i e
            split at h
            · rename_i e2
              obtain ⟨-, rfl, rfl⟩ := okP_inv2 h
              refine ⟨all_cons ⟨fun z => by exfalso; have z : T i = 45 := z; omega, fun _ => ⟨e2, by show i ≤ i + 1; omega, by show i + 1 < i + 2; omega⟩⟩ all_nil, fun s => ?_⟩
              show (tyr (T i) s).bind (tyl []) = some (true :: s)
              rcases e with e | e | e <;> (rw [e]; rfl)
            · cases h
          · rcases seqP_inv h with ⟨c1, h1, h2, h3⟩ | ⟨j1, c1, h1, h⟩
            · cases h2
            · obtain ⟨a1, a2, a3, a4⟩ := pb _ _ _ _ _ _ hi h1
              split at h
              · rename_i e2
                unfold isRel at e2
                simp only [Bool.or_eq_true, decide_eq_true_eq] at e2
                have l2 : j1 < K := by rcases e2 with (((e2 | e2) | e2) | e2) | e2 <;> exact lt a2 e2 (by decide) (by decide)
                rcases seqP_inv h with ⟨c2, h2, h3, h4⟩ | ⟨j2, c2, h2, h⟩
                · cases h3
                · obtain ⟨b1, b2, b3, b4⟩ := pb _ _ _ _ _ _ (by omega) h2
                  obtain ⟨-, rfl, rfl⟩ := okP_inv2 h
                  have e1 := ih _ _ _ _ _ hi h1
                  have e3 := ih _ _ _ _ _ (by omega) h2
                  refine ⟨all_app (all_app (fun a ha => (e1.1 a ha).w (by omega) (by omega)) (fun a ha => (e3.1 a ha).w (by omega) (by omega))) (all_cons (okE.op (by omega) (by unfold nmd; omega)) all_nil), fun s => ?_⟩
                  have x1 : tyl c1 s = some (false :: s) := e1.2 s
                  have x2 : tyl c2 (false :: s) = some (false :: false :: s) := e3.2 (false :: s)
                  show tyl (c1 ++ c2 ++ [(T j1, 0)]) s = some (true :: s)
                  rw [tyl_app, tyl_app, x1]
                  show ((tyl c2 (false :: s)).bind _) = _
                  rw [x2]
                  show (tyr (T j1) (false :: false :: s)).bind (tyl []) = _
                  rcases e2 with (((e2 | e2) | e2) | e2) | e2 <;> (rw [e2]; rfl)
              · cases h
    · rcases seqP_inv h with ⟨c1, h1, h2, h3⟩ | ⟨j1, c1, h1, h⟩
      · cases h2
      · obtain ⟨a1, a2, a3, a4⟩ := pb _ _ _ _ _ _ hi h1
        rcases seqP_inv h with ⟨c2, h2, h3, h4⟩ | ⟨j2, c2, h2, h⟩
        · cases h3
        · obtain ⟨b1, b2, b3, b4⟩ := pb _ _ _ _ _ _ a2 h2
          obtain ⟨-, rfl, rfl⟩ := okP_inv2 h
          have e1 := ih _ _ _ _ _ hi h1
          have e2 := ih _ _ _ _ _ a2 h2
          refine ⟨all_app (fun a ha => (e1.1 a ha).w (by omega) (by omega)) (fun a ha => (e2.1 a ha).w (by omega) (by omega)), fun s => ?_⟩
          have x1 : tyl c1 s = some (false :: s) := e1.2 s
          have x2 : tyl c2 (false :: s) = some (false :: s) := e2.2 s
          show tyl (c1 ++ c2) s = some (false :: s)
          rw [tyl_app, x1]
          exact x2
    · split at h
      · rename_i e
        have l1 : i < K := by rcases e with e | e <;> exact lt hi e (by decide) (by decide)
        rcases seqP_inv h with ⟨c1, h1, h2, h3⟩ | ⟨j1, c1, h1, h⟩
        · cases h2
        · obtain ⟨a1, a2, a3, a4⟩ := pb _ _ _ _ _ _ (by omega) h1
          rcases seqP_inv h with ⟨c2, h2, h3, h4⟩ | ⟨j2, c2, h2, h⟩
          · cases h3
          · obtain ⟨b1, b2, b3, b4⟩ := pb _ _ _ _ _ _ a2 h2
            obtain ⟨-, rfl, rfl⟩ := okP_inv2 h
            have e1 := ih _ _ _ _ _ (by omega) h1
            have e2 := ih _ _ _ _ _ a2 h2
            refine ⟨all_app (fun a ha => (e1.1 a ha).w (by omega) (by omega)) (all_cons (okE.op (by omega) (by unfold nmd; omega)) (fun a ha => (e2.1 a ha).w (by omega) (by omega))), fun s => ?_⟩
            have x1 : tyl c1 (false :: s) = some (false :: false :: s) := e1.2 (false :: s)
            have x2 : tyl c2 (false :: s) = some (false :: s) := e2.2 s
            show tyl (c1 ++ (T i, 0) :: c2) (false :: s) = some (false :: s)
            rw [tyl_app, x1]
            show (tyr (T i) (false :: false :: s)).bind (tyl c2) = _
            rcases e with e | e <;> (rw [e]; exact x2)
      · obtain ⟨-, rfl, rfl⟩ := okP_inv2 h
        exact ⟨all_nil, fun s => rfl⟩
    · rcases seqP_inv h with ⟨c1, h1, h2, h3⟩ | ⟨j1, c1, h1, h⟩
      · cases h2
      · obtain ⟨a1, a2, a3, a4⟩ := pb _ _ _ _ _ _ hi h1
        rcases seqP_inv h with ⟨c2, h2, h3, h4⟩ | ⟨j2, c2, h2, h⟩
        · cases h3
        · obtain ⟨b1, b2, b3, b4⟩ := pb _ _ _ _ _ _ a2 h2
          obtain ⟨-, rfl, rfl⟩ := okP_inv2 h
          have e1 := ih _ _ _ _ _ hi h1
          have e2 := ih _ _ _ _ _ a2 h2
          refine ⟨all_app (fun a ha => (e1.1 a ha).w (by omega) (by omega)) (fun a ha => (e2.1 a ha).w (by omega) (by omega)), fun s => ?_⟩
          have x1 : tyl c1 s = some (false :: s) := e1.2 s
          have x2 : tyl c2 (false :: s) = some (false :: s) := e2.2 s
          show tyl (c1 ++ c2) s = some (false :: s)
          rw [tyl_app, x1]
          exact x2
    · split at h
      · rename_i e
        have l1 : i < K := by rcases e with e | e <;> exact lt hi e (by decide) (by decide)
        rcases seqP_inv h with ⟨c1, h1, h2, h3⟩ | ⟨j1, c1, h1, h⟩
        · cases h2
        · obtain ⟨a1, a2, a3, a4⟩ := pb _ _ _ _ _ _ (by omega) h1
          rcases seqP_inv h with ⟨c2, h2, h3, h4⟩ | ⟨j2, c2, h2, h⟩
          · cases h3
          · obtain ⟨b1, b2, b3, b4⟩ := pb _ _ _ _ _ _ a2 h2
            obtain ⟨-, rfl, rfl⟩ := okP_inv2 h
            have e1 := ih _ _ _ _ _ (by omega) h1
            have e2 := ih _ _ _ _ _ a2 h2
            refine ⟨all_app (fun a ha => (e1.1 a ha).w (by omega) (by omega)) (all_cons (okE.op (by omega) (by unfold nmd; omega)) (fun a ha => (e2.1 a ha).w (by omega) (by omega))), fun s => ?_⟩
            have x1 : tyl c1 (false :: s) = some (false :: false :: s) := e1.2 (false :: s)
            have x2 : tyl c2 (false :: s) = some (false :: s) := e2.2 s
            show tyl (c1 ++ (T i, 0) :: c2) (false :: s) = some (false :: s)
            rw [tyl_app, x1]
            show (tyr (T i) (false :: false :: s)).bind (tyl c2) = _
            rcases e with e | e <;> (rw [e]; exact x2)
      · obtain ⟨-, rfl, rfl⟩ := okP_inv2 h
        exact ⟨all_nil, fun s => rfl⟩
    · have k0 : ¬ nt = 0 := by assumption
      have k1 : ¬ nt = 1 := by assumption
      have k2 : ¬ nt = 2 := by assumption
      have k3 : ¬ nt = 3 := by assumption
      have k4 : ¬ nt = 4 := by assumption
      have k5 : ¬ nt = 5 := by assumption
      have k6 : ¬ nt = 6 := by assumption
      have k7 : ¬ nt = 7 := by assumption
      have k8 : ¬ nt = 8 := by assumption
      have hin : ∀ s, inN nt s = s := fun s => by unfold inN; rw [if_neg (by omega), if_neg (by omega)]
      have hout : ∀ s, outN nt s = false :: s := fun s => by unfold outN; rw [if_neg (by omega)]
      suffices hh : (∀ a, a ∈ l → okE T i j a) ∧ ∀ s, tyl l s = some (false :: s) from ⟨hh.1, fun s => by rw [hin, hout]; exact hh.2 s⟩
      split at h
      · rename_i e
        obtain ⟨-, rfl, rfl⟩ := okP_inv2 h
        exact ⟨all_cons ⟨fun _ => e, fun z => by exfalso; unfold nmd at z; omega⟩ all_nil, fun s => rfl⟩
      · split at h
        · rename_i e
          obtain ⟨-, rfl, rfl⟩ := okP_inv2 h
          refine ⟨all_cons (okE.op (by omega) (by unfold nmd; omega)) all_nil, fun s => ?_⟩
          show (tyr (T i) s).bind (tyl []) = some (false :: s)
          rcases e with e | e | e | e <;> (rw [e]; rfl)
        · split at h
          · rename_i e
            split at h
            · split at h
              · rename_i e2
                obtain ⟨-, rfl, rfl⟩ := okP_inv2 h
                refine ⟨all_cons ⟨fun z => by exfalso; have z : T i = 45 := z; omega, fun _ => ⟨e2, by show i ≤ i + 2; omega, by show i + 2 < i + 3; omega⟩⟩ all_nil, fun s => ?_⟩
                show (tyr (T i) s).bind (tyl []) = some (false :: s)
                rcases e with e | e <;> (rw [e]; rfl)
              · cases h
            · cases h
          · split at h
            · rename_i e
              have l1 := lt hi e (by decide) (by decide)
              split at h
              · cases h
              · rcases seqP_inv h with ⟨c1, h1, h2, h3⟩ | ⟨j1, c1, h1, h⟩
                · cases h2
                · obtain ⟨a1, a2, a3, a4⟩ := pb _ _ _ _ _ _ (by omega) h1
                  obtain ⟨-, rfl, rfl⟩ := okP_inv2 h
                  have e1 := ih _ _ _ _ _ (by omega) h1
                  refine ⟨all_app (fun a ha => (e1.1 a ha).w (by omega) (by omega)) (all_cons (okE.op (by decide) (by unfold nmd; decide)) all_nil), fun s => ?_⟩
                  have x1 : tyl c1 s = some (false :: s) := e1.2 s
                  rw [tyl_app, x1]
                  rfl
            · split at h
              · rename_i e
                have l1 := lt hi e (by decide) (by decide)
                split at h
                · cases h
                · rcases seqP_inv h with ⟨c1, h1, h2, h3⟩ | ⟨j1, c1, h1, h⟩
                  · cases h2
                  · obtain ⟨a1, a2, a3, a4⟩ := pb _ _ _ _ _ _ (by omega) h1
                    split at h
                    · obtain ⟨-, rfl, rfl⟩ := okP_inv2 h
                      have e1 := ih _ _ _ _ _ (by omega) h1
                      exact ⟨fun a ha => (e1.1 a ha).w (by omega) (by omega), fun s => e1.2 s⟩
                    · cases h
              · split at h
                · rename_i e
                  have l1 : i < K := by rcases e with e | e <;> exact lt hi e (by decide) (by decide)
                  split at h
                  · rename_i e2
                    have l2 := lt (q := i + 1) (by omega) e2 (by decide) (by decide)
                    split at h
                    · cases h
                    · rcases seqP_inv h with ⟨c1, h1, h2, h3⟩ | ⟨j1, c1, h1, h⟩
                      · cases h2
                      · obtain ⟨a1, a2, a3, a4⟩ := pb _ _ _ _ _ _ (by omega) h1
                        split at h
                        · rename_i e3
                          have l3 := lt a2 e3 (by decide) (by decide)
                          rcases seqP_inv h with ⟨c2, h2, h3, h4⟩ | ⟨j2, c2, h2, h⟩
                          · cases h3
                          · obtain ⟨b1, b2, b3, b4⟩ := pb _ _ _ _ _ _ (by omega) h2
                            split at h
                            · obtain ⟨-, rfl, rfl⟩ := okP_inv2 h
                              have e1 := ih _ _ _ _ _ (by omega) h1
                              have e4 := ih _ _ _ _ _ (by omega) h2
                              refine ⟨all_app (all_app (fun a ha => (e1.1 a ha).w (by omega) (by omega)) (fun a ha => (e4.1 a ha).w (by omega) (by omega))) (all_cons (okE.op (by omega) (by unfold nmd; omega)) all_nil), fun s => ?_⟩
                              have x1 : tyl c1 s = some (false :: s) := e1.2 s
                              have x2 : tyl c2 (false :: s) = some (false :: false :: s) := e4.2 (false :: s)
                              rw [tyl_app, tyl_app, x1]
                              show ((tyl c2 (false :: s)).bind _) = _
                              rw [x2]
                              show (tyr (T i) (false :: false :: s)).bind (tyl []) = _
                              rcases e with e | e <;> (rw [e]; rfl)
                            · cases h
                        · cases h
                  · cases h
                · cases h
end PTY
