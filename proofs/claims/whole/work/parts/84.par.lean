/-! BOTH READERS BY THE SAME LINES: names' ordinals, lines in parallel, what the reference's lines leave alone. -/
/-- the number of roles 1 before u -/
def rc (rl : Nat → Int32) : Nat → Nat
  | 0 => 0
  | u + 1 => rc rl u + (if rl u = 1 then 1 else 0)
section PAR
variable {d L K pr i j k n tok dep fu v t u ns no bk : Nat} {bt : Nat → Int32} {h : AH} {f f0 : SM} {x y z : Int32} {q : C4} {rl cd on : Nat → Int32} {b : Bool} {l m : List (Nat × Nat)} {nm : Nat → Int64} {T : Nat → Nat}
theorem rc_mono {rl : Nat → Int32} : ∀ {a b : Nat}, a ≤ b → rc rl a ≤ rc rl b := fun {a b} h => by
  obtain ⟨c, rfl⟩ : ∃ c, b = a + c := ⟨b - a, by omega⟩
  clear h
  induction c with
  | zero => exact Nat.le_refl _
  | succ c ih =>
    show rc rl a ≤ rc rl (a + c) + _
    omega
theorem rc_one (h : rl u = 1) : rc rl (u + 1) = rc rl u + 1 := by
  show rc rl u + (if rl u = 1 then 1 else 0) = _
  rw [if_pos h]
theorem rc_no (h : ¬ rl u = 1) : rc rl (u + 1) = rc rl u := by
  show rc rl u + (if rl u = 1 then 1 else 0) = _
  rw [if_neg h]
  rfl
theorem rc_gap {rl : Nat → Int32} {a : Nat} : ∀ c, (∀ u, a ≤ u → u < a + c → ¬ rl u = 1) → rc rl (a + c) = rc rl a
  | 0, _ => rfl
  | c + 1, h => (rc_no (u := a + c) (h (a + c) (by omega) (by omega))).trans (rc_gap c (fun u h1 h2 => h u h1 (by omega)))
theorem rc_cong {rl rl' : Nat → Int32} : ∀ a, (∀ u, u < a → rl u = rl' u) → rc rl a = rc rl' a
  | 0, _ => rfl
  | a + 1, h => by
    show rc rl a + (if rl a = 1 then 1 else 0) = rc rl' a + (if rl' a = 1 then 1 else 0)
    rw [rc_cong a (fun u hu => h u (by omega)), h a (by omega)]
theorem tlr_sna (hns : rc rl t = ns) (hn : ∀ u, u < t → rl u = 1 → nm (rc rl u) = tw bt L u) : ∀ m u, u + m = t → tlr bt L rl t m u (rc rl u) = oI (fnd (fun j => decide (nm j = tw bt L t)) (ns - rc rl u) (rc rl u))
  | 0, u, e => by
    obtain rfl : u = t := e
    rw [hns, Nat.sub_self]
    rfl
  | m + 1, u, e => by
    by_cases c : rl u = 1
    · have h1 := rc_one c
      have h2 : rc rl (u + 1) ≤ ns := hns ▸ rc_mono (by omega)
      have h3 := hn u (by omega) c
      have e1 : tlr bt L rl t (m + 1) u (rc rl u) = (if tw bt L u = tw bt L t then nI (rc rl u) else tlr bt L rl t m (u + 1) (rc rl u + 1)) := if_pos c
      rw [e1, show ns - rc rl u = (ns - rc rl (u + 1)) + 1 by omega]
      by_cases c2 : tw bt L u = tw bt L t
      · rw [if_pos c2, fnd_t (show (fun j => decide (nm j = tw bt L t)) (rc rl u) = true from decide_eq_true (h3.trans c2))]
        rfl
      · rw [if_neg c2, fnd_f (show (fun j => decide (nm j = tw bt L t)) (rc rl u) = false from decide_eq_false (fun z => c2 (h3.symm.trans z))), ← h1]
        exact tlr_sna hns hn m (u + 1) (by omega)
    · have h1 := rc_no c
      have e1 : tlr bt L rl t (m + 1) u (rc rl u) = tlr bt L rl t m (u + 1) (rc rl u) := if_neg c
      rw [e1, ← h1]
      exact tlr_sna hns hn m (u + 1) (by omega)
theorem tld_sna (hns : rc rl t = ns) (hn : ∀ u, u < t → rl u = 1 → nm (rc rl u) = tw bt L u) : tld bt L rl t = sna ns nm (tw bt L t) := tlr_sna hns hn t 0 (Nat.zero_add t)
/-- lines in parallel -/
theorem lin_par {fu : Nat} : ∀ m (B : CBk) (C : RBk), B.i = C.i → (linR bt L bk fu m B).1 = (linQ bt L pr fu m C).1 ∧ (linR bt L bk fu m B).2.i = (linQ bt L pr fu m C).2.i
  | 0, B, C, e => ⟨rfl, e⟩
  | m + 1, B, C, e => by
    unfold linR linQ
    rw [e]
    by_cases c : tsg bt L C.i = 46
    · rw [if_pos c, if_pos c]; exact ⟨rfl, e⟩
    · rw [if_neg c, if_neg c]
      cases lnP (tsg bt L) fu C.i with
      | none => exact ⟨rfl, e⟩
      | some x =>
        obtain ⟨b, j, l⟩ := x
        cases b
        · exact ⟨rfl, rfl⟩
        · refine lin_par m _ _ ?_
          have e1 : (nxL bt L bk B j l).i = j := by
            unfold nxL
            split <;> rfl
          have e2 : (nyL bt L pr C j l).i = j := by
            unfold nyL
            split <;> rfl
          exact e1.trans e2.symm
/-- what a line of the reference does to the roles -/
def RlL (bt : Nat → Int32) (L : Nat) (rl : Nat → Int32) (i j : Nat) : Prop := if tsg bt L i = 2 then (rl i = 0 ∧ rl (i + 1) = 1 ∧ rl (i + 1 + 1) = 0 ∧ rl (i + 1 + 1 + 1) = 0 ∧ rl (i + 1 + 1 + 1 + 1) = 0 ∧ rl (i + 1 + 1 + 1 + 1 + 1) = 7 ∧ rl (i + 1 + 1 + 1 + 1 + 1 + 1) = 0) else (rl i = 2 ∧ rl (i + 1) = 3 ∧ ∀ u, i + 1 + 1 ≤ u → u < j → rl u = if tsg bt L u = 44 then 4 else 0)
theorem RlL.cong {rl' : Nat → Int32} (R : RlL bt L rl i j) (h : ∀ u, u < j → rl' u = rl u) (h7 : tsg bt L i = 2 → i + 7 ≤ j) (h3 : i + 3 ≤ j) : RlL bt L rl' i j := by
  unfold RlL at R ⊢
  split at R
  · rename_i c
    have := h7 c
    rw [if_pos c, h _ (by omega), h _ (by omega), h _ (by omega), h _ (by omega), h _ (by omega), h _ (by omega), h _ (by omega)]
    exact R
  · rename_i c
    rw [if_neg c, h _ (by omega), h _ (by omega)]
    exact ⟨R.1, R.2.1, fun u h1 h2 => (h u h2).trans (R.2.2 u h1 h2)⟩
def Zro (K : Nat) (rl : Nat → Int32) (i : Nat) : Prop := ∀ u, i ≤ u → u ≤ K → rl u = 0
theorem lnS_j (h : lnS T i = some (true, j, l)) : j = i + 7 := by
  unfold lnS at h
  repeat' (split at h)
  all_goals first | (obtain ⟨-, rfl, -⟩ := okP_inv2 h; rfl) | cases h
/-- the shape of an order's line -/
theorem lnO_s (h : lnO T fu i = some (true, j, l)) : T (i + 1) = 44 ∧ ((T (i + 1 + 1) = 14 ∧ ∃ j0, j = j0 + 1 ∧ T j0 = 33 ∧ pg T fu 0 (i + 1 + 1 + 1) 0 = some (true, j0, l)) ∨ (T (i + 1 + 1) = 33 ∧ j = i + 1 + 1 + 1 ∧ l = [])) := by
  unfold lnO at h
  split at h
  · rename_i h1
    refine ⟨h1, ?_⟩
    split at h
    · rename_i h2
      rcases seqP_inv h with ⟨c1, h3, h4, h5⟩ | ⟨j1, c1, h3, h⟩
      · cases h4
      · split at h
        · rename_i h4
          obtain ⟨-, rfl, rfl⟩ := okP_inv2 h
          exact Or.inl ⟨h2, j1, rfl, h4, h3⟩
        · cases h
    · split at h
      · rename_i h3
        obtain ⟨-, rfl, rfl⟩ := okP_inv2 h
        exact Or.inr ⟨h3, rfl, rfl⟩
      · cases h
  · cases h
theorem nyL_rl {B : RBk} (hT : TE (tsg bt L) K) (hi : B.i < K) (hp : lnP (tsg bt L) fu B.i = some (true, j, l)) (Z : Zro K B.rl B.i) : Zro K (nyL bt L pr B j l).rl j ∧ RlL bt L (nyL bt L pr B j l).rl B.i j ∧ (∀ u, u < B.i → (nyL bt L pr B j l).rl u = B.rl u) ∧ B.i + 3 ≤ j ∧ (tsg bt L B.i = 2 → B.i + 7 ≤ j) := by
  unfold lnP at hp
  unfold nyL RlL
  by_cases h2 : tsg bt L B.i = 2
  · rw [if_pos h2] at hp
    rw [if_pos h2, if_pos h2]
    have hjK := (lnS_b hT hi hp).1
    obtain rfl := lnS_j hp
    have e : ∀ u, (nyS B (B.i + 7)).rl u = if u = B.i + 1 + 1 + 1 + 1 + 1 then 7 else if u = B.i + 1 then 1 else B.rl u := fun u => rfl
    refine ⟨fun u hu h9 => ?_, ?_, fun u hu => ?_, by omega, fun _ => by omega⟩
    · rw [e, if_neg (by omega), if_neg (by omega)]; exact Z u (by omega) (by omega)
    · rw [e, e, e, e, e, e, e]
      refine ⟨?_, ?_, ?_, ?_, ?_, ?_, ?_⟩
      · rw [if_neg (by omega), if_neg (by omega)]; exact Z _ (by omega) (by omega)
      · rw [if_neg (by omega), if_pos rfl]
      · rw [if_neg (by omega), if_neg (by omega)]; exact Z _ (by omega) (by omega)
      · rw [if_neg (by omega), if_neg (by omega)]; exact Z _ (by omega) (by omega)
      · rw [if_neg (by omega), if_neg (by omega)]; exact Z _ (by omega) (by omega)
      · rw [if_pos rfl]
      · rw [if_neg (by omega), if_neg (by omega)]; exact Z _ (by omega) (by omega)
    · rw [e, if_neg (by omega), if_neg (by omega)]
  · rw [if_neg h2] at hp
    rw [if_neg h2, if_neg h2]
    split at hp
    · have hb := lnO_b hT hi hp
      have hj := hb.2.1 rfl
      have hjK := hb.1
      have e : ∀ u, (nyO bt L pr B j l).rl u = if B.i + 1 + 1 + 1 ≤ u ∧ u < j - 1 ∧ tsg bt L u = 44 then 4 else if u = B.i + 1 then 3 else if u = B.i then 2 else B.rl u := fun u => rfl
      obtain ⟨s1, s2⟩ := lnO_s hp
      refine ⟨fun u hu h9 => ?_, ⟨?_, ?_, fun u h3 h4 => ?_⟩, fun u hu => ?_, by omega, fun z => absurd z h2⟩
      · rw [e, if_neg (by omega), if_neg (by omega), if_neg (by omega)]; exact Z u (by omega) (by omega)
      · rw [e, if_neg (by omega), if_neg (by omega), if_pos rfl]
      · rw [e, if_neg (by omega), if_pos rfl]
      · rw [e]
        by_cases c : tsg bt L u = 44
        · have c1 : ¬ u = B.i + 1 + 1 := fun z => by rcases s2 with ⟨s, _⟩ | ⟨s, _⟩ <;> (rw [z] at c; omega)
          have c2 : ¬ u = j - 1 := fun z => by
            rcases s2 with ⟨s, j0, s3, s4, s5⟩ | ⟨s, s3, s4⟩
            · rw [z, s3, Nat.add_sub_cancel] at c; omega
            · omega
          rw [if_pos ⟨by omega, by omega, c⟩, if_pos c]
        · rw [if_neg (fun z => c z.2.2), if_neg c, if_neg (by omega), if_neg (by omega)]; exact Z u (by omega) (by omega)
      · rw [e, if_neg (by omega), if_neg (by omega), if_neg (by omega)]
    · cases hp
/-- the roles of earlier lines stay -/
theorem linQ_rl {K : Nat} (hT : TE (tsg bt L) K) : ∀ m (B B' : RBk), B.i ≤ K → Zro K B.rl B.i → linQ bt L pr fu m B = (true, B') → (∀ u, u < B.i → B'.rl u = B.rl u) ∧ Zro K B'.rl B'.i ∧ B.i ≤ B'.i ∧ B'.i ≤ K
  | 0, B, B', hi, Z, h => by cases h
  | m + 1, B, B', hi, Z, h => by
    unfold linQ at h
    by_cases c : tsg bt L B.i = 46
    · rw [if_pos c] at h
      cases h
      exact ⟨fun _ _ => rfl, Z, Nat.le_refl _, hi⟩
    · rw [if_neg c] at h
      cases hp : lnP (tsg bt L) fu B.i with
      | none => rw [hp] at h; cases h
      | some x =>
        obtain ⟨b, j, l⟩ := x
        rw [hp] at h
        cases b
        · cases h
        · have hiK : B.i < K := by
            by_cases e : B.i = K
            · exfalso
              have h47 : tsg bt L B.i = 47 := by rw [e] at c ⊢; exact hT.resolve_left c
              unfold lnP at hp
              rw [h47] at hp
              cases hp
            · omega
          obtain ⟨a1, a2, a3, a4, a5⟩ := nyL_rl (pr := pr) hT hiK hp Z
          have e2 : (nyL bt L pr B j l).i = j := by
            unfold nyL
            split <;> rfl
          have hjK : j ≤ K := by
            unfold lnP at hp
            split at hp
            · exact (lnS_b hT hiK hp).1
            · split at hp
              · exact (lnO_b hT hiK hp).1
              · cases hp
          obtain ⟨b1, b2, b3, b4⟩ := linQ_rl hT m (nyL bt L pr B j l) B' (by rw [e2]; exact hjK) (by rw [e2]; exact a1) h
          exact ⟨fun u hu => (b1 u (by omega)).trans (a3 u hu), b2, by omega, b4⟩
end PAR
