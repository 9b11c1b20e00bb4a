/-! THE CLASS READS THE WHOLE TEXT. -/
section LAL
variable {bt : Nat → Int32} {L bk n no H co i j k m q fu w ns g M : Nat} {kf df od ok ov ow : Nat → Nat} {oz : Nat → Int32} {nm : Nat → Int64} {B : CBk} {x y z : Int32} {s : Int32 × Int32} {p : C3} {F : SM} {G ts : List (Nat × Int64)} {l : List (Nat × Nat)}
theorem linR_1 (h : ¬ tsg bt L B.i = 46) (hp : lnP (tsg bt L) fu B.i = some (true, j, l)) : linR bt L bk fu (m + 1) B = linR bt L bk fu m (nxL bt L bk B j l) := by
  show (if tsg bt L B.i = 46 then (true, B) else match lnP (tsg bt L) fu B.i with
    | some (true, j, l) => linR bt L bk fu m (nxL bt L bk B j l)
    | some (false, j, _) => (false, (j, B.2))
    | none => (false, B)) = _
  rw [if_neg h, hp]
theorem linR_0 (h : tsg bt L B.i = 46) : linR bt L bk fu (m + 1) B = (true, B) := if_pos h
theorem nxL_j : (nxL bt L bk B j l).i = j := by
  unfold nxL
  split <;> rfl
theorem lin_s (T : TkA bt L G) (h : KDok n kf df) (hn : n ≤ 12) : ∀ m i ts (B : CBk), i + m = n → (∃ r, G = sLs kf df m i ts ++ r) → ts.length = B.i → SBs bk H co i kf df B → ∃ B', linR bt L bk fu (M + m) B = linR bt L bk fu M B' ∧ SBs bk H co n kf df B' ∧ B'.i = (sLs kf df m i ts).length
  | 0, i, ts, B, e, _, h1, S => by
    obtain rfl : i = n := e
    exact ⟨B, rfl, S, h1.symm⟩
  | m + 1, i, ts, B, e, ⟨r, hr⟩, h1, S => by
    obtain ⟨r2, e2, -⟩ := sLs_pf (kf := kf) (df := df) m (i + 1) (ts ++ tkS i (kf i) (df i))
    have ln : LnA bt L ts.length (tkS i (kf i) (df i)) := T.ln (r := r2 ++ r) (by
      rw [hr]
      show sLs kf df m (i + 1) (ts ++ tkS i (kf i) (df i)) ++ r = _
      rw [e2]
      simp only [List.append_assoc])
    rw [h1] at ln
    obtain ⟨k1, k2⟩ := h i (by omega)
    have S1 := S.step (by omega) k1 k2 ln
    have g0 : tsg bt L B.i = 2 := (ln 0 (by decide : 0 < 7)).1
    obtain ⟨B', b1, b2, b3⟩ := lin_s T h hn m (i + 1) (ts ++ tkS i (kf i) (df i)) _ (by omega) ⟨r, hr⟩ (by rw [nxL_j, List.length_append, h1]; rfl) S1
    exact ⟨B', by rw [← b1, show M + (m + 1) = M + m + 1 by omega]; exact linR_1 (by rw [g0]; decide) (lnP_s k1 ln), b2, b3⟩
theorem lin_o (T : TkA bt L G) (h : ORok n no od ok ov ow oz) (hno : no ≤ 16) (hf : 40 ≤ fu) : ∀ m q ts (B : CBk), q + m = no → (∃ r, G = oLs od ok ov ow oz m q ts ++ r) → ts.length = B.i → OBs bk n H co q kf df od ok ov ow oz B → ∃ B', linR bt L bk fu (M + m) B = linR bt L bk fu M B' ∧ OBs bk n H co no kf df od ok ov ow oz B' ∧ B'.i = (oLs od ok ov ow oz m q ts).length
  | 0, q, ts, B, e, _, h1, S => by
    obtain rfl : q = no := e
    exact ⟨B, rfl, S, h1.symm⟩
  | m + 1, q, ts, B, e, ⟨r, hr⟩, h1, S => by
    obtain ⟨r2, e2, -⟩ := oLs_pf (od := od) (ok := ok) (ov := ov) (ow := ow) (oz := oz) m (q + 1) (ts ++ tkO (od q) (ok q) (ov q) (ow q) (oz q).toNatClampNeg)
    have ln : LnA bt L ts.length (tkO (od q) (ok q) (ov q) (ow q) (oz q).toNatClampNeg) := T.ln (r := r2 ++ r) (by
      rw [hr]
      show oLs od ok ov ow oz m (q + 1) (ts ++ tkO (od q) (ok q) (ov q) (ow q) (oz q).toNatClampNeg) ++ r = _
      rw [e2]
      simp only [List.append_assoc])
    rw [h1] at ln
    obtain ⟨hos, hz⟩ := h q (by omega)
    have z := oz_n hz
    have S1 := S.step (by omega) hos z.2.1 ln
    have g0 : tsg bt L B.i = 9 + od q := (ln 0 (by unfold tkO; rw [List.length_cons]; omega)).1
    obtain ⟨B', b1, b2, b3⟩ := lin_o T h hno hf m (q + 1) (ts ++ tkO (od q) (ok q) (ov q) (ow q) (oz q).toNatClampNeg) _ (by omega) ⟨r, hr⟩ (by rw [nxL_j, List.length_append, h1]) S1
    exact ⟨B', by rw [← b1, show M + (m + 1) = M + m + 1 by omega]; exact linR_1 (by rw [g0]; omega) (lnP_o hos.1 hos.2.2.1 hf ln), b2, b3⟩
theorem hHn : ∀ u, 1 ≤ u ∧ u ≤ 6 → ¬ (nI u < 1 ∨ 6 < nI u) := by
  intro u hu
  have z : ∀ u, u < 7 → 1 ≤ u → ¬ (nI u < 1 ∨ 6 < nI u) := by decide
  exact z u (by omega) hu.1
theorem cHn : ∀ u, u < 100 → ¬ (nI u < 0 ∨ 99 < nI u) := by decide
theorem beg_0 (T : LnA bt L 0 (tkH H co)) : begP (tsg bt L) 0 0 = some (true, 3, []) ∧ begP (tsg bt L) 1 3 = some (true, 6, []) := by
  have h0 : tsg bt L 0 = 0 := by have := (T 0 (by decide : 0 < 6)).1; rwa [Nat.zero_add] at this
  have h1 : tsg bt L (0 + 1) = 45 := (T 1 (by decide : 1 < 6)).1
  have h2 : tsg bt L (0 + 1 + 1) = 33 := by have := (T 2 (by decide : 2 < 6)).1; rwa [show 0 + 2 = 0 + 1 + 1 from rfl] at this
  have h3 : tsg bt L 3 = 1 := by have := (T 3 (by decide : 3 < 6)).1; rwa [Nat.zero_add] at this
  have h4 : tsg bt L (3 + 1) = 45 := by have := (T 4 (by decide : 4 < 6)).1; rwa [Nat.zero_add] at this
  have h5 : tsg bt L (3 + 1 + 1) = 33 := by have := (T 5 (by decide : 5 < 6)).1; rwa [Nat.zero_add] at this
  unfold begP
  rw [if_pos h0, if_pos h1, if_pos h2, if_pos h3, if_pos h4, if_pos h5]
  exact ⟨rfl, rfl⟩
theorem sbs_0 {J : Nat → Nat → Int64} {R : Nat → Nat → Option Nat} (T : LnA bt L 0 (tkH H co)) (hH : 1 ≤ H ∧ H ≤ 6) (hc : co < 100) : SBs bk H co 0 kf df (bB0 bt L bk nm F J R 3 6) := by
  have h0 : tsg bt L 0 = 0 := by have := (T 0 (by decide : 0 < 6)).1; rwa [Nat.zero_add] at this
  have w1 : tw bt L (0 + 1) = nW H := (T 1 (by decide : 1 < 6)).2 (Nat.le_succ 44)
  have h3 : tsg bt L 3 = 1 := by have := (T 3 (by decide : 3 < 6)).1; rwa [Nat.zero_add] at this
  have w4 : tw bt L (3 + 1) = nW co := by have := (T 4 (by decide : 4 < 6)).2 (Nat.le_succ 44); rwa [Nat.zero_add] at this
  have e1 : (tw bt L (0 + 1)).toInt32 = nI H := by rw [w1]; exact nW_i H (by omega)
  have e4 : (tw bt L (3 + 1)).toInt32 = nI co := by rw [w4]; exact nW_i co hc
  refine ⟨⟨?_, rfl, rfl, rfl⟩, ⟨Nat.zero_le _, fun j hj => absurd hj (Nat.not_lt_zero _)⟩, fun j hj => absurd hj (Nat.not_lt_zero _), ?_, ?_⟩
  · show bgE bt L 1 3 0 99 (bgE bt L 0 0 1 6 (0, -1)) = _
    have a : bgE bt L 0 0 1 6 (0, -1) = (0, -1) := by
      unfold bgE erN
      rw [if_pos h0, e1, if_neg (hHn H hH)]
    rw [a]
    unfold bgE erN
    rw [if_pos h3, e4, if_neg (cHn co hc)]
  · show bgF bt L bk 1 3 (bgF bt L bk 0 0 F) bk 0 = _
    unfold bgF
    rw [if_pos h3, if_pos h0, u2_nj (by decide), u2_eq]
    exact e1
  · show bgF bt L bk 1 3 (bgF bt L bk 0 0 F) bk 1 = _
    unfold bgF
    rw [if_pos h3, if_pos h0, u2_eq]
    exact e4
/-- the class reads the whole text without an error -/
theorem lin_all {K : Nat} {J : Nat → Nat → Int64} {R : Nat → Nat → Option Nat} (T : TkA bt L (txK n no H co kf df od ok ov ow oz)) (hK : K = (txK n no H co kf df od ok ov ow oz).length) (h1 : KDok n kf df) (h2 : ORok n no od ok ov ow oz) (hn : n ≤ 12) (hno : no ≤ 16) (hH : 1 ≤ H ∧ H ≤ 6) (hc : co < 100) : (begP (tsg bt L) 0 0 = some (true, 3, []) ∧ begP (tsg bt L) 1 3 = some (true, 6, [])) ∧ ∃ B', linR bt L bk (9 * K + 10) 401 (bB0 bt L bk nm F J R 3 6) = (true, B') ∧ OBs bk n H co no kf df od ok ov ow oz B' := by
  obtain ⟨r, e, hr⟩ := oLs_pf (od := od) (ok := ok) (ov := ov) (ow := ow) (oz := oz) no 0 (sLs kf df n 0 (tkH H co))
  obtain ⟨r2, e2, hr2⟩ := sLs_pf (kf := kf) (df := df) n 0 (tkH H co)
  have eG : txK n no H co kf df od ok ov ow oz = [] ++ (tkH H co ++ (r2 ++ r)) := by
    unfold txK
    rw [e, e2, List.nil_append, List.append_assoc]
  have T0 : LnA bt L 0 (tkH H co) := T.ln (a := []) eG
  have hf : 40 ≤ 9 * K + 10 := by
    rw [hK, eG, List.nil_append, List.length_append]
    have : (tkH H co).length = 6 := rfl
    omega
  refine ⟨beg_0 T0, ?_⟩
  obtain ⟨B1, b1, b2, b3⟩ := lin_s (fu := 9 * K + 10) (M := 401 - n) T h1 hn n 0 (tkH H co) (bB0 bt L bk nm F J R 3 6) (Nat.zero_add _) ⟨r, by unfold txK; exact e⟩ rfl (sbs_0 (F := F) T0 hH hc)
  obtain ⟨B2, d1, d2, d3⟩ := lin_o (fu := 9 * K + 10) (M := 401 - n - no) T h2 hno hf no 0 (sLs kf df n 0 (tkH H co)) B1 (Nat.zero_add _) ⟨[], by rw [List.append_nil]; rfl⟩ b3.symm b2.obs
  refine ⟨B2, ?_, d2⟩
  rw [show 401 - n + n = 401 by omega] at b1
  rw [show 401 - n - no + no = 401 - n by omega] at d1
  rw [b1, d1]
  obtain ⟨f, ef⟩ : ∃ f, 401 - n - no = f + 1 := ⟨401 - n - no - 1, by omega⟩
  rw [ef]
  exact linR_0 (by rw [d3]; exact T.2)
end LAL
