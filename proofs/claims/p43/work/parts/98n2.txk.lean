/-! THE WHOLE TEXT'S TOKENS. -/
section TXK
variable {bt : Nat → Int32} {L n no H co i m q : Nat} {kf df od ok ov ow : Nat → Nat} {oz : Nat → Int32} {l : List Int32} {ts F a b r line : List (Nat × Int64)} {f : Bool × Bool}
def sLs (kf df : Nat → Nat) : Nat → Nat → List (Nat × Int64) → List (Nat × Int64)
  | 0, _, ts => ts
  | m + 1, i, ts => sLs kf df m (i + 1) (ts ++ tkS i (kf i) (df i))
def oLs (od ok ov ow : Nat → Nat) (oz : Nat → Int32) : Nat → Nat → List (Nat × Int64) → List (Nat × Int64)
  | 0, _, ts => ts
  | m + 1, q, ts => oLs od ok ov ow oz m (q + 1) (ts ++ tkO (od q) (ok q) (ov q) (ow q) (oz q).toNatClampNeg)
def txK (n no H co : Nat) (kf df od ok ov ow : Nat → Nat) (oz : Nat → Int32) : List (Nat × Int64) := oLs od ok ov ow oz no 0 (sLs kf df n 0 (tkH H co))
/-- what strays' lines tell, what orders' lines tell, is in bounds -/
def KDok (n : Nat) (kf df : Nat → Nat) : Prop := ∀ i, i < n → kf i < 4 ∧ df i ≤ 30
def ORok (n no : Nat) (od ok ov ow : Nat → Nat) (oz : Nat → Int32) : Prop := ∀ q, q < no → (od q < 5 ∧ ok q < n ∧ ov q < 9 ∧ ow q < n) ∧ ∃ z, 1 ≤ z ∧ z ≤ 6 ∧ oz q = nI z
theorem sLs_sc (h : KDok n kf df) (hn : n ≤ 12) : ∀ m i l ts, i + m = n → ScP l ts f FF → ScP (stsT kf df m i l) (sLs kf df m i ts) f FF
  | 0, _, _, _, _, S => S
  | m + 1, i, l, ts, e, S => sLs_sc h hn m (i + 1) _ _ (by omega) (tkS_sc S (by omega) (h i (by omega)).1 (h i (by omega)).2)
theorem oz_n {x : Int32} (h : ∃ z, 1 ≤ z ∧ z ≤ 6 ∧ x = nI z) : 1 ≤ x.toNatClampNeg ∧ x.toNatClampNeg ≤ 6 ∧ x = nI x.toNatClampNeg := by
  obtain ⟨z, h1, h2, rfl⟩ := h
  rw [nI_clamp (by omega)]
  exact ⟨h1, h2, rfl⟩
theorem oLs_sc (h : ORok n no od ok ov ow oz) (hn : n ≤ 12) : ∀ m q l ts, q + m = no → ScP l ts f FF → ScP (orsT od ok ov ow oz m q l) (oLs od ok ov ow oz m q ts) f FF
  | 0, _, _, _, _, S => S
  | m + 1, q, l, ts, e, S => by
    obtain ⟨⟨a1, a2, a3, a4⟩, a5⟩ := h q (by omega)
    have z := oz_n a5
    exact oLs_sc h hn m (q + 1) _ _ (by omega) (tkO_sc S a1 (by omega) a3 (by omega) (by omega))
theorem txK_sc (h1 : KDok n kf df) (h2 : ORok n no od ok ov ow oz) (hn : n ≤ 12) (hH : H < 100) (hc : co < 100) : ScP (txT n no H co kf df od ok ov ow oz) (txK n no H co kf df od ok ov ow oz) TF FF := oLs_sc h2 hn no 0 _ _ (Nat.zero_add _) (sLs_sc h1 hn n 0 _ _ (Nat.zero_add _) (tkH_sc hH hc))
theorem sLs_pf : ∀ m i ts, ∃ r, sLs kf df m i ts = ts ++ r ∧ r.length = 7 * m
  | 0, _, ts => ⟨[], (List.append_nil _).symm, rfl⟩
  | m + 1, i, ts => by
    obtain ⟨r, e, h⟩ := sLs_pf m (i + 1) (ts ++ tkS i (kf i) (df i))
    refine ⟨tkS i (kf i) (df i) ++ r, by rw [← List.append_assoc]; exact e, ?_⟩
    rw [List.length_append, h]
    show 7 + 7 * m = _
    omega
theorem tT_len {v w z : Nat} : (tkT v w z).length ≤ 13 := by
  unfold tkT
  split <;> simp
theorem oLs_pf : ∀ m q ts, ∃ r, oLs od ok ov ow oz m q ts = ts ++ r ∧ r.length ≤ 16 * m
  | 0, _, ts => ⟨[], (List.append_nil _).symm, Nat.le_refl _⟩
  | m + 1, q, ts => by
    obtain ⟨r, e, h⟩ := oLs_pf m (q + 1) (ts ++ tkO (od q) (ok q) (ov q) (ow q) (oz q).toNatClampNeg)
    refine ⟨tkO (od q) (ok q) (ov q) (ow q) (oz q).toNatClampNeg ++ r, by rw [← List.append_assoc]; exact e, ?_⟩
    have t := tT_len (v := ov q) (w := ow q) (z := (oz q).toNatClampNeg)
    unfold tkO
    rw [List.length_append, List.length_cons, List.length_cons, List.length_append, List.length_cons]
    simp only [List.length_nil]
    omega
theorem txK_len (hn : n ≤ 12) (hno : no ≤ 16) : (txK n no H co kf df od ok ov ow oz).length ≤ 346 := by
  obtain ⟨r, e, h⟩ := oLs_pf (od := od) (ok := ok) (ov := ov) (ow := ow) (oz := oz) no 0 (sLs kf df n 0 (tkH H co))
  obtain ⟨r2, e2, h2⟩ := sLs_pf (kf := kf) (df := df) n 0 (tkH H co)
  unfold txK
  rw [e, e2, List.length_append, List.length_append, h2]
  show 6 + 7 * n + r.length ≤ 346
  omega
/-- the tokens from i on are those of a line -/
def LnA (bt : Nat → Int32) (L i : Nat) (line : List (Nat × Int64)) : Prop := ∀ j, j < line.length → tsg bt L (i + j) = (line.getD j (0, 0)).1 ∧ (44 ≤ (line.getD j (0, 0)).1 → tw bt L (i + j) = (line.getD j (0, 0)).2)
/-- all tokens of a tape -/
def TkA (bt : Nat → Int32) (L : Nat) (F : List (Nat × Int64)) : Prop := (∀ j, j < F.length → tsg bt L j = (F.getD j (0, 0)).1 ∧ (44 ≤ (F.getD j (0, 0)).1 → tw bt L j = (F.getD j (0, 0)).2)) ∧ tsg bt L F.length = 46
theorem TkA.ln (T : TkA bt L F) (e : F = a ++ (b ++ r)) : LnA bt L a.length b := fun j hj => by
  have := T.1 (a.length + j) (by rw [e, List.length_append, List.length_append]; omega)
  rw [e] at this
  rw [show (a ++ (b ++ r)).getD (a.length + j) (0, 0) = b.getD j (0, 0) from by simp [List.getD_eq_getElem?_getD, List.getElem?_append_right, List.getElem?_append_left hj]] at this
  exact this
theorem Sc.tka (S : Sc l ts) (hK : ts.length ≤ 400) : TkA (tbt l) l.length ts := S.tok hK
/-- no token of these is the end, or none at all -/
def gdT (ts : List (Nat × Int64)) : Prop := ∀ t ∈ ts, t.1 < 46
theorem gd_t {v w z : Nat} : gdT (tkT v w z) := by
  unfold tkT gdT
  split <;> simp
theorem gd_o {o k v w z : Nat} (ho : o < 5) : gdT (tkO o k v w z) := by
  intro t ht
  unfold tkO at ht
  simp only [List.mem_cons, List.mem_append, List.not_mem_nil, or_false] at ht
  rcases ht with rfl | rfl | ht | rfl
  · show 9 + o < 46; omega
  · simp
  · exact gd_t t ht
  · simp
theorem gd_s {k e : Nat} (hk : k < 4) : gdT (tkS i k e) := by
  intro t ht
  unfold tkS at ht
  simp only [List.mem_cons, List.not_mem_nil, or_false] at ht
  rcases ht with rfl | rfl | rfl | rfl | rfl | rfl | rfl
  · simp
  · simp
  · simp
  · show 4 + k < 46; omega
  · simp
  · simp
  · simp
theorem gdT.app (h1 : gdT a) (h2 : gdT b) : gdT (a ++ b) := fun t ht => (List.mem_append.mp ht).elim (h1 t) (h2 t)
theorem sLs_gd (h : KDok n kf df) : ∀ m i ts, i + m = n → gdT ts → gdT (sLs kf df m i ts)
  | 0, _, _, _, g => g
  | m + 1, i, ts, e, g => sLs_gd h m (i + 1) _ (by omega) (g.app (gd_s (h i (by omega)).1))
theorem oLs_gd (h : ORok n no od ok ov ow oz) : ∀ m q ts, q + m = no → gdT ts → gdT (oLs od ok ov ow oz m q ts)
  | 0, _, _, _, g => g
  | m + 1, q, ts, e, g => oLs_gd h m (q + 1) _ (by omega) (g.app (gd_o (h q (by omega)).1.1))
theorem txK_gd (h1 : KDok n kf df) (h2 : ORok n no od ok ov ow oz) : gdT (txK n no H co kf df od ok ov ow oz) := oLs_gd h2 no 0 _ (Nat.zero_add _) (sLs_gd h1 n 0 _ (Nat.zero_add _) (by
  intro t ht
  unfold tkH at ht
  simp only [List.mem_cons, List.not_mem_nil, or_false] at ht
  rcases ht with rfl | rfl | rfl | rfl | rfl | rfl <;> simp))
theorem TkA.tend (T : TkA bt L F) (g : gdT F) (hF : F.length ≤ 400) : tEnd bt L F.length := ⟨hF, fun j hj => by
  have e := (T.1 j hj).1
  have m : F.getD j (0, 0) ∈ F := by
    rw [List.getD_eq_getElem?_getD, List.getElem?_eq_getElem hj]
    exact List.getElem_mem _
  have := g _ m
  omega, Or.inl T.2⟩
end TXK
