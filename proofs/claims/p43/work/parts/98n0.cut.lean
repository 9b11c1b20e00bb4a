/-! A TEXT IS CUT INTO TOKENS PIECE BY PIECE. -/
section CUT
variable {bt b1 b2 : Nat → Int32} {a L L1 q p e r m i j : Nat} {P : Int32 → Bool} {s : Int64} {la lb l : List Int32} {ta tc ts : List (Nat × Int64)}
theorem tbt_l (hi : i < la.length) : tbt (la ++ lb) i = tbt la i := by
  unfold tbt
  rw [if_pos hi, if_pos (by rw [List.length_append]; omega)]
  simp [List.getD_eq_getElem?_getD, List.getElem?_append_left hi]
theorem tbt_r : tbt (la ++ lb) (la.length + i) = tbt lb i := by
  unfold tbt
  rw [List.length_append]
  by_cases c : i < lb.length
  · rw [if_pos c, if_pos (by omega)]
    simp [List.getD_eq_getElem?_getD, List.getElem?_append_right]
  · rw [if_neg c, if_neg (by omega)]
theorem tbt_e (hi : l.length ≤ i) : tbt l i = -1 := if_neg (by omega)
/-! what stands behind a places -/
theorem re_sh (e : ∀ i, bt (a + i) = b2 i) : ∀ m p, re P bt m (a + p) = a + re P b2 m p
  | 0, _ => rfl
  | m + 1, p => by
    unfold re
    rw [e p, show a + p + 1 = a + (p + 1) by omega, re_sh e m (p + 1)]
    split <;> rfl
theorem spl_sh (e : ∀ i, bt (a + i) = b2 i) : ∀ m p s, spl bt m (a + p) s = spl b2 m p s
  | 0, _, _ => rfl
  | m + 1, p, s => by
    unfold spl
    rw [e p, show a + p + 1 = a + (p + 1) by omega, spl_sh e m (p + 1)]
theorem nmb_sh (e : ∀ i, bt (a + i) = b2 i) : ∀ m p s, nmb bt m (a + p) s = nmb b2 m p s
  | 0, _, _ => rfl
  | m + 1, p, s => by
    unfold nmb
    rw [e p, show a + p + 1 = a + (p + 1) by omega, nmb_sh e m (p + 1)]
theorem stn_sh {t : Nat} (e : ∀ i, bt (a + i) = b2 i) : ∀ m i, stn bt t (a + q) m i = stn b2 t q m i
  | 0, _ => rfl
  | m + 1, i => by
    unfold stn
    rw [show a + q + i = a + (q + i) by omega, e, stn_sh e m (i + 1)]
theorem kwd_sh (h : ∀ i, bt (a + i) = b2 i) : kwd bt (a + q) (a + e) = kwd b2 q e := by
  unfold kwd
  rw [fnd_congr (p := kwB bt (a + q) (a + e)) (q := kwB b2 q e) (fun v _ _ => by
    unfold kwB stands
    rw [show a + e - (a + q) = e - q by omega, stn_sh h])]
theorem sbst_sh (h : ∀ i, bt (a + i) = b2 i) : ∀ m i b, sbst bt (a + q) m i b = sbst b2 q m i b
  | 0, _, _ => rfl
  | m + 1, i, b => by
    unfold sbst stands
    rw [stn_sh h, sbst_sh h m (i + 1) i, sbst_sh h m (i + 1) b]
theorem tkA_sh (h : ∀ i, bt (a + i) = b2 i) : tkA bt (a + L) (a + q) = ((tkA b2 L q).1, a + (tkA b2 L q).2.1, (tkA b2 L q).2.2) := by
  unfold tkA
  rw [h q, show a + L - (a + q) = L - q by omega, re_sh h, re_sh h, spl_sh h, nmb_sh h, kwd_sh h, sbst_sh h]
  by_cases c1 : L ≤ q
  · rw [if_pos c1, if_pos (by omega)]
  · rw [if_neg c1, if_neg (by omega), show a + re isLD b2 (L - q) q - (a + q) = re isLD b2 (L - q) q - q by omega, show a + re isD b2 (L - q) q - (a + q) = re isD b2 (L - q) q - q by omega]
    split
    · split <;> rfl
    · split
      · split <;> rfl
      · show (_, a + q + _, none) = (_, a + (q + _), none)
        rw [Nat.add_assoc]
theorem sk_sh (h : ∀ i, bt (a + i) = b2 i) : sk bt (a + L) (a + p) = a + sk b2 L p := by
  unfold sk
  rw [show a + L - (a + p) = L - p by omega, re_sh h]
/-! what stands ahead of the place L1 -/
theorem re_pf (h : ∀ i, i < L1 → bt i = b1 i) : ∀ m q, q + m = L1 → (P (bt L1) = false ∨ re P b1 m q < L1) → re P bt (m + r) q = re P b1 m q
  | 0, q, e, c => by
    rcases c with c | c
    · cases r with
      | zero => rfl
      | succ r =>
        have : q = L1 := by omega
        subst this
        rw [Nat.zero_add]
        exact if_neg (by rw [c]; decide)
    · have : re P b1 0 q = q := rfl
      omega
  | m + 1, q, e, c => by
    rw [show m + 1 + r = (m + r) + 1 by omega]
    unfold re at c ⊢
    rw [h q (by omega)]
    split
    · rename_i z
      rw [if_pos z] at c
      exact re_pf h m (q + 1) (by omega) c
    · rfl
theorem spl_pf (h : ∀ i, i < L1 → bt i = b1 i) : ∀ m q s, q + m = L1 → (isLD (bt L1) = false ∨ re isLD b1 m q < L1) → spl bt (m + r) q s = spl b1 m q s
  | 0, q, s, e, c => by
    rcases c with c | c
    · cases r with
      | zero => rfl
      | succ r =>
        have : q = L1 := by omega
        subst this
        rw [Nat.zero_add]
        exact if_neg (by rw [c]; decide)
    · have : re isLD b1 0 q = q := rfl
      omega
  | m + 1, q, s, e, c => by
    rw [show m + 1 + r = (m + r) + 1 by omega]
    unfold re at c
    unfold spl
    rw [h q (by omega)]
    split
    · rename_i z
      rw [if_pos z] at c
      exact spl_pf h m (q + 1) _ (by omega) c
    · rfl
theorem nmb_pf (h : ∀ i, i < L1 → bt i = b1 i) : ∀ m q s, q + m = L1 → (isD (bt L1) = false ∨ re isD b1 m q < L1) → nmb bt (m + r) q s = nmb b1 m q s
  | 0, q, s, e, c => by
    rcases c with c | c
    · cases r with
      | zero => rfl
      | succ r =>
        have : q = L1 := by omega
        subst this
        rw [Nat.zero_add]
        exact if_neg (by rw [c]; decide)
    · have : re isD b1 0 q = q := rfl
      omega
  | m + 1, q, s, e, c => by
    rw [show m + 1 + r = (m + r) + 1 by omega]
    unfold re at c
    unfold nmb
    rw [h q (by omega)]
    split
    · rename_i z
      rw [if_pos z] at c
      exact nmb_pf h m (q + 1) _ (by omega) c
    · rfl
/-- the scan ends ahead of a last byte of another kind -/
theorem re_lt : ∀ m q, q + m = L1 → 0 < m → P (b1 (L1 - 1)) = false → re P b1 m q < L1
  | 0, q, e, h, _ => absurd h (by decide)
  | m + 1, q, e, h, c => by
    unfold re
    split
    · rename_i z
      by_cases m0 : m = 0
      · subst m0
        rw [show q = L1 - 1 by omega, c] at z
        cases z
      · exact re_lt m (q + 1) (by omega) (by omega) c
    · omega
theorem re_all (h : ∀ i, i < L1 → bt i = b1 i) : ∀ m q, q + m = L1 → re P b1 m q = L1 → re P bt (m + r) q = re P bt r L1
  | 0, q, e, c => by rw [Nat.zero_add, show q = L1 by omega]
  | m + 1, q, e, c => by
    rw [show m + 1 + r = (m + r) + 1 by omega]
    unfold re at c
    by_cases z : P (b1 q) = true
    · rw [if_pos z] at c
      rw [show re P bt (m + r + 1) q = re P bt (m + r) (q + 1) from if_pos (by rw [h q (by omega)]; exact z)]
      exact re_all h m (q + 1) (by omega) c
    · rw [if_neg z] at c
      omega
theorem stn_pf {t : Nat} (h : ∀ i, i < L1 → bt i = b1 i) : ∀ m i, q + i + m ≤ L1 → stn bt t q m i = stn b1 t q m i
  | 0, _, _ => rfl
  | m + 1, i, c => by
    unfold stn
    rw [h (q + i) (by omega), stn_pf h m (i + 1) (by omega)]
theorem kwd_pf (h : ∀ i, i < L1 → bt i = b1 i) (he : e ≤ L1) (hq : q ≤ e) : kwd bt q e = kwd b1 q e := by
  unfold kwd
  rw [fnd_congr (p := kwB bt q e) (q := kwB b1 q e) (fun v _ _ => by
    unfold kwB stands
    by_cases c : tlen (tv v) = e - q
    · rw [stn_pf h _ _ (by omega)]
    · rw [decide_eq_false c]; rfl)]
/-- the last byte of a piece and the first byte behind it belong to two tokens -/
def cutB (x c : Int32) : Bool := (!isLD x || !isLD c) && ((!decide (x = 60) && !decide (x = 62)) || !decide (c = 61))
theorem isD_LD {x : Int32} (h : isLD x = false) : isD x = false := by
  unfold isLD at h
  simp only [Bool.or_eq_false_iff] at h
  exact h.2
theorem sy1_o {x : Int32} {z y : Bool} (h1 : ¬ x = 60) (h2 : ¬ x = 62) : sy1 x z = sy1 x y := by
  unfold sy1
  rw [if_neg (show ¬ (x = 60 ∧ z = true) from fun q => h1 q.1), if_neg (show ¬ (x = 62 ∧ z = true) from fun q => h2 q.1), if_neg (show ¬ (x = 60 ∧ y = true) from fun q => h1 q.1), if_neg (show ¬ (x = 62 ∧ y = true) from fun q => h2 q.1)]
theorem tkA_pf (h : ∀ i, i < L1 → bt i = b1 i) (h1 : b1 L1 = -1) (hL : L = L1 + r) (hq : q < L1) (hc : cutB (b1 (L1 - 1)) (bt L1) = true) : tkA bt L q = tkA b1 L1 q := by
  subst hL
  unfold cutB at hc
  simp only [Bool.and_eq_true, Bool.or_eq_true, Bool.not_eq_true', decide_eq_false_iff_not] at hc
  obtain ⟨c1, c2⟩ := hc
  have m0 : 0 < L1 - q := by omega
  have A : isLD (bt L1) = false ∨ re isLD b1 (L1 - q) q < L1 := c1.elim (fun c => Or.inr (re_lt _ _ (by omega) m0 c)) Or.inl
  have B : isD (bt L1) = false ∨ re isD b1 (L1 - q) q < L1 := c1.elim (fun c => Or.inr (re_lt _ _ (by omega) m0 (isD_LD c))) (fun c => Or.inl (isD_LD c))
  have eL : re isLD bt (L1 + r - q) q = re isLD b1 (L1 - q) q := by rw [show L1 + r - q = L1 - q + r by omega]; exact re_pf h _ _ (by omega) A
  have eD : re isD bt (L1 + r - q) q = re isD b1 (L1 - q) q := by rw [show L1 + r - q = L1 - q + r by omega]; exact re_pf h _ _ (by omega) B
  have eS : spl bt (L1 + r - q) q 0 = spl b1 (L1 - q) q 0 := by rw [show L1 + r - q = L1 - q + r by omega]; exact spl_pf h _ _ _ (by omega) A
  have eN : nmb bt (L1 + r - q) q 0 = nmb b1 (L1 - q) q 0 := by rw [show L1 + r - q = L1 - q + r by omega]; exact nmb_pf h _ _ _ (by omega) B
  have le := re_le (P := isLD) (bt := b1) (L1 - q) q
  have eK : kwd bt q (re isLD b1 (L1 - q) q) = kwd b1 q (re isLD b1 (L1 - q) q) := kwd_pf h (by omega) le.1
  unfold tkA
  rw [if_neg (show ¬ L1 + r ≤ q by omega), if_neg (show ¬ L1 ≤ q by omega), h q hq, eL, eD, eS, eN, eK]
  by_cases z : isL (b1 q) = true
  · rw [if_pos z, if_pos z]
  · rw [if_neg z, if_neg z]
    by_cases z2 : isD (b1 q) = true
    · rw [if_pos z2, if_pos z2]
    · rw [if_neg z2, if_neg z2]
      have z := Bool.eq_false_iff.mpr z
      have es : sbst bt q 49 0 47 = sbst b1 q 49 0 47 := by
        rw [sym_eq (by rw [h q hq]; exact z), sym_eq z, h q hq]
        by_cases y : q + 1 < L1
        · rw [h _ y]
        · have y : q + 1 = L1 := by omega
          rw [y, h1]
          rcases c2 with c2 | c2
          · rw [show L1 - 1 = q by omega] at c2
            exact sy1_o c2.1 c2.2
          · rw [decide_eq_false c2]; rfl
      rw [es]
/-- the text l is cut into the tokens ts -/
def Sc (l : List Int32) (ts : List (Nat × Int64)) : Prop := (∀ j, j < ts.length → tq (tbt l) l.length j < l.length ∧ (tkA (tbt l) l.length (tq (tbt l) l.length j)).1 = (ts.getD j (0, 0)).1 ∧ (44 ≤ (ts.getD j (0, 0)).1 → (tkA (tbt l) l.length (tq (tbt l) l.length j)).2.2.getD 0 = (ts.getD j (0, 0)).2)) ∧ tq (tbt l) l.length ts.length = l.length
theorem sk_0 (h : ∀ i, i < L1 → bt i = b1 i) (hL : L = L1 + r) (hp : p ≤ L1) (hs : sk b1 L1 p < L1) : sk bt L p = sk b1 L1 p := by
  subst hL
  unfold sk at hs ⊢
  rw [show L1 + r - p = L1 - p + r by omega]
  exact re_pf h _ _ (by omega) (Or.inr hs)
theorem Sc.app (A : Sc la ta) (B : Sc lb tc) (h0 : 0 < la.length) (hc : cutB (la.getD (la.length - 1) 0) (tbt lb 0) = true) : Sc (la ++ lb) (ta ++ tc) := by
  have hb : (la ++ lb).length = la.length + lb.length := List.length_append
  have h : ∀ i, i < la.length → tbt (la ++ lb) i = tbt la i := fun i hi => tbt_l hi
  have h2 : ∀ i, tbt (la ++ lb) (la.length + i) = tbt lb i := fun i => tbt_r
  have hc' : cutB (tbt la (la.length - 1)) (tbt (la ++ lb) la.length) = true := by
    rw [show tbt la (la.length - 1) = la.getD (la.length - 1) 0 from if_pos (by omega), show tbt (la ++ lb) la.length = tbt lb 0 from h2 0]
    exact hc
  have ho : ∀ i, la.length ≤ i → tbt la i = -1 := fun i hi => tbt_e hi
  have pf : ∀ q, q < la.length → tkA (tbt (la ++ lb)) (la ++ lb).length q = tkA (tbt la) la.length q := fun q hq => tkA_pf h (ho _ (Nat.le_refl _)) hb hq hc'
  have S1 : ∀ j, j ≤ ta.length → stA (tbt (la ++ lb)) (la ++ lb).length j = stA (tbt la) la.length j := by
    intro j
    induction j with
    | zero => intro _; rfl
    | succ j ih =>
      intro hj
      have t1 := (A.1 j (by omega)).1
      have e := ih (by omega)
      show (tkA (tbt (la ++ lb)) (la ++ lb).length (sk _ _ (stA _ _ j))).2.1 = (tkA (tbt la) la.length (sk _ _ (stA _ _ j))).2.1
      have pf1 := pf _ t1
      unfold tq at pf1 t1
      rw [e, sk_0 h hb (stA_le ho j) t1, pf1]
  have T1 : ∀ j, j < ta.length → tq (tbt (la ++ lb)) (la ++ lb).length j = tq (tbt la) la.length j := by
    intro j hj
    unfold tq
    rw [S1 j (by omega)]
    exact sk_0 h hb (stA_le ho j) (A.1 j hj).1
  have T2 : ∀ j, tq (tbt (la ++ lb)) (la ++ lb).length (ta.length + j) = la.length + tq (tbt lb) lb.length j := by
    intro j
    induction j with
    | zero =>
      have z : stA (tbt (la ++ lb)) (la ++ lb).length ta.length = stA (tbt la) la.length ta.length := S1 _ (Nat.le_refl _)
      have y := A.2
      have le := stA_le ho ta.length
      unfold tq at y ⊢
      rw [Nat.add_zero, z]
      unfold sk at y ⊢
      rw [hb, show la.length + lb.length - stA (tbt la) la.length ta.length = la.length - stA (tbt la) la.length ta.length + lb.length by omega, re_all h _ _ (by omega) y]
      exact re_sh h2 lb.length 0
    | succ j ih =>
      show sk _ _ ((tkA _ _ (tq _ _ (ta.length + j))).2.1) = la.length + sk _ _ ((tkA _ _ (tq _ _ j)).2.1)
      rw [ih, hb, tkA_sh h2, sk_sh h2]
  refine ⟨fun j hj => ?_, ?_⟩
  · rw [List.length_append] at hj
    by_cases c : j < ta.length
    · obtain ⟨a1, a2, a3⟩ := A.1 j c
      rw [T1 j c, pf _ a1, show (ta ++ tc).getD j (0, 0) = ta.getD j (0, 0) from by simp [List.getD_eq_getElem?_getD, List.getElem?_append_left c]]
      exact ⟨by omega, a2, a3⟩
    · obtain ⟨q, rfl⟩ : ∃ q, j = ta.length + q := ⟨j - ta.length, by omega⟩
      obtain ⟨a1, a2, a3⟩ := B.1 q (by omega)
      rw [T2 q, hb, tkA_sh h2, show (ta ++ tc).getD (ta.length + q) (0, 0) = tc.getD q (0, 0) from by simp [List.getD_eq_getElem?_getD, List.getElem?_append_right]]
      exact ⟨by omega, a2, a3⟩
  · rw [show (ta ++ tc).length = ta.length + tc.length from List.length_append, T2, B.2, hb]
/-- the tokens of a text: what the reader sees -/
theorem Sc.tok (S : Sc l ts) (hK : ts.length ≤ 400) : (∀ j, j < ts.length → tsg (tbt l) l.length j = (ts.getD j (0, 0)).1 ∧ (44 ≤ (ts.getD j (0, 0)).1 → tw (tbt l) l.length j = (ts.getD j (0, 0)).2)) ∧ tsg (tbt l) l.length ts.length = 46 := by
  refine ⟨fun j hj => ?_, ?_⟩
  · obtain ⟨a1, a2, a3⟩ := S.1 j hj
    unfold tsg tw
    rw [if_pos (by omega), if_pos (by omega)]
    exact ⟨a2, a3⟩
  · unfold tsg
    rw [S.2]
    split
    · unfold tkA
      rw [if_pos (Nat.le_refl _)]
    · rw [if_pos (Nat.le_refl _)]
/-- a check by reckoning -/
def scG (bt : Nat → Int32) (L : Nat) : List (Nat × Int64) → Nat → Bool
  | [], p => decide (sk bt L p = L)
  | t :: ts, p => decide (sk bt L p < L) && decide ((tkA bt L (sk bt L p)).1 = t.1) && (decide (t.1 < 44) || decide ((tkA bt L (sk bt L p)).2.2.getD 0 = t.2)) && scG bt L ts (tkA bt L (sk bt L p)).2.1
theorem scG_of : ∀ ts k, scG bt L ts (stA bt L k) = true → (∀ j, j < ts.length → tq bt L (k + j) < L ∧ (tkA bt L (tq bt L (k + j))).1 = (ts.getD j (0, 0)).1 ∧ (44 ≤ (ts.getD j (0, 0)).1 → (tkA bt L (tq bt L (k + j))).2.2.getD 0 = (ts.getD j (0, 0)).2)) ∧ tq bt L (k + ts.length) = L
  | [], k, h => ⟨fun j hj => absurd hj (Nat.not_lt_zero _), of_decide_eq_true h⟩
  | t :: ts, k, h => by
    unfold scG at h
    simp only [Bool.and_eq_true, Bool.or_eq_true, decide_eq_true_eq] at h
    obtain ⟨⟨⟨h1, h2⟩, h3⟩, h4⟩ := h
    obtain ⟨r1, r2⟩ := scG_of ts (k + 1) h4
    refine ⟨fun j hj => ?_, ?_⟩
    · cases j with
      | zero => exact ⟨h1, h2, fun z => h3.resolve_left (Nat.not_lt.mpr z)⟩
      | succ j =>
        have := r1 j (by rw [List.length_cons] at hj; omega)
        rw [show k + 1 + j = k + (j + 1) by omega] at this
        exact this
    · rw [List.length_cons, show k + (ts.length + 1) = k + 1 + ts.length by omega]
      exact r2
theorem Sc.of (h : scG (tbt l) l.length ts 0 = true) : Sc l ts := by
  have := scG_of ts 0 h
  simp only [Nat.zero_add] at this
  exact this
end CUT
