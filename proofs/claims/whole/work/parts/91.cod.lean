/-! THE CODE ON BOTH SIDES, out of one list of steps. -/
def cvl (ls : List (Nat × Nat)) (i : Nat) : Nat := (ls.getD i (0, 0)).1
def czl (bt : Nat → Int32) (L : Nat) (mn : Nat → Int32) (ls : List (Nat × Nat)) (i : Nat) : Int32 := resm bt L mn (ls.getD i (0, 0)).1 (ls.getD i (0, 0)).2
section COD
variable {d L K pr i j k n v t p : Nat} {bt : Nat → Int32} {f : SM} {x y z : Int32} {q q0 : C4} {c0 : C3} {mn : Nat → Int32} {l m ls : List (Nat × Nat)} {s s' : List Bool}
theorem rsm1_ge (q : C4) (v t : Nat) : q.1 + 1 ≤ (rsm1 bt L mn q v t).1 ∧ (∀ j, j < q.1 → (rsm1 bt L mn q v t).2.2.1 j = q.2.2.1 j) ∧ (rsm1 bt L mn q v t).1 = (rst1 bt L q v t).1 ∧ (rsm1 bt L mn q v t).1 = q.1 + tyk v := by
  unfold rsm1 rst1 tyk
  split
  · rename_i e
    refine ⟨Nat.le_succ _, fun j h => ?_, rfl, by rw [e]; rfl⟩
    show upj (upj q.2.2.1 q.1 _) (q.1 + 1) _ j = _
    rw [upj_o (by omega), upj_o (by omega)]
  · rename_i e
    split
    · rename_i e2
      refine ⟨Nat.le_succ _, fun j h => ?_, rfl, ?_⟩
      · show upj (upj q.2.2.1 q.1 _) (q.1 + 1) _ j = _
        rw [upj_o (by omega), upj_o (by omega)]
      · rw [if_pos (by simp only [List.mem_cons, List.not_mem_nil, or_false]; omega)]
        rfl
    · rename_i e2
      refine ⟨Nat.le_refl _, fun j h => ?_, rfl, ?_⟩
      · show upj q.2.2.1 q.1 _ j = _
        rw [upj_o (by omega)]
      · rw [if_neg (by simp only [List.mem_cons, List.not_mem_nil, or_false]; omega)]
        rfl
theorem rsm_k : ∀ (l : List (Nat × Nat)) (q : C4), q.1 ≤ (rsm bt L mn q l).1 ∧ (∀ j, j < q.1 → (rsm bt L mn q l).2.2.1 j = q.2.2.1 j)
  | [], _ => ⟨Nat.le_refl _, fun _ _ => rfl⟩
  | a :: l, q => by
    obtain ⟨g1, g2, -, -⟩ := rsm1_ge (bt := bt) (L := L) (mn := mn) q a.1 a.2
    obtain ⟨r1, r3⟩ := rsm_k l (rsm1 bt L mn q a.1 a.2)
    exact ⟨Nat.le_trans (by omega) r1, fun j h => (r3 j (by omega)).trans (g2 j h)⟩
theorem rst1_1 {q q' : C4} (e : q.1 = q'.1) (v t : Nat) : (rst1 bt L q v t).1 = (rst1 bt L q' v t).1 := by
  rw [← (rsm1_ge (mn := fun _ => 0) q v t).2.2.1, ← (rsm1_ge (mn := fun _ => 0) q' v t).2.2.1, (rsm1_ge (mn := fun _ => 0) q v t).2.2.2, (rsm1_ge (mn := fun _ => 0) q' v t).2.2.2, e]
theorem rsm_len : ∀ (l : List (Nat × Nat)) (q q' : C4), q.1 = q'.1 → (rsm bt L mn q l).1 = (rst bt L q' l).1
  | [], _, _, e => e
  | a :: l, q, q', e => rsm_len l _ _ (((rsm1_ge (bt := bt) (L := L) (mn := mn) q a.1 a.2).2.2.1).trans (rst1_1 e a.1 a.2))
theorem take_s (h : i < ls.length) : ls.take (i + 1) = ls.take i ++ [ls.getD i (0, 0)] := by
  rw [List.take_succ, List.getD_eq_getElem?_getD, List.getElem?_eq_getElem h]
  rfl
theorem getD_mem (h : i < ls.length) : ls.getD i (0, 0) ∈ ls := by
  rw [List.getD_eq_getElem?_getD, List.getElem?_eq_getElem h]
  exact List.getElem_mem h
/-- the reference's code -/
theorem RCd_rsm (hf : ∀ j, j < (rsm bt L mn q0 ls).1 → f (p + 7) j = (rsm bt L mn q0 ls).2.2.1 j) (hn : ∀ a, a ∈ ls → nmd a.1 → ∃ s, s < n ∧ mn a.2 = nI s) (h45 : ∀ a, a ∈ ls → a.1 = 45 → tsg bt L a.2 = 45) : ∀ m i, i + m ≤ ls.length → RCd p n f (cvl ls) (czl bt L mn ls) m i (rsm bt L mn q0 (ls.take i)).1 (rsm bt L mn q0 (ls.take (i + m))).1
  | 0, i, h => rfl
  | m + 1, i, h => by
    have hi : i < ls.length := by omega
    have ha := getD_mem hi
    have e1 : rsm bt L mn q0 (ls.take (i + 1)) = rsm1 bt L mn (rsm bt L mn q0 (ls.take i)) (ls.getD i (0, 0)).1 (ls.getD i (0, 0)).2 := by
      rw [take_s hi, rsm_app]
      rfl
    have e2 : rsm bt L mn q0 ls = rsm bt L mn (rsm bt L mn q0 (ls.take (i + 1))) (ls.drop (i + 1)) := by rw [← rsm_app, List.take_append_drop]
    have e3 : rsm bt L mn q0 (ls.take (i + (m + 1))) = rsm bt L mn (rsm bt L mn q0 (ls.take (i + 1))) ((ls.drop (i + 1)).take m) := by
      rw [← rsm_app]
      congr 1
      rw [show i + (m + 1) = i + 1 + m by omega, List.take_add]
    obtain ⟨k1, k2⟩ := rsm_k (bt := bt) (L := L) (mn := mn) (ls.drop (i + 1)) (rsm bt L mn q0 (ls.take (i + 1)))
    rw [← e2] at k1 k2
    have k3 := (rsm_k (bt := bt) (L := L) (mn := mn) ((ls.drop (i + 1)).take m) (rsm bt L mn q0 (ls.take (i + 1)))).1
    rw [← e3] at k3
    have ih := RCd_rsm hf hn h45 m (i + 1) (by omega)
    rw [show i + 1 + m = i + (m + 1) by omega] at ih
    obtain ⟨g1, g2, -, g4⟩ := rsm1_ge (bt := bt) (L := L) (mn := mn) (rsm bt L mn q0 (ls.take i)) (ls.getD i (0, 0)).1 (ls.getD i (0, 0)).2
    have rd : ∀ j, j < (rsm bt L mn q0 (ls.take (i + 1))).1 → f (p + 7) j = (rsm bt L mn q0 (ls.take (i + 1))).2.2.1 j := fun j hj => (hf j (by omega)).trans (k2 j hj)
    rw [e1] at rd k3
    generalize hX : rsm bt L mn q0 (ls.take i) = X at g1 g2 g4 rd k3 e1 ⊢
    have ih : RCd p n f (cvl ls) (czl bt L mn ls) m (i + 1) (X.1 + tyk (cvl ls i)) (rsm bt L mn q0 (ls.take (i + (m + 1)))).1 := by
      have : (rsm bt L mn q0 (ls.take (i + 1))).1 = X.1 + tyk (cvl ls i) := by rw [e1]; exact g4
      rw [← this]
      exact ih
    have hnn : cvl ls i ∈ [18, 19, 21, 22, 23] → nmd (ls.getD i (0, 0)).1 := fun c => by
      have c : (ls.getD i (0, 0)).1 ∈ [18, 19, 21, 22, 23] := c
      simp only [List.mem_cons, List.not_mem_nil, or_false] at c
      exact c
    refine ⟨by omega, ?_, fun c => ⟨?_, ?_⟩, fun c => ?_, ih⟩
    · rw [rd X.1 (by omega)]
      show (rsm1 bt L mn X (ls.getD i (0, 0)).1 (ls.getD i (0, 0)).2).2.2.1 X.1 = kop (ls.getD i (0, 0)).1
      unfold rsm1
      split
      · rename_i e
        show upj (upj X.2.2.1 X.1 32) (X.1 + 1) _ X.1 = _
        rw [upj_o (by omega), upj_s, e]
        rfl
      · split
        · show upj (upj X.2.2.1 X.1 _) (X.1 + 1) _ X.1 = _
          rw [upj_o (by omega), upj_s]
        · exact upj_s
    · have c : tyk (ls.getD i (0, 0)).1 = 2 := c
      omega
    · have c : tyk (ls.getD i (0, 0)).1 = 2 := c
      rw [rd (X.1 + 1) (by omega)]
      show (rsm1 bt L mn X (ls.getD i (0, 0)).1 (ls.getD i (0, 0)).2).2.2.1 (X.1 + 1) = resm bt L mn (ls.getD i (0, 0)).1 (ls.getD i (0, 0)).2
      unfold rsm1 resm
      split
      · rename_i e
        show upj (upj X.2.2.1 X.1 32) (X.1 + 1) _ (X.1 + 1) = _
        rw [upj_s, num_tw (h45 _ ha e)]
      · rename_i e
        split
        · show upj (upj X.2.2.1 X.1 _) (X.1 + 1) _ (X.1 + 1) = _
          rw [upj_s]
        · rename_i e2
          exfalso
          unfold tyk at c
          rw [if_neg (by simp only [List.mem_cons, List.not_mem_nil, or_false]; omega)] at c
          omega
    · obtain ⟨s, s1, s2⟩ := hn _ ha (hnn c)
      refine ⟨s, s1, ?_⟩
      have c := hnn c
      show resm bt L mn (ls.getD i (0, 0)).1 (ls.getD i (0, 0)).2 = nI s
      unfold resm
      unfold nmd at c
      rw [if_neg (by omega), if_pos c, s2]
/-- the class's code -/
theorem cstm_o : ∀ (l : List (Nat × Nat)) (q : C3) (i : Nat), i < q.1 → (cstm bt L mn q l).2.1 i = q.2.1 i ∧ (cstm bt L mn q l).2.2 i = q.2.2 i
  | [], _, _, _ => ⟨rfl, rfl⟩
  | a :: l, q, i, h => by
    obtain ⟨a1, a2⟩ := cstm_o l (cst1 q a.1 (resm bt L mn a.1 a.2)) i (by show i < q.1 + 1; omega)
    refine ⟨a1.trans ?_, a2.trans ?_⟩
    · show upo q.2.1 q.1 _ i = _
      exact if_neg (by omega)
    · show upj q.2.2 q.1 _ i = _
      exact if_neg (by omega)
theorem cstm_at : ∀ (l : List (Nat × Nat)) (q : C3) (i : Nat), i < l.length → (cstm bt L mn q l).2.1 (q.1 + i) = some (cvl l i) ∧ (cstm bt L mn q l).2.2 (q.1 + i) = czl bt L mn l i
  | [], _, _, h => absurd h (Nat.not_lt_zero _)
  | a :: l, q, 0, h => by
    obtain ⟨a1, a2⟩ := cstm_o (bt := bt) (L := L) (mn := mn) l (cst1 q a.1 (resm bt L mn a.1 a.2)) q.1 (Nat.lt_succ_self _)
    exact ⟨a1.trans (if_pos rfl), a2.trans (if_pos rfl)⟩
  | a :: l, q, i + 1, h => by
    have := cstm_at l (cst1 q a.1 (resm bt L mn a.1 a.2)) i (by have : i + 1 < l.length + 1 := h; omega)
    have e : (cst1 q a.1 (resm bt L mn a.1 a.2)).1 + i = q.1 + (i + 1) := by show q.1 + 1 + i = _; omega
    rw [e] at this
    exact this
/-- types -/
theorem tya_tyl : ∀ m i s, i + m ≤ ls.length → tya (cvl ls) m i s = tyl ((ls.drop i).take m) s
  | 0, i, s, h => rfl
  | m + 1, i, s, h => by
    have hi : i < ls.length := by omega
    have e : (ls.drop i).take (m + 1) = ls.getD i (0, 0) :: (ls.drop (i + 1)).take m := by
      rw [List.drop_eq_getElem_cons hi, List.take_succ_cons, List.getD_eq_getElem?_getD, List.getElem?_eq_getElem hi]
      rfl
    rw [e]
    show (tyr (cvl ls i) s).bind (tya (cvl ls) m (i + 1)) = (tyr (cvl ls i) s).bind (tyl ((ls.drop (i + 1)).take m))
    congr 1
    funext s1
    exact tya_tyl m (i + 1) s1 (by omega)
theorem tyr_arn (h : tyr v s = some s') : m_arn v ≤ s.length ∧ s'.length = s.length - m_arn v + 1 := by
  have hv := ty_all h
  unfold opsA at hv
  simp only [List.mem_cons, List.not_mem_nil, or_false] at hv
  have two : ∀ {a b c : Bool} {r r' : List Bool}, m_arn v = 2 → some (c :: r) = some s' → s = a :: b :: r → m_arn v ≤ s.length ∧ s'.length = s.length - m_arn v + 1 := fun {a b c r r'} h1 h2 h3 => by
    cases h2
    subst h3
    rw [h1]
    exact ⟨by show 2 ≤ r.length + 1 + 1; omega, by show r.length + 1 = r.length + 1 + 1 - 2 + 1; omega⟩
  rcases hv with e | e | e | e | e | e | e | e | e | e | e | e | e | e | e | e | e | e | e | e | e | e | e | e | e
  all_goals subst e
  all_goals first
    | (cases h; exact ⟨Nat.zero_le _, rfl⟩)
    | (match s, h with
       | [], h => cases h
       | a :: r, h =>
         cases a <;> first
           | (cases h; done)
           | (cases h; exact ⟨by show 1 ≤ r.length + 1; omega, by show r.length + 1 = r.length + 1 - 1 + 1; omega⟩))
    | (match s, h with
       | [], h => cases h
       | [a], h => cases a <;> cases h
       | a :: b :: r, h =>
         cases a <;> cases b <;> first
           | (cases h; done)
           | (cases h; exact ⟨by show 2 ≤ r.length + 1 + 1; omega, by show r.length + 1 = r.length + 1 + 1 - 2 + 1; omega⟩))
theorem wf_ty {cv : Nat → Nat} : ∀ m i (s : List Bool), s.length + m ≤ 400 → tya cv m i s = some [true] → m_wf cv m i s.length
  | 0, _, _, _, _ => trivial
  | m + 1, i, s, h, e => by
    unfold tya at e
    cases hs : tyr (cv i) s with
    | none => rw [hs] at e; cases e
    | some s1 =>
      rw [hs] at e
      have e : tya cv m (i + 1) s1 = some [true] := e
      obtain ⟨a1, a2⟩ := tyr_arn hs
      have hl : s1.length < 400 := by
        by_cases c : m = 0
        · subst c
          have e : some s1 = some [true] := e
          cases e
          decide
        · omega
      refine ⟨ty_all hs, a1, by omega, ?_⟩
      have := wf_ty m (i + 1) s1 (by omega) e
      rw [a2] at this
      exact this
end COD
