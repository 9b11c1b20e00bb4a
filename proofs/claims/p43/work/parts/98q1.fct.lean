/-! WHAT THE LAW'S CHECKS REST ON. -/
section FCT
variable {n H t no k i j q c g K : Nat} {M M' M1 : SM} {x w y : Int32} {od ok ov ow : Nat → Nat} {oz : Nat → Int32}
theorem stays (P : PM n H t M) (hos : ∀ k, k < no → od k < 5 ∧ ok k < n) (ht : t < 2 ^ 30) (hi : i < n) (x : Nat) (w : M (i + 2) 2 = 2 ∨ M (i + 2) 2 = 3) : sday n H no od ok ov ow oz M x (i + 2) 2 = M (i + 2) 2 := by
  rcases sday_w (ov := ov) (ow := ow) (oz := oz) P hos hi x with ⟨a, _⟩ | ⟨_, b⟩
  · exfalso
    obtain ⟨dd, d1, d2, d3⟩ := P.1.2.1 i hi
    rw [d2, P.1.1.2.2, nI_1] at a
    have := nI_eqn (by omega) (by omega) a
    have := (d3 (by omega)).1
    rw [this] at w
    exact w.elim (fun z => absurd z (by decide)) (fun z => absurd z (by decide))
  · rcases b with b | ⟨b, _⟩
    · exact b
    · rw [b] at w
      exact w.elim (fun z => absurd z (by decide)) (fun z => absurd z (by decide))
theorem pun_no (hos : ∀ k, k < no → od k < 5 ∧ ok k < n) (hk : k < n) (hy : (y = 2 ∨ y = 3) ∧ ¬ y = w) : ∀ m d t M, t + m < 2 ^ 20 → PM n H t M → M (k + 2) 2 = y → pun n H no od ok ov ow oz k w m d M = -1
  | 0, d, t, M, _, _, e => if_neg (by rw [e]; exact hy.2)
  | m + 1, d, t, M, ht, P, e => by
    unfold pun
    rw [if_neg (by rw [e]; exact hy.2)]
    exact pun_no hos hk hy m (d + 1) (t + 1) _ (by omega) (P.day hos (by omega) 0) ((stays P hos (by omega) hk 0 (by rw [e]; exact hy.1)).trans e)
/-- who is gone at some time never is adopted, and the other way round -/
theorem pun_two (hos : ∀ k, k < no → od k < 5 ∧ ok k < n) (hk : k < n) : ∀ m d t M, t + m < 2 ^ 20 → PM n H t M → pun n H no od ok ov ow oz k 3 m d M = -1 ∨ pun n H no od ok ov ow oz k 2 m d M = -1
  | 0, d, t, M, _, _ => by
    unfold pun
    by_cases c : M (k + 2) 2 = 3
    · exact Or.inr (if_neg (by rw [c]; decide))
    · exact Or.inl (if_neg c)
  | m + 1, d, t, M, ht, P => by
    by_cases c : M (k + 2) 2 = 3
    · exact Or.inr (pun_no hos hk ⟨Or.inr rfl, by decide⟩ (m + 1) d t M ht P c)
    · by_cases c2 : M (k + 2) 2 = 2
      · exact Or.inl (pun_no hos hk ⟨Or.inl rfl, by decide⟩ (m + 1) d t M ht P c2)
      · unfold pun
        rw [if_neg c, if_neg c2]
        exact pun_two hos hk m (d + 1) (t + 1) _ (by omega) (P.day hos (by omega) 0)
theorem bsD_max : ∀ m i k, i ≤ k → k < i + m → M (k + 2) 2 = 1 → ∃ j, bsD M m i = some j ∧ M (k + 2) 3 ≤ M (j + 2) 3
  | 0, i, k, h1, h2, _ => by omega
  | m + 1, i, k, h1, h2, hk => by
    unfold bsD
    by_cases e : i = k
    · subst e
      rw [if_pos hk]
      cases eb : bsD M m (i + 1) with
      | none => exact ⟨i, rfl, Int32.le_refl _⟩
      | some j =>
        dsimp only
        by_cases c : M (j + 2) 3 ≤ M (i + 2) 3
        · rw [if_pos c]; exact ⟨i, rfl, Int32.le_refl _⟩
        · rw [if_neg c]; exact ⟨j, rfl, Int32.le_of_lt (Int32.not_le.mp c)⟩
    · obtain ⟨j, ej, lj⟩ := bsD_max m (i + 1) k (by omega) (by omega) hk
      rw [ej]
      split
      · dsimp only
        split
        · rename_i c
          exact ⟨i, rfl, Int32.le_trans lj c⟩
        · exact ⟨j, rfl, lj⟩
      · exact ⟨j, rfl, lj⟩
theorem bsD_in (P : PM n H t M) (hk : k < n) (h : M (k + 2) 2 = 1) : ∃ j, j < n ∧ M (j + 2) 2 = 1 ∧ bsD M 12 0 = some j ∧ M (k + 2) 3 ≤ M (j + 2) 3 := by
  have n12 := P.1.1.1
  obtain ⟨j, e, l⟩ := bsD_max (M := M) 12 0 k (Nat.zero_le _) (by omega) h
  have hj := bsD_h _ _ _ e
  have j12 := bsD_lt _ _ _ e
  refine ⟨j, ?_, hj, e, l⟩
  rcases Nat.lt_or_ge j n with a | a
  · exact a
  · have := (P.1.o0 a (by omega)).2.1
    rw [hj] at this
    exact absurd this (by decide)
theorem ready_f (h : m_ready M k = true) : M (k + 2) 2 = 1 ∧ ¬ 2 < M (k + 2) 4 ∧ ¬ 5 < M (k + 2) 3 ∧ (M (k + 2) 0 = 2 → ¬ M (k + 2) 5 = -1) ∧ (M (k + 2) 0 = 3 → (m_mate M k).isSome = true) := by
  unfold m_ready at h
  rw [Bool.and_eq_true] at h
  obtain ⟨h1, h2⟩ := h
  unfold fitB at h1
  simp only [Bool.and_eq_true, Bool.not_eq_true', decide_eq_true_eq, decide_eq_false_iff_not] at h1
  refine ⟨h1.1.1, h1.1.2, h1.2, fun e => ?_, fun e => ?_⟩
  · rw [if_pos e] at h2
    simpa using h2
  · rw [if_neg (by rw [e]; decide), if_pos e] at h2
    cases em : m_mate M k with
    | none => rw [em] at h2; cases h2
    | some m => rfl
theorem cnt_not (p : Nat → Bool) : ∀ m, cntB (fun i => !p i) m + cntB p m = m
  | 0 => rfl
  | m + 1 => by
    have := cnt_not p m
    unfold cntB
    cases c : p m
    · simp [c]; omega
    · simp [c]; omega
/-- in houses are just those who have one -/
theorem in_sum (I : MI n H t M) : sumN (fun w => m_in M (nI w)) H = cntB (fun i => !decide (M (i + 2) 5 = -1)) n := by
  have hH := I.1.2.1
  have a := houses_sum (H := H) (M := M) (by omega) n (fun i hi => I.hom (by have := I.1.1; omega))
  have b := cnt_not (fun i => decide (M (i + 2) 5 = -1)) n
  have e : sumN (fun w => m_in M (nI w)) H = sumN (fun w => cntB (fun o => decide (M (o + 2) 5 = nI w)) n) H := sumN_congr (fun w hw => in_n I (nI_nm1 (by omega)))
  rw [e]
  omega
theorem room_e (I : MI n H t M) (hm : M 0 1 = nI H) : m_free M = 2 * nI H - nI (sumN (fun w => m_in M (nI w)) H) := by
  have hH := I.1.2.1
  have a := houses_sum (H := H) (M := M) (by omega) 12 (fun i hi => I.hom hi)
  have e : m_in M (-1) = cntB (fun o => decide (M (o + 2) 5 = -1)) 12 := rfl
  have e2 : sumN (fun w => m_in M (nI w)) H = sumN (fun w => cntB (fun o => decide (M (o + 2) 5 = nI w)) 12) H := rfl
  unfold m_free
  rw [hm, e, e2, show (12 : Int32) = nI 12 from rfl, nI_sub (by omega), Int32.mul_comm]
  congr 2
  omega
theorem fnd_any {p : Nat → Bool} (h1 : i ≤ j) (h2 : j < i + n) (h : p j = true) : (fnd p n i).isSome = true := by
  cases e : fnd p n i with
  | none =>
    have := fnd_none e j h1 h2
    rw [h] at this
    cases this
  | some m => rfl
theorem mate_cg (h : ∀ a, M' (a + 2) 0 = M (a + 2) 0 ∧ M' (a + 2) 5 = M (a + 2) 5) : m_mate M' k = m_mate M k := by
  unfold m_mate
  rw [(h k).1, (h k).2, fnd_congr (p := m_isM M' k) (q := m_isM M k) (fun j _ _ => by unfold m_isM; rw [(h j).1, (h j).2, (h k).2])]
theorem lt56 {x : Int32} (h : 5 < x) : ¬ x < 6 := fun h2 => by
  have a := Int32.lt_iff_toInt_lt.mp h
  have b := Int32.lt_iff_toInt_lt.mp h2
  have e5 : (5 : Int32).toInt = 5 := by decide
  have e6 : (6 : Int32).toInt = 6 := by decide
  omega
/-- a quote that is wild and unpaired behind a day, and came before, lost its partner: gone, with a greater number -/
theorem left_q (P : PM n H t M) (hos : ∀ k, k < no → od k < 5 ∧ ok k < n) (ht : t < 2 ^ 30) (hi : i < n) (x : Nat) (h2 : sday n H no od ok ov ow oz M x (i + 2) 2 = 1) (hd : ¬ M (i + 2) 1 = M 0 3 + 1) (k3 : M (i + 2) 0 = 3) (h4 : 5 < sday n H no od ok ov ow oz M x (i + 2) 4) (hm : m_mate (sday n H no od ok ov ow oz M x) i = none) : (fnd (lfB (sday n H no od ok ov ow oz M x)) (n - (i + 1)) (i + 1)).isSome = true := by
  have P1 := PM.ords (ov := ov) (ow := ow) (oz := oz) hos no 0 M (Nat.zero_add _) P
  have c0 : ∀ a q, q = 0 ∨ q = 1 → itr (sord n H od ok ov ow oz) no 0 M (a + 2) q = M (a + 2) q := fun a q hq => itr_col (fun M j => sord_c hq) ..
  have c3 : itr (sord n H od ok ov ow oz) no 0 M 0 3 = M 0 3 := P1.1.1.2.2.trans P.1.1.2.2.symm
  unfold sday at h2 h4 hm ⊢
  generalize itr (sord n H od ok ov ow oz) no 0 M = M1 at *
  have w2 := (wear_12 P1.1).2
  have r2 := (run_12 w2).2
  have z := r2.mz ht
  obtain ⟨Mw, eMw⟩ : ∃ Mw, itr m_wear n 0 M1 = Mw := ⟨_, rfl⟩
  rw [eMw] at h2 h4 hm w2 r2 z ⊢
  have wc : ∀ a q, (q = 0 ∨ q = 1 ∨ q = 2 ∨ q = 5) → Mw (a + 2) q = M1 (a + 2) q := fun a q hq => by rw [← eMw]; exact itr_col (fun M j => wear_k hq) ..
  have wz : Mw 0 3 = M1 0 3 := by rw [← eMw]; exact itr_z (fun M i q => wear_z) ..
  obtain ⟨Mr, eMr⟩ : ∃ Mr, itr m_run n 0 Mw = Mr := ⟨_, rfl⟩
  have rc : ∀ a q, (¬ q = 2 ∧ ¬ q = 5) → Mr (a + 2) q = Mw (a + 2) q := fun a q hq => by rw [← eMr]; exact itr_col (fun M j => run_k hq) ..
  have rz : Mr 0 3 = Mw 0 3 := by rw [← eMr]; exact itr_z (fun M i q => run_z) ..
  have rl := runs_l (H := H) (t := t) hi n 0 Mw (Nat.zero_add _) w2 (Nat.zero_le _) ((wc i 0 (Or.inl rfl)).trans ((c0 i 0 (Or.inl rfl)).trans k3))
  rw [eMr] at h2 h4 hm r2 z rl ⊢
  have nc : ∀ a q, ¬ q = 2 → itr m_come n 0 (m_next Mr) (a + 2) q = Mr (a + 2) q := fun a q hq => (itr_col (fun M j => come_k hq) ..).trans (u2_ne (by omega))
  have n2 : ∀ a, m_next Mr (a + 2) 2 = Mr (a + 2) 2 := fun a => u2_ne (by omega)
  have n1 : ∀ a, m_next Mr (a + 2) 1 = M (a + 2) 1 := fun a => (u2_ne (by omega)).trans ((rc a 1 (by decide)).trans ((wc a 1 (Or.inr (Or.inl rfl))).trans (c0 a 1 (Or.inr rfl))))
  have n3 : m_next Mr 0 3 = M 0 3 + 1 := by unfold m_next; rw [u2_eq, rz, wz, c3]
  have w1 : ∀ a, a < n → itr m_come n 0 (m_next Mr) (a + 2) 2 = if m_next Mr (a + 2) 1 = m_next Mr 0 3 then 1 else m_next Mr (a + 2) 2 := fun a ha => (come_w ha n 0 (m_next Mr) (Nat.zero_add _)).2 (Nat.zero_le _)
  rw [w1 i hi, if_neg (by rw [n1, n3]; exact hd), n2] at h2
  rw [nc i 4 (by decide), rc i 4 (by decide)] at h4
  rw [mate_cg (M := Mr) (fun a => ⟨nc a 0 (by decide), nc a 5 (by decide)⟩)] at hm
  rcases rl (lt56 h4) h2 with a | ⟨j, j1, j2, j3, j4⟩
  · rw [hm] at a; cases a
  · refine fnd_any (j := j) (by omega) (by omega) ?_
    unfold lfB
    have e2 : itr m_come n 0 (m_next Mr) (j + 2) 2 = 3 := by
      rw [w1 j j2]
      split
      · rename_i cc
        have := z j (Nat.zero_le _) j2 cc
        rw [n2, j3] at this
        exact absurd this (by decide)
      · rw [n2]; exact j3
    have e0 : itr m_come n 0 (m_next Mr) (j + 2) 0 = 3 := (nc j 0 (by decide)).trans ((rc j 0 (by decide)).trans j4)
    rw [e2, e0]
    decide
end FCT
