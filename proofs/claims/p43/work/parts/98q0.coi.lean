/-! COINS AND ORDERS FROM DAY TO DAY; who is where. -/
section COI
variable {n H t no k i j q c g K : Nat} {M M' M1 : SM} {x w : Int32} {od ok ov ow : Nat → Nat} {oz : Nat → Int32}
theorem cnt_u {a b : Nat} {x w : Int32} (hb : ¬ b = 2) : m_cnt (u2 M a b x) n w = m_cnt M n w := cntB_congr (fun i hi => by rw [u2_nj (show ¬ 2 = b by omega)])
theorem cnt_u0 {b : Nat} {x w : Int32} : m_cnt (u2 M 0 b x) n w = m_cnt M n w := cntB_congr (fun i hi => by rw [u2_ne (show ¬ i + 2 = 0 by omega)])
theorem gt0 {c : Nat} (h : 0 < nI c) : 1 ≤ c := by
  rcases Nat.eq_zero_or_pos c with e | e
  · subst e; exact absurd h (by decide)
  · exact e
theorem nI5 (c : Nat) : nI c + 5 = nI (c + 5) := by rw [show (5 : Int32) = nI 5 from rfl, nI_add]
/-- something done to a stray: coins, and who is adopted -/
theorem act_cc {v : Nat} (P : PM n H t M) (hk : k < n) (hv : v < 5) (hc : m_can M (9 + v) k = true) (e : M 0 2 = nI c) : ∃ c' f a, m_act M H (9 + v) k 0 2 = nI c' ∧ m_cnt (m_act M H (9 + v) k) n 2 = m_cnt M n 2 + a ∧ c' + f = c + 5 * a ∧ f ≤ 1 := by
  rcases (by omega : v = 0 ∨ v = 1 ∨ v = 2 ∨ v = 3 ∨ v = 4) with rfl | rfl | rfl | rfl | rfl
  · have hc : (decide (M (k + 2) 2 = 1) && decide (0 < M 0 2)) = true := hc
    simp only [Bool.and_eq_true, decide_eq_true_eq] at hc
    have c1 := hc.2
    rw [e] at c1
    have c1 := gt0 c1
    refine ⟨c - 1, 1, 0, ?_, ?_, by omega, by omega⟩
    · show m_feed M k 0 2 = _
      unfold m_feed
      rw [u2_ne (by omega), u2_eq, e, show (1 : Int32) = nI 1 from rfl, nI_sub c1]
    · show m_cnt (m_feed M k) n 2 = _
      unfold m_feed
      rw [cnt_u (by decide), cnt_u0]; rfl
  · refine ⟨c, 0, 0, ?_, ?_, by omega, by omega⟩
    · show m_train M k 0 2 = _
      unfold m_train m_hungry
      rw [u2_ne (by omega), u2_ne (by omega)]
      exact e
    · show m_cnt (m_train M k) n 2 = _
      unfold m_train m_hungry
      rw [cnt_u (by decide), cnt_u (by decide)]; rfl
  · refine ⟨c, 0, 0, ?_, ?_, by omega, by omega⟩
    · show u2 M (k + 2) 5 _ 0 2 = _
      rw [u2_ne (by omega)]; exact e
    · show m_cnt (u2 M (k + 2) 5 _) n 2 = _
      rw [cnt_u (by decide)]; rfl
  · refine ⟨c, 0, 0, ?_, ?_, by omega, by omega⟩
    · show u2 M (k + 2) 5 _ 0 2 = _
      rw [u2_ne (by omega)]; exact e
    · show m_cnt (u2 M (k + 2) 5 _) n 2 = _
      rw [cnt_u (by decide)]; rfl
  · have hr : m_ready M k = true := hc
    have hh := ready_here hr
    show ∃ c' f a, m_adopt M k 0 2 = nI c' ∧ m_cnt (m_adopt M k) n 2 = m_cnt M n 2 + a ∧ c' + f = c + 5 * a ∧ f ≤ 1
    unfold m_adopt
    cases em : m_mate M k with
    | none =>
      dsimp only
      refine ⟨c + 5, 0, 1, ?_, by rw [pd_cnt, lv_cnt hk hh], by omega, by omega⟩
      unfold m_paid m_leave
      rw [u2_eq, u2_ne (by omega), u2_ne (by omega), e, nI5]
    | some m =>
      dsimp only
      obtain ⟨a1, a2, a3, a4⟩ := mate_ne em
      have hm := mate_lt P.1 em
      have k3 : M (k + 2) 0 = 3 := by
        unfold m_mate at em
        split at em
        · rename_i c; exact c.1
        · cases em
      have hm1 : M (m + 2) 2 = 1 := by
        unfold m_ready at hr
        rw [k3, em] at hr
        simp at hr
        exact fit_here hr.2
      have h2 : m_paid (m_leave M k 2) (m + 2) 2 = 1 := by
        unfold m_paid m_leave
        rw [u2_ne (by omega), u2_ne (by omega), u2_ne (by omega)]
        exact hm1
      refine ⟨c + 5 + 5, 0, 2, ?_, by rw [pd_cnt, lv_cnt hm h2, pd_cnt, lv_cnt hk hh], by omega, by omega⟩
      unfold m_paid m_leave
      rw [u2_eq, u2_ne (by omega), u2_ne (by omega), u2_eq, u2_ne (by omega), u2_ne (by omega), e, nI5, nI5]
theorem ord_cc (P : PM n H t M) (ho : od q < 5 ∧ ok q < n) (e : M 0 2 = nI c) (e2 : M 0 4 = nI g) : ∃ c' f a s, sord n H od ok ov ow oz M q 0 2 = nI c' ∧ sord n H od ok ov ow oz M q 0 4 = nI (g + s) ∧ m_cnt (sord n H od ok ov ow oz M q) n 2 = m_cnt M n 2 + a ∧ c' + f = c + 5 * a ∧ f ≤ s ∧ s ≤ 1 := by
  unfold sord
  split
  · rename_i hc
    obtain ⟨c', f, a, h1, h2, h3, h4⟩ := act_cc P ho.2 ho.1 hc.2 e
    refine ⟨c', f, a, 1, ?_, ?_, ?_, h3, h4, Nat.le_refl _⟩
    · unfold m_done
      rw [u2_nj (by decide)]
      exact h1
    · unfold m_done
      rw [u2_eq, act_0 (by decide), e2, nI_1]
    · unfold m_done
      rw [cnt_u0]
      exact h2
  · exact ⟨c, 0, 0, 0, e, e2, rfl, rfl, Nat.le_refl _, Nat.zero_le _⟩
theorem ords_cc (hos : ∀ k, k < no → od k < 5 ∧ ok k < n) : ∀ m q M c g, q + m = no → PM n H t M → M 0 2 = nI c → M 0 4 = nI g → ∃ c' f a s, itr (sord n H od ok ov ow oz) m q M 0 2 = nI c' ∧ itr (sord n H od ok ov ow oz) m q M 0 4 = nI (g + s) ∧ m_cnt (itr (sord n H od ok ov ow oz) m q M) n 2 = m_cnt M n 2 + a ∧ c' + f = c + 5 * a ∧ f ≤ s ∧ s ≤ m
  | 0, q, M, c, g, _, _, e, e2 => ⟨c, 0, 0, 0, e, e2, rfl, rfl, Nat.le_refl _, Nat.zero_le _⟩
  | m + 1, q, M, c, g, h, P, e, e2 => by
    obtain ⟨c1, f1, a1, s1, h1, h2, h3, h4, h5, h6⟩ := ord_cc (ov := ov) (ow := ow) (oz := oz) P (hos q (by omega)) e e2
    obtain ⟨c2, f2, a2, s2, i1, i2, i3, i4, i5, i6⟩ := ords_cc hos m (q + 1) _ c1 (g + s1) (by omega) (P.ord (ov := ov) (ow := ow) (oz := oz) (hos q (by omega))) h1 h2
    rw [itr_s]
    exact ⟨c2, f1 + f2, a1 + a2, s1 + s2, i1, by rw [i2, Nat.add_assoc], by rw [i3, h3, Nat.add_assoc], by omega, by omega, by omega⟩
theorem run_2 : (m_run M k (i + 2) 2 = 2 ↔ M (i + 2) 2 = 2) := by
  unfold m_run
  split
  · rename_i h
    rw [leave_w]
    split
    · rename_i e
      subst e
      rw [h.1]
      decide
    · exact Iff.rfl
  · exact Iff.rfl
theorem runs_2 : ∀ m k M, (itr m_run m k M (i + 2) 2 = 2 ↔ M (i + 2) 2 = 2)
  | 0, _, _ => Iff.rfl
  | m + 1, k, M => by rw [itr_s]; exact (runs_2 m (k + 1) _).trans run_2
theorem sday_col (x : Nat) : sday n H no od ok ov ow oz M x (i + 2) 1 = M (i + 2) 1 := by
  unfold sday
  rw [itr_col (fun M j => come_k (by decide)), show m_next (itr m_run n 0 (itr m_wear n 0 (itr (sord n H od ok ov ow oz) no 0 M))) (i + 2) 1 = itr m_run n 0 (itr m_wear n 0 (itr (sord n H od ok ov ow oz) no 0 M)) (i + 2) 1 from u2_ne (by omega), itr_col (fun M j => run_k (by decide)), itr_col (fun M j => wear_k (by decide)), itr_col (fun M j => sord_c (Or.inr rfl))]
theorem sday_col0 (x : Nat) : sday n H no od ok ov ow oz M x (i + 2) 0 = M (i + 2) 0 := by
  unfold sday
  rw [itr_col (fun M j => come_k (by decide)), show m_next (itr m_run n 0 (itr m_wear n 0 (itr (sord n H od ok ov ow oz) no 0 M))) (i + 2) 0 = itr m_run n 0 (itr m_wear n 0 (itr (sord n H od ok ov ow oz) no 0 M)) (i + 2) 0 from u2_ne (by omega), itr_col (fun M j => run_k (by decide)), itr_col (fun M j => wear_k (by decide)), itr_col (fun M j => sord_c (Or.inl rfl))]
/-- a day: coins, orders, who is adopted -/
theorem day_cc (P : PM n H t M) (hos : ∀ k, k < no → od k < 5 ∧ ok k < n) (ht : t < 2 ^ 30) (x : Nat) (e : M 0 2 = nI c) (e2 : M 0 4 = nI g) : ∃ c' f a s, sday n H no od ok ov ow oz M x 0 2 = nI c' ∧ sday n H no od ok ov ow oz M x 0 4 = nI (g + s) ∧ m_cnt (sday n H no od ok ov ow oz M x) n 2 = m_cnt M n 2 + a ∧ c' + f = c + 5 * a ∧ f ≤ s ∧ s ≤ no := by
  obtain ⟨c1, f1, a1, s1, h1, h2, h3, h4, h5, h6⟩ := ords_cc (ov := ov) (ow := ow) (oz := oz) hos no 0 M c g (Nat.zero_add _) P e e2
  have P1 := PM.ords (ov := ov) (ow := ow) (oz := oz) hos no 0 M (Nat.zero_add _) P
  unfold sday
  generalize itr (sord n H od ok ov ow oz) no 0 M = M1 at *
  have w2 := (wear_12 P1.1).2
  have r2 := (run_12 w2).2
  have z := r2.mz ht
  have ez : ∀ q, ¬ q = 3 → itr m_come n 0 (m_next (itr m_run n 0 (itr m_wear n 0 M1))) 0 q = M1 0 q := fun q hq => by
    rw [itr_z (fun M i q => come_z)]
    unfold m_next
    rw [u2_nj hq, itr_z (fun M i q => run_z), itr_z (fun M i q => wear_z)]
  refine ⟨c1, f1, a1, s1, (ez 2 (by decide)).trans h1, (ez 4 (by decide)).trans h2, ?_, h4, h5, h6⟩
  rw [← h3]
  unfold m_cnt
  refine cntB_congr (fun i hi => ?_)
  have e1 := (come_w hi n 0 (m_next (itr m_run n 0 (itr m_wear n 0 M1))) (Nat.zero_add _)).2 (Nat.zero_le _)
  rw [e1]
  have e3 : m_next (itr m_run n 0 (itr m_wear n 0 M1)) (i + 2) 2 = itr m_run n 0 (itr m_wear n 0 M1) (i + 2) 2 := u2_ne (by omega)
  have e4 : itr m_wear n 0 M1 (i + 2) 2 = M1 (i + 2) 2 := itr_col (fun M j => wear_k (by decide)) ..
  have r := runs_2 (i := i) n 0 (itr m_wear n 0 M1)
  rw [e4] at r
  split
  · rename_i cc
    have := z i (Nat.zero_le _) hi cc
    rw [e3] at this
    have n2 : ¬ M1 (i + 2) 2 = 2 := fun q => by
      have := r.mpr q
      rw [‹itr m_run n 0 (itr m_wear n 0 M1) (i + 2) 2 = 0›] at this
      exact absurd this (by decide)
    rw [decide_eq_false n2]
    rfl
  · rw [e3]
    exact decide_eq_decide.mpr r
/-- coins are at most K and 5 for each that was adopted; orders at most 16 a day -/
def MB (n K t : Nat) (M : SM) : Prop := ∃ c g, M 0 2 = nI c ∧ M 0 4 = nI g ∧ c ≤ K + 5 * m_cnt M n 2 ∧ g ≤ 16 * t
theorem MB.day (B : MB n K t M) (P : PM n H t M) (hos : ∀ k, k < no → od k < 5 ∧ ok k < n) (no16 : no ≤ 16) (ht : t < 2 ^ 30) (x : Nat) : MB n K (t + 1) (sday n H no od ok ov ow oz M x) := by
  obtain ⟨c, g, e, e2, h1, h2⟩ := B
  obtain ⟨c', f, a, s, i1, i2, i3, i4, i5, i6⟩ := day_cc (ov := ov) (ow := ow) (oz := oz) P hos ht x e e2
  exact ⟨c', g + s, i1, i2, by rw [i3]; omega, by omega⟩
theorem MB.days (hos : ∀ k, k < no → od k < 5 ∧ ok k < n) (no16 : no ≤ 16) : ∀ D x t M, t + D < 2 ^ 30 → PM n H t M → MB n K t M → MB n K (t + D) (itr (sday n H no od ok ov ow oz) D x M)
  | 0, _, _, _, _, _, B => B
  | D + 1, x, t, M, h, P, B => by
    rw [itr_s, show t + (D + 1) = t + 1 + D by omega]
    exact MB.days hos no16 D (x + 1) (t + 1) _ (by omega) (P.day hos (by omega) x) (B.day P hos no16 (by omega) x)
theorem PW.day (W : PW n M) (P : PM n H t M) (hos : ∀ k, k < no → od k < 5 ∧ ok k < n) (ht : t < 2 ^ 20) (x : Nat) : PW n (sday n H no od ok ov ow oz M x) := fun i hi => by
  have P1 := P.day (ov := ov) (ow := ow) (oz := oz) hos (by omega) x
  obtain ⟨dd, d1, d2, d3⟩ := P.1.2.1 i hi
  have t0 := P.1.1.2.2
  have t1 := P1.1.1.2.2
  have w := sday_w (ov := ov) (ow := ow) (oz := oz) P hos hi x
  rw [sday_col, t1, d2]
  rw [d2, t0] at w
  have lt : ∀ a b, a < 2 ^ 30 → b < 2 ^ 30 → (nI a < nI b ↔ a < b) := fun a b ha hb => ⟨fun h => by
    rcases Nat.lt_or_ge a b with q | q
    · exact q
    · exact absurd h (Int32.not_lt.mpr (nI_le q (by omega))), fun h => nI_lt h (by omega)⟩
  rcases w with ⟨w1, w2⟩ | ⟨w1, w2⟩
  · rw [nI_1] at w1
    have := nI_eqn (by omega) (by omega) w1
    refine Or.inr ⟨fun q => ?_, Or.inl w2⟩
    have := (lt _ _ (by omega) (by omega)).mp q
    omega
  · rw [nI_1] at w1
    have ne : ¬ dd = t + 1 := fun q => w1 (by rw [q])
    rcases W i hi with ⟨a, b⟩ | ⟨a, b⟩
    · rw [t0, d2] at b
      have b := (lt _ _ (by omega) (by omega)).mp b
      refine Or.inl ⟨?_, (lt _ _ (by omega) (by omega)).mpr (by omega)⟩
      rcases w2 with w2 | ⟨w2, _⟩
      · exact w2.trans a
      · rw [a] at w2; exact absurd w2 (by decide)
    · rw [t0, d2] at a
      refine Or.inr ⟨fun q => ?_, ?_⟩
      · have q := (lt _ _ (by omega) (by omega)).mp q
        exact a ((lt _ _ (by omega) (by omega)).mpr (by omega))
      · rcases w2 with w2 | ⟨_, w2⟩
        · rw [w2]; exact b
        · exact Or.inr w2
theorem PW.days (hos : ∀ k, k < no → od k < 5 ∧ ok k < n) : ∀ D x t M, t + D < 2 ^ 20 → PM n H t M → PW n M → PW n (itr (sday n H no od ok ov ow oz) D x M)
  | 0, _, _, _, _, _, W => W
  | D + 1, x, t, M, h, P, W => by
    rw [itr_s]
    exact PW.days hos D (x + 1) (t + 1) _ (by omega) (P.day hos (by omega) x) (W.day P hos (by omega) x)
theorem PW.act {v : Nat} (W : PW n M) (P : PM n H t M) (hk : k < n) (hv : v < 5) (hc : m_can M (9 + v) k = true) : PW n (m_act M H (9 + v) k) := fun i hi => by
  rw [act_k (Or.inr rfl), act_0 (by decide)]
  have w := act_wt (H := H) (i := i) P.1 hk hv hc
  rcases W i hi with ⟨a, b⟩ | ⟨a, b⟩
  · rcases w with w | ⟨w, _⟩
    · exact Or.inl ⟨w.trans a, b⟩
    · rw [a] at w; exact absurd w (by decide)
  · refine Or.inr ⟨a, ?_⟩
    rcases w with w | ⟨_, w⟩
    · rw [w]; exact b
    · exact Or.inr w
/-- all bounds of the law's rounds -/
def PX (n H K t : Nat) (M : SM) : Prop := MB n K t M ∧ PW n M
theorem Mv.px {t' : Nat} (V : Mv n H no od ok ov ow oz t M t' M') (P : PM n H t M) (X : PX n H K t M) (hos : ∀ k, k < no → od k < 5 ∧ ok k < n) (no16 : no ≤ 16) (ht : t < 2 ^ 18) : PX n H (K + 6) t' M' := by
  obtain ⟨⟨c, g, e, e2, h1, h2⟩, W⟩ := X
  rcases V with ⟨rfl, rfl⟩ | ⟨rfl, v, k, hv, hk, hc, rfl⟩ | ⟨rfl, j, hj, rfl⟩ | ⟨D, rfl, hD, rfl⟩
  · exact ⟨⟨c, g, e, e2, by omega, h2⟩, W⟩
  · obtain ⟨c', f, a, i1, i2, i3, i4⟩ := act_cc P hk hv hc e
    exact ⟨⟨c', g, i1, (act_0 (by decide)).trans e2, by rw [i2]; omega, h2⟩, W.act P hk hv hc⟩
  · refine ⟨⟨c + (j + 1), g, by rw [u2_eq, e, nI_add], (u2_nj (by decide)).trans e2, by rw [cnt_u0]; omega, h2⟩, fun i hi => ?_⟩
    have z1 : ∀ a q x, u2 M 0 2 x (a + 2) q = M (a + 2) q := fun a q x => u2_ne (by omega)
    have z2 : ∀ x, u2 M 0 2 x 0 3 = M 0 3 := fun x => u2_nj (by decide)
    simp only [z1, z2]
    exact W i hi
  · obtain ⟨c', g', a1, a2, a3, a4⟩ := MB.days (ov := ov) (ow := ow) (oz := oz) hos no16 D 0 t M (by omega) P (⟨c, g, e, e2, h1, h2⟩ : MB n K t M)
    exact ⟨⟨c', g', a1, a2, by omega, a4⟩, W.days hos D 0 t M (by omega) P⟩
end COI
