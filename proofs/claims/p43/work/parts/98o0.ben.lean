/-! THE CLASS BEHIND THE TEXT: the state between two calls. -/
section BEN
variable {d Ln L K bk u n no H co t i k j q v w z f : Nat} {xs : Nat → Int32} {bt : Nat → Int32} {H9 h h' : AH} {M M0 M1 : SM} {kf df od ok ov ow : Nat → Nat} {oz : Nat → Int32} {x : Int32} {cv : Nat → Nat} {cz kI dI : Nat → Int32} {B : CBk} {o : AO}
theorem bgn_all (B : Bgn n H kI dI x M) (hn : n ≤ 12) (hH : H ≤ 6) (hk : ∀ i, i < n → kI i = nI (kf i) ∧ dI i = nI (df i)) (KD : KDok n kf df) : PM n H 0 (itr m_come n 0 M) ∧ (MI n H 0 M ∧ MC n M ∧ MZ n 0 M ∧ MK n M) ∧ itr m_come 12 0 M = itr m_come n 0 M := by
  have hd : ∀ k, k < n → ∃ dd, dd ≤ 30 ∧ dI k = nI dd := fun k hkn => ⟨df k, (KD k hkn).2, (hk k hkn).2⟩
  obtain ⟨⟨mi, mg⟩, m12, mc⟩ := bgn_in B hn hH hd
  obtain ⟨⟨b0, b1, b2, b3, b4⟩, b5⟩ := B
  have c0 : ∀ i, i < 12 → M (i + 2) 0 = if i < n then kI i else 0 := fun i hi => b5 i hi 0 (by decide) (fun z => absurd z (by decide))
  have c1 : ∀ i, i < 12 → M (i + 2) 1 = if i < n then dI i else -1 := fun i hi => b5 i hi 1 (by decide) (fun z => absurd z (by decide))
  have c2 : ∀ i, i < 12 → M (i + 2) 2 = 0 := fun i hi => b5 i hi 2 (by decide) (fun z => absurd z (by decide))
  have c5 : ∀ i, i < 12 → M (i + 2) 5 = -1 := fun i hi => b5 i hi 5 (by decide) (fun z => absurd z (by decide))
  have K : MK n M := fun i hi => by
    rw [c0 i (by omega), if_pos hi, (hk i hi).1]
    exact nI_4 (KD i hi).1
  have hI : MI n H 0 M := by
    refine ⟨⟨hn, hH, b3⟩, fun i hi => ?_, fun i h1 h2 => ?_, fun i hi => ?_, fun w hw => ?_⟩
    · obtain ⟨dd, d1, d2⟩ := hd i hi
      refine ⟨dd, d1, ?_, fun _ => ⟨c2 i (by omega), ?_, ?_⟩⟩
      · rw [c1 i (by omega), if_pos hi]; exact d2
      · exact b5 i (by omega) 3 (by decide) (fun z => absurd z (by decide))
      · rw [c0 i (by omega)]; exact b5 i (by omega) 4 (by decide) (fun _ => hi)
    · rw [c0 i h2, c2 i h2, c5 i h2, if_neg (by omega)]
      exact ⟨rfl, rfl, rfl⟩
    · exact Or.inl (c5 i (by omega))
    · have e : m_in M (nI w) = 0 := cntB_z (fun i hi => by
        rw [c5 i hi]
        exact decide_eq_false (fun z => nI_nm1 (by omega) z.symm))
      omega
  have Z : MZ n 0 M := fun j _ hj _ => c2 j (by omega)
  have W : MW n M := fun i hi h2 => by
    rw [c2 i (by omega)] at h2
    exact absurd h2 (by decide)
  refine ⟨⟨mi, mg, MWC.iter n 0 _ (by omega) W mc K, fun i h1 h2 => ?_, fun i hi => ?_, ?_, ?_⟩, ⟨hI, mc, Z, K⟩, m12⟩
  · rw [itr_col (fun M j => come_k (by decide)), c1 i h2, if_neg (by omega)]
  · rw [itr_col (fun M j => come_k (by decide))]
    exact K i hi
  · rw [itr_z (fun M i q => come_z)]
    exact b0
  · rw [itr_z (fun M i q => come_z)]
    exact b1
theorem wf_v (hv : v < 9) (h : CDa v w z f cv cz) : m_wf cv (cdA v w z).length f 0 := by
  obtain ⟨r18, r19, r21, r22, r23, r45, r15, r16, r17, r1, r24, r48, r25, r26, r35, r37, r38, r39, r40, r41, r42, r43⟩ := ar_all
  rcases (by omega : v = 0 ∨ v = 1 ∨ v = 2 ∨ v = 3 ∨ v = 4 ∨ v = 5 ∨ v = 6 ∨ v = 7 ∨ v = 8) with rfl | rfl | rfl | rfl | rfl | rfl | rfl | rfl | rfl
  · trivial
  · have c0 : cv f = 18 := (h 0 (by decide : 0 < 3)).1
    have c1 : cv (f + 1) = 45 := (h 1 (by decide : 1 < 3)).1
    have c2 : cv (f + 1 + 1) = 40 := (h 2 (by decide : 2 < 3)).1
    show m_wf cv 3 f 0
    unfold m_wf m_wf m_wf m_wf
    rw [c0, c1, c2]
    decide
  · have c0 : cv f = 15 := (h 0 (by decide : 0 < 7)).1
    have c1 : cv (f + 1) = 45 := (h 1 (by decide : 1 < 7)).1
    have c2 : cv (f + 1 + 1) = 38 := (h 2 (by decide : 2 < 7)).1
    have c3 : cv (f + 1 + 1 + 1) = 45 := (h 3 (by decide : 3 < 7)).1
    have c4 : cv (f + 1 + 1 + 1 + 1) = 37 := (h 4 (by decide : 4 < 7)).1
    have c5 : cv (f + 1 + 1 + 1 + 1 + 1) = 15 := (h 5 (by decide : 5 < 7)).1
    have c6 : cv (f + 1 + 1 + 1 + 1 + 1 + 1) = 41 := (h 6 (by decide : 6 < 7)).1
    show m_wf cv 7 f 0
    unfold m_wf m_wf m_wf m_wf m_wf m_wf m_wf m_wf
    rw [c0, c1, c2, c3, c4, c5, c6]
    decide
  · have c0 : cv f = 21 := (h 0 (by decide : 0 < 2)).1
    have c1 : cv (f + 1) = 24 := (h 1 (by decide : 1 < 2)).1
    show m_wf cv 2 f 0
    unfold m_wf m_wf m_wf
    rw [c0, c1]
    decide
  · have c0 : cv f = 23 := (h 0 (by decide : 0 < 1)).1
    show m_wf cv 1 f 0
    unfold m_wf m_wf
    rw [c0]
    decide
  · have c0 : cv f = 22 := (h 0 (by decide : 0 < 5)).1
    have c1 : cv (f + 1) = 1 := (h 1 (by decide : 1 < 5)).1
    have c2 : cv (f + 1 + 1) = 45 := (h 2 (by decide : 2 < 5)).1
    have c3 : cv (f + 1 + 1 + 1) = 39 := (h 3 (by decide : 3 < 5)).1
    have c4 : cv (f + 1 + 1 + 1 + 1) = 26 := (h 4 (by decide : 4 < 5)).1
    show m_wf cv 5 f 0
    unfold m_wf m_wf m_wf m_wf m_wf m_wf
    rw [c0, c1, c2, c3, c4]
    decide
  · have c0 : cv f = 19 := (h 0 (by decide : 0 < 7)).1
    have c1 : cv (f + 1) = 45 := (h 1 (by decide : 1 < 7)).1
    have c2 : cv (f + 1 + 1) = 43 := (h 2 (by decide : 2 < 7)).1
    have c3 : cv (f + 1 + 1 + 1) = 16 := (h 3 (by decide : 3 < 7)).1
    have c4 : cv (f + 1 + 1 + 1 + 1) = 45 := (h 4 (by decide : 4 < 7)).1
    have c5 : cv (f + 1 + 1 + 1 + 1 + 1) = 40 := (h 5 (by decide : 5 < 7)).1
    have c6 : cv (f + 1 + 1 + 1 + 1 + 1 + 1) = 25 := (h 6 (by decide : 6 < 7)).1
    show m_wf cv 7 f 0
    unfold m_wf m_wf m_wf m_wf m_wf m_wf m_wf m_wf
    rw [c0, c1, c2, c3, c4, c5, c6]
    decide
  · have c0 : cv f = 17 := (h 0 (by decide : 0 < 6)).1
    have c1 : cv (f + 1) = 45 := (h 1 (by decide : 1 < 6)).1
    have c2 : cv (f + 1 + 1) = 48 := (h 2 (by decide : 2 < 6)).1
    have c3 : cv (f + 1 + 1 + 1) = 35 := (h 3 (by decide : 3 < 6)).1
    have c4 : cv (f + 1 + 1 + 1 + 1) = 45 := (h 4 (by decide : 4 < 6)).1
    have c5 : cv (f + 1 + 1 + 1 + 1 + 1) = 40 := (h 5 (by decide : 5 < 6)).1
    show m_wf cv 6 f 0
    unfold m_wf m_wf m_wf m_wf m_wf m_wf m_wf
    rw [c0, c1, c2, c3, c4, c5]
    decide
  · have c0 : cv f = 18 := (h 0 (by decide : 0 < 7)).1
    have c1 : cv (f + 1) = 45 := (h 1 (by decide : 1 < 7)).1
    have c2 : cv (f + 1 + 1) = 42 := (h 2 (by decide : 2 < 7)).1
    have c3 : cv (f + 1 + 1 + 1) = 23 := (h 3 (by decide : 3 < 7)).1
    have c4 : cv (f + 1 + 1 + 1 + 1) = 24 := (h 4 (by decide : 4 < 7)).1
    have c5 : cv (f + 1 + 1 + 1 + 1 + 1) = 26 := (h 5 (by decide : 5 < 7)).1
    have c6 : cv (f + 1 + 1 + 1 + 1 + 1 + 1) = 24 := (h 6 (by decide : 6 < 7)).1
    show m_wf cv 7 f 0
    unfold m_wf m_wf m_wf m_wf m_wf m_wf m_wf m_wf
    rw [c0, c1, c2, c3, c4, c5, c6]
    decide
/-- a test's code says what the test says -/
theorem oe_v (hv : v < 9) (h : CDa v w z f cv cz) (hw : w < 12) (hz : 1 ≤ z ∧ z ≤ 6) (hm : ∃ j, j ≤ 12 ∧ m_free M = nI j) {s : Nat → Int32} : OEp M n v w z f cv cz s := by
  rcases (by omega : v = 0 ∨ v = 1 ∨ v = 2 ∨ v = 3 ∨ v = 4 ∨ v = 5 ∨ v = 6 ∨ v = 7 ∨ v = 8) with rfl | rfl | rfl | rfl | rfl | rfl | rfl | rfl | rfl
  · exact oe_0
  · exact oe_1 h hw hz hm
  · exact oe_2 h hw hz hm
  · exact oe_3 h hw hz hm
  · exact oe_4 h hw hz hm
  · exact oe_5 h hw hz hm
  · exact oe_6 h hw hz hm
  · exact oe_7 h hw hz hm
  · exact oe_8 h hw hz hm
/-- places that are free: a number up to 12 -/
theorem free_n (I : MI n H t M) (hm : M 0 1 = nI H) : ∃ j, j ≤ 12 ∧ m_free M = nI j := by
  have hs := houses_sum (H := H) (M := M) (by have := I.1.2.1; omega) 12 (fun i hi => I.hom hi)
  have hH := I.1.2.1
  have l := cntB_le (fun o => decide (M (o + 2) 5 = -1)) 12
  have l2 : sumN (fun w => cntB (fun o => decide (M (o + 2) 5 = nI w)) 12) H ≤ 2 * H := sumN_le (fun i hi => I.2.2.2.2 i hi)
  have e : m_in M (-1) = cntB (fun o => decide (M (o + 2) 5 = -1)) 12 := rfl
  refine ⟨2 * H - (12 - m_in M (-1)), by omega, ?_⟩
  unfold m_free
  rw [hm, e, show (12 : Int32) = nI 12 from rfl, show (2 : Int32) = nI 2 from rfl, nI_sub l, show nI H * nI 2 = nI (2 * H) from by
    have : ∀ H, H < 7 → nI H * nI 2 = nI (2 * H) := by decide
    exact this H (by omega), nI_sub (by omega)]
theorem fiS_le {q : Nat} : ∀ m k, k + m = q → fiS ov ow oz k ≤ fiS ov ow oz q
  | 0, k, e => by rw [show k = q by omega]; exact Nat.le_refl _
  | m + 1, k, e => Nat.le_trans (Nat.le_add_right _ _) (fiS_le m (k + 1) (by omega))
/-- every step of the code belongs to an order -/
theorem fiS_in : ∀ q i, i < fiS ov ow oz q → ∃ k a, k < q ∧ a < (cdA (ov k) (ow k) (oz k).toNatClampNeg).length ∧ i = fiS ov ow oz k + a
  | 0, i, h => absurd h (Nat.not_lt_zero _)
  | q + 1, i, h => by
    by_cases c : i < fiS ov ow oz q
    · obtain ⟨k, a, h1, h2, h3⟩ := fiS_in q i c
      exact ⟨k, a, by omega, h2, h3⟩
    · refine ⟨q, i - fiS ov ow oz q, by omega, ?_, by omega⟩
      have : fiS ov ow oz (q + 1) = fiS ov ow oz q + (cdA (ov q) (ow q) (oz q).toNatClampNeg).length := rfl
      omega
theorem OBs.cda (S : OBs bk n H co no kf df od ok ov ow oz B) (hk : k < no) : CDa (ov k) (ow k) (oz k).toNatClampNeg (fiS ov ow oz k) (fun i => (B.q.2.1 i).getD 0) B.q.2.2 := fun a ha => by
  obtain ⟨h1, h2⟩ := S.2.2.2.2.2 k hk a ha
  exact ⟨by show (B.q.2.1 _).getD 0 = _; rw [h1]; rfl, h2⟩
theorem OBs.oe (S : OBs bk n H co no kf df od ok ov ow oz B) (OR : ORok n no od ok ov ow oz) : OE n H no (fun i => (B.q.2.1 i).getD 0) B.q.2.2 (fiS ov ow oz) (fun k => fiS ov ow oz (k + 1)) ov ow oz := fun k hk M s hm ⟨t, I⟩ => by
  obtain ⟨⟨a1, a2, a3, a4⟩, a5⟩ := OR k hk
  have z := oz_n a5
  have n12 := S.2.1.1
  have e := oe_v (n := n) (s := s) (M := M) a3 (S.cda hk) (by omega) ⟨z.1, z.2.1⟩ (free_n I hm)
  unfold OEp at e
  rw [← z.2.2] at e
  show m_end (m_ev M n _ _ (fiS ov ow oz (k + 1) - fiS ov ow oz k) _ 0 s) = _
  rw [show fiS ov ow oz (k + 1) - fiS ov ow oz k = (cdA (ov k) (ow k) (oz k).toNatClampNeg).length from Nat.add_sub_cancel_left ..]
  exact e
theorem OBs.dy (S : OBs bk n H co no kf df od ok ov ow oz B) (KD : KDok n kf df) : dyO bk B ∧ BkP bk B := by
  obtain ⟨⟨s1, s2, s3, s4⟩, s5, s6, -⟩ := S
  exact ⟨fun k hk => ⟨df k, (KD k (by omega)).2, (s6 k (by omega)).2⟩, fun k hk => ⟨kf k, (KD k (by omega)).1, (s6 k (by omega)).1⟩⟩
end BEN
