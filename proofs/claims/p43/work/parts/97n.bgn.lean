/-! THE BEGINNING OF A BOOK (of part 97n of whole what speaks of no reference). -/
section BGNp
variable {p n Hn d k i j t : Nat} {h : AH} {f f0 M M' : SM} {x y : Int32} {kf df s : Nat → Int32} {Q : AO → AH → Prop}
def Bgn (n Hn : Nat) (kf df : Nat → Int32) (x : Int32) (M : SM) : Prop := (M 0 0 = nI n ∧ M 0 1 = nI Hn ∧ M 0 2 = x ∧ M 0 3 = nI 0 ∧ M 0 4 = 0) ∧ ∀ i, i < 12 → ∀ j, j < 6 → (j = 4 → i < n) → M (i + 2) j = m_bgs (if i < n then kf i else 0) (if i < n then df i else -1) j
theorem bgs_it : ∀ m i (T : SM), (∀ k j, k < i → j < 6 → T (k + 2) j = m_bgs (if k < n then kf k else 0) (if k < n then df k else -1) j) → ∀ k j, k < i + m → j < 6 → itr (m_bg n kf df) m i T (k + 2) j = m_bgs (if k < n then kf k else 0) (if k < n then df k else -1) j
  | 0, i, T, h, k, j, hk, hj => h k j (by omega) hj
  | m + 1, i, T, h, k, j, hk, hj => by
    refine bgs_it m (i + 1) _ (fun k j hk hj => ?_) k j (by omega) hj
    by_cases e : k = i
    · subst e; exact cp_at hj
    · refine (cp_ne (by omega)).trans (h k j (by omega) hj)
theorem bgn_of (hs : s 0 = nI n ∧ s 1 = nI Hn ∧ s 2 = x ∧ s 3 = nI 0 ∧ s 4 = 0) : Bgn n Hn kf df x (itr (m_bg n kf df) 12 0 (m_sc M s)) := by
  have e : ∀ j, j < 5 → itr (m_bg n kf df) 12 0 (m_sc M s) 0 j = s j := fun j hj => (itr_0 (fun M i => m_cp_0) 12 0 _).trans (m_sc_0 hj)
  obtain ⟨s0, s1, s2, s3, s4⟩ := hs
  exact ⟨⟨(e 0 (by decide)).trans s0, (e 1 (by decide)).trans s1, (e 2 (by decide)).trans s2, (e 3 (by decide)).trans s3, (e 4 (by decide)).trans s4⟩, fun i hi j hj _ => bgs_it 12 0 _ (fun k j hk _ => absurd hk (Nat.not_lt_zero _)) i j (by omega) hj⟩
theorem bgn_in (B : Bgn n Hn kf df x M) (hn : n ≤ 12) (hH : Hn ≤ 6) (hd : ∀ k, k < n → ∃ dd, dd ≤ 30 ∧ df k = nI dd) : (MI n Hn 0 (itr m_come n 0 M) ∧ MG n (itr m_come n 0 M)) ∧ itr m_come 12 0 M = itr m_come n 0 M ∧ MC n M := by
  obtain ⟨⟨b0, b1, b2, b3, b4⟩, b5⟩ := B
  have hI : MI n Hn 0 M := by
    refine ⟨⟨hn, hH, b3⟩, fun i hi => ?_, fun i h1 h2 => ?_, fun i hi => ?_, fun w hw => ?_⟩
    · obtain ⟨dd, d1, d2⟩ := hd i hi
      refine ⟨dd, d1, ?_, fun _ => ⟨?_, ?_, ?_⟩⟩
      · rw [b5 i (by omega) 1 (by decide) (fun z => absurd z (by decide)), if_pos hi, if_pos hi]; exact d2
      · rw [b5 i (by omega) 2 (by decide) (fun z => absurd z (by decide))]; rfl
      · rw [b5 i (by omega) 3 (by decide) (fun z => absurd z (by decide))]; rfl
      · rw [b5 i (by omega) 4 (by decide) (fun _ => hi), b5 i (by omega) 0 (by decide) (fun z => absurd z (by decide))]; rfl
    · rw [b5 i h2 0 (by decide) (fun z => absurd z (by decide)), b5 i h2 2 (by decide) (fun z => absurd z (by decide)), b5 i h2 5 (by decide) (fun z => absurd z (by decide)), if_neg (by omega)]
      exact ⟨rfl, rfl, rfl⟩
    · rw [b5 i (by omega) 5 (by decide) (fun z => absurd z (by decide))]; exact Or.inl rfl
    · have e : m_in M (nI w) = 0 := by
        have e2 : m_in M (nI w) = cntB (fun _ => false) 12 := cntB_congr (fun i hi => by
          rw [b5 i hi 5 (by decide) (fun z => absurd z (by decide))]
          refine decide_eq_false (fun z => ?_)
          have z : (-1 : Int32) = nI w := z
          exact nI_nm1 (by omega) z.symm)
        rw [e2]
        rfl
      omega
  have hC : MC n M := fun i hi _ => by
    rw [b5 i (by omega) 3 (by decide) (fun z => absurd z (by decide)), b5 i (by omega) 4 (by decide) (fun _ => hi), b5 i (by omega) 0 (by decide) (fun z => absurd z (by decide))]
    exact ⟨rfl, rfl⟩
  have hG : MG n M := fun i hi h2 => by
    rw [b5 i (by omega) 2 (by decide) (fun z => absurd z (by decide))] at h2
    exact absurd (show (0 : Int32) = 1 from h2) (by decide)
  refine ⟨⟨MI.iter (fun M i I hi => I.come hi (by decide)) n 0 M (by omega) hI, MGC.iter n 0 M (by omega) hG hC⟩, come_12 (t := 0) hn (by decide) b3 (fun i h1 h2 => ?_), hC⟩
  rw [b5 i h2 1 (by decide) (fun z => absurd z (by decide)), if_neg (by omega), if_neg (by omega)]
  rfl
end BGNp
