/-! Of part 41.rs2 of whole what speaks of no reference. -/
theorem mn_j (x y : Int32) : mnI x y = m_join 27 x y := by
  show (if y < x then y else x) = if x < y then x else y
  simp only [Int32.lt_iff_toInt_lt]
  by_cases a : y.toInt < x.toInt
  · rw [if_pos a, if_neg (by omega)]
  · rw [if_neg a]
    by_cases b : x.toInt < y.toInt
    · rw [if_pos b]
    · rw [if_neg b]
      exact Int32.toInt_inj.mp (by omega)
theorem mx_j (x y : Int32) : mxI x y = m_join 28 x y := by
  show (if x < y then y else x) = if y < x then x else y
  simp only [Int32.lt_iff_toInt_lt]
  by_cases a : x.toInt < y.toInt
  · rw [if_pos a, if_neg (by omega)]
  · rw [if_neg a]
    by_cases b : y.toInt < x.toInt
    · rw [if_pos b]
    · rw [if_neg b]
      exact Int32.toInt_inj.mp (by omega)
theorem oI_ne {j : Nat} (h : j < 2 ^ 31) : ¬ oI (some j) = -1 := by
  show ¬ nI j = -1
  intro q
  exact nI_pos h (by rw [q]; decide)
theorem nI_nm1 {j : Nat} (h : j < 2 ^ 31) : ¬ nI j = -1 := oI_ne h
theorem m_ix_nI {k : Nat} (h : k < 12) : m_ix (nI k) = k := by
  unfold m_ix
  rw [if_neg, nI_clamp (by omega)]
  rintro (q | q)
  · exact nI_pos (by omega) q
  · rw [← nI_12] at q; exact nI_ge (by omega) (by omega) q
theorem cnt_qn (M : SM) (w : Int32) : ∀ m, cntB (m_q M w) m + cntB (m_nq M w) m = cntB (fun o => decide (M (o + 2) 5 = w)) m
  | 0 => rfl
  | m + 1 => by
    have := cnt_qn M w m
    unfold cntB m_q m_nq
    unfold m_q m_nq at this
    by_cases a : M (m + 2) 5 = w <;> by_cases b : M (m + 2) 0 = 3 <;> simp [a, b] <;> omega
