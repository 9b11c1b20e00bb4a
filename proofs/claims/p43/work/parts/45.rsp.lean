/-! Of part 45.rsp of whole what speaks of no reference. -/
def m_until (F : SP → SP) (k : Nat) (w : Int32) : Nat → Nat → SP → Int32
  | 0, d, s => if s.1 (k + 2) 2 = w then nI d else -1
  | m + 1, d, s => if s.1 (k + 2) 2 = w then nI d else m_until F k w m (d + 1) (F s)
theorem itr_col {f : SM → Nat → SM} {a b : Nat} (hf : ∀ M i, f M i a b = M a b) : ∀ n i M, itr f n i M a b = M a b
  | 0, _, _ => rfl
  | n + 1, i, M => by rw [itr_s, itr_col hf n (i + 1) _, hf]
theorem come_o {M : SM} {i a b : Nat} (hb : ¬ b = 2) : m_come M i a b = M a b := by
  unfold m_come
  split
  · unfold u2; rw [if_neg (by omega)]
  · rfl
theorem come_12 {n t : Nat} {M : SM} (hn : n ≤ 12) (ht : t < 2 ^ 31) (hM : M 0 3 = nI t) (ho : ∀ i, n ≤ i → i < 12 → M (i + 2) 1 = -1) : itr m_come 12 0 M = itr m_come n 0 M :=
  itr_12 hn (fun j a b => if_neg (fun q => by
    rw [itr_col (fun M i => come_o (by decide)), itr_col (fun M i => come_o (by decide)), hM, ho j a b] at q
    exact nI_nm1 ht q.symm))
