/-! OF PARTS 79, 85, 88, 92 of whole what speaks of no reference. -/
section BGP
variable {d L K pr i j k n tok dep fu v i1 t ns no bk : Nat} {bt : Nat → Int32} {h : AH} {f f0 : SM} {x y z : Int32} {rl : Nat → Int32} {b : Bool} {l l1 m : List (Nat × Nat)} {nm : Nat → Int64} {T : Nat → Nat} {s s1 s2 : Int32 × Int32} {B : CBk}
theorem begP_b (hT : TE (tsg bt L) K) (hv : ¬ v = 46 ∧ ¬ v = 47) (hi : i ≤ K) (h : begP (tsg bt L) v i = some (b, j, l)) : i ≤ j ∧ j ≤ K := by
  unfold begP at h
  split at h
  · rename_i h1
    have k1 := hT.lt hi h1 hv.1 hv.2
    split at h
    · rename_i h2
      have k2 := hT.lt (by omega) h2 (by decide) (by decide)
      split at h
      · rename_i h3
        have k3 := hT.lt (by omega) h3 (by decide) (by decide)
        obtain ⟨rfl, rfl, rfl⟩ := okP_inv2 h
        exact ⟨by omega, by omega⟩
      · obtain ⟨rfl, rfl, rfl⟩ := noP_inv2 h
        exact ⟨by omega, by omega⟩
    · obtain ⟨rfl, rfl, rfl⟩ := noP_inv2 h
      exact ⟨by omega, by omega⟩
  · obtain ⟨rfl, rfl, rfl⟩ := okP_inv2 h
    exact ⟨by omega, by omega⟩
theorem begP_some {T : Nat → Nat} : ∃ b j l, begP T v i = some (b, j, l) := by
  unfold begP
  split
  · split
    · split
      · exact ⟨_, _, _, rfl⟩
      · exact ⟨_, _, _, rfl⟩
    · exact ⟨_, _, _, rfl⟩
  · exact ⟨_, _, _, rfl⟩
theorem tel_s (h : ¬ s.1 = 0) : tel bt L t x s = s := if_neg h
theorem er1_s (h : ¬ s.1 = 0) : er1 bt L ns nm i s = s := by
  unfold er1
  split
  · split
    · rfl
    · exact tel_s h
  · rfl
theorem ern_s (h : ¬ s.1 = 0) : ∀ m i, ern bt L ns nm m i s = s
  | 0, _ => rfl
  | m + 1, i => by
    show ern bt L ns nm m (i + 1) (er1 bt L ns nm i s) = s
    rw [er1_s h]
    exact ern_s h m (i + 1)
theorem er_s (h : ¬ s.1 = 0) : er bt L ns nm i j s = s := ern_s h _ _
theorem erS_s (h : ¬ s.1 = 0) : erS bt L ns nm t s = s := by
  unfold erS
  split
  · exact tel_s h
  · split
    · rfl
    · exact tel_s h
theorem erN_s {lo hi : Int32} (h : ¬ s.1 = 0) : erN bt L t lo hi s = s := by
  unfold erN
  split
  · exact tel_s h
  · rfl
theorem erO_s (h : ¬ s.1 = 0) : erO bt L no t s = s := by
  unfold erO
  split
  · rfl
  · exact tel_s h
theorem begP_s (h : begP T v i = some (true, j, l)) : (T i = v ∧ T (i + 1) = 45 ∧ j = i + 1 + 1 + 1) ∨ (¬ T i = v ∧ j = i) := by
  unfold begP at h
  split at h
  · rename_i h1
    split at h
    · rename_i h2
      split at h
      · obtain ⟨-, rfl, -⟩ := okP_inv2 h
        exact Or.inl ⟨h1, h2, rfl⟩
      · cases h
    · cases h
  · rename_i h1
    obtain ⟨-, rfl, -⟩ := okP_inv2 h
    exact Or.inr ⟨h1, rfl⟩
theorem bgE_s {lo hi : Int32} (h : ¬ s.1 = 0) : bgE bt L v i lo hi s = s := by
  unfold bgE
  split
  · exact erN_s h
  · rfl
theorem nxL_st (h : ¬ B.s.1 = 0) : (nxL bt L bk B j l).s = B.s := by
  unfold nxL
  split
  · show erN bt L _ 0 30 (erS bt L B.ns B.nm _ B.s) = B.s
    rw [erS_s h, erN_s h]
  · show er bt L B.ns B.nm _ j (erO bt L B.no B.i B.s) = B.s
    rw [erO_s h, er_s h]
theorem linR_st : ∀ m (B B' : CBk), ¬ B.s.1 = 0 → linR bt L bk fu m B = (true, B') → B'.s = B.s
  | 0, B, B', h, e => by cases e
  | m + 1, B, B', h, e => by
    unfold linR at e
    split at e
    · cases e; rfl
    · split at e
      · exact (linR_st m _ B' (by rw [nxL_st h]; exact h) e).trans (nxL_st h)
      · cases e
      · cases e
end BGP
