/-! ROLES OF NAMES; THE PASS OVER THE BEGINNING. -/
section BEG
variable {d L K E pr i j k n tok fu v t u ns no bk : Nat} {bt : Nat → Int32} {h : AH} {f f0 f' : SM} {x y z : Int32} {q q0 : C4} {c0 : C3} {rl : Nat → Int32} {b : Bool} {l m ls : List (Nat × Nat)} {T : Nat → Nat} {s s1 s2 : Int32 × Int32}
theorem nyL_rn {C : RBk} (hp : lnP (tsg bt L) fu C.i = some (true, j, l)) (N : ∀ u, u ≤ K → C.rl u = 1 → tsg bt L u = 44) : ∀ u, u ≤ K → (nyL bt L pr C j l).rl u = 1 → tsg bt L u = 44 := by
  intro u hK h1
  unfold lnP at hp
  unfold nyL at h1
  by_cases h2 : tsg bt L C.i = 2
  · rw [if_pos h2] at hp h1
    obtain ⟨t1, -, -⟩ := lnS_f hp
    have e : (nyS C j).rl u = if u = C.i + 1 + 1 + 1 + 1 + 1 then 7 else if u = C.i + 1 then 1 else C.rl u := rfl
    rw [e] at h1
    by_cases c : u = C.i + 1 + 1 + 1 + 1 + 1
    · rw [if_pos c] at h1; exact absurd h1 (by decide)
    · rw [if_neg c] at h1
      by_cases c2 : u = C.i + 1
      · rw [c2]; exact t1
      · rw [if_neg c2] at h1; exact N u hK h1
  · rw [if_neg h2] at hp h1
    have e : (nyO bt L pr C j l).rl u = if C.i + 1 + 1 + 1 ≤ u ∧ u < j - 1 ∧ tsg bt L u = 44 then 4 else if u = C.i + 1 then 3 else if u = C.i then 2 else C.rl u := rfl
    rw [e] at h1
    by_cases c : C.i + 1 + 1 + 1 ≤ u ∧ u < j - 1 ∧ tsg bt L u = 44
    · exact c.2.2
    · rw [if_neg c] at h1
      by_cases c2 : u = C.i + 1
      · rw [if_pos c2] at h1; exact absurd h1 (by decide)
      · rw [if_neg c2] at h1
        by_cases c3 : u = C.i
        · rw [if_pos c3] at h1; exact absurd h1 (by decide)
        · rw [if_neg c3] at h1; exact N u hK h1
theorem linQ_rn : ∀ m (C C' : RBk), linQ bt L pr fu m C = (true, C') → (∀ u, u ≤ K → C.rl u = 1 → tsg bt L u = 44) → ∀ u, u ≤ K → C'.rl u = 1 → tsg bt L u = 44
  | 0, C, C', e, N => by cases e
  | m + 1, C, C', e, N => by
    unfold linQ at e
    split at e
    · cases e; exact N
    · split at e
      · rename_i j l hp
        exact linQ_rn m _ C' e (nyL_rn hp N)
      · cases e
      · cases e
theorem bgR_rn {r : Int32} (hr : ¬ r = 1) (N : ∀ u, u ≤ K → rl u = 1 → tsg bt L u = 44) : ∀ u, u ≤ K → bgR (tsg bt L) v i r rl u = 1 → tsg bt L u = 44 := by
  intro u hK h1
  unfold bgR at h1
  split at h1
  · unfold upj at h1
    split at h1
    · exact absurd h1 hr
    · exact N u hK h1
  · exact N u hK h1
def bgf (bt : Nat → Int32) (L pr v i : Nat) (f : SM) : SM := if tsg bt L i = v then u2 f pr v (tw bt L (i + 1)).toInt32 else f
theorem begP_s (h : begP T v i = some (true, j, l)) : (T i = v ∧ T (i + 1) = 45 ∧ j = i + 1 + 1 + 1) ∨ (¬ T i = v ∧ j = i) := by
  unfold begP at h
  split at h
  · rename_i h1
    split at h
    · rename_i h2
      split at h
      · obtain ⟨-, rfl, -⟩ := okP_inv2 h
        exact Or.inl ⟨h1, h2, rfl⟩
      · cases h
    · cases h
  · rename_i h1
    obtain ⟨-, rfl, -⟩ := okP_inv2 h
    exact Or.inr ⟨h1, rfl⟩
theorem bgE_ok {lo hi : Int32} (h : s_ok s) : s_ok (bgE bt L v i lo hi s) := by
  unfold bgE
  split
  · exact erN_ok h
  · exact h
theorem bgE_s {lo hi : Int32} (h : ¬ s.1 = 0) : bgE bt L v i lo hi s = s := by
  unfold bgE
  split
  · exact erN_s h
  · rfl
theorem RFp_bg (F : RFp pr f0 f) : RFp pr f0 (bgf bt L pr v i f) := fun a j h1 h2 => by
  unfold bgf
  split
  · rw [u2_ne (by omega)]; exact F a j h1 h2
  · exact F a j h1 h2
theorem pass_B0 (W : RB bt L K pr h f0) (hE : E ≤ K) (F : RFp pr f0 f) (hp : begP (tsg bt L) 0 i = some (true, j, l)) (hjE : j ≤ E) (hr : tsg bt L i = 0 → rl i = 0 ∧ rl (i + 1) = 5 ∧ rl (i + 1 + 1) = 0) (hd : 5 ≤ d) : PSt d E pr h f0 q rl i f j (bgE bt L 0 i 1 6 (0, -1)) (fun f' => f' = bgf bt L pr 0 i f) := by
  have hp9 := W.hp
  have W1 := F.rb W
  unfold bgE bgf
  rcases begP_s hp with ⟨h1, h2, rfl⟩ | ⟨h1, rfl⟩
  · obtain ⟨r0, r1, r2⟩ := hr h1
    rw [if_pos h1, if_pos h1]
    refine PSt.seq (PSt.nil W1 hE (by omega) r0 hd) (Or.inl rfl) (fun z => absurd rfl z) (fun _ f' e => ?_)
    subst e
    have S := sy191_5 (tok := i + 1) (dep := 0) (q := q) W1 (by omega : i + 1 ≤ K) r1 h2 hd
    have F2 : RFp pr f0 (u2 f' pr 0 (tw bt L (i + 1)).toInt32) := fun a j h1 h2 => (u2_ne (by omega)).trans (F a j h1 h2)
    unfold erN
    by_cases c : (tw bt L (i + 1)).toInt32 < 1 ∨ 6 < (tw bt L (i + 1)).toInt32
    · rw [if_pos c] at S ⊢
      rw [tel_0]
      exact PSt.er W1 (F2.rb W) hE (by omega) (by decide) F2 S
    · rw [if_neg c] at S ⊢
      refine PSt.seq (PSt.ok W1 hE (by omega) S (A := fun f2 => f2 = u2 f' pr 0 (tw bt L (i + 1)).toInt32) rfl) (Or.inl rfl) (fun z => absurd rfl z) (fun _ f2 e => ?_)
      subst e
      exact PSt.nil (F2.rb W) hE (by omega) r2 hd
  · rw [if_neg h1, if_neg h1]
    exact fun Q H1 H2 => H1 rfl f rfl
theorem pass_B1 (W : RB bt L K pr h f0) (hE : E ≤ K) (F : RFp pr f0 f) (hp : begP (tsg bt L) 1 i = some (true, j, l)) (hjE : j ≤ E) (hr : tsg bt L i = 1 → rl i = 0 ∧ rl (i + 1) = 6 ∧ rl (i + 1 + 1) = 0) (hd : 5 ≤ d) : PSt d E pr h f0 q rl i f j (bgE bt L 1 i 0 99 (0, -1)) (fun f' => f' = bgf bt L pr 1 i f) := by
  have hp9 := W.hp
  have W1 := F.rb W
  unfold bgE bgf
  rcases begP_s hp with ⟨h1, h2, rfl⟩ | ⟨h1, rfl⟩
  · obtain ⟨r0, r1, r2⟩ := hr h1
    rw [if_pos h1, if_pos h1]
    refine PSt.seq (PSt.nil W1 hE (by omega) r0 hd) (Or.inl rfl) (fun z => absurd rfl z) (fun _ f' e => ?_)
    subst e
    have S := sy191_6 (tok := i + 1) (dep := 0) (q := q) W1 (by omega : i + 1 ≤ K) r1 h2 hd
    have F2 : RFp pr f0 (u2 f' pr 1 (tw bt L (i + 1)).toInt32) := fun a j h1 h2 => (u2_ne (by omega)).trans (F a j h1 h2)
    unfold erN
    by_cases c : (tw bt L (i + 1)).toInt32 < 0 ∨ 99 < (tw bt L (i + 1)).toInt32
    · rw [if_pos c] at S ⊢
      rw [tel_0]
      exact PSt.er W1 (F2.rb W) hE (by omega) (by decide) F2 S
    · rw [if_neg c] at S ⊢
      refine PSt.seq (PSt.ok W1 hE (by omega) S (A := fun f2 => f2 = u2 f' pr 1 (tw bt L (i + 1)).toInt32) rfl) (Or.inl rfl) (fun z => absurd rfl z) (fun _ f2 e => ?_)
      subst e
      exact PSt.nil (F2.rb W) hE (by omega) r2 hd
  · rw [if_neg h1, if_neg h1]
    exact fun Q H1 H2 => H1 rfl f rfl
end BEG
