/-! THE CLASS READS, WHOLE; what a book without an error holds. -/
section CRW
variable {d Ln L K bk ns no i j i1 fu v k n : Nat} {xs : Nat → Int32} {bt : Nat → Int32} {nm : Nat → Int64} {h H : AH} {F F' F0 : SM} {J J' : Nat → Nat → Int64} {R R' : Nat → Nat → Option Nat} {e ep x y z lo hi : Int32} {s : Int32 × Int32} {q : C3} {l l1 : List (Nat × Nat)} {Q : AO → AH → Prop} {B B' : CBk}
theorem linR_o (hb : bk = 208 ∨ bk = 260) : ∀ m (B B' : CBk), linR bt L bk fu m B = (true, B') → B'.F bk 0 = B.F bk 0 ∧ B'.F bk 1 = B.F bk 1
  | 0, B, B', e => by cases e
  | m + 1, B, B', e => by
    unfold linR at e
    split at e
    · cases e; exact ⟨rfl, rfl⟩
    · split at e
      · rename_i j l hp
        obtain ⟨a0, a1⟩ := linR_o hb m _ B' e
        have ex : ∀ i, i < 2 → (nxL bt L bk B j l).F bk i = B.F bk i := fun i hi => by
          unfold nxL
          split
          · show adF bk B.ns B.F _ _ bk i = _
            unfold adF
            split
            · rw [u2_ni (by omega), u2_ne (by omega), u2_ne (by omega)]
            · rfl
          · show aoF bk B.no B.F _ _ _ bk i = _
            unfold aoF
            split
            · rw [u2_ni (by omega), u2_ne (by omega), u2_ne (by omega), u2_ne (by omega)]
            · rfl
        exact ⟨a0.trans (ex 0 (by decide)), a1.trans (ex 1 (by decide))⟩
      · cases e
      · cases e
/-- an error's number is not below 0 -/
theorem tel_p (h : ¬ s.1 < 0) (hx : ¬ x < 0) : ¬ (tel bt L i x s).1 < 0 := by
  unfold tel
  split
  · exact hx
  · exact h
theorem er1_p (h : ¬ s.1 < 0) : ¬ (er1 bt L ns nm i s).1 < 0 := by
  unfold er1
  split
  · split
    · exact h
    · exact tel_p h (by decide)
  · exact h
theorem ern_p : ∀ (m i : Nat) (s : Int32 × Int32), ¬ s.1 < 0 → ¬ (ern bt L ns nm m i s).1 < 0
  | 0, i, s, h => h
  | m + 1, i, s, h => ern_p m (i + 1) _ (er1_p h)
theorem erS_p (h : ¬ s.1 < 0) : ¬ (erS bt L ns nm i s).1 < 0 := by
  unfold erS
  split
  · exact tel_p h (by decide)
  · split
    · exact h
    · exact tel_p h (by decide)
theorem erN_p (h : ¬ s.1 < 0) : ¬ (erN bt L i lo hi s).1 < 0 := by
  unfold erN
  split
  · exact tel_p h (by decide)
  · exact h
theorem erO_p (h : ¬ s.1 < 0) : ¬ (erO bt L no i s).1 < 0 := by
  unfold erO
  split
  · exact h
  · exact tel_p h (by decide)
theorem bgE_p (h : ¬ s.1 < 0) : ¬ (bgE bt L v i lo hi s).1 < 0 := by
  unfold bgE
  split
  · exact erN_p h
  · exact h
theorem linR_p : ∀ m (B B' : CBk), linR bt L bk fu m B = (true, B') → ¬ B.s.1 < 0 → ¬ B'.s.1 < 0
  | 0, B, B', e, h => by cases e
  | m + 1, B, B', e, h => by
    unfold linR at e
    split at e
    · cases e; exact h
    · split at e
      · rename_i j l hp
        refine linR_p m _ B' e ?_
        unfold nxL
        split
        · exact erN_p (erS_p h)
        · exact ern_p _ _ _ (erO_p h)
      · cases e
      · cases e
theorem tel_n : ¬ (tel bt L i x s).1 = 0 ∨ x = 0 := by
  unfold tel
  split
  · by_cases c : x = 0
    · exact Or.inr c
    · exact Or.inl c
  · rename_i c; exact Or.inl c
/-- a number in its range, if there was no error -/
theorem erN_in (h0 : (erN bt L i lo hi s).1 = 0) : ¬ (tw bt L i).toInt32 < lo ∧ ¬ hi < (tw bt L i).toInt32 := by
  unfold erN at h0
  split at h0
  · rcases tel_n (bt := bt) (L := L) (i := i) (x := 5) (s := s) with z | z
    · exact absurd h0 z
    · exact absurd z (by decide)
  · rename_i c; exact ⟨fun z => c (Or.inl z), fun z => c (Or.inr z)⟩
def dyO (bk : Nat) (B : CBk) : Prop := ∀ k, k < B.ns → ∃ dd, dd ≤ 30 ∧ B.F (bk + 2) k = nI dd
theorem linR_dy (hb : bk = 208 ∨ bk = 260) : ∀ m (B B' : CBk), linR bt L bk fu m B = (true, B') → B'.s.1 = 0 → dyO bk B → dyO bk B'
  | 0, B, B', e, h0, D => by cases e
  | m + 1, B, B', e, h0, D => by
    unfold linR at e
    split at e
    · cases e; exact D
    · split at e
      · rename_i j l hp
        have e1 : linR bt L bk fu m (nxL bt L bk B j l) = (true, B') := e
        have hs : (nxL bt L bk B j l).s.1 = 0 := by
          by_cases c : (nxL bt L bk B j l).s.1 = 0
          · exact c
          · rw [linR_st m _ B' c e1] at h0; exact h0
        refine linR_dy hb m _ B' e1 h0 ?_
        by_cases h2 : tsg bt L B.i = 2
        · have eB : nxL bt L bk B j l = nxS bt L bk B j := if_pos h2
          rw [eB] at hs ⊢
          have hs : (erN bt L (B.i + 1 + 1 + 1 + 1 + 1) 0 30 (erS bt L B.ns B.nm (B.i + 1) B.s)).1 = 0 := hs
          obtain ⟨r1, r2⟩ := erN_in hs
          obtain ⟨dd, d1, d2⟩ := nI_of2 (x := (tw bt L (B.i + 1 + 1 + 1 + 1 + 1)).toInt32) (M := 30) (n := 30) (by decide) r1 (Int32.not_lt.mp r2)
          intro k hk
          have hk : k < adn B.ns := hk
          show ∃ dd, dd ≤ 30 ∧ adF bk B.ns B.F _ (tw bt L (B.i + 1 + 1 + 1 + 1 + 1)).toInt32 (bk + 2) k = nI dd
          unfold adF
          unfold adn at hk
          by_cases c : B.ns < 12
          · rw [if_pos c] at hk ⊢
            rw [u2_ne (by omega)]
            by_cases c2 : k = B.ns
            · rw [c2, u2_eq]; exact ⟨dd, d1, d2⟩
            · rw [u2_ni c2, u2_ne (by omega)]; exact D k (by omega)
          · rw [if_neg c] at hk ⊢; exact D k hk
        · have eB : nxL bt L bk B j l = nxO bt L bk B j l := if_neg h2
          rw [eB]
          intro k hk
          obtain ⟨dd, d1, d2⟩ := D k hk
          refine ⟨dd, d1, ?_⟩
          show aoF bk B.no B.F _ _ _ (bk + 2) k = _
          unfold aoF
          split
          · rw [u2_ne (by omega), u2_ne (by omega), u2_ne (by omega), u2_ne (by omega)]; exact d2
          · exact d2
      · cases e
      · cases e
/-- the base behind clear -/
def CBs (bk : Nat) (H : AH) (F : SM) (R : Nat → Nat → Option Nat) : Prop := (∀ a j, ¬ (202 ≤ a ∧ a ≤ 205) → ¬ a = bk → F a j = iv H a j) ∧ ∀ a j, ¬ (a = 202 ∧ j = 5) → ¬ a = 204 → ¬ (a = 203 ∧ j = 4) → R a j = rv H a j
theorem r0F_v (hb : bk = 208 ∨ bk = 260) : gtF bt L (r0F bk F) bk 0 = 3 ∧ gtF bt L (r0F bk F) bk 1 = 20 ∧ gtF bt L (r0F bk F) bk 5 = nI 0 := by
  unfold gtF r0F clF
  refine ⟨?_, ?_, ?_⟩
  · rw [u2_ne (by omega), u2_ne (by omega), u2_ne (by omega), u2_ne (by omega), u2_ni (by decide), u2_ni (by decide), u2_ni (by decide), u2_ni (by decide), u2_eq]
  · rw [u2_ne (by omega), u2_ne (by omega), u2_ne (by omega), u2_ne (by omega), u2_ni (by decide), u2_ni (by decide), u2_ni (by decide), u2_eq]
  · rw [u2_ne (by omega), u2_ne (by omega), u2_ne (by omega), u2_ne (by omega), u2_ni (by decide), u2_eq]
    rfl
theorem bB_ho (hF0 : F bk 0 = 3) (hs : (bgE bt L 1 i1 0 99 (bgE bt L 0 0 1 6 (0, -1))).1 = 0) : ∃ Hn, Hn ≤ 6 ∧ bgF bt L bk 1 i1 (bgF bt L bk 0 0 F) bk 0 = nI Hn := by
  have e1 : bgF bt L bk 1 i1 (bgF bt L bk 0 0 F) bk 0 = bgF bt L bk 0 0 F bk 0 := by
    generalize bgF bt L bk 0 0 F = G9
    unfold bgF
    split
    · exact u2_ni (by decide)
    · rfl
  rw [e1]
  have hs0 : (bgE bt L 0 0 1 6 (0, -1)).1 = 0 := by
    by_cases c : (bgE bt L 0 0 1 6 (0, -1)).1 = 0
    · exact c
    · rw [bgE_s c] at hs; exact hs
  unfold bgF
  by_cases c0 : tsg bt L 0 = 0
  · rw [if_pos c0, u2_eq]
    unfold bgE at hs0
    rw [if_pos c0] at hs0
    obtain ⟨r1, r2⟩ := erN_in hs0
    exact (nI_of2 (x := (tw bt L (0 + 1)).toInt32) (M := 6) (n := 6) (by decide) (fun z => r1 (Int32.lt_trans z (by decide))) (Int32.not_lt.mp r2))
  · rw [if_neg c0, hF0]
    exact ⟨3, by decide, rfl⟩
end CRW
