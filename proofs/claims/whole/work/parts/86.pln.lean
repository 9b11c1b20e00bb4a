/-! THE PASS, LINE BY LINE: the reference's plan and the class's book grow alike. -/
def EIo (bt : Nat → Int32) (L bk pr : Nat) (B : CBk) (f : SM) (ls : List (Nat × Nat)) (q0 : C4) (k : Nat) : Prop := ∃ v s fi en, isV v = true ∧ s < B.ns ∧ (f (pr + 3) k = nI v ∧ B.R (bk + 8 + k) 0 = some v) ∧ (f (pr + 4) k = nI s ∧ B.F (bk + 8 + k) 1 = nI s) ∧ (B.F (bk + 8 + k) 2 = nI fi ∧ B.F (bk + 8 + k) 3 = nI en ∧ fi ≤ en ∧ en ≤ ls.length) ∧ (f (pr + 5) k = nI (rst bt L q0 (ls.take fi)).1 ∧ f (pr + 6) k = nI (rst bt L q0 (ls.take en)).1) ∧ (fi = en ∨ tyl ((ls.take en).drop fi) [] = some [true])
/-- the reference's plan f at the token B.i holds what the class's book holds; ls is the code so far -/
def EI (bt : Nat → Int32) (L bk pr : Nat) (rl : Nat → Int32) (c0 : C3) (q0 : C4) (B : CBk) (f : SM) (ls : List (Nat × Nat)) : Prop := (f pr 2 = nI B.ns ∧ f pr 0 = B.F bk 0 ∧ f pr 1 = B.F bk 1 ∧ f pr 5 = nI B.no) ∧ (∀ k, k < B.ns → f (pr + 1) k = B.F (bk + 1) k ∧ f (pr + 2) k = B.F (bk + 2) k ∧ ∃ v, v < 4 ∧ f (pr + 1) k = nI v) ∧ (rc rl B.i = B.ns ∧ ∀ u, u < B.i → rl u = 1 → B.nm (rc rl u) = tw bt L u) ∧ (∀ k, k < B.no → EIo bt L bk pr B f ls q0 k) ∧ B.q = cstm bt L (f 290) c0 ls ∧ (∀ a, a ∈ ls → nmd a.1 → a.2 < B.i ∧ ∃ s, s < B.ns ∧ f 290 a.2 = nI s) ∧ ∀ a, a ∈ ls → a.1 = 45 → tsg bt L a.2 = 45
section PLN
variable {d L K E pr i j k n tok fu v t u ns no bk : Nat} {bt : Nat → Int32} {h : AH} {f f0 f' : SM} {x y z : Int32} {q q0 : C4} {c0 : C3} {rl : Nat → Int32} {b : Bool} {l m ls : List (Nat × Nat)} {nm : Nat → Int64} {T : Nat → Nat} {s s1 s2 : Int32 × Int32} {A A1 A2 : SM → Prop} {mn mn' : Nat → Int32} {B : CBk} {Ln : Nat} {xs : Nat → Int32} {F0 : SM} {J0 : Nat → Nat → Int64} {R0 : Nat → Nat → Option Nat}
theorem RFp.ad (F : RFp pr f0 f) : RFp pr f0 (adF pr ns f x y) := fun a j h1 h2 => by
  unfold adF
  split
  · rw [u2_ne (by omega), u2_ne (by omega), u2_ne (by omega)]; exact F a j h1 h2
  · exact F a j h1 h2
theorem EI.S (I : EI bt L bk pr rl c0 q0 B f ls) (h12 : B.ns < 12) (hb : bk = 208 ∨ bk = 260) (hp : 312 ≤ pr) (hr : RlL bt L rl B.i (B.i + 7)) (h2 : tsg bt L B.i = 2) (hk : 4 ≤ tsg bt L (B.i + 1 + 1 + 1) ∧ tsg bt L (B.i + 1 + 1 + 1) ≤ 7) : EI bt L bk pr rl c0 q0 (nxS bt L bk B (B.i + 7)) (adF pr B.ns f (nI (tsg bt L (B.i + 1 + 1 + 1) - 4)) (tw bt L (B.i + 1 + 1 + 1 + 1 + 1)).toInt32) ls := by
  obtain ⟨⟨i1, i2, i3, i4⟩, i5, ⟨i6, i7⟩, i8, i9, i10, i11⟩ := I
  unfold RlL at hr
  rw [if_pos h2] at hr
  obtain ⟨r0, r1, r2, r3, r4, r5, r6⟩ := hr
  have hF : ∀ a j, ¬ a = bk + 1 → ¬ a = bk + 2 → ¬ (a = bk ∧ j = 2) → (nxS bt L bk B (B.i + 7)).F a j = B.F a j := fun a j h1 h2 h3 => by
    show adF bk B.ns B.F _ _ a j = _
    unfold adF
    rw [if_pos h12, show u2 (u2 (u2 B.F (bk + 1) B.ns (nI (tsg bt L (B.i + 1 + 1 + 1) - 4))) (bk + 2) B.ns (tw bt L (B.i + 1 + 1 + 1 + 1 + 1)).toInt32) bk 2 (nI (B.ns + 1)) a j = u2 (u2 B.F (bk + 1) B.ns (nI (tsg bt L (B.i + 1 + 1 + 1) - 4))) (bk + 2) B.ns (tw bt L (B.i + 1 + 1 + 1 + 1 + 1)).toInt32 a j from if_neg h3, u2_ne h2, u2_ne h1]
  have hf : ∀ a j, ¬ a = pr + 1 → ¬ a = pr + 2 → ¬ (a = pr ∧ j = 2) → adF pr B.ns f (nI (tsg bt L (B.i + 1 + 1 + 1) - 4)) (tw bt L (B.i + 1 + 1 + 1 + 1 + 1)).toInt32 a j = f a j := fun a j h1 h2 h3 => by
    unfold adF
    rw [if_pos h12, show u2 (u2 (u2 f (pr + 1) B.ns (nI (tsg bt L (B.i + 1 + 1 + 1) - 4))) (pr + 2) B.ns (tw bt L (B.i + 1 + 1 + 1 + 1 + 1)).toInt32) pr 2 (nI (B.ns + 1)) a j = u2 (u2 f (pr + 1) B.ns (nI (tsg bt L (B.i + 1 + 1 + 1) - 4))) (pr + 2) B.ns (tw bt L (B.i + 1 + 1 + 1 + 1 + 1)).toInt32 a j from if_neg h3, u2_ne h2, u2_ne h1]
  have hns : (nxS bt L bk B (B.i + 7)).ns = B.ns + 1 := if_pos h12
  have h290 : adF pr B.ns f (nI (tsg bt L (B.i + 1 + 1 + 1) - 4)) (tw bt L (B.i + 1 + 1 + 1 + 1 + 1)).toInt32 290 = f 290 := funext (fun j => hf _ _ (by omega) (by omega) (by omega))
  refine ⟨⟨?_, ?_, ?_, ?_⟩, fun k hk9 => ?_, ⟨?_, fun u hu h1 => ?_⟩, fun k hk9 => ?_, ?_, fun a ha hn => ?_, i11⟩
  · rw [hns]
    unfold adF
    rw [if_pos h12]
    exact u2_eq
  · rw [hf _ _ (by omega) (by omega) (by omega), hF _ _ (by omega) (by omega) (by omega)]; exact i2
  · rw [hf _ _ (by omega) (by omega) (by omega), hF _ _ (by omega) (by omega) (by omega)]; exact i3
  · rw [hf _ _ (by omega) (by omega) (by omega)]; exact i4
  · rw [hns] at hk9
    have e1 : (nxS bt L bk B (B.i + 7)).F = u2 (u2 (u2 B.F (bk + 1) B.ns (nI (tsg bt L (B.i + 1 + 1 + 1) - 4))) (bk + 2) B.ns (tw bt L (B.i + 1 + 1 + 1 + 1 + 1)).toInt32) bk 2 (nI (B.ns + 1)) := if_pos h12
    have e2 : adF pr B.ns f (nI (tsg bt L (B.i + 1 + 1 + 1) - 4)) (tw bt L (B.i + 1 + 1 + 1 + 1 + 1)).toInt32 = u2 (u2 (u2 f (pr + 1) B.ns (nI (tsg bt L (B.i + 1 + 1 + 1) - 4))) (pr + 2) B.ns (tw bt L (B.i + 1 + 1 + 1 + 1 + 1)).toInt32) pr 2 (nI (B.ns + 1)) := if_pos h12
    rw [e1, e2, u2_ne (show ¬ pr + 1 = pr by omega), u2_ne (show ¬ pr + 1 = pr + 2 by omega), u2_ne (show ¬ bk + 1 = bk by omega), u2_ne (show ¬ bk + 1 = bk + 2 by omega), u2_ne (show ¬ pr + 2 = pr by omega), u2_ne (show ¬ bk + 2 = bk by omega)]
    by_cases e : k = B.ns
    · subst e
      rw [u2_eq, u2_eq, u2_eq, u2_eq]
      exact ⟨rfl, rfl, tsg bt L (B.i + 1 + 1 + 1) - 4, by omega, rfl⟩
    · rw [u2_ni e, u2_ni e, u2_ni e, u2_ni e, u2_ne (show ¬ pr + 2 = pr + 1 by omega), u2_ne (show ¬ bk + 2 = bk + 1 by omega)]
      exact i5 k (by omega)
  · show rc rl (B.i + 7) = _
    rw [hns, rc_no (u := B.i + 1 + 1 + 1 + 1 + 1 + 1) (by rw [r6]; decide), rc_no (u := B.i + 1 + 1 + 1 + 1 + 1) (by rw [r5]; decide), rc_no (u := B.i + 1 + 1 + 1 + 1) (by rw [r4]; decide), rc_no (u := B.i + 1 + 1 + 1) (by rw [r3]; decide), rc_no (u := B.i + 1 + 1) (by rw [r2]; decide), rc_one r1, rc_no (u := B.i) (by rw [r0]; decide), i6]
  · have hu : u < B.i + 7 := hu
    show adm B.ns B.nm (tw bt L (B.i + 1)) (rc rl u) = tw bt L u
    unfold adm
    rw [if_pos h12]
    by_cases e : u < B.i
    · have h3 : rc rl u < B.ns := by
        have := rc_one h1
        have h4 : rc rl (u + 1) ≤ rc rl B.i := rc_mono (by omega)
        omega
      rw [if_neg (by omega)]
      exact i7 u e h1
    · have e1 : u = B.i + 1 := by
        rcases (show u = B.i ∨ u = B.i + 1 ∨ u = B.i + 1 + 1 ∨ u = B.i + 1 + 1 + 1 ∨ u = B.i + 1 + 1 + 1 + 1 ∨ u = B.i + 1 + 1 + 1 + 1 + 1 ∨ u = B.i + 1 + 1 + 1 + 1 + 1 + 1 by omega) with c | c | c | c | c | c | c
        · rw [c, r0] at h1; exact absurd h1 (by decide)
        · exact c
        · rw [c, r2] at h1; exact absurd h1 (by decide)
        · rw [c, r3] at h1; exact absurd h1 (by decide)
        · rw [c, r4] at h1; exact absurd h1 (by decide)
        · rw [c, r5] at h1; exact absurd h1 (by decide)
        · rw [c, r6] at h1; exact absurd h1 (by decide)
      subst e1
      rw [rc_no (u := B.i) (by rw [r0]; decide), i6, if_pos rfl]
  · obtain ⟨v, s, fi, en, o1, o2, ⟨o3, o4⟩, ⟨o5, o6⟩, ⟨o7, o8, o9, o10⟩, ⟨o11, o12⟩, o13⟩ := i8 k hk9
    refine ⟨v, s, fi, en, o1, by rw [hns]; omega, ⟨?_, o4⟩, ⟨?_, ?_⟩, ⟨?_, ?_, o9, o10⟩, ⟨?_, ?_⟩, o13⟩
    · rw [hf _ _ (by omega) (by omega) (by omega)]; exact o3
    · rw [hf _ _ (by omega) (by omega) (by omega)]; exact o5
    · rw [hF _ _ (by omega) (by omega) (by omega)]; exact o6
    · rw [hF _ _ (by omega) (by omega) (by omega)]; exact o7
    · rw [hF _ _ (by omega) (by omega) (by omega)]; exact o8
    · rw [hf _ _ (by omega) (by omega) (by omega)]; exact o11
    · rw [hf _ _ (by omega) (by omega) (by omega)]; exact o12
  · rw [h290]; exact i9
  · obtain ⟨a1, s, a2, a3⟩ := i10 a ha hn
    exact ⟨by show a.2 < B.i + 7; omega, s, by rw [hns]; omega, by rw [h290]; exact a3⟩
theorem lnS_f (h : lnS T i = some (true, j, l)) : T (i + 1) = 44 ∧ (4 ≤ T (i + 1 + 1 + 1) ∧ T (i + 1 + 1 + 1) ≤ 7) ∧ T (i + 1 + 1 + 1 + 1 + 1) = 45 := by
  unfold lnS at h
  split at h
  · rename_i h1
    split at h
    · split at h
      · rename_i h3
        split at h
        · split at h
          · rename_i h5
            exact ⟨h1, h3, h5⟩
          · cases h
        · cases h
      · cases h
    · cases h
  · cases h
/-- a stray -/
theorem pass_S (by9 : byt bt L) (hN : RlN bt L K rl) (R : RPk pr h) (W : RB bt L K pr h f0) (hE : E ≤ K) (hb : bk = 208 ∨ bk = 260) (I : EI bt L bk pr rl c0 q0 B f ls) (h12 : B.ns ≤ 12) (hs : B.s = (0, -1)) (F : RFp pr f0 f) (h2 : tsg bt L B.i = 2) (hp : lnS (tsg bt L) B.i = some (true, j, l)) (hr : RlL bt L rl B.i j) (hjE : j ≤ E) (hd : 5 ≤ d) : PSt d E pr h f0 q rl B.i f j (nxS bt L bk B j).s (fun f' => RFp pr f0 f' ∧ EI bt L bk pr rl c0 q0 (nxS bt L bk B j) f' ls) := by
  obtain rfl := lnS_j hp
  obtain ⟨t1, t3, t5⟩ := lnS_f hp
  have hr0 := hr
  unfold RlL at hr
  rw [if_pos h2] at hr
  obtain ⟨r0, r1, r2, r3, r4, r5, r6⟩ := hr
  have hp9 := W.hp
  have W1 := F.rb W
  have hcn : rc rl (B.i + 1) = B.ns := (rc_no (u := B.i) (by rw [r0]; decide)).trans I.2.2.1.1
  have htl : tld bt L rl (B.i + 1) = sna B.ns B.nm (tw bt L (B.i + 1)) := tld_sna hcn (fun u hu h1 => by
    by_cases e : u = B.i
    · rw [e, r0] at h1; exact absurd h1 (by decide)
    · exact I.2.2.1.2 u (by omega) h1)
  show PSt d E pr h f0 q rl B.i f (B.i + 7) (erN bt L (B.i + 1 + 1 + 1 + 1 + 1) 0 30 (erS bt L B.ns B.nm (B.i + 1) B.s)) _
  rw [hs]
  refine PSt.seq (PSt.nil W1 hE (by omega) r0 hd) (Or.inl rfl) (fun z => absurd rfl z) (fun _ f' e => ?_)
  subst e
  unfold erS
  by_cases c1 : 0 ≤ sna B.ns B.nm (tw bt L (B.i + 1))
  · rw [if_pos c1, tel_0, erN_s (show ¬ (2 : Int32) = 0 by decide)]
    have n1 : ¬ tld bt L rl (B.i + 1) = -1 := by rw [htl]; exact fun z => ((sna_neg1 h12).1.mp z) c1
    exact PSt.er W1 W1 hE (by omega) (by decide) F (sy191_1a W1 R by9 hN I.1.1 h12 (by omega) t1 r1 n1 hd)
  · rw [if_neg c1]
    have n1 : tld bt L rl (B.i + 1) = -1 := by rw [htl]; exact (sna_neg1 h12).1.mpr c1
    by_cases c2 : B.ns < 12
    · rw [if_pos c2]
      have I2 := I.S c2 hb hp9 hr0 h2 t3
      have F2 : RFp pr f0 (adF pr B.ns f' (nI (tsg bt L (B.i + 1 + 1 + 1) - 4)) (tw bt L (B.i + 1 + 1 + 1 + 1 + 1)).toInt32) := F.ad
      generalize hg : adF pr B.ns f' (nI (tsg bt L (B.i + 1 + 1 + 1) - 4)) (tw bt L (B.i + 1 + 1 + 1 + 1 + 1)).toInt32 = f2 at I2 F2
      have W2 := F2.rb W
      have S := sy191_1c (tok := B.i + 1) (dep := 0) (q := q) W1 R by9 hN I.1.1 h12 (by omega : B.i + 1 + 4 ≤ K) t1 r1 t3 t5 n1 c2 hd
      have S : Mx d 191 [.ref 284, .int (nI (B.i + 1))] (HQ pr h f' (B.i + 1) 0 q rl) (some (.int 0)) (HQ pr h f2 (B.i + 1) 0 q rl) := hg ▸ S
      refine PSt.seq (PSt.ok W1 hE (by omega) S (A := fun f' => f' = f2) rfl) (Or.inl rfl) (fun z => absurd rfl z) (fun _ f3 e => ?_)
      subst e
      refine PSt.seq (PSt.nil W2 hE (by omega) r2 hd) (Or.inl rfl) (fun z => absurd rfl z) (fun _ f4 e => ?_)
      subst e
      refine PSt.seq (PSt.nil W2 hE (by omega) r3 hd) (Or.inl rfl) (fun z => absurd rfl z) (fun _ f5 e => ?_)
      subst e
      refine PSt.seq (PSt.nil W2 hE (by omega) r4 hd) (Or.inl rfl) (fun z => absurd rfl z) (fun _ f6 e => ?_)
      subst e
      have S7 := sy191_7 (tok := B.i + 1 + 1 + 1 + 1 + 1) (dep := 0) (q := q) W2 (by omega : B.i + 1 + 1 + 1 + 1 + 1 ≤ K) r5 t5 hd
      unfold erN
      by_cases c3 : (tw bt L (B.i + 1 + 1 + 1 + 1 + 1)).toInt32 < 0 ∨ 30 < (tw bt L (B.i + 1 + 1 + 1 + 1 + 1)).toInt32
      · rw [if_pos c3] at S7 ⊢
        rw [tel_0]
        exact PSt.er W2 W2 hE (by omega) (by decide) F2 S7
      · rw [if_neg c3] at S7 ⊢
        refine PSt.seq (PSt.ok W2 hE (by omega) S7 (A := fun f' => f' = f6) rfl) (Or.inl rfl) (fun z => absurd rfl z) (fun _ f7 e => ?_)
        subst e
        exact (PSt.nil W2 hE (by omega) r6 hd).mono (fun _ f8 e => by subst e; exact ⟨F2, I2⟩)
    · rw [if_neg c2, tel_0, erN_s (show ¬ (4 : Int32) = 0 by decide)]
      exact PSt.er W1 W1 hE (by omega) (by decide) F (sy191_1b W1 R by9 hN I.1.1 h12 (by omega) t1 r1 n1 (by omega) hd)
end PLN
