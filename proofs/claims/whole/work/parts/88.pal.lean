/-! THE PASS OVER ALL LINES. -/
section PAL
variable {d L K E pr i j k n tok fu v t u ns no bk : Nat} {bt : Nat → Int32} {h : AH} {f f0 f' : SM} {x y z : Int32} {q q0 : C4} {c0 : C3} {rl : Nat → Int32} {b : Bool} {l m ls : List (Nat × Nat)} {nm : Nat → Int64} {T : Nat → Nat} {s s1 s2 : Int32 × Int32} {A A1 A2 : SM → Prop} {mn mn' : Nat → Int32} {B : CBk}
theorem lnO_t (hT : TE (tsg bt L) K) (hi : i < K) (hp : lnO (tsg bt L) fu i = some (true, j, l)) : (∀ a, a ∈ l → okE (tsg bt L) (i + 1 + 1) j a) ∧ (l = [] ∨ tyl l [] = some [true]) := by
  have lt : ∀ {t v : Nat}, t ≤ K → tsg bt L t = v → ¬ v = 46 → ¬ v = 47 → t < K := fun a b c d => hT.lt a b c d
  obtain ⟨h1, h2⟩ := lnO_s hp
  have k1 := lt (by omega) h1 (by decide) (by decide)
  rcases h2 with ⟨h2, j0, rfl, h3, h4⟩ | ⟨h2, rfl, rfl⟩
  · have k2 := lt (by omega) h2 (by decide) (by decide)
    have e := pgT hT fu 0 _ 0 _ _ (by omega) h4
    exact ⟨fun a ha => (e.1 a ha).w (by omega) (by omega), Or.inr (e.2 [])⟩
  · exact ⟨all_nil, Or.inl rfl⟩
theorem erO_0 (h : no < 16) : erO bt L no t s = s := if_pos h
/-- an order -/
theorem pass_O (by9 : byt bt L) (hN : RlN bt L K rl) (R : RPk pr h) (W : RB bt L K pr h f0) (hE : E ≤ K) (hb : bk = 208 ∨ bk = 260) (hc0 : c0.1 = 0) (I : EI bt L bk pr rl c0 q0 B f ls) (h12 : B.ns ≤ 12) (h16 : B.no ≤ 16) (hs : B.s = (0, -1)) (F : RFp pr f0 f) (h2 : ¬ tsg bt L B.i = 2) (hv : isV (tsg bt L B.i) = true) (hp : lnO (tsg bt L) fu B.i = some (true, j, l)) (hiK : B.i < K) (hr : RlL bt L rl B.i j) (hjE : j ≤ E) (g5 : B.no < 16 → f (pr + 5) B.no = nI (rst bt L q0 ls).1) (g6 : B.no < 16 → f (pr + 6) B.no = nI (rst bt L q0 (ls ++ l)).1) (hd : 5 ≤ d) : PSt d E pr h f0 q rl B.i f j (nxO bt L bk B j l).s (fun f' => RFp pr f0 f' ∧ EI bt L bk pr rl c0 q0 (nxO bt L bk B j l) f' (ls ++ l)) := by
  have hp9 := W.hp
  have hT := W.hte
  have hj3 := (lnO_b hT hiK hp).2.1 rfl
  obtain ⟨t1, -⟩ := lnO_s hp
  obtain ⟨hl, hty⟩ := lnO_t hT hiK hp
  have hr0 := hr
  unfold RlL at hr
  rw [if_neg h2] at hr
  obtain ⟨r0, r1, r2⟩ := hr
  have W1 := F.rb W
  have nrole : ∀ u, B.i ≤ u → u < B.i + 1 + 1 → ¬ rl u = 1 := fun u h1 h2 => by
    rcases (show u = B.i ∨ u = B.i + 1 by omega) with e | e
    · rw [e, r0]; decide
    · rw [e, r1]; decide
  have hc1 : rc rl (B.i + 1) = B.ns := (rc_no (nrole _ (by omega) (by omega))).trans I.2.2.1.1
  have hc2 : rc rl (B.i + 1 + 1) = B.ns := (rc_no (nrole _ (by omega) (by omega))).trans hc1
  have hn2 : ∀ u, u < B.i + 1 + 1 → rl u = 1 → B.nm (rc rl u) = tw bt L u := fun u hu h1 => by
    by_cases e : u < B.i
    · exact I.2.2.1.2 u e h1
    · exact absurd h1 (nrole u (by omega) hu)
  have htl : tld bt L rl (B.i + 1) = sna B.ns B.nm (tw bt L (B.i + 1)) := tld_sna hc1 (fun u hu h1 => hn2 u (by omega) h1)
  show PSt d E pr h f0 q rl B.i f j (er bt L B.ns B.nm (B.i + 1) j (erO bt L B.no B.i B.s)) _
  rw [hs]
  have hkof : kof (tsg bt L B.i) = nI (tsg bt L B.i) := by rcases isV_or hv with e | e | e | e | e <;> (rw [e]; rfl)
  by_cases c16 : B.no < 16
  · rw [erO_0 c16, er_cons (show B.i + 1 < j by omega)]
    have S2 := sy191_2b (tok := B.i) (dep := 0) (q := q) W1 R I.1.2.2.2 h16 (by omega) r0 c16 hd
    rw [hkof] at S2
    have F2 : RFp pr f0 (ndF pr B.no f (nI (tsg bt L B.i))) := fun a j h1 h2 => by
      unfold ndF
      rw [u2_ne (by omega), u2_ne (by omega)]
      exact F a j h1 h2
    have W2 := F2.rb W
    refine PSt.seq (PSt.ok W1 hE (by omega) S2 (A := fun f' => f' = ndF pr B.no f (nI (tsg bt L B.i))) rfl) (Or.inl rfl) (fun z => absurd rfl z) (fun _ f' e => ?_)
    subst e
    have S3 := sy191_3 (tok := B.i + 1) (dep := 0) (q := q) (no := B.no + 1) W2 R by9 hN (by unfold ndF; exact u2_eq) (by omega) (by omega) (by omega) r1 t1 hd
    rw [htl] at S3
    have F3 : RFp pr f0 (ofF pr (B.no + 1) (B.i + 1) (ndF pr B.no f (nI (tsg bt L B.i))) (sna B.ns B.nm (tw bt L (B.i + 1)))) := fun a j h1 h2 => by
      unfold ofF
      rw [u2_ne (by omega), u2_ne (by omega)]
      exact F2 a j h1 h2
    have W3 := F3.rb W
    by_cases c0' : 0 ≤ sna B.ns B.nm (tw bt L (B.i + 1))
    · have n1 : ¬ sna B.ns B.nm (tw bt L (B.i + 1)) = -1 := fun z => ((sna_neg1 h12).1.mp z) c0'
      rw [if_neg n1] at S3
      have e1 : er1 bt L B.ns B.nm (B.i + 1) (0, -1) = (0, -1) := by
        unfold er1
        rw [if_pos t1, if_pos c0']
      rw [e1]
      refine PSt.seq (PSt.ok W2 hE (by omega) S3 (A := fun f' => f' = ofF pr (B.no + 1) (B.i + 1) (ndF pr B.no f (nI (tsg bt L B.i))) (sna B.ns B.nm (tw bt L (B.i + 1)))) rfl) (Or.inl rfl) (fun z => absurd rfl z) (fun _ f' e => ?_)
      subst e
      have tp := tst_pass (q := q) by9 hN R W hE h12 hd (j - (B.i + 1 + 1)) (B.i + 1 + 1) _ F3 (by omega) (fun t h1 h2 => r2 t h1 (by omega)) hc2 hn2
      rw [show B.i + 1 + 1 + (j - (B.i + 1 + 1)) = j by omega] at tp
      refine tp.mono (fun _ f' A3 => ⟨fun a k h1 h2 => (A3.1 a k h1).trans (F3 a k h1 h2), ?_⟩)
      exact I.O h12 c16 hb hp9 hc0 (by omega) h2 hv hr0 hl hty (g5 c16) (g6 c16) c0' A3
    · have n1 : sna B.ns B.nm (tw bt L (B.i + 1)) = -1 := (sna_neg1 h12).1.mpr c0'
      rw [if_pos n1] at S3
      have e1 : er1 bt L B.ns B.nm (B.i + 1) (0, -1) = (3, nI (tq bt L (B.i + 1))) := by
        unfold er1
        rw [if_pos t1, if_neg c0', tel_0]
      rw [e1, er_s (show ¬ ((3 : Int32), nI (tq bt L (B.i + 1))).1 = 0 by show ¬ (3 : Int32) = 0; decide)]
      exact PSt.er W2 W3 hE (by omega) (by decide) F3 S3
  · have e16 : B.no = 16 := by omega
    have e1 : erO bt L B.no B.i (0, -1) = (4, nI (tq bt L B.i)) := by
      unfold erO
      rw [if_neg c16, tel_0]
    rw [e1, er_s (show ¬ ((4 : Int32), nI (tq bt L B.i)).1 = 0 by show ¬ (4 : Int32) = 0; decide)]
    exact PSt.er W1 W1 hE (by omega) (by decide) F (sy191_2a W1 I.1.2.2.2 h16 (by omega) r0 e16 hd)
/-- first errors stick -/
theorem nxL_st (h : ¬ B.s.1 = 0) : (nxL bt L bk B j l).s = B.s := by
  unfold nxL
  split
  · show erN bt L _ 0 30 (erS bt L B.ns B.nm _ B.s) = B.s
    rw [erS_s h, erN_s h]
  · show er bt L B.ns B.nm _ j (erO bt L B.no B.i B.s) = B.s
    rw [erO_s h, er_s h]
theorem linR_st : ∀ m (B B' : CBk), ¬ B.s.1 = 0 → linR bt L bk fu m B = (true, B') → B'.s = B.s
  | 0, B, B', h, e => by cases e
  | m + 1, B, B', h, e => by
    unfold linR at e
    split at e
    · cases e; rfl
    · split at e
      · exact (linR_st m _ B' (by rw [nxL_st h]; exact h) e).trans (nxL_st h)
      · cases e
      · cases e
theorem erS_ok {t : Nat} : s_ok (erS bt L ns nm t (0, -1)) := by
  unfold erS
  split
  · rw [tel_0]; exact Or.inr (by show ¬ (2 : Int32) = 0; decide)
  · split
    · exact Or.inl rfl
    · rw [tel_0]; exact Or.inr (by show ¬ (4 : Int32) = 0; decide)
theorem erN_ok {t : Nat} {lo hi : Int32} (h : s_ok s) : s_ok (erN bt L t lo hi s) := by
  rcases h with rfl | h
  · unfold erN
    split
    · rw [tel_0]; exact Or.inr (by show ¬ (5 : Int32) = 0; decide)
    · exact Or.inl rfl
  · rw [erN_s h]; exact Or.inr h
theorem erO_ok {t : Nat} : s_ok (erO bt L no t (0, -1)) := by
  unfold erO
  split
  · exact Or.inl rfl
  · rw [tel_0]; exact Or.inr (by show ¬ (4 : Int32) = 0; decide)
theorem ern_ok : ∀ (m i : Nat) (s : Int32 × Int32), s_ok s → s_ok (ern bt L ns nm m i s)
  | 0, _, _, h => h
  | m + 1, i, s, h => ern_ok m (i + 1) _ (by
    rcases h with rfl | h
    · exact er1_ok
    · rw [er1_s h]; exact Or.inr h)
theorem nxL_ok (h : B.s = (0, -1)) : s_ok (nxL bt L bk B j l).s := by
  unfold nxL
  split
  · show s_ok (erN bt L _ 0 30 (erS bt L B.ns B.nm _ B.s))
    rw [h]
    exact erN_ok erS_ok
  · show s_ok (er bt L B.ns B.nm _ j (erO bt L B.no B.i B.s))
    rw [h]
    exact ern_ok _ _ _ erO_ok
end PAL
