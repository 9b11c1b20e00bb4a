/-! THE PASS OVER AN ORDER'S LINE. -/
section PLO
variable {d L K E pr i j k n tok fu v t u ns no bk : Nat} {bt : Nat → Int32} {h : AH} {f f0 f' : SM} {x y z : Int32} {q q0 : C4} {c0 : C3} {rl : Nat → Int32} {b : Bool} {l m ls : List (Nat × Nat)} {nm : Nat → Int64} {T : Nat → Nat} {s s1 s2 : Int32 × Int32} {A A1 A2 : SM → Prop} {mn mn' : Nat → Int32} {B : CBk}
theorem cstm_len : ∀ (l : List (Nat × Nat)) (q : C3), (cstm bt L mn q l).1 = q.1 + l.length
  | [], q => rfl
  | a :: l, q => by
    have := cstm_len l (cst1 q a.1 (resm bt L mn a.1 a.2))
    show (cstm bt L mn (cst1 q a.1 (resm bt L mn a.1 a.2)) l).1 = _
    rw [this]
    show q.1 + 1 + l.length = q.1 + (l.length + 1)
    omega
/-- the order's line, read without a fault -/
theorem EI.O (I : EI bt L bk pr rl c0 q0 B f ls) (h12 : B.ns ≤ 12) (h16 : B.no < 16) (hb : bk = 208 ∨ bk = 260) (hp : 312 ≤ pr) (hc0 : c0.1 = 0) (hij : B.i + 3 ≤ j) (h2 : ¬ tsg bt L B.i = 2) (hv : isV (tsg bt L B.i) = true) (hr : RlL bt L rl B.i j) (hl : ∀ a, a ∈ l → okE (tsg bt L) (B.i + 1 + 1) j a) (hty : l = [] ∨ tyl l [] = some [true]) (g5 : f (pr + 5) B.no = nI (rst bt L q0 ls).1) (g6 : f (pr + 6) B.no = nI (rst bt L q0 (ls ++ l)).1) (s0 : 0 ≤ sna B.ns B.nm (tw bt L (B.i + 1))) (A3 : TsA bt L B.ns B.nm (B.i + 1 + 1) j (ofF pr (B.no + 1) (B.i + 1) (ndF pr B.no f (nI (tsg bt L B.i))) (sna B.ns B.nm (tw bt L (B.i + 1)))) f') : EI bt L bk pr rl c0 q0 (nxO bt L bk B j l) f' (ls ++ l) := by
  obtain ⟨⟨i1, i2, i3, i4⟩, i5, ⟨i6, i7⟩, i8, i9, i10, i11⟩ := I
  obtain ⟨a1, a2, a3⟩ := A3
  unfold RlL at hr
  rw [if_neg h2] at hr
  obtain ⟨r0, r1, r2⟩ := hr
  obtain ⟨s, hs, es⟩ := (sna_neg1 h12).2 s0
  have nrole : ∀ u, B.i ≤ u → u < j → ¬ rl u = 1 := fun u h1 h2 => by
    by_cases e : u = B.i
    · rw [e, r0]; decide
    · by_cases e2 : u = B.i + 1
      · rw [e2, r1]; decide
      · rw [r2 u (by omega) h2]; split <;> decide
  have hf : ∀ a k, ¬ a = 290 → ¬ (a = pr + 3 ∧ k = B.no) → ¬ (a = pr + 4 ∧ k = B.no) → ¬ (a = pr ∧ k = 5) → f' a k = f a k := fun a k h1 h2 h3 h4 => by
    rw [a1 a k h1]
    unfold ofF ndF
    rw [Nat.add_sub_cancel, show u2 (u2 (u2 (u2 f (pr + 3) B.no (nI (tsg bt L B.i))) pr 5 (nI (B.no + 1))) 290 (B.i + 1) (sna B.ns B.nm (tw bt L (B.i + 1)))) (pr + 4) B.no (sna B.ns B.nm (tw bt L (B.i + 1))) a k = u2 (u2 (u2 f (pr + 3) B.no (nI (tsg bt L B.i))) pr 5 (nI (B.no + 1))) 290 (B.i + 1) (sna B.ns B.nm (tw bt L (B.i + 1))) a k from if_neg h3, u2_ne h1, show u2 (u2 f (pr + 3) B.no (nI (tsg bt L B.i))) pr 5 (nI (B.no + 1)) a k = u2 f (pr + 3) B.no (nI (tsg bt L B.i)) a k from if_neg h4, show u2 f (pr + 3) B.no (nI (tsg bt L B.i)) a k = f a k from if_neg h2]
  have hf0 : ∀ t, t < B.i → f' 290 t = f 290 t := fun t ht => by
    rw [a2 t (by omega)]
    unfold ofF ndF
    rw [u2_ne (by omega), u2_ni (by omega), u2_ne (by omega), u2_ne (by omega)]
  have hno : (nxO bt L bk B j l).no = B.no + 1 := if_pos h16
  have hF : (nxO bt L bk B j l).F = u2 (u2 (u2 (u2 B.F (bk + 8 + B.no) 1 (sna B.ns B.nm (tw bt L (B.i + 1)))) (bk + 8 + B.no) 2 (nI B.q.1)) (bk + 8 + B.no) 3 (nI (cst bt L B.ns B.nm B.q l).1)) bk 5 (nI (B.no + 1)) := if_pos h16
  have hR : (nxO bt L bk B j l).R = u2 B.R (bk + 8 + B.no) 0 (some (tsg bt L B.i)) := if_pos h16
  have hFo : ∀ a k, ¬ a = bk + 8 + B.no → ¬ (a = bk ∧ k = 5) → (nxO bt L bk B j l).F a k = B.F a k := fun a k h1 h2 => by
    rw [hF, show u2 (u2 (u2 (u2 B.F (bk + 8 + B.no) 1 (sna B.ns B.nm (tw bt L (B.i + 1)))) (bk + 8 + B.no) 2 (nI B.q.1)) (bk + 8 + B.no) 3 (nI (cst bt L B.ns B.nm B.q l).1)) bk 5 (nI (B.no + 1)) a k = u2 (u2 (u2 B.F (bk + 8 + B.no) 1 (sna B.ns B.nm (tw bt L (B.i + 1)))) (bk + 8 + B.no) 2 (nI B.q.1)) (bk + 8 + B.no) 3 (nI (cst bt L B.ns B.nm B.q l).1) a k from if_neg h2, u2_ne h1, u2_ne h1, u2_ne h1]
  have hq1 : B.q.1 = ls.length := by rw [i9, cstm_len, hc0, Nat.zero_add]
  have hq2 : (cst bt L B.ns B.nm B.q l).1 = (ls ++ l).length := by rw [cst_len, hq1, List.length_append]
  have hnew : ∀ a, a ∈ l → nmd a.1 → f' 290 a.2 = sna B.ns B.nm (tw bt L a.2) ∧ 0 ≤ sna B.ns B.nm (tw bt L a.2) ∧ a.2 < j := fun a ha hn => by
    obtain ⟨x1, x2, x3⟩ := (hl a ha).2 hn
    exact ⟨(a3 a.2 x2 x3 x1).1, (a3 a.2 x2 x3 x1).2, x3⟩
  refine ⟨⟨?_, ?_, ?_, ?_⟩, fun k hk => ?_, ⟨?_, fun u hu h1 => ?_⟩, fun k hk => ?_, ?_, fun a ha hn => ?_, fun a ha h45 => ?_⟩
  · rw [hf _ _ (by omega) (by omega) (by omega) (by omega)]; exact i1
  · rw [hf _ _ (by omega) (by omega) (by omega) (by omega), hFo _ _ (by omega) (by omega)]; exact i2
  · rw [hf _ _ (by omega) (by omega) (by omega) (by omega), hFo _ _ (by omega) (by omega)]; exact i3
  · rw [hno, a1 _ _ (by omega)]
    unfold ofF ndF
    rw [u2_ne (by omega), u2_ne (by omega), u2_eq]
  · have hk : k < B.ns := hk
    rw [hf _ _ (by omega) (by omega) (by omega) (by omega), hf _ _ (by omega) (by omega) (by omega) (by omega), hFo _ _ (by omega) (by omega), hFo _ _ (by omega) (by omega)]
    exact i5 k hk
  · show rc rl j = B.ns
    have := rc_gap (rl := rl) (a := B.i) (j - B.i) (fun u h1 h2 => nrole u h1 (by omega))
    rw [show B.i + (j - B.i) = j by omega] at this
    rw [this, i6]
  · have hu : u < j := hu
    by_cases e : u < B.i
    · exact i7 u e h1
    · exact absurd h1 (nrole u (by omega) hu)
  · rw [hno] at hk
    by_cases e : k = B.no
    · subst e
      refine ⟨tsg bt L B.i, s, ls.length, (ls ++ l).length, hv, hs, ⟨?_, ?_⟩, ⟨?_, ?_⟩, ⟨?_, ?_, by rw [List.length_append]; omega, Nat.le_refl _⟩, ⟨?_, ?_⟩, ?_⟩
      · rw [a1 _ _ (by omega)]
        unfold ofF ndF
        rw [u2_ne (by omega), u2_ne (by omega), u2_ne (by omega), u2_eq]
      · rw [hR, u2_eq]
      · rw [a1 _ _ (by omega)]
        unfold ofF
        rw [Nat.add_sub_cancel, u2_eq, es]
      · rw [hF, u2_ne (by omega), u2_ni (by decide), u2_ni (by decide), u2_eq, es]
      · rw [hF, u2_ne (by omega), u2_ni (by decide), u2_eq, hq1]
      · rw [hF, u2_ne (by omega), u2_eq, hq2]
      · rw [hf _ _ (by omega) (by omega) (by omega) (by omega), g5, List.take_left]
      · rw [hf _ _ (by omega) (by omega) (by omega) (by omega), g6, List.take_length]
      · rcases hty with e | e
        · subst e
          exact Or.inl (by rw [List.append_nil])
        · exact Or.inr (by rw [List.take_length, List.drop_left]; exact e)
    · obtain ⟨v, s, fi, en, o1, o2, ⟨o3, o4⟩, ⟨o5, o6⟩, ⟨o7, o8, o9, o10⟩, ⟨o11, o12⟩, o13⟩ := i8 k (by omega)
      refine ⟨v, s, fi, en, o1, o2, ⟨?_, ?_⟩, ⟨?_, ?_⟩, ⟨?_, ?_, o9, by rw [List.length_append]; omega⟩, ⟨?_, ?_⟩, ?_⟩
      · rw [hf _ _ (by omega) (by omega) (by omega) (by omega)]; exact o3
      · rw [hR, u2_ne (by omega)]; exact o4
      · rw [hf _ _ (by omega) (by omega) (by omega) (by omega)]; exact o5
      · rw [hFo _ _ (by omega) (by omega)]; exact o6
      · rw [hFo _ _ (by omega) (by omega)]; exact o7
      · rw [hFo _ _ (by omega) (by omega)]; exact o8
      · rw [hf _ _ (by omega) (by omega) (by omega) (by omega), List.take_append_of_le_length (by omega)]; exact o11
      · rw [hf _ _ (by omega) (by omega) (by omega) (by omega), List.take_append_of_le_length (by omega)]; exact o12
      · rw [List.take_append_of_le_length (by omega)]; exact o13
  · show cst bt L B.ns B.nm B.q l = cstm bt L (f' 290) c0 (ls ++ l)
    rw [cstm_app, i9, cstm_cong (mn := f 290) (mn' := f' 290) ls c0 (fun a ha hn => (hf0 a.2 (i10 a ha hn).1).symm)]
    exact cst_cstm l _ (fun a ha hn => (hnew a ha hn).1)
  · rcases List.mem_append.mp ha with e | e
    · obtain ⟨x1, s9, x2, x3⟩ := i10 a e hn
      exact ⟨by show a.2 < j; omega, s9, x2, by rw [hf0 _ x1]; exact x3⟩
    · obtain ⟨x1, x2, x3⟩ := hnew a e hn
      obtain ⟨s9, x4, x5⟩ := (sna_neg1 h12).2 x2
      exact ⟨x3, s9, x4, x1.trans x5⟩
  · rcases List.mem_append.mp ha with e | e
    · exact i11 a e h45
    · exact (hl a e).1 h45
end PLO
