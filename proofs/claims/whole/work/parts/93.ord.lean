/-! THE ORDERS OF BOTH SIDES, out of one relation. -/
def e_ov (pr : Nat) (f : SM) (k : Nat) : Nat := (f (pr + 3) k).toNatClampNeg
def e_os (pr : Nat) (f : SM) (k : Nat) : Nat := (f (pr + 4) k).toNatClampNeg
def e_fi (bk : Nat) (F : SM) (k : Nat) : Nat := (F (bk + 8 + k) 2).toNatClampNeg
def e_en (bk : Nat) (F : SM) (k : Nat) : Nat := (F (bk + 8 + k) 3).toNatClampNeg
section ORD
variable {d L K E pr i j k n tok fu v t u ns no bk : Nat} {bt : Nat → Int32} {h : AH} {f f0 f' : SM} {x y z : Int32} {q q0 : C4} {c0 : C3} {rl : Nat → Int32} {b : Bool} {l m ls : List (Nat × Nat)} {T : Nat → Nat} {B : CBk}
theorem isV_lt {v : Nat} (h : isV v = true) : 9 ≤ v ∧ v < 14 := by
  have := isV_or h
  omega
theorem EI.at (I : EI bt L bk pr rl c0 q0 B f ls) (hl : ls.length ≤ 400) (hk : k < B.no) (h12 : B.ns ≤ 12) : isV (e_ov pr f k) = true ∧ e_os pr f k < B.ns ∧ (f (pr + 3) k = nI (e_ov pr f k) ∧ B.R (bk + 8 + k) 0 = some (e_ov pr f k)) ∧ (f (pr + 4) k = nI (e_os pr f k) ∧ B.F (bk + 8 + k) 1 = nI (e_os pr f k)) ∧ (B.F (bk + 8 + k) 2 = nI (e_fi bk B.F k) ∧ B.F (bk + 8 + k) 3 = nI (e_en bk B.F k) ∧ e_fi bk B.F k ≤ e_en bk B.F k ∧ e_en bk B.F k ≤ ls.length) ∧ (f (pr + 5) k = nI (rst bt L q0 (ls.take (e_fi bk B.F k))).1 ∧ f (pr + 6) k = nI (rst bt L q0 (ls.take (e_en bk B.F k))).1) ∧ (e_fi bk B.F k = e_en bk B.F k ∨ tya (cvl ls) (e_en bk B.F k - e_fi bk B.F k) (e_fi bk B.F k) [] = some [true]) := by
  obtain ⟨v, s, fi, en, o1, o2, ⟨o3, o4⟩, ⟨o5, o6⟩, ⟨o7, o8, o9, o10⟩, ⟨o11, o12⟩, o13⟩ := I.2.2.2.1 k hk
  have hv := isV_lt o1
  have e1 : e_ov pr f k = v := by unfold e_ov; rw [o3, nI_clamp (by omega)]
  have e2 : e_os pr f k = s := by unfold e_os; rw [o5, nI_clamp (by omega)]
  have e3 : e_fi bk B.F k = fi := by unfold e_fi; rw [o7, nI_clamp (by omega)]
  have e4 : e_en bk B.F k = en := by unfold e_en; rw [o8, nI_clamp (by omega)]
  rw [e1, e2, e3, e4]
  refine ⟨o1, o2, ⟨o3, o4⟩, ⟨o5, o6⟩, ⟨o7, o8, o9, o10⟩, ⟨o11, o12⟩, ?_⟩
  rcases o13 with e | e
  · exact Or.inl e
  · refine Or.inr ?_
    rw [tya_tyl _ _ _ (by omega), ← List.drop_take]
    exact e
theorem HR_v (hb : bk = 208 ∨ bk = 260) {F : SM} {J : Nat → Nat → Int64} {R : Nat → Nat → Option Nat} {po w sg c : Nat} {e ep : Int32} {cv : Nat → Option Nat} {ca : Nat → Int32} {j : Nat} : rv (HR bt L bk h F J R i po w sg e ep c cv ca) (bk + 5) j = cv j := by
  show rdR bk R sg cv (bk + 5) j = cv j
  unfold rdR
  rw [if_neg (by omega), if_pos rfl]
theorem HR_a (hb : bk = 208 ∨ bk = 260) {F : SM} {J : Nat → Nat → Int64} {R : Nat → Nat → Option Nat} {po w sg c : Nat} {e ep : Int32} {cv : Nat → Option Nat} {ca : Nat → Int32} {j : Nat} : iv (HR bt L bk h F J R i po w sg e ep c cv ca) (bk + 6) j = ca j := by
  show rdF bt L bk F i po e ep c ca (bk + 6) j = ca j
  unfold rdF
  rw [if_neg (by omega), if_neg (by omega), if_neg (by omega), if_neg (by omega), if_neg (by omega), if_pos rfl]
/-- the class's orders -/
theorem EI.bko (I : EI bt L bk pr rl c0 q0 B f ls) (hno : B.F bk 5 = nI B.no) (h16 : B.no ≤ 16) (h12 : B.ns ≤ 12) (hb : bk = 208 ∨ bk = 260) (hc0 : c0.1 = 0) (hl : ls.length ≤ 400) : BkO bk B.no (cvl ls) (czl bt L (f 290) ls) (e_ov pr f) (e_os pr f) (e_fi bk B.F) (e_en bk B.F) (CBo bt L bk h B) := by
  refine ⟨(HR_b hb (by decide)).trans hno, h16, fun k hk => ?_⟩
  obtain ⟨o1, o2, ⟨o3, o4⟩, ⟨o5, o6⟩, ⟨o7, o8, o9, o10⟩, ⟨o11, o12⟩, o13⟩ := I.at hl hk h12
  have hq := I.2.2.2.2.1
  refine ⟨⟨(HR_r (by omega) (by omega)).trans o4, isV_lt o1⟩, ⟨(HR_o (by omega) (by omega) (by omega)).trans o6, by omega⟩, (HR_o (by omega) (by omega) (by omega)).trans o7, (HR_o (by omega) (by omega) (by omega)).trans o8, o9, by omega, ?_, fun i hi => ?_, fun i hi => ?_⟩
  · rcases o13 with e | e
    · rw [e, Nat.sub_self]; trivial
    · exact wf_ty _ _ [] (by show 0 + _ ≤ 400; omega) e
  · refine (HR_v hb).trans ?_
    have := (cstm_at (bt := bt) (L := L) (mn := f 290) ls c0 i (by omega)).1
    rw [hc0, Nat.zero_add] at this
    rw [hq]
    exact this
  · refine (HR_a hb).trans ?_
    have := (cstm_at (bt := bt) (L := L) (mn := f 290) ls c0 i (by omega)).2
    rw [hc0, Nat.zero_add] at this
    rw [hq]
    exact this
theorem rst_take (h1 : i ≤ j) : (rst bt L q0 (ls.take i)).1 ≤ (rst bt L q0 (ls.take j)).1 := by
  obtain ⟨c, rfl⟩ : ∃ c, j = i + c := ⟨j - i, by omega⟩
  rw [List.take_add, rst_app]
  exact (rst_k (bt := bt) (L := L) _ _).1.1
/-- the reference's orders -/
theorem EI.ror (I : EI bt L bk pr rl c0 q0 B f ls) (hp : 312 ≤ pr) (h16 : B.no ≤ 16) (h12 : B.ns ≤ 12) (hl : ls.length ≤ 400) (hq8 : (rst bt L q0 ls).1 ≤ 800) : ROr pr B.ns B.no (cvl ls) (czl bt L (f 290) ls) (e_ov pr f) (e_os pr f) (e_fi bk B.F) (e_en bk B.F) (rhF pr f tok 0 (rsm bt L (f 290) q0 ls).1 (rsm bt L (f 290) q0 ls).2.1 (rsm bt L (f 290) q0 ls).2.2.1 (rsm bt L (f 290) q0 ls).2.2.2 rl) := by
  have hb : ∀ a j, pr < a → a < pr + 7 → rhF pr f tok 0 (rsm bt L (f 290) q0 ls).1 (rsm bt L (f 290) q0 ls).2.1 (rsm bt L (f 290) q0 ls).2.2.1 (rsm bt L (f 290) q0 ls).2.2.2 rl a j = f a j := fun a j h1 h2 => by
    unfold rhF
    rw [if_neg (by omega), if_neg (by omega), if_neg (by omega), if_neg (by omega), if_neg (by omega), if_neg (by omega), if_neg (by omega)]
  refine ⟨?_, h16, fun k hk => ?_⟩
  · have : rhF pr f tok 0 (rsm bt L (f 290) q0 ls).1 (rsm bt L (f 290) q0 ls).2.1 (rsm bt L (f 290) q0 ls).2.2.1 (rsm bt L (f 290) q0 ls).2.2.2 rl pr 5 = f pr 5 := by
      unfold rhF
      rw [if_neg (by omega), if_neg (by omega), if_neg (by omega), if_neg (by omega), if_neg (by omega), if_neg (by omega), if_neg (by omega)]
    exact this.trans I.1.2.2.2
  · obtain ⟨o1, o2, ⟨o3, o4⟩, ⟨o5, o6⟩, ⟨o7, o8, o9, o10⟩, ⟨o11, o12⟩, o13⟩ := I.at hl hk h12
    refine ⟨⟨(hb _ _ (by omega) (by omega)).trans o3, isV_lt o1⟩, ⟨(hb _ _ (by omega) (by omega)).trans o5, o2⟩, _, _, (hb _ _ (by omega) (by omega)).trans o11, (hb _ _ (by omega) (by omega)).trans o12, ?_, rst_take o9, by omega, ?_, ?_⟩
    · have := rst_take (bt := bt) (L := L) (q0 := q0) (ls := ls) o10
      rw [List.take_length] at this
      omega
    · have h9 := RCd_rsm (p := pr) (n := B.ns) (f := rhF pr f tok 0 (rsm bt L (f 290) q0 ls).1 (rsm bt L (f 290) q0 ls).2.1 (rsm bt L (f 290) q0 ls).2.2.1 (rsm bt L (f 290) q0 ls).2.2.2 rl) (bt := bt) (L := L) (mn := f 290) (q0 := q0) (ls := ls) (fun j _ => by
        unfold rhF
        rw [if_neg (by omega), if_neg (by omega), if_neg (by omega), if_neg (by omega), if_pos rfl]) (fun a ha hn => (I.2.2.2.2.2.1 a ha hn).2) I.2.2.2.2.2.2 (e_en bk B.F k - e_fi bk B.F k) (e_fi bk B.F k) (by omega)
      rw [show e_fi bk B.F k + (e_en bk B.F k - e_fi bk B.F k) = e_en bk B.F k by omega, rsm_len (ls.take (e_fi bk B.F k)) q0 q0 rfl, rsm_len (ls.take (e_en bk B.F k)) q0 q0 rfl] at h9
      exact h9
    · rcases o13 with e | e
      · exact Or.inl (by omega)
      · exact Or.inr e
end ORD
