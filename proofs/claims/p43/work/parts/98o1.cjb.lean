/-! THE CLASS BEHIND teach: ready for calls. -/
section CJB1
variable {d Ln L K bk u n no H co t i k j q v w z f : Nat} {xs : Nat → Int32} {bt : Nat → Int32} {H9 h h' : AH} {M M0 M1 : SM} {kf df od ok ov ow : Nat → Nat} {oz : Nat → Int32} {x : Int32} {cv : Nat → Nat} {cz kI dI : Nat → Int32} {B : CBk} {o : AO}
theorem HR_v (hb : bk = 208 ∨ bk = 260) {F : SM} {J : Nat → Nat → Int64} {R : Nat → Nat → Option Nat} {po w sg c : Nat} {e ep : Int32} {cv : Nat → Option Nat} {ca : Nat → Int32} {j : Nat} : rv (HR bt L bk h F J R i po w sg e ep c cv ca) (bk + 5) j = cv j := by
  show rdR bk R sg cv (bk + 5) j = _
  unfold rdR
  rw [if_neg (by omega), if_pos rfl]
theorem HR_a (hb : bk = 208 ∨ bk = 260) {F : SM} {J : Nat → Nat → Int64} {R : Nat → Nat → Option Nat} {po w sg c : Nat} {e ep : Int32} {cv : Nat → Option Nat} {ca : Nat → Int32} {j : Nat} : iv (HR bt L bk h F J R i po w sg e ep c cv ca) (bk + 6) j = ca j := by
  show rdF bt L bk F i po e ep c ca (bk + 6) j = _
  unfold rdF
  rw [if_neg (by omega), if_neg (by omega), if_neg (by omega), if_neg (by omega), if_neg (by omega), if_pos rfl]
/-- the orders, as the book holds them -/
theorem obs_bko (S : OBs bk n H co no kf df od ok ov ow oz B) (OR : ORok n no od ok ov ow oz) (hb : bk = 208 ∨ bk = 260) (hno : no ≤ 16) (h5 : B.F bk 5 = nI B.no) (hq : B.q.1 ≤ 400) : BkO bk no (fun i => (B.q.2.1 i).getD 0) B.q.2.2 (fun k => 9 + od k) ok (fiS ov ow oz) (fun k => fiS ov ow oz (k + 1)) (CBo bt L bk h B) := by
  have n12 := S.2.1.1
  obtain ⟨⟨s1, s2, s3, s4⟩, s5, s6, s7, s8, s9⟩ := S
  refine ⟨(HR_b hb (by decide)).trans (h5.trans (congrArg nI s3)), hno, fun k hk => ?_⟩
  obtain ⟨⟨a1, a2, a3, a4⟩, a5⟩ := OR k hk
  obtain ⟨r0, r1, r2, r3⟩ := s8 k hk
  have le := fiS_le (ov := ov) (ow := ow) (oz := oz) (q := no) (no - (k + 1)) (k + 1) (by omega)
  have some_of : ∀ i, i < fiS ov ow oz (k + 1) → B.q.2.1 i = some ((B.q.2.1 i).getD 0) := fun i hi => by
    obtain ⟨k', a, h1, h2, h3⟩ := fiS_in (k + 1) i hi
    rw [h3, (s9 k' (by omega) a h2).1]
    rfl
  refine ⟨⟨(HR_r (by omega) (by omega)).trans r0, (show 9 ≤ 9 + od k by omega), (show 9 + od k < 14 by omega)⟩, ⟨(HR_o (by omega) (by omega) (by omega)).trans r1, by omega⟩, (HR_o (by omega) (by omega) (by omega)).trans r2, (HR_o (by omega) (by omega) (by omega)).trans r3, Nat.le_add_right _ _, (show fiS ov ow oz (k + 1) ≤ 400 by omega), ?_, fun i hi => (HR_v hb).trans (some_of i hi), fun i hi => HR_a hb⟩
  rw [show fiS ov ow oz (k + 1) - fiS ov ow oz k = (cdA (ov k) (ow k) (oz k).toNatClampNeg).length from Nat.add_sub_cancel_left ..]
  exact wf_v a3 (fun a ha => by
    obtain ⟨h1, h2⟩ := s9 k hk a ha
    exact ⟨by show (B.q.2.1 _).getD 0 = _; rw [h1]; rfl, h2⟩)
/-- behind teach: the class's state, and what it left alone -/
theorem t43_cj (I : TH Ln xs bt L bk u M0 H9) (hN : 284 ≤ nx H9) (T : T43 Ln xs bt L K bk (OBs (468 - bk) n H co no kf df od ok ov ow oz) H9 o h') (hK : K ≤ 400) (KD : KDok n kf df) (OR : ORok n no od ok ov ow oz) (hno : no ≤ 16) (h6 : H ≤ 6) : o = .inl (some (.int 0)) ∧ Gr Wc 0 0 H9 (h'.1, h'.2.1, H9.2.2.1, h'.2.2.2) ∧ ∃ M1, CJ Ln xs n H no 0 od ok ov ow oz h' (itr m_come n 0 M1) ∧ PM n H 0 (itr m_come n 0 M1) ∧ (MI n H 0 M1 ∧ MC n M1 ∧ MZ n 0 M1 ∧ MK n M1) ∧ Bgn n H (fun i => nI (kf i)) (fun i => nI (df i)) (nI co) M1 := by
  obtain ⟨rfl, B, F, J, R, Hn, M1, S, es, D, CB, ⟨h6n, hHn⟩, hdy, hkd, he, Bg⟩ := T
  refine ⟨rfl, ?_⟩
  have n12 := S.2.1.1
  have q1 : B.q.1 ≤ 400 := by have h1 : B.q.1 ≤ B.i := CB.2.2.2.2.2; have h2 : B.i ≤ K := CB.2.2.2.1; omega
  have O9 := obs_bko (bt := bt) (L := L) (h := H9) S OR (by have := I.2.2.2.2.1.2.2; omega) hno CB.2.1.1 q1
  have E9 := S.oe OR
  obtain ⟨C, ⟨⟨k0, r0, r1⟩, r5, r6⟩, ⟨s6, s7, b8, b0⟩, ⟨⟨k1, k2, k3⟩, ⟨k4, k5, k6⟩, _⟩, ⟨v1, v2, hb⟩, _, ⟨t1, t2, t3, t4⟩, hM⟩ := I
  have hbb : 468 - bk = 208 ∨ 468 - bk = 260 := by omega
  have eH : Hn = H := by
    have e := hHn.symm.trans S.2.2.2.1.1
    exact nI_eqn (by omega) (by omega) e
  subst eH
  have en : B.ns = n := S.1.2.1
  have Bg2 : Bgn n Hn (fun i => nI (kf i)) (fun i => nI (df i)) (nI co) M1 := by
    obtain ⟨⟨b0, b1, b2, b3, b4⟩, b5⟩ := Bg
    rw [en] at b0 b5
    refine ⟨⟨b0, b1, b2.trans S.2.2.2.1.2, b3, b4⟩, fun i hi j hj h4 => ?_⟩
    rw [b5 i hi j hj h4]
    by_cases c : i < n
    · rw [if_pos c, if_pos c, if_pos c, if_pos c, (S.2.2.1 i c).1, (S.2.2.1 i c).2]
    · rw [if_neg c, if_neg c, if_neg c, if_neg c]
  obtain ⟨P9, A9, m12⟩ := bgn_all (kf := kf) (df := df) Bg2 n12 h6 (fun i _ => ⟨rfl, rfl⟩) KD
  rw [m12] at he
  obtain ⟨d1, d2, d3, d4⟩ := D.1
  obtain ⟨-, dC, dr, di, du⟩ := D
  obtain ⟨h9, h9e⟩ : ∃ h9, CBo bt L (468 - bk) H9 B = h9 := ⟨_, rfl⟩
  rw [h9e] at d1 d2 d3 d4 dC dr di du O9 he
  obtain ⟨MB, MBe⟩ : ∃ MB, itr m_come n 0 M1 = MB := ⟨_, rfl⟩
  rw [MBe] at he P9
  have ck : ∀ a, kd h' a = kd H9 a := fun a => by rw [he]; exact congrFun d1 a
  have cr : ∀ a j, ¬ (a = 202 ∧ j = 2) → ¬ (a = 200 ∧ j = 4) → rv h' a j = rv h9 a j := fun a j h1 h2 => by
    rw [he]
    show u2 (u2 (rv h9) 202 2 (some bk)) 200 4 (some (468 - bk)) a j = _
    unfold u2
    rw [if_neg h2, if_neg h1]
  have ci : ∀ a j, ¬ (232 ≤ a ∧ a < 246) → ¬ a = 200 → iv h' a j = iv h9 a j := fun a j h1 h2 => by
    rw [he, rg_out (by omega)]
    show u2 (u2 (iv h9) 200 6 (-1)) 200 5 0 a j = _
    unfold u2
    rw [if_neg (fun z => h2 z.1), if_neg (fun z => h2 z.1)]
  have cr4 : rv h' 200 4 = some (468 - bk) := by
    rw [he]
    exact (show u2 (u2 (rv h9) 202 2 (some bk)) 200 4 (some (468 - bk)) 200 4 = _ from u2_eq)
  have cx : nx h' = nx H9 ∧ nc h' = nc H9 ∧ ns h' = ns H9 := by
    rw [he]; exact ⟨d2, d3, d4⟩
  have cM : rg 232 14 h' MB = h' := by rw [he, rg_rg]
  have CAx : am_CA Ln xs h' := fun a ha => by
    have h2 : a < 200 := ha
    exact ⟨(ck a).trans ((congrFun d1 a).symm.trans (dC a ha).1), fun j => ⟨(ci _ _ (by omega) (by omega)).trans ((dC a ha).2 j).1, (cr a j (by omega) (by omega)).trans ((dC a ha).2 j).2⟩⟩
  have rr : ∀ a j, a < 202 ∨ (206 ≤ a ∧ (a < 468 - bk + 5 ∨ 468 - bk + 24 ≤ a)) → ¬ (a = 200 ∧ j = 4) → rv h' a j = rv H9 a j := fun a j h1 h2 => (cr a j (by omega) h2).trans (dr a j (by omega) (by omega) (by omega) (by omega) (by omega))
  have G9 : Gr Wc 0 0 H9 (h'.1, h'.2.1, H9.2.2.1, h'.2.2.2) := by
    refine ⟨⟨Nat.le_of_eq cx.1.symm, Nat.le_of_eq cx.2.1, Nat.le_of_eq cx.2.2⟩, fun a _ => ⟨ck a, fun w => ⟨fun j => ?_, fun j => ?_, fun j => rfl⟩⟩⟩
    · unfold Wc at w
      exact (ci a j (by omega) (by omega)).trans (di a j (by omega) (by omega))
    · unfold Wc at w
      exact rr a j (by omega) (by omega)
  refine ⟨G9, M1, ?_, by rw [MBe]; exact P9, A9, Bg2⟩
  rw [MBe]
  have sk : ShK 232 h' := s6.t2 (fun a _ _ => ck a) (fun a j h1 h2 => rr a j (by omega) (by omega))
  have tk : ShK 246 h' := s7.t2 (fun a _ _ => ck a) (fun a j h1 h2 => rr a j (by omega) (by omega))
  have bo : BkK (468 - bk) h' := by
    rcases hb with rfl | rfl
    · exact b0.t2 (fun a _ _ => ck a) (fun a j h1 => rr a j (by omega) (by omega))
    · exact b8.t2 (fun a _ _ => ck a) (fun a j h1 => rr a j (by omega) (by omega))
  have e200 : ∀ j, ¬ j = 4 → rv h' 200 j = rv H9 200 j := fun j hj => rr 200 j (by omega) (by omega)
  refine ⟨468 - bk, _, _, _, _, ⟨⟨⟨⟨(ck 200).trans k0, (e200 0 (by decide)).trans r0, (e200 1 (by decide)).trans r1⟩, ⟨(e200 2 (by decide)).trans r5, (e200 3 (by decide)).trans r6, cr4⟩, sk, tk, bo, hbb⟩, CA.kco CAx, ⟨P9.2.2.2.2.2.1, n12⟩, P9.2.2.2.2.2.2, h6⟩, ?_, E9, cM⟩, ⟨by rw [cx.1]; exact hN, CAx⟩, ⟨P9.1, P9.2.1, P9.2.2.1, P9.2.2.2.1, P9.2.2.2.2.1⟩, fun k hk => ⟨(OR k hk).1.1, (OR k hk).1.2.1⟩⟩
  obtain ⟨o1, o2, o3⟩ := O9
  refine ⟨(ci _ _ (by omega) (by omega)).trans o1, o2, fun k hk => ?_⟩
  obtain ⟨⟨a1, a2⟩, ⟨a3, a4⟩, a5, a6, a7, a8, a9, a10, a11⟩ := o3 k hk
  exact ⟨⟨(cr _ _ (by omega) (by omega)).trans a1, a2⟩, ⟨(ci _ _ (by omega) (by omega)).trans a3, a4⟩, (ci _ _ (by omega) (by omega)).trans a5, (ci _ _ (by omega) (by omega)).trans a6, a7, a8, a9, fun i hi => (cr _ _ (by omega) (by omega)).trans (a10 i hi), fun i hi => (ci _ _ (by omega) (by omega)).trans (a11 i hi)⟩
end CJB1
