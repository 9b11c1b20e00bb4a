/-! THE CLASS IS TAUGHT A TEXT WITHOUT AN ERROR, whole. -/
section TCH1
variable {d Ln L K bk u i1 j n : Nat} {xs : Nat → Int32} {bt : Nat → Int32} {H : AH} {M : SM} {l l1 : List (Nat × Nat)} {Q : AO → AH → Prop} {P : CBk → Prop}
/-- what teach leaves -/
def T43 (Ln : Nat) (xs : Nat → Int32) (bt : Nat → Int32) (L K bk : Nat) (P : CBk → Prop) (H : AH) (o : AO) (h' : AH) : Prop := o = .inl (some (.int 0)) ∧ ∃ B' F J R Hn M1, P B' ∧ B'.s = (0, -1) ∧ Rd9 Ln xs (468 - bk) H (CBo bt L (468 - bk) H B') ∧ CBi Ln xs bt L K (468 - bk) H F J R B' ∧ (Hn ≤ 6 ∧ B'.F (468 - bk) 0 = nI Hn) ∧ dyO (468 - bk) B' ∧ BkP (468 - bk) B' ∧ h' = rg 232 14 (tcB (CBo bt L (468 - bk) H B') (-1) (468 - bk) bk) (itr m_come 12 0 M1) ∧ Bgn B'.ns Hn (B'.F (468 - bk + 1)) (B'.F (468 - bk + 2)) (B'.F (468 - bk) 1) M1
theorem tch80 (I : TH Ln xs bt L bk u M H) (hK : tEnd bt L K) (hp : begP (tsg bt L) 0 0 = some (true, i1, l)) (hp1 : begP (tsg bt L) 1 i1 = some (true, j, l1)) (HL : ∀ nm F J R, F (468 - bk) 0 = 3 → F (468 - bk) 1 = 20 → ∃ B', linR bt L (468 - bk) (9 * K + 10) 401 (bB0 bt L (468 - bk) nm F J R i1 j) = (true, B') ∧ B'.s = (0, -1) ∧ P B' ∧ BkP (468 - bk) B' ∧ (∃ Hn, Hn ≤ 6 ∧ B'.F (468 - bk) 0 = nI Hn) ∧ dyO (468 - bk) B') (hd : 181 ≤ d) : Md d 80 [.ref 200] H (T43 Ln xs bt L K bk P H) := by
  obtain ⟨d, rfl⟩ : ∃ e, d = e + 1 := ⟨d - 1, by omega⟩
  have P0 := I.pr0
  have T0 := I.tk
  obtain ⟨C, ⟨⟨k0, r0, r1⟩, r5, r6⟩, ⟨s6, s7, b8, b0⟩, ⟨⟨k1, k2, k3⟩, ⟨k4, k5, k6⟩, _⟩, ⟨v1, v2, hb⟩, _, ⟨t1, t2, t3, t4⟩, hM⟩ := I
  have hS : kd H 232 = (0, 3) := s6.1
  have bR : BkK (468 - bk) H := P0.2.2.1
  refine e80 ?_
  refine ok_aln0 a80_0 ?_
  refine ok_getR a80_1 k0 r1 ?_
  refine ok_aln0 a80_4 ?_
  refine ok_getR a80_5 k0 r0 ?_
  refine ok_aln0 a80_8 ?_
  refine ok_getIe a80_9 k0 t1 ?_
  refine ok_cli2 a80_12 (Or.inl rfl) k2 l4_0 (rd12 P0 hK T0 hp hp1 (by omega)) ?_
  intro o9 h9 Q9
  obtain ⟨nm, F, J, R, hC, ⟨f0, f1⟩, hQ⟩ := Q9
  obtain ⟨B', eL, es, hP, hkd, ⟨Hn9, h6, hH⟩, hdy⟩ := HL nm F J R f0 f1
  rw [eL] at hQ
  obtain ⟨rfl, rfl, CB, h46⟩ := hQ
  have D := rd9_of (i := B'.i) (sg := tsg bt L B'.i) (s := B'.s) (q := B'.q) CB.1 CB.2.2.1 hC
  have rr : ∀ i, rv (CBo bt L (468 - bk) H B') 200 i = rv H 200 i := fun i => D.2.2.1 200 i (by omega) (by omega) (by omega) (by omega) (by omega)
  have h0 : B'.s.1 = 0 := by rw [es]
  have hbb : 468 - bk = 208 ∨ 468 - bk = 260 := by omega
  show Ok _ 80 15 _ [.int B'.s.1] _ _
  rw [h0]
  have r22 : rv (CBo bt L (468 - bk) H B') 202 2 = some (468 - bk) := (D.2.2.1 202 2 (by omega) (by omega) (by omega) (by omega) (by omega)).trans v2
  have hiv : ∀ a i, 202 ≤ a → iv (tcB (CBo bt L (468 - bk) H B') (-1) (468 - bk) bk) a i = iv (CBo bt L (468 - bk) H B') a i := fun a i ha => (u2_ne (by omega)).trans (u2_ne (by omega))
  have hrv : ∀ a i, 203 ≤ a → rv (tcB (CBo bt L (468 - bk) H B') (-1) (468 - bk) bk) a i = rv (CBo bt L (468 - bk) H B') a i := fun a i ha => (u2_ne (by omega)).trans (u2_ne (by omega))
  have S9 : ShK 232 (tcB (CBo bt L (468 - bk) H B') (-1) (468 - bk) bk) := ShK.tr s6 rfl (fun a i h1 h2 => (hrv a i (by omega)).trans (D.2.2.1 a i (by omega) (by omega) (by omega) (by omega) (by omega)))
  have B9 : BkK (468 - bk) (tcB (CBo bt L (468 - bk) H B') (-1) (468 - bk) bk) := BkK.tr bR rfl (fun a i h1 => (hrv a i (by omega)).trans (D.2.2.1 a i (by omega) (by omega) (by omega) (by omega) (by omega)))
  have n9 := CB.1.n12
  have e2 : iv (tcB (CBo bt L (468 - bk) H B') (-1) (468 - bk) bk) (468 - bk) 2 = nI B'.ns := (hiv _ _ (by omega)).trans ((HR_b hbb (by decide)).trans CB.1.nsf)
  have e0 : iv (tcB (CBo bt L (468 - bk) H B') (-1) (468 - bk) bk) (468 - bk) 0 = nI Hn9 := (hiv _ _ (by omega)).trans ((HR_b hbb (by decide)).trans hH)
  have e1 : iv (tcB (CBo bt L (468 - bk) H B') (-1) (468 - bk) bk) (468 - bk) 1 = B'.F (468 - bk) 1 := (hiv _ _ (by omega)).trans (HR_b hbb (by decide))
  have ek : iv (tcB (CBo bt L (468 - bk) H B') (-1) (468 - bk) bk) (468 - bk + 1) = B'.F (468 - bk + 1) := funext (fun i => (hiv _ _ (by omega)).trans (HR_o (by omega) (by omega) (by omega)))
  have ed : iv (tcB (CBo bt L (468 - bk) H B') (-1) (468 - bk) bk) (468 - bk + 2) = B'.F (468 - bk + 2) := funext (fun i => (hiv _ _ (by omega)).trans (HR_o (by omega) (by omega) (by omega)))
  have M9 := sp36 (d := d) (M := M) (n := B'.ns) S9 B9 (by omega) e2 n9 (fun i hi => by
    obtain ⟨v, v1, v2⟩ := hkd i hi
    rw [ek, v2]
    exact nI_4 v1) (by omega)
  have hM9 : rg 232 14 (tcB (CBo bt L (468 - bk) H B') (-1) (468 - bk) bk) M = tcB (CBo bt L (468 - bk) H B') (-1) (468 - bk) bk := by
    refine Eq.trans (rg_congr (R' := fun i j => iv (tcB (CBo bt L (468 - bk) H B') (-1) (468 - bk) bk) (232 + i) j) (fun i h j => ?_)) (rg_self 232 14 _)
    rw [hiv _ _ (by omega), show iv (CBo bt L (468 - bk) H B') (232 + i) j = iv H (232 + i) j from D.2.2.2.1 _ _ (by omega) (by omega)]
    have := congrArg (fun z => iv z (232 + i) j) hM
    exact (rg_iv h).symm.trans this
  rw [hM9] at M9
  refine c80s (d := d) (ep := -1) (bk := 468 - bk) (b2 := bk) k0 k2 ((rr 1).trans r1) (congrArg Prod.snd es) ((rr 4).trans v1) r22 ((rr 2).trans r5) hS M9 (by omega) ⟨rfl, B', F, J, R, Hn9, _, hP, es, D, CB, ⟨h6, hH⟩, hdy, hkd, rfl, ?_⟩
  rw [ek, ed]
  exact bgn_of ⟨e2, e0, e1, nI_0.symm, rfl⟩
end TCH1
