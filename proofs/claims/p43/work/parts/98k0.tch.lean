/-! THE CLASS IS TAUGHT A TEXT WITHOUT AN ERROR. -/
section TCH
variable {d Ln L K bk u i1 j n : Nat} {xs : Nat → Int32} {bt : Nat → Int32} {H : AH} {M : SM} {l l1 : List (Nat × Nat)} {Q : AO → AH → Prop}
/-- the class with a tape of L bytes bt -/
def TH (Ln : Nat) (xs : Nat → Int32) (bt : Nat → Int32) (L bk u : Nat) (M : SM) (H : AH) : Prop := am_CA Ln xs H ∧ ((kd H 200 = (0, 6) ∧ rv H 200 0 = some 201 ∧ rv H 200 1 = some 202) ∧ rv H 200 2 = some 232 ∧ rv H 200 3 = some 246) ∧ (ShK 232 H ∧ ShK 246 H ∧ BkK 208 H ∧ BkK 260 H) ∧ ((kd H 201 = (3, 2000) ∧ kd H 202 = (0, 1) ∧ kd H 203 = (0, 5)) ∧ (kd H 204 = (4, 401) ∧ kd H 205 = (1, 401) ∧ kd H 206 = (2, 401)) ∧ rv H 202 1 = some 203 ∧ rv H 203 0 = some 204 ∧ rv H 203 1 = some 205 ∧ rv H 203 2 = some 206) ∧ (rv H 200 4 = some bk ∧ rv H 202 2 = some (468 - bk) ∧ (bk = 208 ∨ bk = 260)) ∧ (iv H (468 - bk) 2 = nI u ∧ u ≤ 12) ∧ (iv H 200 5 = nI L ∧ L ≤ 2000 ∧ (∀ i, i < L → iv H 201 i &&& 255 = bt i) ∧ ∀ i, L ≤ i → bt i = -1) ∧ rg 232 14 H M = H
theorem TH.pr0 (I : TH Ln xs bt L bk u M H) : PR0 (468 - bk) u H (iv H) (jv H) (rv H) := by
  obtain ⟨C, ⟨⟨_, _⟩, _⟩, ⟨_, _, b8, b0⟩, ⟨⟨_, k2, k3⟩, ⟨k4, k5, k6⟩, r1, r2, r3, r4⟩, ⟨_, v2, hb⟩, ⟨u1, u2⟩, _⟩ := I
  refine ⟨⟨k2, k3, k4, k5, k6⟩, ⟨r1, v2, r2, r3, r4⟩, ?_, by omega, u1, u2⟩
  rcases hb with rfl | rfl
  · exact b0
  · exact b8
theorem TH.tk (I : TH Ln xs bt L bk u M H) : Tk Ln xs L bt H (u2 (iv H) 203 5 (nI L)) (jv H) (u2 (rv H) 203 4 (some 201)) := by
  obtain ⟨C, _, _, ⟨⟨k1, k2, k3⟩, ⟨k4, k5, k6⟩, r1, r2, r3, r4⟩, _, _, ⟨t1, t3, t4, t5⟩, _⟩ := I
  refine ⟨fun a ha => ?_, ⟨k3, k4, k5, k6, k1⟩, ⟨(u2_ni (by decide)).trans r2, (u2_ni (by decide)).trans r3, (u2_ni (by decide)).trans r4, u2_eq⟩, ⟨u2_eq, t3⟩, fun i hi => ?_, t5⟩
  · have h2 : a < 200 := ha
    exact ⟨(C a ha).1, fun j => ⟨(u2_ne (by omega)).trans ((C a ha).2 j).1, (u2_ne (by omega)).trans ((C a ha).2 j).2⟩⟩
  · rw [u2_ne (by decide)]
    exact t4 i hi
/-- the reader before the first line behind the beginning -/
def bB0 (bt : Nat → Int32) (L bk : Nat) (nm : Nat → Int64) (F : SM) (J : Nat → Nat → Int64) (R : Nat → Nat → Option Nat) (i1 j : Nat) : CBk := (j, bgE bt L 1 i1 0 99 (bgE bt L 0 0 1 6 (0, -1)), 0, 0, nm, bgF bt L bk 1 i1 (bgF bt L bk 0 0 F), J, R, (0, R (bk + 5), F (bk + 6)))
theorem rd12 (P0 : PR0 bk u H (iv H) (jv H) (rv H)) (hK : tEnd bt L K) (T : Tk Ln xs L bt H (u2 (iv H) 203 5 (nI L)) (jv H) (u2 (rv H) 203 4 (some 201))) (hp : begP (tsg bt L) 0 0 = some (true, i1, l)) (hp1 : begP (tsg bt L) 1 i1 = some (true, j, l1)) (hd : 180 ≤ d) : Md d 12 [.ref 202, .ref 201, .int (nI L)] H (fun o h' => ∃ nm Fb Jb Rb, CBs bk H Fb Rb ∧ (Fb bk 0 = 3 ∧ Fb bk 1 = 20) ∧ RdPo Ln xs bt L K bk H Fb Jb Rb (linR bt L bk (9 * K + 10) 401 (bB0 bt L bk nm Fb Jb Rb i1 j)) o h') := by
  obtain ⟨d, rfl⟩ : ∃ e, d = e + 1 := ⟨d - 1, by omega⟩
  have hb : bk = 208 ∨ bk = 260 := P0.2.2.2.1
  refine e12 (r12a (h := H) (F := iv H) (J := jv H) (R := rv H) P0 hK T (by omega) (fun F' J' R' P' TF => ?_))
  have Pb := P'.r0
  rw [r0_HR hb]
  have hB : CBs bk H (gtF bt L (r0F bk F')) (u2 R' 202 5 (some (tsg bt L 0))) := by
    refine ⟨fun a j h1 h2 => ?_, fun a j h1 h2 h3 => ?_⟩
    · unfold gtF r0F clF
      rw [u2_ne (by omega), u2_ne (by omega), u2_ne (by omega), u2_ne (by omega), u2_ne h2, u2_ne h2, u2_ne h2, u2_ne h2, u2_ne h2]
      exact TF.1 a j (by omega) (by omega)
    · exact (show u2 R' 202 5 _ a j = R' a j from if_neg h1).trans (TF.2.2 a j h2 h3)
  obtain ⟨v0, v1, v5⟩ := r0F_v (bt := bt) (L := L) (F := F') hb
  generalize gtF bt L (r0F bk F') = Fb at Pb hB v0 v1 v5 ⊢
  generalize u2 R' 202 5 (some (tsg bt L 0)) = Rb at Pb hB ⊢
  generalize u2 J' 202 7 (tw bt L 0) = Jb at Pb ⊢
  have Fr : BFr bk Fb Fb Jb Jb Rb Rb := ⟨fun _ _ _ => rfl, fun _ _ _ => rfl, fun _ _ _ => rfl⟩
  have M9 := r12t (d := d) (x := nI L) (q := (0, Rb (bk + 5), Fb (bk + 6))) (fu := 9 * K + 10) Pb v5 (Nat.zero_le _) Fr rfl hp hp1 (Nat.le_refl _) (by omega)
  exact M9.mono (fun o h' q9 => ⟨_, Fb, Jb, Rb, hB, ⟨v0, v1⟩, q9⟩)
end TCH
