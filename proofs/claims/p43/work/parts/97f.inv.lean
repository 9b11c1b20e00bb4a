/-! FRAMES of heaps (of parts 97f, 97p, 97q of whole what speaks of no reference). -/
section FRI
variable {bk N b c p : Nat} {H H1 H2 : AH} {M M1 T M' : SM} {q : Nat → Int32}
def Lo (N : Nat) (H H1 : AH) : Prop := ∀ a, a < N → kd H1 a = kd H a ∧ ∀ j, rv H1 a j = rv H a j
theorem Lo.rf : Lo N H H := fun _ _ => ⟨rfl, fun _ => rfl⟩
theorem Lo.trans (a : Lo N H H1) (b : Lo N H1 H2) : Lo N H H2 := fun q hq => ⟨(b q hq).1.trans (a q hq).1, fun j => ((b q hq).2 j).trans ((a q hq).2 j)⟩
theorem Lo.mono {N' : Nat} (a : Lo N H H1) (h : N' ≤ N) : Lo N' H H1 := fun q hq => a q (Nat.lt_of_lt_of_le hq h)
theorem ShK.lo (S : ShK b H) (hb : b + 14 ≤ N) (e : Lo N H H1) : ShK b H1 := ⟨(e _ (by omega)).1.trans S.1, ((e _ (by omega)).2 _).trans S.2.1, (e _ (by omega)).1.trans S.2.2.1, fun i hi => ⟨((e _ (by omega)).2 _).trans (S.2.2.2.1 i hi).1, (e _ (by omega)).1.trans (S.2.2.2.1 i hi).2⟩, S.2.2.2.2⟩
theorem BkK.lo (S : BkK b H) (hb : b + 24 ≤ N) (e : Lo N H H1) : BkK b H1 := by
  obtain ⟨⟨s1, s2⟩, ⟨s3, s4⟩, ⟨s5, s6⟩, ⟨s7, s8⟩, ⟨s9, s10⟩, ⟨s11, s12⟩, ⟨s13, s14⟩, ⟨s15, s16⟩, s17⟩ := S
  exact ⟨⟨(e _ (by omega)).1.trans s1, s2⟩, ⟨((e _ (by omega)).2 _).trans s3, (e _ (by omega)).1.trans s4⟩, ⟨((e _ (by omega)).2 _).trans s5, (e _ (by omega)).1.trans s6⟩, ⟨((e _ (by omega)).2 _).trans s7, (e _ (by omega)).1.trans s8⟩, ⟨((e _ (by omega)).2 _).trans s9, (e _ (by omega)).1.trans s10⟩, ⟨((e _ (by omega)).2 _).trans s11, (e _ (by omega)).1.trans s12⟩, ⟨((e _ (by omega)).2 _).trans s13, (e _ (by omega)).1.trans s14⟩, ⟨((e _ (by omega)).2 _).trans s15, (e _ (by omega)).1.trans s16⟩, fun i hi => ⟨((e _ (by omega)).2 _).trans (s17 i hi).1, (e _ (by omega)).1.trans (s17 i hi).2⟩⟩
def SKa (H : AH) : Prop := ((kd H 200 = (0, 6) ∧ rv H 200 0 = some 201 ∧ rv H 200 1 = some 202) ∧ rv H 200 2 = some 232 ∧ rv H 200 3 = some 246) ∧ (ShK 232 H ∧ ShK 246 H ∧ BkK 208 H ∧ BkK 260 H) ∧ ((kd H 201 = (3, 2000) ∧ kd H 202 = (0, 1) ∧ kd H 203 = (0, 5)) ∧ (kd H 204 = (4, 401) ∧ kd H 205 = (1, 401) ∧ kd H 206 = (2, 401)) ∧ rv H 202 1 = some 203 ∧ rv H 203 0 = some 204 ∧ rv H 203 1 = some 205 ∧ rv H 203 2 = some 206) ∧ kd H 311 = (2, 1)
theorem SKa.lo (S : SKa H) (hN : 312 ≤ N) (e : Lo N H H1) : SKa H1 := by
  obtain ⟨⟨⟨s1, s2, s3⟩, s4, s5⟩, ⟨s6, s7, s8, s9⟩, ⟨⟨t1, t2, t3⟩, ⟨t4, t5, t6⟩, t7, t8, t9, t10⟩, t11⟩ := S
  exact ⟨⟨⟨(e _ (by omega)).1.trans s1, ((e _ (by omega)).2 _).trans s2, ((e _ (by omega)).2 _).trans s3⟩, ((e _ (by omega)).2 _).trans s4, ((e _ (by omega)).2 _).trans s5⟩, ⟨s6.lo (by omega) e, s7.lo (by omega) e, s8.lo (by omega) e, s9.lo (by omega) e⟩, ⟨⟨(e _ (by omega)).1.trans t1, (e _ (by omega)).1.trans t2, (e _ (by omega)).1.trans t3⟩, ⟨(e _ (by omega)).1.trans t4, (e _ (by omega)).1.trans t5, (e _ (by omega)).1.trans t6⟩, ((e _ (by omega)).2 _).trans t7, ((e _ (by omega)).2 _).trans t8, ((e _ (by omega)).2 _).trans t9, ((e _ (by omega)).2 _).trans t10⟩, (e _ (by omega)).1.trans t11⟩
theorem CA.lo {Ln : Nat} {xs : Nat → Int32} (C : am_CA Ln xs H) (hN : 312 ≤ N) (e : Lo N H H1) (hi : ∀ a j, a < 200 → iv H1 a j = iv H a j) : am_CA Ln xs H1 := fun a ha => by
  have h2 : a < 200 := ha
  exact ⟨(e a (by omega)).1.trans (C a ha).1, fun j => ⟨(hi a j h2).trans ((C a ha).2 j).1, ((e a (by omega)).2 j).trans ((C a ha).2 j).2⟩⟩
def Fc (bk : Nat) (H H1 : AH) : Prop := (H1.1 = H.1 ∧ H1.2.2.2.1 = H.2.2.2.1) ∧ nx H1 = nx H ∧ (nc H1 ≤ nc H + 1 ∧ ns H1 ≤ ns H + 6) ∧ ∀ a j, ¬ (232 ≤ a ∧ a < 260) → ¬ a = bk + 7 → iv H1 a j = iv H a j
theorem Fc.lo (F : Fc bk H H1) : Lo (nx H) H H1 := fun a _ => ⟨congrFun F.1.1 a, fun j => congrFun (congrFun F.1.2 a) j⟩
theorem Fc.rgn : Fc bk H (rg 232 14 H M') := ⟨⟨rfl, rfl⟩, rfl, ⟨Nat.le_succ _, Nat.le_add_right _ _⟩, fun a j h1 h2 => rg_out (by omega)⟩
theorem Fc.rf : Fc bk H H := ⟨⟨rfl, rfl⟩, rfl, ⟨Nat.le_succ _, Nat.le_add_right _ _⟩, fun _ _ _ _ => rfl⟩
theorem Fc.bp : Fc bk H (bump H 1 6) := ⟨⟨rfl, rfl⟩, rfl, ⟨Nat.le_refl _, Nat.le_refl _⟩, fun _ _ _ _ => rfl⟩
theorem Fc.ht (hb : bk = 208 ∨ bk = 260) (hM : rg 232 14 H M = H) : Fc bk H (HT bk H M' T q) := ⟨⟨rfl, rfl⟩, rfl, ⟨Nat.le_succ _, Nat.le_add_right _ _⟩, fun a j h1 h2 => (rg_out (by omega)).trans ((rg_out (by omega)).trans (rg_out (by omega)))⟩
theorem ht_m (hb : bk = 208 ∨ bk = 260) : rg 232 14 (HT bk H M T q) M = HT bk H M T q := by rw [HT_s hb, rg_rg]
theorem ht_self (hb : bk = 208 ∨ bk = 260) (hM : rg 232 14 H M = H) : HT bk H M (fun i j => iv H (246 + i) j) (iv H (bk + 7)) = H := by
  unfold HT
  rw [hM, show rw1 (bk + 7) H (iv H (bk + 7)) = H from ?_, rg_self]
  refine (rg_congr (fun i hi j => ?_)).trans (rg_self (bk + 7) 1 H)
  rw [show i = 0 by omega, Nat.add_zero]
theorem ShK.tr {b : Nat} (S : ShK b H) (hk : H1.1 = H.1) (hr : ∀ a j, b ≤ a → a < b + 14 → rv H1 a j = rv H a j) : ShK b H1 := by
  have e : ∀ a, kd H1 a = kd H a := fun a => congrFun hk a
  exact ⟨(e _).trans S.1, (hr _ _ (by omega) (by omega)).trans S.2.1, (e _).trans S.2.2.1, fun i hi => ⟨(hr _ _ (by omega) (by omega)).trans (S.2.2.2.1 i hi).1, (e _).trans (S.2.2.2.1 i hi).2⟩, S.2.2.2.2⟩
theorem BkK.tr {b : Nat} (S : BkK b H) (hk : H1.1 = H.1) (hr : ∀ a j, a = b ∨ a = b + 3 → rv H1 a j = rv H a j) : BkK b H1 := by
  have e : ∀ a, kd H1 a = kd H a := fun a => congrFun hk a
  obtain ⟨⟨s1, s2⟩, ⟨s3, s4⟩, ⟨s5, s6⟩, ⟨s7, s8⟩, ⟨s9, s10⟩, ⟨s11, s12⟩, ⟨s13, s14⟩, ⟨s15, s16⟩, s17⟩ := S
  exact ⟨⟨(e _).trans s1, s2⟩, ⟨(hr _ _ (by omega)).trans s3, (e _).trans s4⟩, ⟨(hr _ _ (by omega)).trans s5, (e _).trans s6⟩, ⟨(hr _ _ (by omega)).trans s7, (e _).trans s8⟩, ⟨(hr _ _ (by omega)).trans s9, (e _).trans s10⟩, ⟨(hr _ _ (by omega)).trans s11, (e _).trans s12⟩, ⟨(hr _ _ (by omega)).trans s13, (e _).trans s14⟩, ⟨(hr _ _ (by omega)).trans s15, (e _).trans s16⟩, fun i hi => ⟨(hr _ _ (by omega)).trans (s17 i hi).1, (e _).trans (s17 i hi).2⟩⟩
theorem ShK.t2 {b : Nat} (S : ShK b H) (hk : ∀ a, b ≤ a → a < b + 14 → kd H1 a = kd H a) (hr : ∀ a j, b ≤ a → a < b + 14 → rv H1 a j = rv H a j) : ShK b H1 :=
  ⟨(hk _ (by omega) (by omega)).trans S.1, (hr _ _ (by omega) (by omega)).trans S.2.1, (hk _ (by omega) (by omega)).trans S.2.2.1, fun i hi => ⟨(hr _ _ (by omega) (by omega)).trans (S.2.2.2.1 i hi).1, (hk _ (by omega) (by omega)).trans (S.2.2.2.1 i hi).2⟩, S.2.2.2.2⟩
theorem BkK.t2 {b : Nat} (S : BkK b H) (hk : ∀ a, b ≤ a → a < b + 24 → kd H1 a = kd H a) (hr : ∀ a j, a = b ∨ a = b + 3 → rv H1 a j = rv H a j) : BkK b H1 := by
  obtain ⟨⟨s1, s2⟩, ⟨s3, s4⟩, ⟨s5, s6⟩, ⟨s7, s8⟩, ⟨s9, s10⟩, ⟨s11, s12⟩, ⟨s13, s14⟩, ⟨s15, s16⟩, s17⟩ := S
  exact ⟨⟨(hk _ (by omega) (by omega)).trans s1, s2⟩, ⟨(hr _ _ (by omega)).trans s3, (hk _ (by omega) (by omega)).trans s4⟩, ⟨(hr _ _ (by omega)).trans s5, (hk _ (by omega) (by omega)).trans s6⟩, ⟨(hr _ _ (by omega)).trans s7, (hk _ (by omega) (by omega)).trans s8⟩, ⟨(hr _ _ (by omega)).trans s9, (hk _ (by omega) (by omega)).trans s10⟩, ⟨(hr _ _ (by omega)).trans s11, (hk _ (by omega) (by omega)).trans s12⟩, ⟨(hr _ _ (by omega)).trans s13, (hk _ (by omega) (by omega)).trans s14⟩, ⟨(hr _ _ (by omega)).trans s15, (hk _ (by omega) (by omega)).trans s16⟩, fun i hi => ⟨(hr _ _ (by omega)).trans (s17 i hi).1, (hk _ (by omega) (by omega)).trans (s17 i hi).2⟩⟩
end FRI
