/-! WHAT HOLDS BETWEEN CALLS. -/
/-- the lower cells have kept kinds and references -/
def Lo (N : Nat) (H H1 : AH) : Prop := ∀ a, a < N → kd H1 a = kd H a ∧ ∀ j, rv H1 a j = rv H a j
section LOS
variable {N b c bk p : Nat} {H H1 H2 : AH}
theorem Lo.rf : Lo N H H := fun _ _ => ⟨rfl, fun _ => rfl⟩
theorem Lo.trans (a : Lo N H H1) (b : Lo N H1 H2) : Lo N H H2 := fun q hq => ⟨(b q hq).1.trans (a q hq).1, fun j => ((b q hq).2 j).trans ((a q hq).2 j)⟩
theorem Lo.mono {N' : Nat} (a : Lo N H H1) (h : N' ≤ N) : Lo N' H H1 := fun q hq => a q (Nat.lt_of_lt_of_le hq h)
theorem ShK.lo (S : ShK b H) (hb : b + 14 ≤ N) (e : Lo N H H1) : ShK b H1 := ⟨(e _ (by omega)).1.trans S.1, ((e _ (by omega)).2 _).trans S.2.1, (e _ (by omega)).1.trans S.2.2.1, fun i hi => ⟨((e _ (by omega)).2 _).trans (S.2.2.2.1 i hi).1, (e _ (by omega)).1.trans (S.2.2.2.1 i hi).2⟩, S.2.2.2.2⟩
theorem BkK.lo (S : BkK b H) (hb : b + 24 ≤ N) (e : Lo N H H1) : BkK b H1 := by
  obtain ⟨⟨s1, s2⟩, ⟨s3, s4⟩, ⟨s5, s6⟩, ⟨s7, s8⟩, ⟨s9, s10⟩, ⟨s11, s12⟩, ⟨s13, s14⟩, ⟨s15, s16⟩, s17⟩ := S
  exact ⟨⟨(e _ (by omega)).1.trans s1, s2⟩, ⟨((e _ (by omega)).2 _).trans s3, (e _ (by omega)).1.trans s4⟩, ⟨((e _ (by omega)).2 _).trans s5, (e _ (by omega)).1.trans s6⟩, ⟨((e _ (by omega)).2 _).trans s7, (e _ (by omega)).1.trans s8⟩, ⟨((e _ (by omega)).2 _).trans s9, (e _ (by omega)).1.trans s10⟩, ⟨((e _ (by omega)).2 _).trans s11, (e _ (by omega)).1.trans s12⟩, ⟨((e _ (by omega)).2 _).trans s13, (e _ (by omega)).1.trans s14⟩, ⟨((e _ (by omega)).2 _).trans s15, (e _ (by omega)).1.trans s16⟩, fun i hi => ⟨((e _ (by omega)).2 _).trans (s17 i hi).1, (e _ (by omega)).1.trans (s17 i hi).2⟩⟩
theorem RSK.lo (S : RSK c p H) (hN : 312 ≤ N) (hp : p + 9 ≤ N) (e : Lo N H H1) : RSK c p H1 := RSK.gr (h1 := (H1.1, H1.2.1, H.2.2.1, H1.2.2.2)) (N := N) S (fun a ha => ⟨(e a ha).1, (e a ha).2, fun _ => rfl⟩) hN hp
/-- kinds and references: the class's own but its books -/
def SKa (H : AH) : Prop := ((kd H 200 = (0, 6) ∧ rv H 200 0 = some 201 ∧ rv H 200 1 = some 202) ∧ rv H 200 2 = some 232 ∧ rv H 200 3 = some 246) ∧ (ShK 232 H ∧ ShK 246 H ∧ BkK 208 H ∧ BkK 260 H) ∧ ((kd H 201 = (3, 2000) ∧ kd H 202 = (0, 1) ∧ kd H 203 = (0, 5)) ∧ (kd H 204 = (4, 401) ∧ kd H 205 = (1, 401) ∧ kd H 206 = (2, 401)) ∧ rv H 202 1 = some 203 ∧ rv H 203 0 = some 204 ∧ rv H 203 1 = some 205 ∧ rv H 203 2 = some 206) ∧ kd H 311 = (2, 1)
/-- of the reference, but its plan -/
def SKb (H : AH) : Prop := (kd H 284 = (0, 9) ∧ kd H 285 = (1, 2000) ∧ kd H 286 = (1, 401) ∧ kd H 287 = (1, 401) ∧ kd H 288 = (1, 401) ∧ kd H 289 = (1, 401) ∧ kd H 290 = (1, 401)) ∧ (rv H 284 1 = some 285 ∧ rv H 284 4 = some 286 ∧ rv H 284 5 = some 287 ∧ rv H 284 6 = some 288 ∧ rv H 284 7 = some 289 ∧ rv H 284 8 = some 290) ∧ rv H 284 14 = some 301 ∧ rv H 284 15 = some 306
def SKc (bk p : Nat) (H : AH) : Prop := (rv H 200 4 = some bk ∧ rv H 202 2 = some (468 - bk) ∧ (bk = 208 ∨ bk = 260)) ∧ RSK 301 p H ∧ RSK 306 p H
theorem SKa.lo (S : SKa H) (hN : 312 ≤ N) (e : Lo N H H1) : SKa H1 := by
  obtain ⟨⟨⟨s1, s2, s3⟩, s4, s5⟩, ⟨s6, s7, s8, s9⟩, ⟨⟨t1, t2, t3⟩, ⟨t4, t5, t6⟩, t7, t8, t9, t10⟩, t11⟩ := S
  exact ⟨⟨⟨(e _ (by omega)).1.trans s1, ((e _ (by omega)).2 _).trans s2, ((e _ (by omega)).2 _).trans s3⟩, ((e _ (by omega)).2 _).trans s4, ((e _ (by omega)).2 _).trans s5⟩, ⟨s6.lo (by omega) e, s7.lo (by omega) e, s8.lo (by omega) e, s9.lo (by omega) e⟩, ⟨⟨(e _ (by omega)).1.trans t1, (e _ (by omega)).1.trans t2, (e _ (by omega)).1.trans t3⟩, ⟨(e _ (by omega)).1.trans t4, (e _ (by omega)).1.trans t5, (e _ (by omega)).1.trans t6⟩, ((e _ (by omega)).2 _).trans t7, ((e _ (by omega)).2 _).trans t8, ((e _ (by omega)).2 _).trans t9, ((e _ (by omega)).2 _).trans t10⟩, (e _ (by omega)).1.trans t11⟩
theorem SKb.lo (S : SKb H) (hN : 312 ≤ N) (e : Lo N H H1) : SKb H1 := by
  obtain ⟨⟨s1, s2, s3, s4, s5, s6, s7⟩, ⟨t1, t2, t3, t4, t5, t6⟩, t7, t8⟩ := S
  exact ⟨⟨(e _ (by omega)).1.trans s1, (e _ (by omega)).1.trans s2, (e _ (by omega)).1.trans s3, (e _ (by omega)).1.trans s4, (e _ (by omega)).1.trans s5, (e _ (by omega)).1.trans s6, (e _ (by omega)).1.trans s7⟩, ⟨((e _ (by omega)).2 _).trans t1, ((e _ (by omega)).2 _).trans t2, ((e _ (by omega)).2 _).trans t3, ((e _ (by omega)).2 _).trans t4, ((e _ (by omega)).2 _).trans t5, ((e _ (by omega)).2 _).trans t6⟩, ((e _ (by omega)).2 _).trans t7, ((e _ (by omega)).2 _).trans t8⟩
theorem SKc.lo (S : SKc bk p H) (hN : 312 ≤ N) (hp : p + 9 ≤ N) (e : Lo N H H1) : SKc bk p H1 := ⟨⟨((e _ (by omega)).2 _).trans S.1.1, ((e _ (by omega)).2 _).trans S.1.2.1, S.1.2.2⟩, S.2.1.lo hN hp e, S.2.2.lo hN hp e⟩
theorem CA.lo {Ln : Nat} {xs : Nat → Int32} (C : am_CA Ln xs H) (hN : 312 ≤ N) (e : Lo N H H1) (hi : ∀ a j, a < 200 → iv H1 a j = iv H a j) : am_CA Ln xs H1 := fun a ha => by
  have h2 : a < 200 := ha
  exact ⟨(e a (by omega)).1.trans (C a ha).1, fun j => ⟨(hi a j h2).trans ((C a ha).2 j).1, ((e a (by omega)).2 j).trans ((C a ha).2 j).2⟩⟩
end LOS
/-- both tapes hold the same L bytes -/
def Tpe (L : Nat) (f : SM) : Prop := f 200 5 = nI L ∧ f 284 2 = nI L ∧ L ≤ 2000 ∧ ∀ i, i < L → ∃ u, u < 256 ∧ f 285 i = nI u ∧ f 201 i &&& 255 = nI u
def LI (Ln : Nat) (xs : Nat → Int32) (c bk p n Hn no t L : Nat) (cv : Nat → Nat) (cz : Nat → Int32) (ov os fi en : Nat → Nat) (M : SM) (H : AH) : Prop :=
  (am_CA Ln xs H ∧ SKa H ∧ SKb H ∧ SKc bk p H) ∧ (rg 232 14 H M = H ∧ n ≤ 12 ∧ Hn ≤ 6) ∧ (RSW 301 (iv H) M ∧ RSP p n Hn (iv H) M) ∧ (BkO bk no cv cz ov os fi en H ∧ ROr p n no cv cz ov os fi en (iv H)) ∧ (MI n Hn t M ∧ MG n M ∧ t ≤ 30 * c) ∧ Tpe L (iv H) ∧ (iv H 200 6 = iv H 284 3 ∧ (∃ u, iv H 208 2 = nI u ∧ u ≤ 12) ∧ ∃ u, iv H 260 2 = nI u ∧ u ≤ 12) ∧ 312 ≤ nx H ∧ p + 9 ≤ nx H ∧ nc H ≤ 1000 + 20 * c ∧ ns H ≤ 100000 + 2000 * c
def LX (Ln : Nat) (xs : Nat → Int32) (c : Nat) (H : AH) : Prop := ∃ bk p n Hn no t L cv cz ov os fi en M, LI Ln xs c bk p n Hn no t L cv cz ov os fi en M H
/-- what a call of the class leaves alone -/
def Fc (bk : Nat) (H H1 : AH) : Prop := (H1.1 = H.1 ∧ H1.2.2.2.1 = H.2.2.2.1) ∧ nx H1 = nx H ∧ (nc H1 ≤ nc H + 1 ∧ ns H1 ≤ ns H + 6) ∧ ∀ a j, ¬ (232 ≤ a ∧ a < 260) → ¬ a = bk + 7 → iv H1 a j = iv H a j
/-- what a call of the reference leaves alone -/
def Fr9 (H H1 : AH) : Prop := Lo (nx H) H H1 ∧ nx H ≤ nx H1 ∧ (nc H1 ≤ nc H + 13 ∧ ns H1 ≤ ns H + 130) ∧ ∀ a j, a < nx H → ¬ (a = 284 ∧ j = 0) → (a < 300 ∨ 311 ≤ a) → iv H1 a j = iv H a j
section LIS
variable {Ln d c bk p n Hn no t L k t' : Nat} {xs : Nat → Int32} {cv : Nat → Nat} {cz : Nat → Int32} {ov os fi en : Nat → Nat} {M M' T : SM} {H H1 H2 : AH} {q : Nat → Int32} {x : Int32} {f0 f' : SM} {u : Int64}
theorem Fc.lo (F : Fc bk H H1) : Lo (nx H) H H1 := fun a _ => ⟨congrFun F.1.1 a, fun j => congrFun (congrFun F.1.2 a) j⟩
theorem Fc.rgn : Fc bk H (rg 232 14 H M') := ⟨⟨rfl, rfl⟩, rfl, ⟨Nat.le_succ _, Nat.le_add_right _ _⟩, fun a j h1 h2 => rg_out (by omega)⟩
theorem Fc.rf : Fc bk H H := ⟨⟨rfl, rfl⟩, rfl, ⟨Nat.le_succ _, Nat.le_add_right _ _⟩, fun _ _ _ _ => rfl⟩
theorem Fc.bp : Fc bk H (bump H 1 6) := ⟨⟨rfl, rfl⟩, rfl, ⟨Nat.le_refl _, Nat.le_refl _⟩, fun _ _ _ _ => rfl⟩
theorem Fc.ht (hb : bk = 208 ∨ bk = 260) (hM : rg 232 14 H M = H) : Fc bk H (HT bk H M' T q) := ⟨⟨rfl, rfl⟩, rfl, ⟨Nat.le_succ _, Nat.le_add_right _ _⟩, fun a j h1 h2 => (rg_out (by omega)).trans ((rg_out (by omega)).trans (rg_out (by omega)))⟩
theorem Fc.sj (F : Fc bk H H1) : Fc bk H (setJ H1 311 0 u) := F
theorem ht_m (hb : bk = 208 ∨ bk = 260) : rg 232 14 (HT bk H M T q) M = HT bk H M T q := by rw [HT_s hb, rg_rg]
theorem ht_self (hb : bk = 208 ∨ bk = 260) (hM : rg 232 14 H M = H) : HT bk H M (fun i j => iv H (246 + i) j) (iv H (bk + 7)) = H := by
  unfold HT
  rw [hM, show rw1 (bk + 7) H (iv H (bk + 7)) = H from ?_, rg_self]
  refine (rg_congr (fun i hi j => ?_)).trans (rg_self (bk + 7) 1 H)
  rw [show i = 0 by omega, Nat.add_zero]
theorem LI.cs (I : LI Ln xs c bk p n Hn no t L cv cz ov os fi en M H) : CS bk n Hn H M := by
  obtain ⟨⟨C, ⟨⟨⟨s1, s2, s3⟩, s4, s5⟩, ⟨s6, s7, s8, s9⟩, _⟩, _, ⟨⟨u1, u2, u3⟩, _⟩⟩, ⟨_, m4, m5⟩, ⟨_, w2⟩, _⟩ := I
  refine ⟨⟨⟨s1, s2, s3⟩, ⟨s4, s5, u1⟩, s6, s7, ?_, u3⟩, CA.kco C, ⟨w2.1.2.2.2.2.1, m4⟩, w2.1.2.2.2.2.2, m5⟩
  rcases u3 with rfl | rfl
  · exact s8
  · exact s9
theorem LI.hM (I : LI Ln xs c bk p n Hn no t L cv cz ov os fi en M H) : rg 232 14 H M = H := I.2.1.1
theorem LI.hb (I : LI Ln xs c bk p n Hn no t L cv cz ov os fi en M H) : bk = 208 ∨ bk = 260 := I.1.2.2.2.1.2.2
theorem LI.bo (I : LI Ln xs c bk p n Hn no t L cv cz ov os fi en M H) : BkO bk no cv cz ov os fi en H := I.2.2.2.1.1
theorem LI.ro (I : LI Ln xs c bk p n Hn no t L cv cz ov os fi en M H) : ROr p n no cv cz ov os fi en (iv H) := I.2.2.2.1.2
theorem LI.mi (I : LI Ln xs c bk p n Hn no t L cv cz ov os fi en M H) : MI n Hn t M := I.2.2.2.2.1.1
theorem LI.mg (I : LI Ln xs c bk p n Hn no t L cv cz ov os fi en M H) : MG n M := I.2.2.2.2.1.2.1
theorem LI.tc (I : LI Ln xs c bk p n Hn no t L cv cz ov os fi en M H) : t ≤ 30 * c := I.2.2.2.2.1.2.2
theorem LI.n12 (I : LI Ln xs c bk p n Hn no t L cv cz ov os fi en M H) : n ≤ 12 := I.2.1.2.1
theorem LI.N (I : LI Ln xs c bk p n Hn no t L cv cz ov os fi en M H) : 312 ≤ nx H := I.2.2.2.2.2.2.2.1
theorem LI.pN (I : LI Ln xs c bk p n Hn no t L cv cz ov os fi en M H) : p + 9 ≤ nx H := I.2.2.2.2.2.2.2.2.1
theorem LI.hp (I : LI Ln xs c bk p n Hn no t L cv cz ov os fi en M H) : p = 291 ∨ 311 < p := I.1.2.2.2.2.1.2.1.2.2.2.2.2.2.2.2
theorem LI.k0 (I : LI Ln xs c bk p n Hn no t L cv cz ov os fi en M H) : kd H 200 = (0, 6) := I.1.2.1.1.1.1
theorem LI.ko (I : LI Ln xs c bk p n Hn no t L cv cz ov os fi en M H) : kd H 311 = (2, 1) := I.1.2.1.2.2.2
theorem LI.km (I : LI Ln xs c bk p n Hn no t L cv cz ov os fi en M H) : kd H 284 = (0, 9) := I.1.2.2.1.1.1
/-- the reference behind a call of the class: M as it was -/
theorem LI.rt (I : LI Ln xs c bk p n Hn no t L cv cz ov os fi en M H) (F : Fc bk H H1) : RT p n Hn H1 (iv H1) (iv H1) M := by
  have hN := I.N
  have hpN := I.pN
  have hp := I.hp
  have hb := I.hb
  have hi : ∀ a j, a = 51 ∨ 284 ≤ a → iv H1 a j = iv H a j := fun a j h => F.2.2.2 a j (by omega) (by omega)
  obtain ⟨⟨C, S1, S2, S3⟩, _, ⟨⟨w1, w2⟩, ⟨x1, x2, x3, x4, x5, x6⟩, y1, y2, y3⟩, _⟩ := I
  have K := S3.lo hN hpN F.lo
  have S2 := S2.lo hN F.lo
  refine ⟨⟨K.2.1, ⟨⟨(hi _ _ (by omega)).trans w1.1, (hi _ _ (by omega)).trans w1.2.1, (hi _ _ (by omega)).trans w1.2.2⟩, fun i h => ?_⟩, ⟨⟨(hi _ _ (by omega)).trans x1, (hi _ _ (by omega)).trans x2, x3, x4, x5, x6⟩, fun i h => ?_, y2, ?_⟩, RFr.rf⟩, S2.2.2, K.2.2, Fm.rf⟩
  · obtain ⟨z1, z2, z3⟩ := w2 i h
    exact ⟨(hi _ _ (by omega)).trans z1, (hi _ _ (by omega)).trans z2, fun q => ⟨(hi _ _ (by omega)).trans (z3 q).1, (hi _ _ (by omega)).trans (z3 q).2⟩⟩
  · obtain ⟨z1, z2, z3⟩ := y1 i h
    exact ⟨(hi _ _ (by omega)).trans z1, (hi _ _ (by omega)).trans z2, z3⟩
  · rw [hi _ _ (by omega), hi _ _ (by omega), hi _ _ (by omega), hi _ _ (by omega)]
    exact y3
theorem LI.rro (I : LI Ln xs c bk p n Hn no t L cv cz ov os fi en M H) (F : Fc bk H H1) : ROr p n no cv cz ov os fi en (iv H1) := I.ro.fr (fun b j h1 h2 => F.2.2.2 b j (by have := I.hp; omega) (by have := I.hp; have := I.hb; omega))
/-- the end of a pair of calls, teach and those of the tape apart -/
theorem LI.fin (I : LI Ln xs c bk p n Hn no t L cv cz ov os fi en M H) (F : Fc bk H H1) (hM : rg 232 14 H1 M' = H1) (G : Fr9 H1 H2) (R : RT p n Hn H2 f0 (iv H2) M') (hI : MI n Hn t' M') (hG : MG n M') (ht : t' ≤ 30 * (c + 1)) : LX Ln xs (c + 1) H2 := by
  have hN := I.N
  have hpN := I.pN
  have hp := I.hp
  have hb := I.hb
  have hRO := I.rro F
  have hn1 : nx H1 = nx H := F.2.1
  have lo1 := F.lo
  have lo : Lo (nx H) H H2 := F.lo.trans (hn1 ▸ G.1)
  obtain ⟨⟨C, S1, S2, S3⟩, ⟨m1, m4, m5⟩, _, ⟨O1, O2⟩, _, ⟨t1, t2, t3, t4⟩, ⟨e1, e2, e3⟩, N1, N2, N3, N4⟩ := I
  have hG2 : ∀ a j, a < nx H → ¬ (a = 284 ∧ j = 0) → (a < 300 ∨ 311 ≤ a) → iv H2 a j = iv H1 a j := fun a j h1 h2 h3 => G.2.2.2 a j (by omega) h2 h3
  have hi : ∀ a j, a < nx H → ¬ (232 ≤ a ∧ a < 260) → ¬ a = bk + 7 → ¬ (a = 284 ∧ j = 0) → (a < 300 ∨ 311 ≤ a) → iv H2 a j = iv H a j := fun a j h0 h1 h2 h3 h4 => (hG2 a j h0 h3 h4).trans (F.2.2.2 a j h1 h2)
  refine ⟨bk, p, n, Hn, no, t', L, cv, cz, ov, os, fi, en, M', ⟨CA.lo C hN lo (fun a j h => hi a j (by omega) (by omega) (by omega) (by omega) (by omega)), S1.lo hN lo, S2.lo hN lo, S3.lo hN hpN lo⟩, ⟨?_, m4, m5⟩, ⟨R.1.2.1, R.1.2.2.1⟩, ⟨?_, hRO.fr (fun b j h1 h2 => hG2 b j (by omega) (by omega) (by omega))⟩, ⟨hI, hG, ht⟩, ⟨(hi _ _ (by omega) (by omega) (by omega) (by omega) (by omega)).trans t1, (hi _ _ (by omega) (by omega) (by omega) (by omega) (by omega)).trans t2, t3, fun i h => ?_⟩, ⟨?_, ?_, ?_⟩, by have := G.2.1; omega, by have := G.2.1; omega, by have := G.2.2.1; have := F.2.2.1; omega, by have := G.2.2.1; have := F.2.2.1; omega⟩
  · refine Eq.trans (rg_congr (R' := fun i j => iv H2 (232 + i) j) (fun i h j => ?_)) (rg_self 232 14 H2)
    rw [hG2 _ _ (by omega) (by omega) (by omega)]
    have := congrArg (fun z => iv z (232 + i) j) hM
    exact (rg_iv h).symm.trans this
  · obtain ⟨o1, o2, o3⟩ := O1
    refine ⟨(hi _ _ (by omega) (by omega) (by omega) (by omega) (by omega)).trans o1, o2, fun k hk => ?_⟩
    obtain ⟨⟨a1, a2⟩, ⟨a3, a4⟩, a5, a6, a7, a8, a9, a10, a11⟩ := o3 k hk
    exact ⟨⟨((lo _ (by omega)).2 _).trans a1, a2⟩, ⟨(hi _ _ (by omega) (by omega) (by omega) (by omega) (by omega)).trans a3, a4⟩, (hi _ _ (by omega) (by omega) (by omega) (by omega) (by omega)).trans a5, (hi _ _ (by omega) (by omega) (by omega) (by omega) (by omega)).trans a6, a7, a8, a9, fun i hk => ((lo _ (by omega)).2 _).trans (a10 i hk), fun i hk => (hi _ _ (by omega) (by omega) (by omega) (by omega) (by omega)).trans (a11 i hk)⟩
  · obtain ⟨u, u1, u2, u3⟩ := t4 i h
    exact ⟨u, u1, (hi _ _ (by omega) (by omega) (by omega) (by omega) (by omega)).trans u2, by rw [hi _ _ (by omega) (by omega) (by omega) (by omega) (by omega)]; exact u3⟩
  · rw [hi _ _ (by omega) (by omega) (by omega) (by omega) (by omega), hi 284 3 (by omega) (by omega) (by omega) (by omega) (by omega)]
    exact e1
  · obtain ⟨u, u1, u2⟩ := e2
    exact ⟨u, (hi _ _ (by omega) (by omega) (by omega) (by omega) (by omega)).trans u1, u2⟩
  · obtain ⟨u, u1, u2⟩ := e3
    exact ⟨u, (hi _ _ (by omega) (by omega) (by omega) (by omega) (by omega)).trans u1, u2⟩
end LIS
