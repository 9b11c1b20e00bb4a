/-! ORDERS BY HAND GROW; frames of the machine by hand before it begins. -/
section BLD0
variable {s A B n no q H co c z t : Nat} {R O kf df od ok ov ow : Nat → Nat} {oz : Nat → Int32} {h h1 h2 : AH} {W : Nat → Prop} {B' : Nat}
theorem TNew.gr (X2 : TNew n R h) (X : TXp s A B n no H co R kf df h) (G : Gr W c z h h1) (hw : ∀ a, W a → a < 284) : TNew n R h1 := fun i hi => by
  have b := X.1.2.2.2.2.2.2 i hi
  have e := ((G.2 (R i) b.2).2 (fun e => by have := hw _ e; omega)).1
  exact ⟨(e 2).trans (X2 i hi).1, (e 5).trans (X2 i hi).2⟩
theorem TXp.grw (X : TXp s A B n no H co R kf df h) (G : Gr W c z h h1) (hw : ∀ a, W a → a < 284) : TXp s A B n no H co R kf df h1 := by
  obtain ⟨K, ⟨f0, f1⟩, n1, hr⟩ := X
  have b1 := K.2.2.2.2.1
  have es := ((G.2 s b1.2.1).2 (fun e => by have := hw _ e; omega)).1
  refine ⟨K.gr G hw, ⟨(es 0).trans f0, (es 1).trans f1⟩, n1, fun i hi => ?_⟩
  have b := K.2.2.2.2.2.2 i hi
  have e := ((G.2 (R i) b.2).2 (fun e => by have := hw _ e; omega)).1
  exact ⟨⟨(e 0).trans (hr i hi).1.1, (e 1).trans (hr i hi).1.2⟩, (hr i hi).2⟩
/-- another row of orders -/
theorem TXp.setB {no' : Nat} (X : TXp s A B n no H co R kf df h1) (G : Gr (fun _ => False) c z h1 h2) (hB : 284 ≤ B' ∧ B' < nx h2) : TXp s A B' n no' H co R kf df (setR h2 s 5 (some B')) := by
  obtain ⟨⟨⟨k1, k2, k3⟩, k4, k5, k6, ⟨b1, b2, b3, b4⟩, b5, b7⟩, f, n1, hr⟩ := X.grw G (fun _ e => e.elim)
  have hA : ¬ A = s := fun e => by rw [e, k1] at k4; cases k4
  refine ⟨⟨⟨k1, (u2_nj (by decide)).trans k2, u2_eq⟩, k4, fun i hi => ⟨(u2_ne hA).trans (k5 i hi).1, (k5 i hi).2⟩, k6, ⟨b1, b2, b3, b4⟩, hB, b7⟩, f, n1, hr⟩
def exz (n : Nat) (x : Int32) (f : Nat → Int32) (i : Nat) : Int32 := if i = n then x else f i
theorem ext_n {n r : Nat} {R : Nat → Nat} : ext n r R n = r := if_pos rfl
theorem ext_o {n r i : Nat} {R : Nat → Nat} (h : ¬ i = n) : ext n r R i = R i := if_neg h
theorem SOr.add {r o k v w zz : Nat} (S : SOr B q n O od ok ov ow oz h1) (hq : q < 16) (kr : kd h1 r = (1, 5)) (hr : 284 ≤ r ∧ r < nx h1) (i0 : iv h1 r 0 = nI o) (i1 : iv h1 r 1 = nI k) (i2 : iv h1 r 2 = nI v) (i3 : iv h1 r 3 = nI w) (i4 : iv h1 r 4 = nI zz) (hb : o < 5 ∧ k < n ∧ v < 9 ∧ w < n) (hz : 1 ≤ zz ∧ zz ≤ 6) (Wn : WiN B r q h1 h2) (hs : s < nx h1) : SOr (nx h1) (q + 1) n (ext q r O) (ext q o od) (ext q k ok) (ext q v ov) (ext q w ow) (exz q (nI zz) oz) (setR h2 s 5 (some (nx h1))) := by
  obtain ⟨⟨w1, -, -⟩, w2, w3, w4, G⟩ := Wn
  obtain ⟨⟨k1, k2, k3, k4⟩, k5⟩ := S
  have ne : ¬ nx h1 = s := by omega
  refine ⟨⟨w2, by omega, by omega, by show nx h1 < nx h2; omega⟩, fun i hi => ?_⟩
  have lo : ∀ a, a < nx h1 → kd h2 a = kd h1 a ∧ ∀ j, iv h2 a j = iv h1 a j := fun a ha => ⟨(G.2 a ha).1, ((G.2 a ha).2 id).1⟩
  by_cases c : i = q
  · subst c
    rw [ext_n, ext_n, ext_n, ext_n, ext_n, show exz i (nI zz) oz i = nI zz from if_pos rfl]
    have e := lo r hr.2
    refine ⟨⟨(u2_ne ne).trans w4, e.1.trans kr, hr.1, by show r < nx h2; omega⟩, ⟨(e.2 0).trans i0, (e.2 1).trans i1, (e.2 2).trans i2, (e.2 3).trans i3, (e.2 4).trans i4⟩, hb, zz, hz.1, hz.2, rfl⟩
  · rw [ext_o c, ext_o c, ext_o c, ext_o c, ext_o c, show exz q (nI zz) oz i = oz i from if_neg c]
    obtain ⟨⟨a1, a2, a3, a4⟩, ⟨a5, a6, a7, a8, a9⟩, a10⟩ := k5 i (by omega)
    have e := lo (O i) a4
    exact ⟨⟨(u2_ne ne).trans ((w3 i (by omega)).trans a1), e.1.trans a2, a3, by show O i < nx h2; omega⟩, ⟨(e.2 0).trans a5, (e.2 1).trans a6, (e.2 2).trans a7, (e.2 3).trans a8, (e.2 4).trans a9⟩, a10⟩
/-- a new order's row -/
def rw5 (h : AH) (a b c d e : Int32) : AH := setI (setI (setI (setI (setI (mkA h (1, 5) 5) (nx h) 0 a) (nx h) 1 b) (nx h) 2 c) (nx h) 3 d) (nx h) 4 e
theorem rw5_gr {a b c d e : Int32} : Gr (fun _ => False) 1 5 h (rw5 h a b c d e) := ((((Gr.mk.nI (Nat.le_refl _)).nI (Nat.le_refl _)).nI (Nat.le_refl _)).nI (Nat.le_refl _)).nI (Nat.le_refl _)
theorem rw5_at {a b c d e : Int32} : iv (rw5 h a b c d e) (nx h) 0 = a ∧ iv (rw5 h a b c d e) (nx h) 1 = b ∧ iv (rw5 h a b c d e) (nx h) 2 = c ∧ iv (rw5 h a b c d e) (nx h) 3 = d ∧ iv (rw5 h a b c d e) (nx h) 4 = e := by
  unfold rw5
  refine ⟨?_, ?_, ?_, ?_, ?_⟩
  · rw [ivj (by decide), ivj (by decide), ivj (by decide), ivj (by decide), ivs]
  · rw [ivj (by decide), ivj (by decide), ivj (by decide), ivs]
  · rw [ivj (by decide), ivj (by decide), ivs]
  · rw [ivj (by decide), ivs]
  · rw [ivs]
end BLD0

