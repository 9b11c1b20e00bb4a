/-! THE CLASS'S READ: what holds behind the tokens, behind clear and goTo. -/
section RD0
variable {d Ln L K bk ns i po w sg c k v : Nat} {xs : Nat → Int32} {bt : Nat → Int32} {nm : Nat → Int64} {h : AH} {F F' : SM} {J J' : Nat → Nat → Int64} {R R' : Nat → Nat → Option Nat} {e ep x y z : Int32}
/-- what the reader's cells are, before any token -/
def PR0 (bk ns : Nat) (h : AH) (F : SM) (J : Nat → Nat → Int64) (R : Nat → Nat → Option Nat) : Prop := (kd h 202 = (0, 1) ∧ kd h 203 = (0, 5) ∧ kd h 204 = (4, 401) ∧ kd h 205 = (1, 401) ∧ kd h 206 = (2, 401)) ∧ (R 202 1 = some 203 ∧ R 202 2 = some bk ∧ R 203 0 = some 204 ∧ R 203 1 = some 205 ∧ R 203 2 = some 206) ∧ BkK bk (hw h F J R) ∧ (bk = 208 ∨ bk = 260) ∧ F bk 2 = nI ns ∧ ns ≤ 12
theorem PR0.pb (P : PR0 bk ns h F J R) (hK : tEnd bt L K) (T : Tk Ln xs L bt h F' J' R') (hR : TkR bt L (K + 1) F' J' R') (hc : F' 203 3 = nI (K + 1)) (hT : TkF F F' J J' R R') : PB Ln xs bt L K bk ns (J' (bk + 4)) h F' J' R' := by
  obtain ⟨kk, ⟨r1, r2, r3, r4, r5⟩, ⟨b1, b2, b3, b4, b5, b6, b7, b8, b9⟩, hb, hn, h12⟩ := P
  obtain ⟨t1, t2, t3⟩ := hT
  have r : ∀ a j, ¬ a = 204 → ¬ (a = 203 ∧ j = 4) → R' a j = R a j := t3
  refine ⟨T.ca, kk, ⟨(r _ _ (by omega) (by omega)).trans r1, (r _ _ (by omega) (by omega)).trans r2, (r _ _ (by omega) (by omega)).trans r3, (r _ _ (by omega) (by omega)).trans r4, (r _ _ (by omega) (by omega)).trans r5⟩, ⟨b1, ⟨(r _ _ (by omega) (by omega)).trans b2.1, b2.2⟩, ⟨(r _ _ (by omega) (by omega)).trans b3.1, b3.2⟩, ⟨(r _ _ (by omega) (by omega)).trans b4.1, b4.2⟩, ⟨(r _ _ (by omega) (by omega)).trans b5.1, b5.2⟩, ⟨(r _ _ (by omega) (by omega)).trans b6.1, b6.2⟩, ⟨(r _ _ (by omega) (by omega)).trans b7.1, b7.2⟩, ⟨(r _ _ (by omega) (by omega)).trans b8.1, b8.2⟩, fun i hi => ⟨(r _ _ (by omega) (by omega)).trans (b9 i hi).1, (b9 i hi).2⟩⟩, hb, hR, hc, hK, ⟨(t1 _ _ (by omega) (by omega)).trans hn, h12⟩, fun j _ => rfl, fun i hi => T.off hi⟩
/-- behind clear, with no error yet -/
def r0F (bk : Nat) (F : SM) : SM := u2 (u2 (clF bk F) 202 3 0) 202 0 (-1)
theorem PB.r0 (P : PB Ln xs bt L K bk ns nm h F J R) : PB Ln xs bt L K bk 0 nm h (gtF bt L (r0F bk F)) (u2 J 202 7 (tw bt L 0)) (u2 R 202 5 (some (tsg bt L 0))) := by
  obtain ⟨c, kk, ⟨r1, r2, r3, r4, r5⟩, ⟨b1, b2, b3, b4, b5, b6, b7, b8, b9⟩, hb, t, cn, te, _, hm, o⟩ := P
  have hF : ∀ a j, ¬ a = 202 → ¬ a = bk → gtF bt L (r0F bk F) a j = F a j := fun a j h1 h2 => by
    unfold gtF r0F clF
    rw [u2_ne h1, u2_ne h1, u2_ne h1, u2_ne h1, u2_ne h2, u2_ne h2, u2_ne h2, u2_ne h2, u2_ne h2]
  have hR : ∀ a j, ¬ (a = 202 ∧ j = 5) → u2 R 202 5 (some (tsg bt L 0)) a j = R a j := fun a j h1 => if_neg h1
  refine ⟨fun n hn => ?_, kk, ⟨(hR _ _ (by omega)).trans r1, (hR _ _ (by omega)).trans r2, (hR _ _ (by omega)).trans r3, (hR _ _ (by omega)).trans r4, (hR _ _ (by omega)).trans r5⟩, ⟨b1, ⟨(hR _ _ (by omega)).trans b2.1, b2.2⟩, ⟨(hR _ _ (by omega)).trans b3.1, b3.2⟩, ⟨(hR _ _ (by omega)).trans b4.1, b4.2⟩, ⟨(hR _ _ (by omega)).trans b5.1, b5.2⟩, ⟨(hR _ _ (by omega)).trans b6.1, b6.2⟩, ⟨(hR _ _ (by omega)).trans b7.1, b7.2⟩, ⟨(hR _ _ (by omega)).trans b8.1, b8.2⟩, fun i hi => ⟨(hR _ _ (by omega)).trans (b9 i hi).1, (b9 i hi).2⟩⟩, hb, fun j hj => ⟨(hR _ _ (by omega)).trans (t j hj).1, (hF _ _ (by omega) (by omega)).trans (t j hj).2.1, (u2_ne (by omega)).trans (t j hj).2.2⟩, (hF _ _ (by omega) (by omega)).trans cn, te, ⟨?_, Nat.zero_le _⟩, fun j hj => (u2_ne (by omega)).trans (hm j hj), o⟩
  · obtain ⟨c1, c2⟩ := c n hn
    have hn : n < 200 := hn
    exact ⟨c1, fun q => ⟨(hF _ _ (by omega) (by omega)).trans (c2 q).1, (hR _ _ (by omega)).trans (c2 q).2⟩⟩
  · unfold gtF r0F clF
    rw [u2_ne (by omega), u2_ne (by omega), u2_ne (by omega), u2_ne (by omega), u2_ni (by decide), u2_ni (by decide), u2_eq]
    rfl
theorem r0_HR (hb : bk = 208 ∨ bk = 260) : hw h (gtF bt L (r0F bk F)) (u2 J 202 7 (tw bt L 0)) (u2 R 202 5 (some (tsg bt L 0))) = HC bt L bk h (gtF bt L (r0F bk F)) (u2 J 202 7 (tw bt L 0)) (u2 R 202 5 (some (tsg bt L 0))) 0 (tsg bt L 0) (0, -1) (0, u2 R 202 5 (some (tsg bt L 0)) (bk + 5), gtF bt L (r0F bk F) (bk + 6)) := by
  refine hw_HR hb ?_ ?_ ?_ ?_ ?_ u2_eq u2_eq
  · unfold gtF r0F
    rw [u2_ni (by decide), u2_ni (by decide), u2_eq]
  · unfold gtF r0F
    rw [u2_ni (by decide), u2_ni (by decide), u2_ni (by decide), u2_eq]
  · unfold gtF
    rw [u2_ni (by decide), u2_eq]
    rfl
  · unfold gtF
    exact u2_eq
  · unfold gtF r0F clF
    rw [u2_ne (by omega), u2_ne (by omega), u2_ne (by omega), u2_ne (by omega), u2_eq]
    rfl
end RD0
