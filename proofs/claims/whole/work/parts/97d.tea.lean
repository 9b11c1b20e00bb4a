/-! THE REFERENCE READS, WHOLE: an error 1; another error; a book. -/
section TEA
variable {d Ln L K pr i j k n tok dep fu v i1 bk ns no : Nat} {xs : Nat → Int32} {bt : Nat → Int32} {nm : Nat → Int64} {h H : AH} {f f0 : SM} {x y z : Int32} {q q4 : C4} {c0 q3 : C3} {rl cd on : Nat → Int32} {b : Bool} {l l1 : List (Nat × Nat)} {sz op : Nat} {Q : AO → AH → Prop} {F : SM} {J : Nat → Nat → Int64} {R : Nat → Nat → Option Nat} {B B' : CBk}
theorem RFq_rf : RFq pr f f := fun _ _ _ => rfl
/-- the class's reader behind the beginning -/
def bB (bt : Nat → Int32) (L bk : Nat) (nm : Nat → Int64) (F : SM) (J : Nat → Nat → Int64) (R : Nat → Nat → Option Nat) (q : C3) (i1 j : Nat) : CBk := (j, bgE bt L 1 i1 0 99 (bgE bt L 0 0 1 6 (0, -1)), 0, 0, nm, bgF bt L bk 1 i1 (bgF bt L bk 0 0 F), J, R, q)
theorem rd192a (T : RK Ln xs L bt H (iv H)) (hK : tEnd bt L K) (hN : 312 ≤ nx H) (hp : begP (tsg bt L) 0 0 = some (false, j, l)) (hd : 191 ≤ d) : Md d 192 [.ref 284] H (TeQ bt L H j) := by
  obtain ⟨d, rfl⟩ : ∃ e, d = e + 1 := ⟨d - 1, by omega⟩
  refine e192 (c192 T hK hN (by omega) (fun f W E e3 P Z => ?_))
  have b1 := begP_b W.hte (v := 0) (by decide) (Nat.zero_le _) hp
  exact r192e W E b1.2 (r169a W RFq_rf (Nat.zero_le _) hp (by omega))
theorem rd192b (T : RK Ln xs L bt H (iv H)) (hK : tEnd bt L K) (hN : 312 ≤ nx H) (hp : begP (tsg bt L) 0 0 = some (true, i1, l)) (hp1 : begP (tsg bt L) 1 i1 = some (false, j, l1)) (hd : 191 ≤ d) : Md d 192 [.ref 284] H (TeQ bt L H j) := by
  obtain ⟨d, rfl⟩ : ∃ e, d = e + 1 := ⟨d - 1, by omega⟩
  refine e192 (c192 T hK hN (by omega) (fun f W E e3 P Z => ?_))
  have b1 := begP_b W.hte (v := 0) (by decide) (Nat.zero_le _) hp
  have b2 := begP_b W.hte (v := 1) (by decide) b1.2 hp1
  exact r192e W E b2.2 (r169b W RFq_rf (Nat.zero_le _) hp hp1 (by omega))
theorem rd192c (T : RK Ln xs L bt H (iv H)) (hK : tEnd bt L K) (hN : 312 ≤ nx H) (hf : 9 * K + 10 ≤ fu) (hp : begP (tsg bt L) 0 0 = some (true, i1, l)) (hp1 : begP (tsg bt L) 1 i1 = some (true, j, l1)) (hB : B.i = j) (e1 : (linR bt L bk fu 401 B).1 = false) (hd : 191 ≤ d) : Md d 192 [.ref 284] H (TeQ bt L H (linR bt L bk fu 401 B).2.i) := by
  obtain ⟨d, rfl⟩ : ∃ e, d = e + 1 := ⟨d - 1, by omega⟩
  refine e192 (c192 T hK hN (by omega) (fun f W E e3 P Z => ?_))
  have b1 := begP_b W.hte (v := 0) (by decide) (Nat.zero_le _) hp
  have b2 := begP_b W.hte (v := 1) (by decide) b1.2 hp1
  have M := r169c (fu := fu) (q := (0, 0, f (nx H + 7), f (nx H + 8))) (rl := f 289) W (vqH_rp hN).1 RFq_rf ((P _ _ (Nat.le_refl _) (by omega)).trans (by rw [if_neg (by omega), if_neg (by omega)]; rfl)) hf (Nat.zero_le _) (Nat.zero_le _) (Nat.zero_le _) hp hp1 (d := d) (by omega)
  have hpar := lin_par (bt := bt) (L := L) (pr := nx H) (bk := bk) (fu := fu) 401 B (j, 0, f, ((0, 0, f (nx H + 7), f (nx H + 8)) : C4), bgR (tsg bt L) 1 i1 6 (bgR (tsg bt L) 0 0 5 (f 289))) hB
  have hle := linQ_K (bt := bt) (L := L) (pr := nx H) (fu := fu) W.hte 401 (j, 0, f, ((0, 0, f (nx H + 7), f (nx H + 8)) : C4), bgR (tsg bt L) 1 i1 6 (bgR (tsg bt L) 0 0 5 (f 289))) b2.2
  rw [hpar.2]
  rw [hpar.1] at e1
  refine r192e W E hle (M.mono (fun o h' q9 => ?_))
  generalize linQ bt L (nx H) fu 401 (j, 0, f, ((0, 0, f (nx H + 7), f (nx H + 8)) : C4), bgR (tsg bt L) 1 i1 6 (bgR (tsg bt L) 0 0 5 (f 289))) = r at q9 e1 ⊢
  obtain ⟨r1, r2⟩ := r
  obtain rfl : r1 = false := e1
  exact q9
/-- what the beginning leaves in the plan -/
theorem bg_plan (hf0 : f pr 0 = 3) (hf1 : f pr 1 = 20) (hF0 : F bk 0 = 3) (hF1 : F bk 1 = 20) : bgf bt L pr 1 i1 (bgf bt L pr 0 0 f) pr 0 = bgF bt L bk 1 i1 (bgF bt L bk 0 0 F) bk 0 ∧ bgf bt L pr 1 i1 (bgf bt L pr 0 0 f) pr 1 = bgF bt L bk 1 i1 (bgF bt L bk 0 0 F) bk 1 ∧ ∀ a i, ¬ (a = pr ∧ i < 2) → bgf bt L pr 1 i1 (bgf bt L pr 0 0 f) a i = f a i := by
  unfold bgf bgF
  refine ⟨?_, ?_, fun a i hz => ?_⟩
  · by_cases c1 : tsg bt L i1 = 1
    · rw [if_pos c1, if_pos c1, u2_ni (by decide), u2_ni (by decide)]
      by_cases c0 : tsg bt L 0 = 0
      · rw [if_pos c0, if_pos c0, u2_eq, u2_eq]
      · rw [if_neg c0, if_neg c0, hf0, hF0]
    · rw [if_neg c1, if_neg c1]
      by_cases c0 : tsg bt L 0 = 0
      · rw [if_pos c0, if_pos c0, u2_eq, u2_eq]
      · rw [if_neg c0, if_neg c0, hf0, hF0]
  · by_cases c1 : tsg bt L i1 = 1
    · rw [if_pos c1, if_pos c1, u2_eq, u2_eq]
    · rw [if_neg c1, if_neg c1]
      by_cases c0 : tsg bt L 0 = 0
      · rw [if_pos c0, if_pos c0, u2_ni (by decide), u2_ni (by decide), hf1, hF1]
      · rw [if_neg c0, if_neg c0, hf1, hF1]
  · have e : ∀ (g : SM) (v : Nat) (w : Int32), v < 2 → u2 g pr v w a i = g a i := fun g v w hv => by
      unfold u2
      exact if_neg (fun z => hz ⟨z.1, by omega⟩)
    split
    · rw [e _ _ _ (by decide)]
      split
      · rw [e _ _ _ (by decide)]
      · rfl
    · split
      · rw [e _ _ _ (by decide)]
      · rfl
/-- no role is 1 in the beginning -/
theorem bg_rl (hp : begP (tsg bt L) 0 0 = some (true, i1, l)) (hp1 : begP (tsg bt L) 1 i1 = some (true, j, l1)) (hjK : j ≤ K) (Z : Zro K rl 0) : Zro K (bgR (tsg bt L) 1 i1 6 (bgR (tsg bt L) 0 0 5 rl)) j ∧ (∀ u, u ≤ K → ¬ bgR (tsg bt L) 1 i1 6 (bgR (tsg bt L) 0 0 5 rl) u = 1) ∧ (tsg bt L 0 = 0 → bgR (tsg bt L) 1 i1 6 (bgR (tsg bt L) 0 0 5 rl) 0 = 0 ∧ bgR (tsg bt L) 1 i1 6 (bgR (tsg bt L) 0 0 5 rl) (0 + 1) = 5 ∧ bgR (tsg bt L) 1 i1 6 (bgR (tsg bt L) 0 0 5 rl) (0 + 1 + 1) = 0) ∧ (tsg bt L i1 = 1 → bgR (tsg bt L) 1 i1 6 (bgR (tsg bt L) 0 0 5 rl) i1 = 0 ∧ bgR (tsg bt L) 1 i1 6 (bgR (tsg bt L) 0 0 5 rl) (i1 + 1) = 6 ∧ bgR (tsg bt L) 1 i1 6 (bgR (tsg bt L) 0 0 5 rl) (i1 + 1 + 1) = 0) ∧ i1 ≤ j := by
  have e : ∀ u, bgR (tsg bt L) 1 i1 6 (bgR (tsg bt L) 0 0 5 rl) u = if tsg bt L i1 = 1 ∧ u = i1 + 1 then 6 else if tsg bt L 0 = 0 ∧ u = 1 then 5 else rl u := fun u => by
    have a0 : bgR (tsg bt L) 0 0 5 rl u = if tsg bt L 0 = 0 ∧ u = 1 then 5 else rl u := by
      unfold bgR
      by_cases c0 : tsg bt L 0 = 0
      · rw [if_pos c0]
        by_cases c3 : u = 1
        · rw [if_pos (c := tsg bt L 0 = 0 ∧ u = 1) ⟨c0, c3⟩]; exact if_pos c3
        · rw [if_neg (c := tsg bt L 0 = 0 ∧ u = 1) (fun z => c3 z.2)]; exact if_neg c3
      · rw [if_neg c0, if_neg (c := tsg bt L 0 = 0 ∧ u = 1) (fun z => c0 z.1)]
    generalize bgR (tsg bt L) 0 0 5 rl = g9 at a0 ⊢
    unfold bgR
    by_cases c1 : tsg bt L i1 = 1
    · rw [if_pos c1]
      by_cases c2 : u = i1 + 1
      · rw [if_pos (c := tsg bt L i1 = 1 ∧ u = i1 + 1) ⟨c1, c2⟩]; exact if_pos c2
      · rw [if_neg (c := tsg bt L i1 = 1 ∧ u = i1 + 1) (fun z => c2 z.2), ← a0]; exact if_neg c2
    · rw [if_neg c1, if_neg (c := tsg bt L i1 = 1 ∧ u = i1 + 1) (fun z => c1 z.1), ← a0]
  have s0 := begP_s hp
  have s1 := begP_s hp1
  refine ⟨fun u h1 h2 => ?_, fun u h2 => ?_, fun c0 => ?_, fun c1 => ?_, by omega⟩
  · rw [e, if_neg (by omega), if_neg (by omega)]; exact Z u (by omega) h2
  · rw [e]
    split
    · decide
    · split
      · decide
      · rw [Z u (by omega) h2]; decide
  · rw [e, e, e, if_neg (by omega), if_neg (by omega), if_neg (by omega), if_pos ⟨c0, rfl⟩, if_neg (by omega), if_neg (by omega)]
    exact ⟨Z _ (by omega) (by omega), rfl, Z _ (by omega) (by omega)⟩
  · rw [e, e, e, if_neg (by omega), if_neg (by omega), if_pos ⟨c1, rfl⟩, if_neg (by omega), if_neg (by omega)]
    exact ⟨Z _ (by omega) (by omega), rfl, Z _ (by omega) (by omega)⟩
end TEA
