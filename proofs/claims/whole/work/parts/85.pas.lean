/-! THE PASS FOR ERRORS: steps, and tests' names. -/
def RFp (pr : Nat) (f0 f : SM) : Prop := ∀ a j, ¬ a = 290 → ¬ (pr ≤ a ∧ a < pr + 5) → f a j = f0 a j
/-- the pass has stopped with the error s -/
def Sto (pr : Nat) (h : AH) (f0 : SM) (q : C4) (rl : Nat → Int32) (s : Int32 × Int32) (o : AO) (h' : AH) : Prop := o = .inl (some (.int s.1)) ∧ ∃ f' tok, RFp pr f0 f' ∧ h' = HQ pr h (u2 f' 284 3 s.2) tok 0 q rl
/-- from token i on the pass comes to token j, then A holds; or it stops with the error s -/
def PSt (d E pr : Nat) (h : AH) (f0 : SM) (q : C4) (rl : Nat → Int32) (i : Nat) (f : SM) (j : Nat) (s : Int32 × Int32) (A : SM → Prop) : Prop := ∀ Q : AO → AH → Prop, (s = (0, -1) → ∀ f', A f' → ∀ o2, Ok d 192 57 [some (.ref 284), some (.int (nI E)), o2] [] (HQ pr h f' j 0 q rl) Q) → (¬ s.1 = 0 → ∀ o h', Sto pr h f0 q rl s o h' → Q o h') → ∀ o2, Ok d 192 57 [some (.ref 284), some (.int (nI E)), o2] [] (HQ pr h f i 0 q rl) Q
/-- no error yet, or an error -/
def s_ok (s : Int32 × Int32) : Prop := s = (0, -1) ∨ ¬ s.1 = 0
def resm (bt : Nat → Int32) (L : Nat) (mn : Nat → Int32) (g t : Nat) : Int32 := if g = 45 then (tw bt L t).toInt32 else if g = 18 ∨ g = 19 ∨ g = 21 ∨ g = 22 ∨ g = 23 then mn t else 0
/-- the class's code, the names' numbers told by mn -/
def cstm (bt : Nat → Int32) (L : Nat) (mn : Nat → Int32) (q : C3) (l : List (Nat × Nat)) : C3 := l.foldl (fun q a => cst1 q a.1 (resm bt L mn a.1 a.2)) q
section PAS
variable {d L K E pr i j k n tok fu v t u ns no bk : Nat} {bt : Nat → Int32} {h : AH} {f f0 f' : SM} {x y z : Int32} {q : C4} {q3 : C3} {rl : Nat → Int32} {b : Bool} {l m : List (Nat × Nat)} {nm : Nat → Int64} {T : Nat → Nat} {s s1 s2 : Int32 × Int32} {A A1 A2 : SM → Prop} {mn mn' : Nat → Int32}
theorem RB.fr2 (B : RB bt L K pr h f) (hf : ∀ a j, a < 312 → ¬ a = 290 → f' a j = f a j) : RB bt L K pr h f' := by
  obtain ⟨a, b, c, t, e, ⟨l1, l2⟩, o⟩ := B
  exact ⟨a, b, c, fun j hj => ⟨(hf _ _ (by decide) (by decide)).trans (t j hj).1, (hf _ _ (by decide) (by decide)).trans (t j hj).2.1, fun h1 h2 => (hf _ _ (by decide) (by decide)).trans ((t j hj).2.2 h1 h2)⟩, e, ⟨l1, fun i hi => (hf _ _ (by decide) (by decide)).trans (l2 i hi)⟩, o⟩
theorem RFp.rb (F : RFp pr f0 f) (B : RB bt L K pr h f0) : RB bt L K pr h f := B.fr2 (fun a j h1 h2 => F a j h2 (by have := B.hp; omega))
theorem PSt.seq (P1 : PSt d E pr h f0 q rl i f j s1 A1) (h1 : s_ok s1) (h2 : ¬ s1.1 = 0 → s2 = s1) (P2 : s1 = (0, -1) → ∀ f', A1 f' → PSt d E pr h f0 q rl j f' k s2 A2) : PSt d E pr h f0 q rl i f k s2 A2 := fun Q H1 H2 => by
  refine P1 Q (fun e f' ha => P2 e f' ha Q H1 H2) (fun e => ?_)
  rw [← h2 e]
  exact H2 (by rw [h2 e]; exact e)
theorem PSt.mono (P1 : PSt d E pr h f0 q rl i f j s A1) (hA : s = (0, -1) → ∀ f', A1 f' → A2 f') : PSt d E pr h f0 q rl i f j s A2 := fun Q H1 H2 => P1 Q (fun e f' ha => H1 e f' (hA e f' ha)) H2
theorem PSt.ok (B : RB bt L K pr h f) (hE : E ≤ K) (ht : tok < E) (S : Mx d 191 [.ref 284, .int (nI tok)] (HQ pr h f tok 0 q rl) (some (.int 0)) (HQ pr h f' tok 0 q rl)) (ha : A f') : PSt d E pr h f0 q rl tok f (tok + 1) (0, -1) A := fun _ H1 _ => s192 B hE ht S (H1 rfl f' ha)
theorem PSt.er (B : RB bt L K pr h f) (B' : RB bt L K pr h f') (hE : E ≤ K) (ht : tok < E) (hx : ¬ x = 0) (F : RFp pr f0 f') (S : Mx d 191 [.ref 284, .int (nI tok)] (HQ pr h f tok 0 q rl) (some (.int x)) (HQ pr h f' tok 0 q rl)) : PSt d E pr h f0 q rl tok f j (x, nI (tq bt L tok)) A := fun _ _ H2 o2 => (s192e B B' hE ht hx S o2).mono (fun o h9 ⟨a1, a2⟩ => H2 hx o h9 ⟨a1, f', tok, F, a2⟩)
theorem PSt.nil (B : RB bt L K pr h f) (hE : E ≤ K) (ht : tok < E) (hr : rl tok = 0) (hd : 5 ≤ d) : PSt d E pr h f0 q rl tok f (tok + 1) (0, -1) (fun f' => f' = f) := PSt.ok B hE ht (sy191_0 B (by omega) hr hd) rfl
theorem tel_0 : tel bt L t x (0, -1) = (x, nI (tq bt L t)) := if_pos rfl
theorem tel_s (h : ¬ s.1 = 0) : tel bt L t x s = s := if_neg h
theorem er1_s (h : ¬ s.1 = 0) : er1 bt L ns nm i s = s := by
  unfold er1
  split
  · split
    · rfl
    · exact tel_s h
  · rfl
theorem ern_s (h : ¬ s.1 = 0) : ∀ m i, ern bt L ns nm m i s = s
  | 0, _ => rfl
  | m + 1, i => by
    show ern bt L ns nm m (i + 1) (er1 bt L ns nm i s) = s
    rw [er1_s h]
    exact ern_s h m (i + 1)
theorem er_s (h : ¬ s.1 = 0) : er bt L ns nm i j s = s := ern_s h _ _
theorem erS_s (h : ¬ s.1 = 0) : erS bt L ns nm t s = s := by
  unfold erS
  split
  · exact tel_s h
  · split
    · rfl
    · exact tel_s h
theorem erN_s {lo hi : Int32} (h : ¬ s.1 = 0) : erN bt L t lo hi s = s := by
  unfold erN
  split
  · exact tel_s h
  · rfl
theorem erO_s (h : ¬ s.1 = 0) : erO bt L no t s = s := by
  unfold erO
  split
  · rfl
  · exact tel_s h
theorem er1_ok : s_ok (er1 bt L ns nm i (0, -1)) := by
  unfold er1
  split
  · split
    · exact Or.inl rfl
    · rw [tel_0]; exact Or.inr (by show ¬ (3 : Int32) = 0; decide)
  · exact Or.inl rfl
theorem sna_neg1 (h12 : ns ≤ 12) {w : Int64} : (sna ns nm w = -1 ↔ ¬ 0 ≤ sna ns nm w) ∧ (0 ≤ sna ns nm w → ∃ j, j < ns ∧ sna ns nm w = nI j) := by
  obtain ⟨a1, a2⟩ := sna_neg (ns := ns) (nm := nm) (w := w) h12
  refine ⟨⟨fun e z => ?_, a2⟩, a1.mp⟩
  rw [e] at z
  exact absurd z (by decide)
theorem cst_cstm : ∀ (l : List (Nat × Nat)) (q : C3), (∀ a, a ∈ l → nmd a.1 → mn a.2 = sna ns nm (tw bt L a.2)) → cst bt L ns nm q l = cstm bt L mn q l
  | [], _, _ => rfl
  | a :: l, q, h => by
    show cst bt L ns nm (cst1 q a.1 (res1 bt L ns nm a.1 a.2)) l = cstm bt L mn (cst1 q a.1 (resm bt L mn a.1 a.2)) l
    have e : res1 bt L ns nm a.1 a.2 = resm bt L mn a.1 a.2 := by
      unfold res1 resm
      split
      · rfl
      · split
        · rename_i c
          exact (h a (List.mem_cons_self ..) c).symm
        · rfl
    rw [e]
    exact cst_cstm l _ (fun b hb => h b (List.mem_cons_of_mem _ hb))
theorem cstm_cong : ∀ (l : List (Nat × Nat)) (q : C3), (∀ a, a ∈ l → nmd a.1 → mn a.2 = mn' a.2) → cstm bt L mn q l = cstm bt L mn' q l
  | [], _, _ => rfl
  | a :: l, q, h => by
    show cstm bt L mn (cst1 q a.1 (resm bt L mn a.1 a.2)) l = cstm bt L mn' (cst1 q a.1 (resm bt L mn' a.1 a.2)) l
    have e : resm bt L mn a.1 a.2 = resm bt L mn' a.1 a.2 := by
      unfold resm
      split
      · rfl
      · split
        · rename_i c
          exact h a (List.mem_cons_self ..) c
        · rfl
    rw [e]
    exact cstm_cong l _ (fun b hb => h b (List.mem_cons_of_mem _ hb))
theorem cstm_app (q : C3) (l m : List (Nat × Nat)) : cstm bt L mn q (l ++ m) = cstm bt L mn (cstm bt L mn q l) m := List.foldl_append
/-- the tests' names: behind u tokens more -/
def TsA (bt : Nat → Int32) (L ns : Nat) (nm : Nat → Int64) (u j : Nat) (f f' : SM) : Prop := (∀ a k, ¬ a = 290 → f' a k = f a k) ∧ (∀ t, t < u ∨ j ≤ t → f' 290 t = f 290 t) ∧ ∀ t, u ≤ t → t < j → tsg bt L t = 44 → f' 290 t = sna ns nm (tw bt L t) ∧ 0 ≤ sna ns nm (tw bt L t)
theorem tst_pass (by9 : byt bt L) (hN : RlN bt L K rl) (R : RPk pr h) (B : RB bt L K pr h f0) (hE : E ≤ K) (h12 : ns ≤ 12) (hd : 5 ≤ d) : ∀ m u (f : SM), RFp pr f0 f → u + m ≤ E → (∀ t, u ≤ t → t < u + m → rl t = if tsg bt L t = 44 then 4 else 0) → rc rl u = ns → (∀ v, v < u → rl v = 1 → nm (rc rl v) = tw bt L v) → PSt d E pr h f0 q rl u f (u + m) (ern bt L ns nm m u (0, -1)) (TsA bt L ns nm u (u + m) f)
  | 0, u, f, F, hu, hr, hc, hn => fun Q H1 H2 => H1 rfl f ⟨fun _ _ _ => rfl, fun _ _ => rfl, fun t h1 h2 => by omega⟩
  | m + 1, u, f, F, hu, hr, hc, hn => by
    have B1 : RB bt L K pr h f := F.rb B
    have r := hr u (Nat.le_refl _) (by omega)
    show PSt d E pr h f0 q rl u f (u + (m + 1)) (ern bt L ns nm m (u + 1) (er1 bt L ns nm u (0, -1))) _
    have nrole : ¬ rl u = 1 := by rw [r]; split <;> decide
    have hc1 : rc rl (u + 1) = ns := (rc_no nrole).trans hc
    have hn1 : ∀ v, v < u + 1 → rl v = 1 → nm (rc rl v) = tw bt L v := fun v hv h1 => by
      by_cases e : v = u
      · exact absurd (e ▸ h1) nrole
      · exact hn v (by omega) h1
    have hr1 : ∀ t, u + 1 ≤ t → t < u + 1 + m → rl t = if tsg bt L t = 44 then 4 else 0 := fun t h1 h2 => hr t (by omega) (by omega)
    by_cases c : tsg bt L u = 44
    · rw [if_pos c] at r
      have ht := tld_sna (t := u) hc hn
      have F2 : RFp pr f0 (u2 f 290 u (tld bt L rl u)) := fun a j h1 h2 => (u2_ne h1).trans (F a j h1 h2)
      have S := sy191_4 (tok := u) (dep := 0) (q := q) B1 R by9 hN (by omega : u ≤ K) r c hd
      by_cases c2 : 0 ≤ sna ns nm (tw bt L u)
      · have e1 : er1 bt L ns nm u (0, -1) = (0, -1) := by
          unfold er1
          rw [if_pos c, if_pos c2]
        rw [e1]
        have n1 : ¬ tld bt L rl u = -1 := by rw [ht]; exact fun z => ((sna_neg1 h12).1.mp z) c2
        rw [if_neg n1] at S
        refine PSt.seq (PSt.ok B1 hE (by omega) S (A := fun f' => f' = u2 f 290 u (tld bt L rl u)) rfl) (Or.inl rfl) (fun z => absurd rfl z) (fun _ f' e => ?_)
        subst e
        have ih := tst_pass by9 hN R B hE h12 hd m (u + 1) (u2 f 290 u (tld bt L rl u)) F2 (by omega) hr1 hc1 hn1
        rw [show u + 1 + m = u + (m + 1) by omega] at ih
        refine ih.mono (fun _ f' ⟨a1, a2, a3⟩ => ⟨fun a k h1 => (a1 a k h1).trans (u2_ne h1), fun t h1 => ?_, fun t h1 h2 h3 => ?_⟩)
        · rw [a2 t (by omega), u2_ni (by omega)]
        · by_cases e : t = u
          · subst e
            rw [a2 t (by omega), u2_eq]
            exact ⟨ht, c2⟩
          · exact a3 t (by omega) h2 h3
      · have e1 : er1 bt L ns nm u (0, -1) = (3, nI (tq bt L u)) := by
          unfold er1
          rw [if_pos c, if_neg c2, tel_0]
        have n3 : ¬ ((3 : Int32), nI (tq bt L u)).1 = 0 := by show ¬ (3 : Int32) = 0; decide
        rw [e1, ern_s n3]
        have n1 : tld bt L rl u = -1 := by rw [ht]; exact (sna_neg1 h12).1.mpr c2
        rw [if_pos n1] at S
        exact PSt.er B1 (F2.rb B) hE (by omega) (by decide) F2 S
    · rw [if_neg c] at r
      rw [er1_id c]
      refine PSt.seq (PSt.nil B1 hE (by omega) r hd) (Or.inl rfl) (fun z => absurd rfl z) (fun _ f' e => ?_)
      subst e
      have ih := tst_pass by9 hN R B hE h12 hd m (u + 1) f' F (by omega) hr1 hc1 hn1
      rw [show u + 1 + m = u + (m + 1) by omega] at ih
      refine ih.mono (fun _ f2 ⟨a1, a2, a3⟩ => ⟨a1, fun t h1 => a2 t (by omega), fun t h1 h2 h3 => ?_⟩)
      by_cases e : t = u
      · subst e; exact absurd h3 c
      · exact a3 t (by omega) h2 h3
end PAS
