/-! THE PASS FROM THE FIRST LINE TO THE LAST. -/
section PSS
variable {d L K E pr i j k n tok fu v t u ns no bk : Nat} {bt : Nat → Int32} {h : AH} {f f0 f' : SM} {x y z : Int32} {q q0 : C4} {c0 : C3} {rl : Nat → Int32} {b : Bool} {l m ls : List (Nat × Nat)} {nm : Nat → Int64} {T : Nat → Nat} {s s1 s2 : Int32 × Int32} {A A1 A2 : SM → Prop} {mn mn' : Nat → Int32} {B : CBk}
theorem rm6_ne {k n : Nat} (h : k < n) (h16 : k < 16) : ¬ k = rm6 n := by
  unfold rm6
  split <;> omega
theorem linQ_f : ∀ m (C C' : RBk), linQ bt L pr fu m C = (true, C') → ∀ k, k < C.n → k < 16 → C'.f (pr + 5) k = C.f (pr + 5) k ∧ C'.f (pr + 6) k = C.f (pr + 6) k
  | 0, C, C', e, k, hk, h16 => by cases e
  | m + 1, C, C', e, k, hk, h16 => by
    unfold linQ at e
    split at e
    · cases e; exact ⟨rfl, rfl⟩
    · split at e
      · rename_i j l hp
        unfold nyL at e
        split at e
        · exact linQ_f m _ C' e k hk h16
        · obtain ⟨a1, a2⟩ := linQ_f m _ C' e k (by show k < C.n + 1; omega) h16
          refine ⟨a1.trans ?_, a2.trans ?_⟩
          · show roF pr C.n C.f C.q.1 (rst bt L C.q l).1 (pr + 5) k = _
            unfold roF
            rw [u2_ne (by omega), u2_ni (rm6_ne hk h16), u2_ne (by omega)]
          · show roF pr C.n C.f C.q.1 (rst bt L C.q l).1 (pr + 6) k = _
            unfold roF
            rw [u2_ni (rm6_ne hk h16), u2_ne (by omega), u2_ne (by omega)]
      · cases e
      · cases e
theorem pass_all (by9 : byt bt L) (hN : RlN bt L K rl) (R : RPk pr h) (W : RB bt L K pr h f0) (hE : E ≤ K) (hb : bk = 208 ∨ bk = 260) (hc0 : c0.1 = 0) (hd : 5 ≤ d) : ∀ m (B : CBk) (C : RBk) (f : SM) (ls : List (Nat × Nat)) (B' : CBk) (C' : RBk), B.i = C.i → C.n = B.no → C.q = rst bt L q0 ls → linR bt L bk fu m B = (true, B') → linQ bt L pr fu m C = (true, C') → Zro K C.rl C.i → C'.rl = rl → C'.i = E → (∀ k, k < 16 → f0 (pr + 5) k = C'.f (pr + 5) k ∧ f0 (pr + 6) k = C'.f (pr + 6) k) → EI bt L bk pr rl c0 q0 B f ls → B.ns ≤ 12 → B.no ≤ 16 → B.s = (0, -1) → RFp pr f0 f → C.i ≤ K → PSt d E pr h f0 q rl B.i f E B'.s (fun f' => RFp pr f0 f' ∧ ∃ ls', EI bt L bk pr rl c0 q0 B' f' ls' ∧ C'.q = rst bt L q0 ls')
  | 0, B, C, f, ls, B', C', _, _, _, e, _, _, _, _, _, _, _, _, _, _, _ => by cases e
  | m + 1, B, C, f, ls, B', C', hi, hn, hq, e1, e2, Z, hrl, hEi, hf0, I, h12, h16, hs, F, hiK => by
    have hT := W.hte
    have e2' := e2
    unfold linR at e1
    unfold linQ at e2
    rw [hi] at e1
    by_cases c46 : tsg bt L C.i = 46
    · rw [if_pos c46] at e1 e2
      cases e1
      cases e2
      intro Q H1 H2
      rw [hi, hEi]
      exact H1 hs f ⟨F, ls, I, hq⟩
    · rw [if_neg c46] at e1 e2
      cases hp : lnP (tsg bt L) fu C.i with
      | none => rw [hp] at e2; cases e2
      | some x =>
        obtain ⟨b, j, l⟩ := x
        rw [hp] at e1 e2
        cases b
        · cases e2
        · have hiK2 : C.i < K := by
            by_cases e : C.i = K
            · exfalso
              have h47 : tsg bt L C.i = 47 := by rw [e] at c46 ⊢; exact hT.resolve_left c46
              unfold lnP at hp
              rw [h47] at hp
              cases hp
            · omega
          have e1 : linR bt L bk fu m (nxL bt L bk B j l) = (true, B') := e1
          have e2 : linQ bt L pr fu m (nyL bt L pr C j l) = (true, C') := e2
          obtain ⟨z1, z2, z3, z4, z5⟩ := nyL_rl (pr := pr) hT hiK2 hp Z
          have ej : (nyL bt L pr C j l).i = j := by
            unfold nyL
            split <;> rfl
          have ejB : (nxL bt L bk B j l).i = j := by
            unfold nxL
            split <;> rfl
          have hjK : j ≤ K := by
            have hp := hp
            unfold lnP at hp
            split at hp
            · exact (lnS_b hT hiK2 hp).1
            · split at hp
              · exact (lnO_b hT hiK2 hp).1
              · cases hp
          obtain ⟨w1, w2, w3, w4⟩ := linQ_rl (fu := fu) hT m (nyL bt L pr C j l) C' (by rw [ej]; exact hjK) (by rw [ej]; exact z1) e2
          rw [ej] at w1 w3
          have hr : RlL bt L rl B.i j := by
            rw [hi, ← hrl]
            exact z2.cong w1 z5 z4
          have hok : s_ok (nxL bt L bk B j l).s := nxL_ok hs
          have hst : ¬ (nxL bt L bk B j l).s.1 = 0 → B'.s = (nxL bt L bk B j l).s := fun z => linR_st m _ B' z e1
          have hp0 := hp
          unfold lnP at hp
          by_cases h2 : tsg bt L C.i = 2
          · rw [if_pos h2] at hp
            have eB : nxL bt L bk B j l = nxS bt L bk B j := if_pos (by rw [hi]; exact h2)
            have eC : nyL bt L pr C j l = nyS C j := if_pos h2
            have P1 := pass_S (q := q) by9 hN R W hE hb I h12 hs F (by rw [hi]; exact h2) (by rw [hi]; exact hp) hr (by omega) hd
            rw [← eB] at P1
            refine P1.seq hok hst (fun es f' ⟨F2, I2⟩ => ?_)
            have ih := pass_all by9 hN R W hE hb hc0 hd m (nxL bt L bk B j l) (nyL bt L pr C j l) f' ls B' C' (by rw [ejB, ej]) (by rw [eB, eC]; exact hn) (by rw [eC]; exact hq) e1 e2 (by rw [ej]; exact z1) hrl hEi hf0 I2 (by rw [eB]; show adn B.ns ≤ 12; unfold adn; split <;> omega) (by rw [eB]; exact h16) es F2 (by rw [ej]; exact hjK)
            rw [ejB] at ih
            exact ih
          · rw [if_neg h2] at hp
            split at hp
            · rename_i hv
              have eB : nxL bt L bk B j l = nxO bt L bk B j l := if_neg (by rw [hi]; exact h2)
              have eC : nyL bt L pr C j l = nyO bt L pr C j l := if_neg h2
              have hq2 : (nyL bt L pr C j l).q = rst bt L q0 (ls ++ l) := by
                rw [eC, rst_app, ← hq]
                rfl
              have g5 : B.no < 16 → f (pr + 5) B.no = nI (rst bt L q0 ls).1 := fun c => by
                obtain ⟨x1, x2⟩ := linQ_f m _ C' e2 B.no (by rw [eC]; show B.no < C.n + 1; omega) c
                rw [F (pr + 5) B.no (by have := W.hp; omega) (by omega), (hf0 _ c).1, x1, eC]
                show roF pr C.n C.f C.q.1 (rst bt L C.q l).1 (pr + 5) B.no = _
                unfold roF
                rw [u2_ne (by omega), ← hn, show rm6 C.n = C.n from if_pos (by omega), u2_eq, hq]
              have g6 : B.no < 16 → f (pr + 6) B.no = nI (rst bt L q0 (ls ++ l)).1 := fun c => by
                obtain ⟨x1, x2⟩ := linQ_f m _ C' e2 B.no (by rw [eC]; show B.no < C.n + 1; omega) c
                rw [F (pr + 6) B.no (by have := W.hp; omega) (by omega), (hf0 _ c).2, x2, eC]
                show roF pr C.n C.f C.q.1 (rst bt L C.q l).1 (pr + 6) B.no = _
                unfold roF
                rw [← hn, show rm6 C.n = C.n from if_pos (by omega), u2_eq, hq, rst_app]
              have P1 := pass_O (q := q) by9 hN R W hE hb hc0 I h12 h16 hs F (by rw [hi]; exact h2) (by rw [hi]; exact hv) (by rw [hi]; exact hp) (by rw [hi]; exact hiK2) hr (by omega) g5 g6 hd
              rw [← eB] at P1
              refine P1.seq hok hst (fun es f' ⟨F2, I2⟩ => ?_)
              have c16 : B.no < 16 := by
                by_cases c : B.no < 16
                · exact c
                · exfalso
                  rw [eB] at es
                  have es : er bt L B.ns B.nm (B.i + 1) j (erO bt L B.no B.i B.s) = (0, -1) := es
                  have e9 : erO bt L B.no B.i (0, -1) = (4, nI (tq bt L B.i)) := by
                    unfold erO
                    rw [if_neg c, tel_0]
                  rw [hs, e9, er_s (show ¬ ((4 : Int32), nI (tq bt L B.i)).1 = 0 by show ¬ (4 : Int32) = 0; decide)] at es
                  exact absurd (congrArg Prod.fst es) (by show ¬ (4 : Int32) = 0; decide)
              have ih := pass_all by9 hN R W hE hb hc0 hd m (nxL bt L bk B j l) (nyL bt L pr C j l) f' (ls ++ l) B' C' (by rw [ejB, ej]) (by rw [eB, eC]; show C.n + 1 = aon B.no; unfold aon; rw [if_pos c16, hn]) hq2 e1 e2 (by rw [ej]; exact z1) hrl hEi hf0 I2 (by rw [eB]; exact h12) (by rw [eB]; exact ao_16 h16) es F2 (by rw [ej]; exact hjK)
              rw [ejB] at ih
              exact ih
            · cases hp
end PSS
