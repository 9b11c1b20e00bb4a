/-! WRITES OF FIELDS; ARRAYS. -/
def am_ty (ci j : Nat) : FieldType := (parseFieldDescriptor ((am_cl ci).2.1 j).2.2.1).getD .int
def am_tyok (t : Nat) : FieldType → Bool
  | .int => t == 1
  | .byte => t == 7
  | .boolean => t == 5
  | .long => t == 2
  | .object _ => t == 4
  | .array _ => t == 4
  | _ => false
theorem am_tyck : (List.range 10).all (fun ci => (List.range (am_cl ci).2.2).all (fun j => decide (parseFieldDescriptor ((am_cl ci).2.1 j).2.2.1 = some (am_ty ci j)) && am_tyok ((fsT.getD ci []).getD j 0) (am_ty ci j))) = true := by decide +kernel
theorem am_nmck : (List.range 10).all (fun ci => (List.range (am_cl ci).2.2).all (fun a => (List.range (am_cl ci).2.2).all (fun b => decide (a = b) || decide (((am_cl ci).2.1 a).2.1 ≠ ((am_cl ci).2.1 b).2.1)))) = true := by decide +kernel
theorem am_all {n : Nat} {f : Nat → Bool} (h : (List.range n).all f = true) {i : Nat} (hi : i < n) : f i = true := List.all_eq_true.mp h i (List.mem_range.mpr hi)
theorem am_ty_ok {ci j : Nat} (hci : ci < 10) (hj : j < (am_cl ci).2.2) : parseFieldDescriptor ((am_cl ci).2.1 j).2.2.1 = some (am_ty ci j) ∧ am_tyok ((fsT.getD ci []).getD j 0) (am_ty ci j) = true := by
  have := am_all (am_all am_tyck hci) hj
  simpa using this
theorem am_nm_ok {ci : Nat} (hci : ci < 10) : ∀ a, a < (am_cl ci).2.2 → ∀ b, b < (am_cl ci).2.2 → a ≠ b → ((am_cl ci).2.1 a).2.1 ≠ ((am_cl ci).2.1 b).2.1 := by
  intro a ha b hb hab
  have := am_all (am_all (am_all am_nmck hci) ha) hb
  simpa [hab] using this
theorem am_fit {t : Nat} {ty : FieldType} {v : Value} (h : am_tyok t ty = true) (hv : (t = 1 ∧ ∃ x, v = .int x) ∨ (t = 2 ∧ ∃ x, v = .long x) ∨ (t = 4 ∧ ∃ x, v = .ref x) ∨ (t = 7 ∧ ∃ x, v = .int x ∧ isBy x = true)) : narrow ty v = v ∧ fits ty v = true := by
  rcases hv with ⟨rfl, x, rfl⟩ | ⟨rfl, x, rfl⟩ | ⟨rfl, x, rfl⟩ | ⟨rfl, x, rfl, hx⟩ <;> cases ty <;> first | exact ⟨rfl, rfl⟩ | (exact absurd h (by decide)) | (exact absurd h Bool.false_ne_true) | (have e := of_decide_eq_true hx; have h1 := pk_nb x; have h2 := pk_fb x; rw [e] at h1 h2; exact ⟨h1, h2⟩)
section PUT
variable {l : Launch} {D : va_G} {dA : Nat → ClassId} {ad : Nat → Nat} {zz : Value} {bs Ln : Nat} {xs : Nat → Int32} {d k : Nat} {p : Program} {e : Env} {R : Room} {s : State} {m : MethodId} {args : Array Value} {below : List Frame} {meth : Method} {c : Code} {c0 s0 : Nat} {Q : State → Prop} {pc : Nat} {Lo : ALs} {st : List Value} {h h' : AH}
variable {as : List Nat} {H : Heap} {locs : List Loc} {ls : Array Slot} {cells slots : Nat} {rest : List Value}
theorem am_put_ws {dA : Nat → ClassId} {ad : Nat → Nat} {as : List Nat} {h h' : AH} {a : Nat} {x : va_E} (h0 : am_NC ≤ a) (h1 : a < am_NC + as.length) (he : am_ob dA ad as h' a = x) (hkd : ∀ n, kd h' n = kd h n) (hiv : ∀ n i, n ≠ a → iv h' n i = iv h n i) (hjv : ∀ n i, n ≠ a → jv h' n i = jv h n i) (hrv : ∀ n i, n ≠ a → rv h' n i = rv h n i) : (am_ws dA ad as h).set (a - am_NC) (am_phi ad as a, x) = am_ws dA ad as h' :=
  am_ws_set h0 h1 he fun n hn => am_ob_congr (hkd n) (fun j => hiv n j hn) (fun j => hjv n j hn) (fun j => hrv n j hn)
set_option maxHeartbeats 1000000 in
theorem am_putf {ix j t a k2 : Nat} {v : Value} (C : am_Cx l D dA ad zz bs Ln xs d k p R s m args meth c) (hd : decode (mB k) pc = .ok (.putfield ix, 3)) (hf : fR (mC k) ix = some ((0, k2), j, t)) (hk : kd h a = (0, k2)) (hpf : pfOK k k2 j = true) (hW : am_WS D dA ad bs Ln xs as h H) (hS : va_S (am_A bs) s.heap H locs) (ha : a < nx h)
    (hfit : (t = 1 ∧ ∃ x, v = .int x) ∨ (t = 2 ∧ ∃ x, v = .long x) ∨ (t = 4 ∧ ∃ x, v = .ref x) ∨ (t = 7 ∧ ∃ x, v = .int x ∧ isBy x = true)) (hkd : ∀ n, kd h' n = kd h n) (hiv : ∀ n i, n ≠ a ∨ i ≠ j → iv h' n i = iv h n i) (hjv : ∀ n i, n ≠ a ∨ i ≠ j → jv h' n i = jv h n i) (hrv : ∀ n i, n ≠ a ∨ i ≠ j → rv h' n i = rv h n i) (hrd : am_rd h' a j t = v) (hnx : nx h' = nx h) (hVH : am_VH h')
    (K : ∀ (H1 : Heap) (locs1 : List Loc), am_WS D dA ad bs Ln xs as h' H1 → va_S (am_A bs) s.heap H1 locs1 → W p l e R s m args below meth c H1 locs1 cells slots Q (F0 m (pc + 3) ls rest)) : W p l e R s m args below meth c H locs cells slots Q (F0 m pc ls (am_cv ad zz as v :: .ref (am_phi ad as a) :: rest)) := by
  obtain ⟨hx, hb, hml, hr, hlk, hown, htr, hnm, hHH, ⟨hfr, hlo⟩, hKV, hK, hCF, ⟨hbs, hLn⟩, hzz, hinj, hadb, hU1, hU2⟩ := C
  obtain ⟨w, hok⟩ := am_f_at hf
  have hts := am_hts (args := args) hKV
  unfold am_fok at hok
  dsimp only at hok
  rw [if_pos rfl] at hok
  simp only [Bool.and_eq_true, decide_eq_true_eq] at hok
  obtain ⟨⟨⟨⟨⟨hci, hj⟩, hN⟩, hso⟩, hrf⟩, hlk9⟩ := hok
  obtain ⟨h0, h1, -, he⟩ := am_obj hW ha hk
  have hc := am_cl_at hci
  have hty := fun j hj => (am_ty_ok hci (j := j) hj).1
  obtain ⟨e1, e2⟩ := am_ty_ok hci hj
  rw [hso] at e2
  have hcv : (t = 1 ∧ ∃ x, am_cv ad zz as v = .int x) ∨ (t = 2 ∧ ∃ x, am_cv ad zz as v = .long x) ∨ (t = 4 ∧ ∃ x, am_cv ad zz as v = .ref x) ∨ (t = 7 ∧ ∃ x, am_cv ad zz as v = .int x ∧ isBy x = true) := by
    rcases hfit with ⟨q, x, rfl⟩ | ⟨q, x, rfl⟩ | ⟨q, x, rfl⟩ | ⟨q, x, rfl, hb9⟩
    · exact Or.inl ⟨q, x, rfl⟩
    · exact Or.inr (Or.inl ⟨q, x, rfl⟩)
    · exact Or.inr (Or.inr (Or.inl ⟨q, _, rfl⟩))
    · exact Or.inr (Or.inr (Or.inr ⟨q, x, rfl, hb9⟩))
  obtain ⟨f1, f2⟩ := am_fit e2 hcv
  have hjn : j < fnum k2 := by rw [← hN]; exact hj
  have hl9 : j < ((List.range (fnum k2)).map (am_fv ad as h a k2)).length := by simpa using hjn
  have hset : ((List.range (fnum k2)).map (am_fv ad as h a k2)).set j (am_cv ad zz as v) = (List.range (fnum k2)).map (am_fv ad as h' a k2) :=
    am_fv_set hjn (by rw [am_fv_rd (zz := zz) hso, hrd]) (fun i hi => by unfold am_fv; rw [hiv a i (Or.inr hi), hjv a i (Or.inr hi), hrv a i (Or.inr hi)])
  have hws : (am_ws dA ad as h).set (a - am_NC) (am_phi ad as a, .inr (k2, ((List.range (fnum k2)).map (am_fv ad as h a k2)).set j (am_cv ad zz as v))) = am_ws dA ad as h' := by
    refine am_put_ws h0 h1 ?_ hkd (fun n i hn => hiv n i (Or.inl hn)) (fun n i hn => hjv n i (Or.inl hn)) (fun n i hn => hrv n i (Or.inl hn))
    unfold am_ob
    rw [hkd, hk, hset]
    rfl
  have hCA : am_CA Ln xs h' := am_CA_set hW.2.2.2.2 h0 (fun n _ => hkd n) (fun n i hn => hiv n i (Or.inl hn)) (fun n i hn => hrv n i (Or.inl hn))
  have key : ∀ (H1 : Heap) (locs1 : List Loc), va_P D vwCl ((am_ws dA ad as h).set (a - am_NC) (am_phi ad as a, .inr (k2, ((List.range (fnum k2)).map (am_fv ad as h a k2)).set j (am_cv ad zz as v)))) H1 → va_D (am_A bs) ((am_ws dA ad as h).set (a - am_NC) (am_phi ad as a, .inr (k2, ((List.range (fnum k2)).map (am_fv ad as h a k2)).set j (am_cv ad zz as v)))) → va_S (am_A bs) s.heap H1 locs1 → W p l e R s m args below meth c H1 locs1 cells slots Q (F0 m (pc + 3) ls rest) := by
    intro H1 locs1 a1 a2 a3
    rw [hws] at a1 a2
    exact K H1 locs1 ⟨by rw [hnx]; exact hW.1, a1, a2, hVH, hCA⟩ a3
  unfold pfOK at hpf
  rw [show vwCl.getD k2 ("", TX1, 0) = am_cl k2 from rfl] at hpf
  by_cases hfin : (((am_cl k2).2.1 j).2.2.2) = true
  · rw [hfin] at hpf
    simp only [Bool.not_true, Bool.false_or, Bool.and_eq_true, beq_iff_eq] at hpf
    split at hlk9
    · exact va_putF hx hb hts (am_lays_in hc) (am_ty k2) hty (am_nm_ok hci) hown hK hW.2.1 hW.2.2.1 hS (a - am_NC) he hc j hj (hts _ (am_wd_mem hlk9)) (fun x hx9 => by rw [hrf]; exact hx9) hfin (hnm hpf.1) hpf.2 e1 f1 f2 hl9 hd key
    · simp only [Bool.and_eq_true, decide_eq_true_eq] at hlk9
      exact absurd hpf.2 hlk9.2
  · have hfin : ((am_cl k2).2.1 j).2.2.2 = false := by simpa using hfin
    split at hlk9
    · exact va_put hx hb hts (am_lays_in hc) (am_ty k2) hty (am_nm_ok hci) hown hK hW.2.1 hW.2.2.1 hS (a - am_NC) he hc j hj (hts _ (am_wd_mem hlk9)) (fun x hx9 => by rw [hrf]; exact hx9) hfin e1 f1 f2 hl9 hd key
    · simp only [Bool.and_eq_true, decide_eq_true_eq] at hlk9
      exact va_putN hx hb hts (am_lays_in hc) (am_ty k2) hty (am_nm_ok hci) hown hK hW.2.1 hW.2.2.1 hS (a - am_NC) he hc j hj (va_Nw.use rfl (hKV.2.1 _ (am_wn_mem hlk9.1))) (fun x hx9 => by rw [hrf]; exact hx9) hfin e1 f1 f2 hl9 hd key
end PUT
