/-! FIELDS. -/
def am_cl (ci : Nat) : vw_C := vwCl.getD ci ("", TX1, 0)
def am_fok (e : (Nat × Nat) × (Nat × Nat) × Nat × Nat) (w : String × String × Nat) : Bool :=
  if e.2.1.1 = 0 then
    decide (e.2.1.2 < 10) && decide (e.2.2.1 < (am_cl e.2.1.2).2.2) && decide ((am_cl e.2.1.2).2.2 = fnum e.2.1.2) && decide ((fsT.getD e.2.1.2 []).getD e.2.2.1 0 = e.2.2.2) && decide (w.1 = ((am_cl e.2.1.2).2.1 e.2.2.1).1) &&
    (if w.2.1 = "" then am_wd w.2.2 (.fieldLink (cNm e.1.1) e.1.2 w.1 ((am_cl e.2.1.2).2.1 e.2.2.1).2.1 ((am_cl e.2.1.2).2.1 e.2.2.1).2.2.1)
     else am_wn w.2.2 (.fieldLinkNest (cNm e.1.1) e.1.2 w.1 ((am_cl e.2.1.2).2.1 e.2.2.1).2.1 ((am_cl e.2.1.2).2.1 e.2.2.1).2.2.1 w.2.1) && decide (((am_cl e.2.1.2).2.1 e.2.2.1).1 ≠ cNm e.1.1))
  else if e.2.1 = (10, 0) then
    (if e.2.2.1 = 0 then decide (e.2.2.2 = 4) && am_wd w.2.2 (.fieldLink (cNm e.1.1) e.1.2 "MarkShelter$Sign" "text" "Ljava/lang/String;")
     else decide (e.2.2.1 = 1) && decide (e.2.2.2 = 1) && am_wd w.2.2 (.fieldLink (cNm e.1.1) e.1.2 "java/lang/Enum" "ordinal" "I"))
  else false
/-- the fields of String that a constant is asked for -/
def am_sfk (e : (Nat × Nat) × (Nat × Nat) × Nat × Nat) (w : String × String × Nat) : Bool := !decide (e.2.1 = (0, 9)) || (if e.2.2.1 = 0 then decide (e.2.2.2 = 4) && am_wd w.2.2 (.fieldLink (cNm e.1.1) e.1.2 "java/lang/String" "value" "[B")
     else decide (e.2.2.1 = 1) && decide (e.2.2.2 = 7) && am_wd w.2.2 (.fieldLink (cNm e.1.1) e.1.2 "java/lang/String" "coder" "B"))
theorem am_fck : (fT.zip fWs).all (fun q => am_fok q.1 q.2 && am_sfk q.1 q.2) = true := by decide +kernel
theorem am_fln : fT.length = fWs.length := by decide +kernel
theorem am_lookup {α β : Type} [BEq α] [LawfulBEq α] {a : α} {b : β} : ∀ {l : List (α × β)}, l.lookup a = some b → (a, b) ∈ l
  | [], h => by simp at h
  | (x, y) :: l, h => by
    rw [List.lookup_cons] at h
    split at h
    · rename_i hx
      have e : a = x := by simpa using hx
      have e2 : y = b := by simpa using h
      rw [e, ← e2]
      exact List.mem_cons_self
    · exact List.mem_cons_of_mem _ (am_lookup h)
theorem am_zip {α β : Type} {l : List α} {r : List β} (hl : l.length = r.length) {a : α} (h : a ∈ l) : ∃ b, (a, b) ∈ l.zip r := by
  obtain ⟨i, hi, rfl⟩ := List.getElem_of_mem h
  refine ⟨r[i]'(by omega), ?_⟩
  rw [← List.getElem_zip (h := by rw [List.length_zip]; omega)]
  exact List.getElem_mem _
theorem am_f_at2 {c i : Nat} {r : (Nat × Nat) × Nat × Nat} (h : fR c i = some r) : ∃ w, am_fok ((c, i), r) w = true ∧ am_sfk ((c, i), r) w = true := by
  obtain ⟨w, hw⟩ := am_zip am_fln (am_lookup h)
  have h1 := List.all_eq_true.mp am_fck _ hw
  rw [Bool.and_eq_true] at h1
  exact ⟨w, h1⟩
theorem am_f_at {c i : Nat} {r : (Nat × Nat) × Nat × Nat} (h : fR c i = some r) : ∃ w, am_fok ((c, i), r) w = true := by
  obtain ⟨w, hw, -⟩ := am_f_at2 h
  exact ⟨w, hw⟩
theorem am_cl_at {ci : Nat} (h : ci < 10) : vwCl[ci]? = some (am_cl ci) := by
  unfold am_cl
  rw [List.getD_eq_getElem?_getD]
  have : ci < vwCl.length := h
  rw [List.getElem?_eq_getElem this]
  rfl
theorem k_kd_10 {L n : Nat} (h : k_kd L n = (10, 0)) : n < 49 := by
  unfold k_kd at h
  (repeat' split at h) <;> first | assumption | (simp at h)
theorem k_kd_11 {L n : Nat} (h : k_kd L n = (11, 0)) : ∃ t, t < 65 ∧ n = k_sA t ∧ k_bA t < 200 ∧ k_rv n 0 = some (k_bA t) := by
  have key : (60 ≤ n ∧ n < 106) ∨ (156 ≤ n ∧ n < 175) := by
    unfold k_kd at h
    (repeat' split at h) <;> first | (left; assumption) | (right; assumption) | (simp at h)
  rcases key with k | k
  · refine ⟨n - 60, by omega, ?_, ?_, ?_⟩
    · unfold k_sA; rw [if_pos (by omega)]; omega
    · unfold k_bA; rw [if_pos (by omega)]; omega
    · unfold k_rv k_bA
      rw [if_neg (by omega), if_neg (by omega), if_pos k, if_pos rfl, if_pos (by omega), show 110 + (n - 60) = n + 50 by omega]
  · refine ⟨n - 110, by omega, ?_, ?_, ?_⟩
    · unfold k_sA; rw [if_neg (by omega)]; omega
    · unfold k_bA; rw [if_neg (by omega)]; omega
    · unfold k_rv k_bA
      rw [if_neg (by omega), if_neg (by omega), if_neg (by omega), if_pos k, if_pos rfl, if_neg (by omega), show 129 + (n - 110) = n + 19 by omega]
theorem k_iv_11 {n L : Nat} {xs : Nat → Int32} (h : k_kd L n = (11, 0)) : k_iv xs n 1 = 0 := by
  have key : (60 ≤ n ∧ n < 106) ∨ (156 ≤ n ∧ n < 175) := by
    unfold k_kd at h
    (repeat' split at h) <;> first | (left; assumption) | (right; assumption) | (simp at h)
  unfold k_iv
  rw [if_neg (by omega), if_neg (by omega), if_neg (by omega), if_neg (by omega), if_neg (by omega), if_neg (by omega), if_neg (by omega)]
/-- a constant by its kind -/
theorem am_const {D : va_G} {dA : Nat → ClassId} {ad : Nat → Nat} {bs L : Nat} {xs : Nat → Int32} {as : List Nat} {h : AH} {H : Heap} {a : Nat} (hW : am_WS D dA ad bs L xs as h H) (ha : a < nx h) (ht : 10 ≤ (kd h a).1) : a < am_NC ∧ kd h a = k_kd L a ∧ ∀ j, iv h a j = k_iv xs a j ∧ rv h a j = k_rv a j := by
  obtain ⟨h1, -, -, hV, hC⟩ := hW
  have h0 : a < am_NC := by
    rcases Nat.lt_or_ge a am_NC with q | q
    · exact q
    · have := (hV.2.2 a q ha).1
      omega
  exact ⟨h0, hC a h0⟩
theorem am_phi_c {ad : Nat → Nat} {as : List Nat} {a : Nat} (h : a < am_NC) : am_phi ad as a = ad a := by unfold am_phi; rw [if_pos h]
theorem am_cv_rf {ad : Nat → Nat} {zz : Value} {as : List Nat} {r : Option Nat} : am_cv ad zz as (va_rf r) = va_rf (r.map (am_phi ad as)) := by cases r <;> rfl
def am_rd (h : AH) (a j t : Nat) : Value := if t = 1 then .int (iv h a j) else if t = 2 then .long (jv h a j) else if t = 7 ∨ t = 5 then .int (iv h a j) else va_rf (rv h a j)
theorem am_fv_rd {ad : Nat → Nat} {zz : Value} {as : List Nat} {h : AH} {a ci j t : Nat} (hs : (fsT.getD ci []).getD j 0 = t) : am_fv ad as h a ci j = am_cv ad zz as (am_rd h a j t) := by
  unfold am_fv am_rd
  rw [hs]
  by_cases h1 : t = 1
  · subst h1; rfl
  · by_cases h2 : t = 2
    · subst h2; rfl
    · by_cases h7 : t = 7 ∨ t = 5
      · rcases h7 with rfl | rfl <;> rfl
      · rw [if_neg h1, if_neg h2, if_neg h7, am_cv_rf]
        split
        · exact absurd rfl h1
        · exact absurd rfl h2
        · exact absurd (Or.inr rfl) h7
        · exact absurd (Or.inl rfl) h7
        · rfl
section FLD
variable {l : Launch} {D : va_G} {dA : Nat → ClassId} {ad : Nat → Nat} {zz : Value} {bs Ln : Nat} {xs : Nat → Int32} {d k : Nat} {p : Program} {e : Env} {R : Room} {s : State} {m : MethodId} {args : Array Value} {below : List Frame} {meth : Method} {c : Code} {c0 s0 : Nat} {Q : State → Prop} {pc : Nat} {Lo : ALs} {st : List Value} {h : AH}
variable {as : List Nat} {H : Heap} {locs : List Loc} {ls : Array Slot} {cells slots : Nat} {rest : List Value}
theorem am_hts (hKV : am_KV ad s) : ∀ w ∈ am_GW, w.before args s = true := fun w hw => am_gw (am_gwf hw) (hKV.1 w hw)
set_option maxHeartbeats 1000000 in
theorem am_getf {ix j t a : Nat} {kk : Nat × Nat} (C : am_Cx l D dA ad zz bs Ln xs d k p R s m args meth c) (hd : decode (mB k) pc = .ok (.getfield ix, 3)) (hf : fR (mC k) ix = some (kk, j, t)) (hk : kd h a = kk ∨ (kk = (0, 9) ∧ kd h a = (11, 0))) (hW : am_WS D dA ad bs Ln xs as h H) (hS : va_S (am_A bs) s.heap H locs) (ha : a < nx h)
    (K : W p l e R s m args below meth c H locs cells slots Q (F0 m (pc + 3) ls (am_cv ad zz as (am_rd h a j t) :: rest))) : W p l e R s m args below meth c H locs cells slots Q (F0 m pc ls (.ref (am_phi ad as a) :: rest)) := by
  obtain ⟨hx, hb, hml, hr, hlk, hown, htr, hnm, hHH, ⟨hfr, hlo⟩, hKV, hK, hCF, ⟨hbs, hLn⟩, hzz, hinj, hadb, hU1, hU2⟩ := C
  have hts := am_hts (args := args) hKV
  rcases hk with hk | ⟨hkk, hk⟩
  case inr =>
    obtain ⟨w, -, hok⟩ := am_f_at2 hf
    subst hkk
    unfold am_sfk at hok
    dsimp only at hok
    obtain ⟨g0, g1, g2⟩ := am_const hW ha (by rw [hk]; decide)
    obtain ⟨ti, ht65, hta, htb, htr2⟩ := k_kd_11 (g1.symm.trans hk)
    obtain ⟨c1, c2, c3, c4⟩ := hCF.2.1 ti ht65
    rw [← hta] at c1 c2 c3
    rw [am_phi_c g0]
    rw [Bool.or_eq_true] at hok
    rcases hok with hok | hok
    · simp at hok
    · split at hok
      · rename_i e2
        simp only [Bool.and_eq_true, decide_eq_true_eq] at hok
        obtain ⟨rfl, hlk9⟩ := hok
        subst e2
        have e3 : am_rd h a 0 4 = .ref (k_bA ti) := by
          show va_rf (rv h a 0) = _
          rw [(g2 0).2, htr2]
          rfl
        rw [e3] at K
        refine vk_getf hx hb c2 hS hown (hts _ (am_wd_mem hlk9)) (fun _ q => q) hd ?_
        have e4 : am_cv ad zz as (.ref (k_bA ti)) = .ref (ad (k_bA ti)) := by
          show Value.ref _ = _
          rw [am_phi_c htb]
        rw [← e4]
        exact K
      · simp only [Bool.and_eq_true, decide_eq_true_eq] at hok
        obtain ⟨⟨rfl, rfl⟩, hlk9⟩ := hok
        have e3 : am_rd h a 1 7 = .int 0 := by
          show Value.int (iv h a 1) = _
          rw [(g2 1).1, k_iv_11 (g1.symm.trans hk)]
        rw [e3] at K
        exact vk_getf hx hb c3 hS hown (hts _ (am_wd_mem hlk9)) (fun _ q => q) hd K
  obtain ⟨w, hok⟩ := am_f_at hf
  obtain ⟨k1, k2⟩ := kk
  unfold am_fok at hok
  dsimp only at hok
  by_cases e0 : k1 = 0
  · subst e0
    rw [if_pos rfl] at hok
    simp only [Bool.and_eq_true, decide_eq_true_eq] at hok
    obtain ⟨⟨⟨⟨⟨hci, hj⟩, hN⟩, hso⟩, hrf⟩, hlk9⟩ := hok
    obtain ⟨h0, h1, -, he⟩ := am_obj hW ha hk
    have hc := am_cl_at hci
    rw [am_fv_rd (ad := ad) (zz := zz) (as := as) hso |>.symm] at K
    have hv := am_fv_get (ad := ad) (as := as) (h := h) (a := a) (ci := k2) (j := j) (by rw [← hN]; exact hj)
    split at hlk9
    · exact va_get hx hb hts (am_lays_in hc) hown hK hW.2.1 (a - am_NC) he hc j hj (hts _ (am_wd_mem hlk9)) (fun x hx9 => by rw [hrf]; exact hx9) hv hd K
    · rw [Bool.and_eq_true] at hlk9
      exact va_getN hx hb hts (am_lays_in hc) hown hK hW.2.1 (a - am_NC) he hc j hj (va_Nw.use rfl (hKV.2.1 _ (am_wn_mem hlk9.1))) (fun x hx9 => by rw [hrf]; exact hx9) hv hd K
  · rw [if_neg e0] at hok
    split at hok
    · rename_i e1
      rw [e1] at hk
      obtain ⟨g0, g1, g2⟩ := am_const hW ha (by rw [hk]; decide)
      have hi : a < 49 := k_kd_10 (g1.symm.trans hk)
      obtain ⟨c1, c2, c3⟩ := hCF.1 a hi
      rw [am_phi_c g0]
      split at hok
      · rename_i e2
        simp only [Bool.and_eq_true, decide_eq_true_eq] at hok
        obtain ⟨rfl, hlk9⟩ := hok
        subst e2
        have e3 : am_rd h a 0 4 = .ref (60 + k_text.getD a 0) := by
          unfold am_rd
          rw [(g2 0).2]
          unfold k_rv
          rw [if_pos hi]
          rfl
        rw [e3] at K
        refine vk_getf hx hb c3 hS hown (hts _ (am_wd_mem hlk9)) (fun _ q => q) hd ?_
        have e4 : am_cv ad zz as (.ref (60 + k_text.getD a 0)) = .ref (ad (60 + k_text.getD a 0)) := by
          show Value.ref _ = _
          rw [am_phi_c (show 60 + k_text.getD a 0 < am_NC by
            have : ∀ i, i < 49 → 60 + k_text.getD i 0 < am_NC := by decide +kernel
            exact this a hi)]
        rw [← e4]
        exact K
      · simp only [Bool.and_eq_true, decide_eq_true_eq] at hok
        obtain ⟨⟨rfl, rfl⟩, hlk9⟩ := hok
        have e3 : am_rd h a 1 1 = .int (nI a) := by
          unfold am_rd
          rw [if_pos rfl, (g2 1).1]
          unfold k_iv
          rw [if_pos hi, if_pos rfl]
        rw [e3] at K
        exact vk_getf hx hb c2 hS hown (hts _ (am_wd_mem hlk9)) (fun _ q => q) hd K
    · exact absurd hok Bool.false_ne_true
end FLD
