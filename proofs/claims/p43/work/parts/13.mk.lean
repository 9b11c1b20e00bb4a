/-! NEW CELLS, STATICS, CONSTANTS, THE SMALL MEMBERS OF THE JDK. -/
theorem am_phi_ext {ad : Nat → Nat} {as t : List Nat} {n : Nat} (h : n < am_NC + as.length) : am_phi ad (as ++ t) n = am_phi ad as n := by
  unfold am_phi
  by_cases e : n < am_NC
  · rw [if_pos e, if_pos e]
  · rw [if_neg e, if_neg e, List.getD_eq_getElem?_getD, List.getD_eq_getElem?_getD, List.getElem?_append_left (by omega)]
theorem am_cv_ext {ad : Nat → Nat} {zz : Value} {as t : List Nat} {n : Nat} {v : Value} (h : am_V n v) (hn : n ≤ am_NC + as.length) : am_cv ad zz (as ++ t) v = am_cv ad zz as v := by
  cases v <;> first | rfl | (show Value.ref _ = Value.ref _; rw [am_phi_ext (Nat.lt_of_lt_of_le h hn)])
theorem am_st_ext {ad : Nat → Nat} {zz : Value} {as t : List Nat} {n : Nat} {st : List Value} (h : am_VS n st) (hn : n ≤ am_NC + as.length) : st.map (am_cv ad zz (as ++ t)) = st.map (am_cv ad zz as) :=
  List.map_congr_left fun v hv => am_cv_ext (h v hv) hn
theorem am_LR_ext {W : List Nat} {ad : Nat → Nat} {zz : Value} {as t : List Nat} {n nL : Nat} {L : ALs} {ls : Array Slot} (h : am_LR W (am_cv ad zz as) L ls nL) (hV : am_VL n L) (hn : n ≤ am_NC + as.length) : am_LR W (am_cv ad zz (as ++ t)) L ls nL :=
  ⟨h.1, h.2.1, fun i v hi => by rw [am_cv_ext (hV i v hi) hn]; exact h.2.2.1 i v hi, h.2.2.2⟩
theorem am_cv_c {ad : Nat → Nat} {zz : Value} {as : List Nat} {v : Value} (h : am_V am_NC v) : am_cv ad zz as v = am_cv ad zz [] v := by
  cases v <;> first | rfl | (show Value.ref _ = Value.ref _; rw [am_phi_c h, am_phi_c h])
theorem am_ob_ext {dA : Nat → ClassId} {ad : Nat → Nat} {as t : List Nat} {h : AH} {n : Nat} (hV : am_VH h) (hn : nx h ≤ am_NC + as.length) : am_ob dA ad (as ++ t) h n = am_ob dA ad as h n := by
  have e1 : ∀ j, (rv h n j).map (am_phi ad (as ++ t)) = (rv h n j).map (am_phi ad as) := by
    intro j
    cases e : rv h n j with
    | none => rfl
    | some b => exact congrArg some (am_phi_ext (Nat.lt_of_lt_of_le (hV.2.1 n j b e) hn))
  have ef : am_fv ad (as ++ t) h n = am_fv ad as h n := by
    funext ci j
    unfold am_fv
    rw [e1]
  unfold am_ob am_arr
  rw [ef]
  simp only [e1]
/-- the world with one cell more -/
theorem am_ws_new {dA : Nat → ClassId} {ad : Nat → Nat} {as : List Nat} {h : AH} {q N : Nat} {kk : Nat × Nat} (h1 : am_NC + as.length = nx h) (hV : am_VH h) : am_ws dA ad (as ++ [q]) (mkA h kk N) = am_ws dA ad as h ++ [(q, am_ob dA ad (as ++ [q]) (mkA h kk N) (nx h))] := by
  refine List.ext_getElem? fun i => ?_
  have hl : (am_ws dA ad as h).length = as.length := am_ws_len
  by_cases e : i < as.length
  · rw [am_ws_get (by simp; omega), List.getElem?_append_left (by omega), am_ws_get e, am_phi_ext (by omega)]
    have hn : am_NC + i ≠ nx h := by omega
    have e2 : am_ob dA ad (as ++ [q]) (mkA h kk N) (am_NC + i) = am_ob dA ad (as ++ [q]) h (am_NC + i) :=
      am_ob_congr (show (if _ then _ else _) = _ from if_neg hn) (fun j => show (if _ then _ else _) = _ from if_neg hn) (fun j => show (if _ then _ else _) = _ from if_neg hn) (fun j => show (if _ then _ else _) = _ from if_neg hn)
    rw [e2, am_ob_ext hV (by omega)]
  · by_cases e3 : i = as.length
    · subst e3
      rw [am_ws_get (by simp), List.getElem?_append_right (by omega), hl, Nat.sub_self]
      have e4 : am_phi ad (as ++ [q]) (am_NC + as.length) = q := by
        unfold am_phi
        rw [if_neg (by omega), show am_NC + as.length - am_NC = as.length by omega, List.getD_eq_getElem?_getD, List.getElem?_append_right (Nat.le_refl _), Nat.sub_self]
        rfl
      rw [e4, h1]
      rfl
    · rw [List.getElem?_eq_none (by rw [am_ws_len]; simp; omega), List.getElem?_eq_none (by simp [hl]; omega)]
theorem am_VH_mk {h : AH} {kk : Nat × Nat} {N : Nat} (hV : am_VH h) (h6 : kk.1 ≤ 9) (h7 : kk.1 = 0 → kk.2 < 10) : am_VH (mkA h kk N) := by
  refine ⟨Nat.le_succ_of_le hV.1, fun a j b hb => ?_, fun n h1 h2 => ?_⟩
  · have hb' : (if a = nx h then none else h.2.2.2.1 a j) = some b := hb
    split at hb'
    · cases hb'
    · exact Nat.lt_succ_of_lt (hV.2.1 a j b hb')
  · show (if n = nx h then kk else h.1 n).1 ≤ 9 ∧ ((if n = nx h then kk else h.1 n).1 = 0 → (if n = nx h then kk else h.1 n).2 < 10)
    split
    · exact ⟨h6, h7⟩
    · rename_i hn
      have h3 : n < nx h + 1 := h2
      exact hV.2.2 n h1 (by omega)
theorem am_CA_mk {L : Nat} {xs : Nat → Int32} {h : AH} {kk : Nat × Nat} {N : Nat} (hC : am_CA L xs h) (hV : am_VH h) : am_CA L xs (mkA h kk N) := by
  intro n hn
  have e : n ≠ nx h := by have := hV.1; omega
  have e1 : kd (mkA h kk N) n = kd h n := if_neg e
  rw [e1]
  refine ⟨(hC n hn).1, fun j => ?_⟩
  have e2 : iv (mkA h kk N) n j = iv h n j := if_neg e
  have e3 : rv (mkA h kk N) n j = rv h n j := if_neg e
  rw [e2, e3]
  exact (hC n hn).2 j
/-! the tables of new, anewarray, getstatic, ldc -/
def am_nok (e : (Nat × Nat) × Nat × Nat) (w : Nat × Nat) : Bool := decide (e.2.1 < 10) && decide (e.2.2 = (am_cl e.2.1).2.2) && decide (e.2.2 = fnum e.2.1) && am_wd w.1 (.classLink (cNm e.1.1) e.1.2 (am_cl e.2.1).1) && am_wd w.2 (.instantiable (am_cl e.2.1).1 e.2.2) && decide (Cond.initialized (am_cl e.2.1).1 ∈ am_tb)
theorem am_nck : (nT.zip nWs).all (fun q => am_nok q.1 q.2) = true := by decide +kernel
theorem am_nln : nT.length = nWs.length := by decide +kernel
theorem am_n_at {c i : Nat} {r : Nat × Nat} (h : nR c i = some r) : ∃ w, am_nok ((c, i), r) w = true := by
  obtain ⟨w, hw⟩ := am_zip am_nln (am_lookup h)
  exact ⟨w, List.all_eq_true.mp am_nck _ hw⟩
def am_aNm (t : Nat) : String := if t = 4 then "MarkShelter$Sign" else if t = 5 then "MarkShelter$Stray" else if t = 6 then "MarkShelter$Order" else if t = 7 then "java/lang/String" else "[I"
def am_aok (e : (Nat × Nat) × Nat × Nat) : Bool := decide (4 ≤ e.2.1 ∧ e.2.1 ≤ 8) && am_wd e.2.2 (.classLink (cNm e.1.1) e.1.2 (am_aNm e.2.1))
theorem am_ack : aT.all am_aok = true := by decide +kernel
/-- casts of arrays -/
def am_xok (e : (Nat × Nat) × Nat × Nat) : Bool := (decide (e.2.1 = 1) && am_wd e.2.2 (.classLink (cNm e.1.1) e.1.2 "[I")) || (decide (e.2.1 = 3) && am_wd e.2.2 (.classLink (cNm e.1.1) e.1.2 "[B"))
theorem am_xck2 : xT.all am_xok = true := by decide +kernel
def am_vok : Value → Bool
  | .ref n => decide (n < am_NC)
  | _ => true
def am_sok (e : (Nat × Nat) × Value) (w : String × String × String × String × Nat) : Bool := am_vok e.2 && (if w.2.2.2.1 = "" then am_wd w.2.2.2.2 (.fieldLink (cNm e.1.1) e.1.2 w.1 w.2.1 w.2.2.1) else am_wn w.2.2.2.2 (.fieldLinkNest (cNm e.1.1) e.1.2 w.1 w.2.1 w.2.2.1 w.2.2.2.1))
theorem am_sck : (sT.zip sWs).all (fun q => am_sok q.1 q.2) = true := by decide +kernel
theorem am_sln : sT.length = sWs.length := by decide +kernel
def am_lok (e : (Nat × Nat) × Value × Nat) : Bool := match e.2.1 with
  | .long x => am_wd e.2.2 (.constantLong (cNm e.1.1) e.1.2 x)
  | .int x => am_wd e.2.2 (.constant (cNm e.1.1) e.1.2 x)
  | .ref n => decide (n < am_NC) && k_ldc.any (fun t => decide (t.1 = cNm e.1.1) && decide (t.2.1 = e.1.2) && decide (k_sA t.2.2.2 = n))
  | _ => false
theorem am_lck : lT.all am_lok = true := by decide +kernel
theorem am_vok_V {v : Value} (h : am_vok v = true) : am_V am_NC v := by
  cases v <;> first | exact trivial | exact (of_decide_eq_true h : _ < am_NC)
def am_dv : Nat → Value
  | 1 => .int 0
  | 2 => .long 0
  | 5 => .int 0
  | 7 => .int 0
  | _ => .null
section MK
variable {l : Launch} {D : va_G} {dA : Nat → ClassId} {ad : Nat → Nat} {zz : Value} {bs Ln : Nat} {xs : Nat → Int32} {d k : Nat} {p : Program} {e : Env} {R : Room} {s : State} {m : MethodId} {args : Array Value} {below : List Frame} {meth : Method} {c : Code} {as0 : List Nat} {c0 s0 : Nat} {Q : State → Prop} {pc : Nat} {Lo : ALs} {st : List Value} {h h' : AH}
variable {as : List Nat} {H : Heap} {locs : List Loc} {ls : Array Slot} {cells slots : Nat} {rest : List Value}
theorem am_fv_mk {as : List Nat} {N ci j : Nat} : am_fv ad as (mkA h (0, ci) N) (nx h) ci j = am_dv ((fsT.getD ci []).getD j 0) := by
  have e1 : iv (mkA h (0, ci) N) (nx h) j = 0 := if_pos rfl
  have e2 : jv (mkA h (0, ci) N) (nx h) j = 0 := if_pos rfl
  have e3 : rv (mkA h (0, ci) N) (nx h) j = none := if_pos rfl
  unfold am_fv
  rw [e1, e2, e3]
  generalize (fsT.getD ci []).getD j 0 = t
  rcases t with _ | _ | _ | _ | _ | _ | _ | _ | t <;> rfl
theorem am_dflt {t : Nat} {ty : FieldType} (h : am_tyok t ty = true) : defaultValue ty = am_dv t := by
  cases ty <;> simp [am_tyok] at h <;> subst h <;> rfl
theorem sm_new {ix ci N : Nat} (C : am_Cx l D dA ad zz bs Ln xs d k p R s m args meth c) (hd : decode (mB k) pc = .ok (.new ix, 3)) (hn : nR (mC k) ix = some (ci, N)) (hcr : nc h + 1 ≤ R.cells + c0) (hsr : ns h + N ≤ R.slots + s0)
    (K : am_Sim D dA ad zz bs Ln xs k p l e R s m args below meth c as0 c0 s0 Q (pc + 3) Lo (.ref (nx h) :: st) (mkA h (0, ci) N)) : am_Sim D dA ad zz bs Ln xs k p l e R s m args below meth c as0 c0 s0 Q pc Lo st h := by
  obtain ⟨hx, hb, hml, hr, hlk, hown, htr, hnm, hHH, ⟨hfr, hlo⟩, hKV, hK, hCF, ⟨hbs, hLn⟩, hzz, hinj, hadb, hU1, hU2⟩ := C
  intro as H locs ls hX hW hS hL hVL hVS hc hs
  have hts := am_hts (args := args) hKV
  obtain ⟨w, hok⟩ := am_n_at hn
  unfold am_nok at hok
  simp only [Bool.and_eq_true, decide_eq_true_eq] at hok
  obtain ⟨⟨⟨⟨⟨hci, hN⟩, hN2⟩, hw1⟩, hw2⟩, hw3⟩ := hok
  have hcl := am_cl_at hci
  have hn9 : nx h ≤ am_NC + as.length := by rw [hW.1]; exact Nat.le_refl _
  refine va_new (ci := ci) (fs := (List.range (fnum ci)).map (am_fv ad (as ++ [0]) (mkA h (0, ci) N) (nx h) ci)) hx hb hts (am_lays_in hcl) (am_ty ci) (fun j hj => (am_ty_ok hci hj).1) hown (hts _ (am_wd_mem hw1)) (by rw [← hN]; exact hts _ (am_wd_mem hw2)) (hts _ (List.mem_filter.mpr ⟨hw3, rfl⟩)) hK hW.2.1 hW.2.2.1 hS (fun q hq => Nat.le_trans hbs hq) hcl (fun j hj => ?_) (by omega) (by rw [← hN]; omega) hd (fun q H1 a1 a2 a3 => ?_)
  · unfold vp_V
    rw [List.getD_eq_getElem?_getD, am_fv_get (by rw [← hN2, hN]; exact hj), am_fv_mk]
    exact am_dflt (am_ty_ok hci hj).2
  · have e1 : ∀ j, am_fv ad (as ++ [0]) (mkA h (0, ci) N) (nx h) ci j = am_fv ad (as ++ [q]) (mkA h (0, ci) N) (nx h) ci j := fun j => by rw [am_fv_mk, am_fv_mk]
    have e2 : (List.range (fnum ci)).map (am_fv ad (as ++ [0]) (mkA h (0, ci) N) (nx h) ci) = (List.range (fnum ci)).map (am_fv ad (as ++ [q]) (mkA h (0, ci) N) (nx h) ci) := List.map_congr_left fun j _ => e1 j
    have e3 : am_ob dA ad (as ++ [q]) (mkA h (0, ci) N) (nx h) = .inr (ci, (List.range (fnum ci)).map (am_fv ad (as ++ [q]) (mkA h (0, ci) N) (nx h) ci)) := by
      have e4 : kd (mkA h (0, ci) N) (nx h) = (0, ci) := if_pos rfl
      unfold am_ob
      rw [e4]
      rfl
    rw [e2, ← e3, ← am_ws_new hW.1 hW.2.2.2.1] at a1 a2
    have hn8 : am_NC + as.length = nx h := hW.1
    have K9 := K (as ++ [q]) H1 locs ls (by obtain ⟨t9, rfl⟩ := hX; exact ⟨t9 ++ [q], by rw [List.append_assoc]⟩) ⟨by show am_NC + (as ++ [q]).length = nx h + 1; rw [List.length_append]; show am_NC + (as.length + 1) = _; omega, a1, a2, am_VH_mk hW.2.2.2.1 (Nat.zero_le _) (fun _ => hci), am_CA_mk hW.2.2.2.2 hW.2.2.2.1⟩ a3 (am_LR_ext hL hVL hn9) (hVL.mono (Nat.le_succ _)) (am_VS.cons (Nat.lt_succ_self _) (hVS.mono (Nat.le_succ _))) (Nat.le_succ_of_le hc) (Nat.le_trans hs (Nat.le_add_right _ _))
    have e5 : am_phi ad (as ++ [q]) (nx h) = q := by
      rw [← hn8]
      unfold am_phi
      rw [if_neg (by omega), show am_NC + as.length - am_NC = as.length by omega, List.getD_eq_getElem?_getD, List.getElem?_append_right (Nat.le_refl _), Nat.sub_self]
      rfl
    have e6 : nc (mkA h (0, ci) N) - c0 = nc h - c0 + 1 := by show nc h + 1 - c0 = _; omega
    have e7 : ns (mkA h (0, ci) N) - s0 = ns h - s0 + (am_cl ci).2.2 := by show ns h + N - s0 = _; omega
    rw [e6, e7, List.map_cons, am_st_ext hVS hn9] at K9
    have e8 : am_cv ad zz (as ++ [q]) (.ref (nx h)) = .ref q := by show Value.ref _ = _; rw [e5]
    rw [e8] at K9
    exact K9
end MK
