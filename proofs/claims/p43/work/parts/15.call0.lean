/-! CALLS: the tables, and the members of the JDK that the kit has rows for. -/
/-- one word, compared by its names alone where they tell -/
def am_sameW : Cond → Cond → Bool
  | .sameMethod a b c d, .sameMethod a' b' c' d' => decide (a = a' ∧ b = b' ∧ c = c' ∧ d = d')
  | .superclass a b, .superclass a' b' => decide (a = a' ∧ b = b')
  | .instanceMethod a, .instanceMethod a' => decide (a = a')
  | .code a b c d, .code a' b' c' d' => decide (a = a') && decide (Cond.code a b c d = Cond.code a' b' c' d')
  | _, _ => false
theorem am_sameW_eq {x w : Cond} (h : am_sameW x w = true) : x = w := by
  unfold am_sameW at h
  split at h
  · obtain ⟨rfl, rfl, rfl, rfl⟩ := of_decide_eq_true h
    rfl
  · obtain ⟨rfl, rfl⟩ := of_decide_eq_true h
    rfl
  · rw [of_decide_eq_true h]
  · rw [Bool.and_eq_true, decide_eq_true_eq, decide_eq_true_eq] at h
    exact h.2
  · cases h
/-- a word among the tables', found by looking -/
def am_wdX (w : Cond) (q : Prop) [Decidable q] : Bool := !decide q || (am_tb.any (fun x => am_sameW x w) && goodWord w)
def am_lkn (kc y : Nat) : MethodName := if kc = 15 then am_xA y else mY y
/-- the sorts of call that StringBuilder wants -/
def am_cnew (c y kc : Nat) (rk : Nat × Nat) : Bool := decide (rk = (0, 8)) && ((decide (kc = 6 ∨ kc = 14) && decide ((mY y).cls = "java/lang/AbstractStringBuilder") && am_wdX (.sameMethod (mY y).cls (mY y).cls (mY y).name (mY y).desc) (kc = 14)) ||
  (decide (kc = 13) && decide (cNm c = "java/lang/StringBuilder") && decide ((mY y).name ≠ "<init>") && am_wdX (.superclass (cNm c) (mY y).cls) True) ||
  (decide (kc = 15) && decide ((mY y).cls = "java/lang/StringBuilder") && am_wdX (.sameMethod "java/lang/AbstractStringBuilder" "java/lang/AbstractStringBuilder" (mY y).name (mY y).desc) True && am_wdX (.instanceMethod (am_xA y)) True && am_wdX (am_cw 167) True && decide (mY 167 = am_xA y)))
theorem am_wdX_mem {w : Cond} {q : Prop} [Decidable q] (hq : q) (h : am_wdX w q = true) : w ∈ am_GW := by
  unfold am_wdX at h
  rw [Bool.or_eq_true, Bool.and_eq_true] at h
  rcases h with h | ⟨h1, h2⟩
  · rw [decide_eq_true hq] at h
    cases h
  · obtain ⟨x, hx, he⟩ := List.any_eq_true.mp h1
    exact List.mem_filter.mpr ⟨am_sameW_eq he ▸ hx, h2⟩
/-- a row of calls, held to its words -/
def am_cok (e : (Nat × Nat) × Nat × Nat × Nat × (Nat × Nat)) (w : String × Nat) : Bool :=
  let c := e.1.1; let i := e.1.2; let y := e.2.1; let n := e.2.2.1; let kc := e.2.2.2.1; let rk := e.2.2.2.2
  if kc = 9 then am_wd w.2 (.methodLink (cNm c) i Lib.objectInit)
  else if kc = 8 then am_wd w.2 (.methodLink (cNm c) i arraycopyName)
  else if kc = 10 then am_wd w.2 (.methodLink (cNm c) i Lib.Math.max.name)
  else if kc = 11 then am_wd w.2 (.methodLink (cNm c) i Lib.Math.min.name)
  else if kc = 16 then (decide (rk.1 = 1) && am_wd w.2 (.methodLink (cNm c) i ⟨"[I", "clone", "()Ljava/lang/Object;"⟩)) || (decide (rk.1 = 3) && am_wd w.2 (.methodLink (cNm c) i ⟨"[B", "clone", "()Ljava/lang/Object;"⟩))
  else if kc = 5 then am_wd w.2 (.methodLink (cNm c) i ⟨"MarkShelter$Sign", "ordinal", "()I"⟩) && decide (n = 0) && decide (rk = (10, 0)) && decide (mY y = ⟨"java/lang/Enum", "ordinal", "()I"⟩)
  else decide ((parseMethodDescriptor (mY y).desc).map (fun d => d.parameters.length) = some n) &&
    (if kc = 1 ∨ kc = 4 then am_wn w.2 (.methodLinkNest (cNm c) i (mY y) w.1) else am_wd w.2 (.methodLink (cNm c) i (am_lkn kc y))) &&
    (if kc = 7 then !(mH y).isEmpty else (mH y).isEmpty) &&
    (if kc = 3 ∨ kc = 4 then decide ((mY y).name = "<init>") && decide (mRT y = none) else true) &&
    (if kc = 2 then (decide (rk.1 = 0) && decide (rk.2 < 10) && decide ((am_cl rk.2).1 = (mY y).cls)) || (decide (rk = (11, 0)) && decide ((mY y).cls = "java/lang/String")) else true) &&
    (decide (kc = 0) || decide (kc = 1) || decide (kc = 2) || decide (kc = 3) || decide (kc = 4) || decide (kc = 7) || am_cnew c y kc rk)
theorem am_cck : (cT.zip cWs).all (fun q => am_cok q.1 q.2) = true := by decide +kernel
theorem am_cln : cT.length = cWs.length := by decide +kernel
theorem am_c_at {c i : Nat} {r : Nat × Nat × Nat × (Nat × Nat)} (h : cR c i = some r) : ∃ w, am_cok ((c, i), r) w = true := by
  obtain ⟨w, hw⟩ := am_zip am_cln (am_lookup h)
  exact ⟨w, List.all_eq_true.mp am_cck _ hw⟩
theorem am_kck : kT.all (fun q => am_kok q.1 q.2.1 q.2.2) = true := by
  unfold kT
  simp only [List.all_append, am_kck0, am_kck1, am_kck2, am_kck3, am_kck4, am_kck5, am_kck6, am_kck7, am_kck8, am_kck9, am_kck10, am_kck11, am_kck12, Bool.and_self]
theorem am_kin : cT.all (fun e => decide ((8 ≤ e.2.2.2.1 ∧ e.2.2.2.1 < 12) ∨ e.2.2.2.1 = 16) || kT.any (fun q => decide (q.1 = e.2.1) && decide (q.2.1 = e.2.2.2.1))) = true := by decide +kernel
theorem am_k_at {c i y n kc : Nat} {rk : Nat × Nat} (h : cR c i = some (y, n, kc, rk)) (hk : kc < 8 ∨ (12 ≤ kc ∧ kc < 16)) : ∃ w, am_kok y kc w = true := by
  have h1 := List.all_eq_true.mp am_kin _ (am_lookup h)
  rw [Bool.or_eq_true, decide_eq_true_eq] at h1
  rcases h1 with h1 | h1
  · dsimp only at h1
    omega
  · obtain ⟨q, hq, h2⟩ := List.any_eq_true.mp h1
    rw [Bool.and_eq_true, decide_eq_true_eq, decide_eq_true_eq] at h2
    obtain ⟨q1, q2, q3⟩ := q
    obtain ⟨rfl, rfl⟩ := h2
    exact ⟨q3, List.all_eq_true.mp am_kck _ hq⟩
theorem am_jdkw : (decide (Cond.instanceMethod Lib.objectInit ∈ am_tb) && decide (Cond.code Lib.objectInit ⟨#[0xb1]⟩ 1 none ∈ am_tb) && decide (Cond.native arraycopyName ∈ am_tb) && decide (Cond.static arraycopyName ∈ am_tb) && decide (Cond.initialized "java/lang/System" ∈ am_tb) &&
  decide (Cond.static Lib.Math.max.name ∈ am_tb) && decide (Cond.code Lib.Math.max.name Lib.Math.max.code 2 (some .int) ∈ am_tb) && decide (Cond.static Lib.Math.min.name ∈ am_tb) && decide (Cond.code Lib.Math.min.name Lib.Math.min.code 2 (some .int) ∈ am_tb) && decide (Cond.initialized "java/lang/Math" ∈ am_tb)) = true := by decide +kernel
theorem am_cats {st : List Value} (h : st.length ≤ 4) : (st.map fun v => v.category).sum ≤ 8 := by
  have : ∀ l : List Value, (l.map fun v => v.category).sum ≤ 2 * l.length := by
    intro l
    induction l with
    | nil => simp
    | cons v l ih =>
      have : v.category ≤ 2 := by cases v <;> simp [Value.category]
      simp only [List.map_cons, List.sum_cons, List.length_cons]
      omega
  have := this st
  omega
theorem am_ws_cl {dA : Nat → ClassId} {ad : Nat → Nat} {as : List Nat} {h : AH} {q a : Nat} (h1 : am_NC + as.length = nx h) (hV : am_VH h) : am_ws dA ad (as ++ [q]) (clnI h a) = am_ws dA ad as h ++ [(q, am_ob dA ad (as ++ [q]) (clnI h a) (nx h))] := by
  refine List.ext_getElem? fun i => ?_
  have hl : (am_ws dA ad as h).length = as.length := am_ws_len
  by_cases e : i < as.length
  · rw [am_ws_get (by simp; omega), List.getElem?_append_left (by omega), am_ws_get e, am_phi_ext (by omega)]
    have hn : am_NC + i ≠ nx h := by omega
    have e2 : am_ob dA ad (as ++ [q]) (clnI h a) (am_NC + i) = am_ob dA ad (as ++ [q]) h (am_NC + i) :=
      am_ob_congr (show (if _ then _ else _) = _ from if_neg hn) (fun j => show (if _ then _ else _) = _ from if_neg hn) (fun j => show (if _ then _ else _) = _ from if_neg hn) (fun j => show (if _ then _ else _) = _ from if_neg hn)
    rw [e2, am_ob_ext hV (by omega)]
  · by_cases e3 : i = as.length
    · subst e3
      rw [am_ws_get (by simp), List.getElem?_append_right (by omega), hl, Nat.sub_self]
      have e4 : am_phi ad (as ++ [q]) (am_NC + as.length) = q := by
        unfold am_phi
        rw [if_neg (by omega), show am_NC + as.length - am_NC = as.length by omega, List.getD_eq_getElem?_getD, List.getElem?_append_right (Nat.le_refl _), Nat.sub_self]
        rfl
      rw [e4, h1]
      rfl
    · rw [List.getElem?_eq_none (by rw [am_ws_len]; simp; omega), List.getElem?_eq_none (by simp [hl]; omega)]
theorem am_VH_cl {h : AH} {a : Nat} (hV : am_VH h) (h6 : (kd h a).1 ≤ 9) (h7 : (kd h a).1 = 0 → (kd h a).2 < 10) : am_VH (clnI h a) := by
  refine ⟨Nat.le_succ_of_le hV.1, fun a j b hb => ?_, fun n h1 h2 => ?_⟩
  · have hb' : (if a = nx h then none else h.2.2.2.1 a j) = some b := hb
    split at hb'
    · cases hb'
    · exact Nat.lt_succ_of_lt (hV.2.1 a j b hb')
  · show (if n = nx h then kd h a else h.1 n).1 ≤ 9 ∧ ((if n = nx h then kd h a else h.1 n).1 = 0 → (if n = nx h then kd h a else h.1 n).2 < 10)
    split
    · exact ⟨h6, h7⟩
    · rename_i hn
      have h3 : n < nx h + 1 := h2
      exact hV.2.2 n h1 (by omega)
theorem am_CA_cl {L : Nat} {xs : Nat → Int32} {h : AH} {a : Nat} (hC : am_CA L xs h) (hV : am_VH h) : am_CA L xs (clnI h a) := by
  intro n hn
  have e : n ≠ nx h := by have := hV.1; omega
  have e1 : kd (clnI h a) n = kd h n := if_neg e
  rw [e1]
  refine ⟨(hC n hn).1, fun j => ?_⟩
  have e2 : iv (clnI h a) n j = iv h n j := if_neg e
  have e3 : rv (clnI h a) n j = rv h n j := if_neg e
  rw [e2, e3]
  exact (hC n hn).2 j
theorem am_fitB {x : Int32} (h : isBy x = true) : fits .byte (.int x) = true := by
  have e := of_decide_eq_true h
  have h2 := pk_fb x
  rwa [e] at h2
theorem am_bck : (List.range 65).all (fun i => (k_byt.getD i []).all isBy) = true := by decide +kernel
theorem am_fitT {i : Nat} (h : i < 65) (j : Nat) : fits .byte (.int ((k_byt.getD i []).getD j 0)) = true := by
  refine am_fitB ?_
  have h1 := List.all_eq_true.mp (am_all am_bck h)
  rw [List.getD_eq_getElem?_getD (l := k_byt.getD i [])]
  cases e : (k_byt.getD i [])[j]? with
  | none => decide
  | some x => exact h1 x (List.mem_of_getElem? e)
theorem am_gwm {w : Cond} (h : w ∈ am_tb ∧ goodWord w = true) : w ∈ am_GW := List.mem_filter.mpr h
theorem am_clw : (decide (Cond.native ⟨"java/lang/Object", "clone", "()Ljava/lang/Object;"⟩ ∈ am_tb ∧ goodWord (Cond.native ⟨"java/lang/Object", "clone", "()Ljava/lang/Object;"⟩) = true) && decide (Cond.instanceMethod ⟨"java/lang/Object", "clone", "()Ljava/lang/Object;"⟩ ∈ am_tb ∧ goodWord (Cond.instanceMethod ⟨"java/lang/Object", "clone", "()Ljava/lang/Object;"⟩) = true) &&
  decide (Cond.sameMethod "[I" "java/lang/Object" "clone" "()Ljava/lang/Object;" ∈ am_tb ∧ goodWord (Cond.sameMethod "[I" "java/lang/Object" "clone" "()Ljava/lang/Object;") = true) && decide (Cond.sameMethod "[B" "java/lang/Object" "clone" "()Ljava/lang/Object;" ∈ am_tb ∧ goodWord (Cond.sameMethod "[B" "java/lang/Object" "clone" "()Ljava/lang/Object;") = true) &&
  decide (Cond.selects "[I" ⟨"[I", "clone", "()Ljava/lang/Object;"⟩ ⟨"java/lang/Object", "clone", "()Ljava/lang/Object;"⟩ ∈ am_tb ∧ goodWord (Cond.selects "[I" ⟨"[I", "clone", "()Ljava/lang/Object;"⟩ ⟨"java/lang/Object", "clone", "()Ljava/lang/Object;"⟩) = true) && decide (Cond.selects "[B" ⟨"[B", "clone", "()Ljava/lang/Object;"⟩ ⟨"java/lang/Object", "clone", "()Ljava/lang/Object;"⟩ ∈ am_tb ∧ goodWord (Cond.selects "[B" ⟨"[B", "clone", "()Ljava/lang/Object;"⟩ ⟨"java/lang/Object", "clone", "()Ljava/lang/Object;"⟩) = true) &&
  decide (Cond.castable "[I" "java/lang/Cloneable" ∈ am_tb) && decide (Cond.castable "[B" "java/lang/Cloneable" ∈ am_tb)) = true := by decide +kernel
section C0
variable {l : Launch} {D : va_G} {dA : Nat → ClassId} {ad : Nat → Nat} {zz : Value} {bs Ln : Nat} {xs : Nat → Int32} {d k : Nat} {p : Program} {e : Env} {R : Room} {s : State} {m : MethodId} {args : Array Value} {below : List Frame} {meth : Method} {c : Code} {as0 : List Nat} {c0 s0 : Nat} {Q : State → Prop} {pc : Nat} {Lo : ALs} {st : List Value} {h h' : AH}
variable {as : List Nat} {H : Heap} {locs : List Loc} {ls : Array Slot} {cells slots : Nat} {rest : List Value}
theorem sm_objinit {ix y n : Nat} {rk : Nat × Nat} {a : Nat} (C : am_Cx l D dA ad zz bs Ln xs d k p R s m args meth c) (hd0 : 1 ≤ d) (hd : decode (mB k) pc = .ok (.invokespecial ix, 3)) (hm : cR (mC k) ix = some (y, n, 9, rk)) (hr9 : st.length ≤ 4)
    (K : am_Sim D dA ad zz bs Ln xs k p l e R s m args below meth c as0 c0 s0 Q (pc + 3) Lo st h) : am_Sim D dA ad zz bs Ln xs k p l e R s m args below meth c as0 c0 s0 Q pc Lo (.ref a :: st) h := by
  obtain ⟨hx, hb, hml, hr, hlk, hown, htr, hnm, hHH, ⟨hfr, hlo⟩, hKV, hK, hCF, ⟨hbs, hLn⟩, hzz, hinj, hadb, hU1, hU2⟩ := C
  intro as H locs ls hX hW hS hL hVL hVS hc hs
  have hts := am_hts (args := args) hKV
  obtain ⟨w, hok⟩ := am_c_at hm
  unfold am_cok at hok
  dsimp only at hok
  rw [if_pos rfl] at hok
  have hw := am_jdkw
  simp only [Bool.and_eq_true, decide_eq_true_eq] at hw
  have h8 := am_cats (st := st.map (am_cv ad zz as)) (by simpa using hr9)
  exact W.objInit hx hb hown (hts _ (am_wd_mem hok)) (hts _ (List.mem_filter.mpr ⟨hw.1.1.1.1.1.1.1.1.1, rfl⟩)) (hts _ (List.mem_filter.mpr ⟨hw.1.1.1.1.1.1.1.1.2, rfl⟩)) rfl (hL.1.trans hml.symm) rfl hd (by omega) (by show 2 * 0 + _ + 12 ≤ _; omega) (K as H locs ls hX hW hS hL hVL hVS.tl hc hs)
theorem sm_max {ix y n : Nat} {rk : Nat × Nat} {u v : Int32} (C : am_Cx l D dA ad zz bs Ln xs d k p R s m args meth c) (hd0 : 1 ≤ d) (hd : decode (mB k) pc = .ok (.invokestatic ix, 3)) (hm : cR (mC k) ix = some (y, n, 10, rk)) (hr9 : st.length ≤ 4) (hcr : nc h ≤ R.cells + c0) (hsr : ns h ≤ R.slots + s0)
    (K : am_Sim D dA ad zz bs Ln xs k p l e R s m args below meth c as0 c0 s0 Q (pc + 3) Lo (.int (if u < v then v else u) :: st) h) : am_Sim D dA ad zz bs Ln xs k p l e R s m args below meth c as0 c0 s0 Q pc Lo (.int v :: .int u :: st) h := by
  obtain ⟨hx, hb, hml, hr, hlk, hown, htr, hnm, hHH, ⟨hfr, hlo⟩, hKV, hK, hCF, ⟨hbs, hLn⟩, hzz, hinj, hadb, hU1, hU2⟩ := C
  intro as H locs ls hX hW hS hL hVL hVS hc hs
  have hts := am_hts (args := args) hKV
  obtain ⟨w, hok⟩ := am_c_at hm
  unfold am_cok at hok
  dsimp only at hok
  rw [if_neg (by decide), if_neg (by decide), if_pos rfl] at hok
  have hw := am_jdkw
  simp only [Bool.and_eq_true, decide_eq_true_eq] at hw
  have h8 := am_cats (st := st.map (am_cv ad zz as)) (by simpa using hr9)
  exact va_mmax hx hb (hml.trans hL.1.symm) hown (hts _ (am_wd_mem hok)) (hts _ (List.mem_filter.mpr ⟨hw.1.1.1.1.2, rfl⟩)) (hts _ (List.mem_filter.mpr ⟨hw.2, rfl⟩)) (hts _ (List.mem_filter.mpr ⟨hw.1.1.1.2, rfl⟩)) (by omega) (by omega) (by omega) (by omega) hd (K as H locs ls hX hW hS hL hVL (am_VS.cons trivial hVS.tl.tl) hc hs)
theorem sm_min {ix y n : Nat} {rk : Nat × Nat} {u v : Int32} (C : am_Cx l D dA ad zz bs Ln xs d k p R s m args meth c) (hd0 : 1 ≤ d) (hd : decode (mB k) pc = .ok (.invokestatic ix, 3)) (hm : cR (mC k) ix = some (y, n, 11, rk)) (hr9 : st.length ≤ 4) (hcr : nc h ≤ R.cells + c0) (hsr : ns h ≤ R.slots + s0)
    (K : am_Sim D dA ad zz bs Ln xs k p l e R s m args below meth c as0 c0 s0 Q (pc + 3) Lo (.int (if v < u then v else u) :: st) h) : am_Sim D dA ad zz bs Ln xs k p l e R s m args below meth c as0 c0 s0 Q pc Lo (.int v :: .int u :: st) h := by
  obtain ⟨hx, hb, hml, hr, hlk, hown, htr, hnm, hHH, ⟨hfr, hlo⟩, hKV, hK, hCF, ⟨hbs, hLn⟩, hzz, hinj, hadb, hU1, hU2⟩ := C
  intro as H locs ls hX hW hS hL hVL hVS hc hs
  have hts := am_hts (args := args) hKV
  obtain ⟨w, hok⟩ := am_c_at hm
  unfold am_cok at hok
  dsimp only at hok
  rw [if_neg (by decide), if_neg (by decide), if_neg (by decide), if_pos rfl] at hok
  have hw := am_jdkw
  simp only [Bool.and_eq_true, decide_eq_true_eq] at hw
  have h8 := am_cats (st := st.map (am_cv ad zz as)) (by simpa using hr9)
  exact va_mmin hx hb (hml.trans hL.1.symm) hown (hts _ (am_wd_mem hok)) (hts _ (List.mem_filter.mpr ⟨hw.1.1.2, rfl⟩)) (hts _ (List.mem_filter.mpr ⟨hw.2, rfl⟩)) (hts _ (List.mem_filter.mpr ⟨hw.1.2, rfl⟩)) (by omega) (by omega) (by omega) (by omega) hd (K as H locs ls hX hW hS hL hVL (am_VS.cons trivial hVS.tl.tl) hc hs)
/-- references that stand for cells of one sort are one where their numbers are -/
theorem am_phi_inj {x y : Nat} (hinj : ∀ i j, i < 49 → j < 49 → ad i = ad j → i = j) (hW : am_WS D dA ad bs Ln xs as h H) (hx : x < nx h) (hy : y < nx h) (hxy : (x < 49 ∧ y < 49) ∨ (am_NC ≤ x ∧ am_NC ≤ y)) (he : am_phi ad as x = am_phi ad as y) : x = y := by
  rcases hxy with ⟨h1, h2⟩ | ⟨h1, h2⟩
  · rw [am_phi_c (Nat.lt_trans h1 (by decide)), am_phi_c (Nat.lt_trans h2 (by decide))] at he
    exact hinj x y h1 h2 he
  · have h3 := hW.1
    have e1 := am_ws_at (dA := dA) (ad := ad) (as := as) (h := h) h1 (by omega)
    have e2 := am_ws_at (dA := dA) (ad := ad) (as := as) (h := h) h2 (by omega)
    have := hW.2.2.1.1 _ _ _ _ e1 e2 he
    omega
theorem sm_acmp_eq {x y t : Nat} {off : Int} (C : am_Cx l D dA ad zz bs Ln xs d k p R s m args meth c) (hd : decode (mB k) pc = .ok (.if_acmp .eq off, 3)) (hxy : (x < 49 ∧ y < 49) ∨ (am_NC ≤ x ∧ am_NC ≤ y)) (ht : am_tg pc off = some t)
    (K1 : x = y → am_Sim D dA ad zz bs Ln xs k p l e R s m args below meth c as0 c0 s0 Q t Lo st h) (K2 : ¬ x = y → am_Sim D dA ad zz bs Ln xs k p l e R s m args below meth c as0 c0 s0 Q (pc + 3) Lo st h) : am_Sim D dA ad zz bs Ln xs k p l e R s m args below meth c as0 c0 s0 Q pc Lo (.ref y :: .ref x :: st) h := by
  obtain ⟨hx, hb, hml, hr, hlk, hown, htr, hnm, hHH, ⟨hfr, hlo⟩, hKV, hK, hCF, ⟨hbs, hLn⟩, hzz, hinj, hadb, hU1, hU2⟩ := C
  intro as H locs ls hX hW hS hL hVL hVS hc hs
  exact lv_acmp_eq (rx := some (am_phi ad as x)) (ry := some (am_phi ad as y)) hx hb hd (am_tg_spec ht) (fun q => K1 (am_phi_inj hinj hW hVS.tl.hd hVS.hd hxy (Option.some.inj q)) as H locs ls hX hW hS hL hVL hVS.tl.tl hc hs) (fun q => K2 (fun z => q (by rw [z])) as H locs ls hX hW hS hL hVL hVS.tl.tl hc hs)
theorem sm_acmp_ne {x y t : Nat} {off : Int} (C : am_Cx l D dA ad zz bs Ln xs d k p R s m args meth c) (hd : decode (mB k) pc = .ok (.if_acmp .ne off, 3)) (hxy : (x < 49 ∧ y < 49) ∨ (am_NC ≤ x ∧ am_NC ≤ y)) (ht : am_tg pc off = some t)
    (K1 : ¬ x = y → am_Sim D dA ad zz bs Ln xs k p l e R s m args below meth c as0 c0 s0 Q t Lo st h) (K2 : x = y → am_Sim D dA ad zz bs Ln xs k p l e R s m args below meth c as0 c0 s0 Q (pc + 3) Lo st h) : am_Sim D dA ad zz bs Ln xs k p l e R s m args below meth c as0 c0 s0 Q pc Lo (.ref y :: .ref x :: st) h := by
  obtain ⟨hx, hb, hml, hr, hlk, hown, htr, hnm, hHH, ⟨hfr, hlo⟩, hKV, hK, hCF, ⟨hbs, hLn⟩, hzz, hinj, hadb, hU1, hU2⟩ := C
  intro as H locs ls hX hW hS hL hVL hVS hc hs
  exact lv_acmp_ne (rx := some (am_phi ad as x)) (ry := some (am_phi ad as y)) hx hb hd (am_tg_spec ht) (fun q => K1 (fun z => q (by rw [z])) as H locs ls hX hW hS hL hVL hVS.tl.tl hc hs) (fun q => K2 (am_phi_inj hinj hW hVS.tl.hd hVS.hd hxy (Option.some.inj q)) as H locs ls hX hW hS hL hVL hVS.tl.tl hc hs)
set_option maxHeartbeats 1000000 in
theorem sm_copy {ix y n : Nat} {rk : Nat × Nat} {a b : Nat} {z dp sp : Int32} (C : am_Cx l D dA ad zz bs Ln xs d k p R s m args meth c) (hd0 : 1 ≤ d) (hd : decode (mB k) pc = .ok (.invokestatic ix, 3)) (hm : cR (mC k) ix = some (y, n, 8, rk)) (hr9 : st.length ≤ 4)
    (ha : (kd h a).1 = 1) (hbk : (kd h b).1 = 1) (h1 : ¬ sp < 0) (h2 : ¬ dp < 0) (h3 : ¬ z < 0) (h4 : sp.toNatClampNeg + z.toNatClampNeg ≤ (kd h a).2) (h5 : dp.toNatClampNeg + z.toNatClampNeg ≤ (kd h b).2)
    (K : am_Sim D dA ad zz bs Ln xs k p l e R s m args below meth c as0 c0 s0 Q (pc + 3) Lo st (cpyI h a sp.toNatClampNeg b dp.toNatClampNeg z.toNatClampNeg)) : am_Sim D dA ad zz bs Ln xs k p l e R s m args below meth c as0 c0 s0 Q pc Lo (.int z :: .int dp :: .ref b :: .int sp :: .ref a :: st) h := by
  obtain ⟨hx, hb, hml, hr, hlk, hown, htr, hnm, hHH, ⟨hfr, hlo⟩, hKV, hK, hCF, ⟨hbs, hLn⟩, hzz, hinj, hadb, hU1, hU2⟩ := C
  intro as H locs ls hX hW hS hL hVL hVS hc hs
  have hts := am_hts (args := args) hKV
  obtain ⟨w, hok⟩ := am_c_at hm
  unfold am_cok at hok
  dsimp only at hok
  rw [if_neg (by decide), if_pos rfl] at hok
  have hw := am_jdkw
  simp only [Bool.and_eq_true, decide_eq_true_eq] at hw
  have h8 := am_cats (st := st.map (am_cv ad zz as)) (by simpa using hr9)
  have hnb : b < nx h := hVS.tl.tl.hd
  have hna : a < nx h := hVS.tl.tl.tl.tl.hd
  obtain ⟨a0, a1, ae⟩ := am_arr_at hW hna (by omega) (by omega)
  obtain ⟨b0, b1, be⟩ := am_arr_at hW hnb (by omega) (by omega)
  rw [ha] at ae
  rw [hbk] at be
  have e9 : (fun j => iv (cpyI h a sp.toNatClampNeg b dp.toNatClampNeg z.toNatClampNeg) b j) = va_cpy (fun j => iv h a j) (fun j => iv h b j) sp.toNatClampNeg dp.toNatClampNeg z.toNatClampNeg := by
    funext j
    show (if b = b ∧ dp.toNatClampNeg ≤ j ∧ j < dp.toNatClampNeg + z.toNatClampNeg then _ else _) = (if dp.toNatClampNeg ≤ j ∧ j < dp.toNatClampNeg + z.toNatClampNeg then _ else _)
    simp only [true_and]
    rfl
  refine va_copyi hx hb (hml.trans hL.1.symm) hown (hts _ (am_wd_mem hok)) (hts _ (List.mem_filter.mpr ⟨hw.1.1.1.1.1.1.1.2, rfl⟩)) (hts _ (List.mem_filter.mpr ⟨hw.1.1.1.1.1.1.2, rfl⟩)) (hts _ (List.mem_filter.mpr ⟨hw.1.1.1.1.1.2, rfl⟩)) hK hW.2.1 hW.2.2.1 hS (a - am_NC) (b - am_NC) 0 0 ae be rfl rfl rfl h1 h2 h3 h4 h5 (fun _ _ => rfl) (by omega) (by show _ + (7 + 11) ≤ _; omega) hd (fun H1 locs1 q1 q2 q3 => K as H1 locs1 ls hX (am_put_arr (i := 0) (t := 0) (h' := cpyI h a sp.toNatClampNeg b dp.toNatClampNeg z.toNatClampNeg) hW hnb (by omega) b0 ?_ (fun _ => rfl) (fun n i hn => if_neg (fun q => hn q.1)) (fun _ _ _ => rfl) (fun _ _ _ => rfl) rfl hW.2.2.2.1 H1 q1 q2) q3 hL hVL hVS.tl.tl.tl.tl.tl hc hs)
  rw [hbk]
  show (Sum.inl (dA 1, (kd h b).2, Sum.inl (fun j => iv (cpyI h a sp.toNatClampNeg b dp.toNatClampNeg z.toNatClampNeg) b j)) : va_E) = _
  rw [e9]
set_option maxHeartbeats 1000000 in
theorem sm_copyB {ix y n : Nat} {rk : Nat × Nat} {a b : Nat} {z dp sp : Int32} (C : am_Cx l D dA ad zz bs Ln xs d k p R s m args meth c) (hd0 : 1 ≤ d) (hd : decode (mB k) pc = .ok (.invokestatic ix, 3)) (hm : cR (mC k) ix = some (y, n, 8, rk)) (hr9 : st.length ≤ 4)
    (ha : (kd h a).1 = 3) (hbk : (kd h b).1 = 3) (hfit : ∀ i : Nat, i < z.toNatClampNeg → isBy (iv h a (sp.toNatClampNeg + i)) = true) (h1 : ¬ sp < 0) (h2 : ¬ dp < 0) (h3 : ¬ z < 0) (h4 : sp.toNatClampNeg + z.toNatClampNeg ≤ (kd h a).2) (h5 : dp.toNatClampNeg + z.toNatClampNeg ≤ (kd h b).2)
    (K : am_Sim D dA ad zz bs Ln xs k p l e R s m args below meth c as0 c0 s0 Q (pc + 3) Lo st (cpyI h a sp.toNatClampNeg b dp.toNatClampNeg z.toNatClampNeg)) : am_Sim D dA ad zz bs Ln xs k p l e R s m args below meth c as0 c0 s0 Q pc Lo (.int z :: .int dp :: .ref b :: .int sp :: .ref a :: st) h := by
  obtain ⟨hx, hb, hml, hr, hlk, hown, htr, hnm, hHH, ⟨hfr, hlo⟩, hKV, hK, hCF, ⟨hbs, hLn⟩, hzz, hinj, hadb, hU1, hU2⟩ := C
  intro as H locs ls hX hW hS hL hVL hVS hc hs
  have hts := am_hts (args := args) hKV
  obtain ⟨w, hok⟩ := am_c_at hm
  unfold am_cok at hok
  dsimp only at hok
  rw [if_neg (by decide), if_pos rfl] at hok
  have hw := am_jdkw
  simp only [Bool.and_eq_true, decide_eq_true_eq] at hw
  have h8 := am_cats (st := st.map (am_cv ad zz as)) (by simpa using hr9)
  have hnb : b < nx h := hVS.tl.tl.hd
  have hna : a < nx h := hVS.tl.tl.tl.tl.hd
  obtain ⟨a0, a1, ae⟩ := am_arr_at hW hna (by omega) (by omega)
  obtain ⟨b0, b1, be⟩ := am_arr_at hW hnb (by omega) (by omega)
  rw [ha] at ae
  rw [hbk] at be
  have e9 : (fun j => iv (cpyI h a sp.toNatClampNeg b dp.toNatClampNeg z.toNatClampNeg) b j) = va_cpy (fun j => iv h a j) (fun j => iv h b j) sp.toNatClampNeg dp.toNatClampNeg z.toNatClampNeg := by
    funext j
    show (if b = b ∧ dp.toNatClampNeg ≤ j ∧ j < dp.toNatClampNeg + z.toNatClampNeg then _ else _) = (if dp.toNatClampNeg ≤ j ∧ j < dp.toNatClampNeg + z.toNatClampNeg then _ else _)
    simp only [true_and]
    rfl
  refine va_copyi hx hb (hml.trans hL.1.symm) hown (hts _ (am_wd_mem hok)) (hts _ (List.mem_filter.mpr ⟨hw.1.1.1.1.1.1.1.2, rfl⟩)) (hts _ (List.mem_filter.mpr ⟨hw.1.1.1.1.1.1.2, rfl⟩)) (hts _ (List.mem_filter.mpr ⟨hw.1.1.1.1.1.2, rfl⟩)) hK hW.2.1 hW.2.2.1 hS (a - am_NC) (b - am_NC) 2 2 ae be rfl rfl rfl h1 h2 h3 h4 h5 (fun i hi => am_fitB (hfit i hi)) (by omega) (by show _ + (7 + 11) ≤ _; omega) hd (fun H1 locs1 q1 q2 q3 => K as H1 locs1 ls hX (am_put_arr (i := 0) (t := 0) (h' := cpyI h a sp.toNatClampNeg b dp.toNatClampNeg z.toNatClampNeg) hW hnb (by omega) b0 ?_ (fun _ => rfl) (fun n i hn => if_neg (fun q => hn q.1)) (fun _ _ _ => rfl) (fun _ _ _ => rfl) rfl hW.2.2.2.1 H1 q1 q2) q3 hL hVL hVS.tl.tl.tl.tl.tl hc hs)
  rw [hbk]
  show (Sum.inl (dA 3, (kd h b).2, Sum.inl (fun j => iv (cpyI h a sp.toNatClampNeg b dp.toNatClampNeg z.toNatClampNeg) b j)) : va_E) = _
  rw [e9]
set_option maxHeartbeats 1000000 in
theorem sm_copyT {ix y n : Nat} {rk : Nat × Nat} {a b : Nat} {z dp sp : Int32} (C : am_Cx l D dA ad zz bs Ln xs d k p R s m args meth c) (hd0 : 1 ≤ d) (hd : decode (mB k) pc = .ok (.invokestatic ix, 3)) (hm : cR (mC k) ix = some (y, n, 8, rk)) (hr9 : st.length ≤ 4)
    (ha : (kd h a).1 = 13) (ha5 : 54 ≤ a) (hbk : (kd h b).1 = 3) (h1 : ¬ sp < 0) (h2 : ¬ dp < 0) (h3 : ¬ z < 0) (h4 : sp.toNatClampNeg + z.toNatClampNeg ≤ (kd h a).2) (h5 : dp.toNatClampNeg + z.toNatClampNeg ≤ (kd h b).2)
    (K : am_Sim D dA ad zz bs Ln xs k p l e R s m args below meth c as0 c0 s0 Q (pc + 3) Lo st (cpyI h a sp.toNatClampNeg b dp.toNatClampNeg z.toNatClampNeg)) : am_Sim D dA ad zz bs Ln xs k p l e R s m args below meth c as0 c0 s0 Q pc Lo (.int z :: .int dp :: .ref b :: .int sp :: .ref a :: st) h := by
  obtain ⟨hx, hb, hml, hr, hlk, hown, htr, hnm, hHH, ⟨hfr, hlo⟩, hKV, hK, hCF, ⟨hbs, hLn⟩, hzz, hinj, hadb, hU1, hU2⟩ := C
  intro as H locs ls hX hW hS hL hVL hVS hc hs
  have hts := am_hts (args := args) hKV
  obtain ⟨w, hok⟩ := am_c_at hm
  unfold am_cok at hok
  dsimp only at hok
  rw [if_neg (by decide), if_pos rfl] at hok
  have hw := am_jdkw
  simp only [Bool.and_eq_true, decide_eq_true_eq] at hw
  have h8 := am_cats (st := st.map (am_cv ad zz as)) (by simpa using hr9)
  have hnb : b < nx h := hVS.tl.tl.hd
  have hna : a < nx h := hVS.tl.tl.tl.tl.hd
  obtain ⟨g0, g1, g2⟩ := am_const hW hna (by omega)
  have e1 : kd h a = (13, (kd h a).2) := by rw [← ha]
  rw [e1] at g1
  obtain ⟨ti, h65, hn9, z9, hv9⟩ : ∃ t, t < 65 ∧ a = k_bA t ∧ (kd h a).2 = k_len.getD t 0 ∧ ∀ j, k_iv xs a j = (k_byt.getD t []).getD j 0 := by
    rcases k_kd_13 (xs := xs) g1.symm with q | ⟨q, -⟩ | ⟨q, -⟩
    · exact q
    · omega
    · omega
  have hT := (hCF.2.1 ti h65).2.2.2
  rw [← hn9] at hT
  have hfun : (fun j => iv h a j) = fun j => (k_byt.getD ti []).getD j 0 := funext fun j => (g2 j).1.trans (hv9 j)
  obtain ⟨b0, b1, be⟩ := am_arr_at hW hnb (by omega) (by omega)
  rw [hbk] at be
  have e9 : (fun j => iv (cpyI h a sp.toNatClampNeg b dp.toNatClampNeg z.toNatClampNeg) b j) = va_cpy (fun j => iv h a j) (fun j => iv h b j) sp.toNatClampNeg dp.toNatClampNeg z.toNatClampNeg := by
    funext j
    show (if b = b ∧ dp.toNatClampNeg ≤ j ∧ j < dp.toNatClampNeg + z.toNatClampNeg then _ else _) = (if dp.toNatClampNeg ≤ j ∧ j < dp.toNatClampNeg + z.toNatClampNeg then _ else _)
    simp only [true_and]
    rfl
  rw [z9] at h4
  have ea : am_cv ad zz as (.ref a) = .ref (ad a) := by show Value.ref _ = _; rw [am_phi_c g0]
  rw [hfun] at e9
  simp only [List.map_cons]
  rw [ea]
  refine vk_copyt hx hb (hml.trans hL.1.symm) hown (hts _ (am_wd_mem hok)) (hts _ (List.mem_filter.mpr ⟨hw.1.1.1.1.1.1.1.2, rfl⟩)) (hts _ (List.mem_filter.mpr ⟨hw.1.1.1.1.1.1.2, rfl⟩)) (hts _ (List.mem_filter.mpr ⟨hw.1.1.1.1.1.2, rfl⟩)) hK hW.2.1 hW.2.2.1 hS hT (b - am_NC) 2 be rfl h1 h2 h3 h4 h5 (fun i hi => am_fitT h65 _) (by omega) (by show _ + (7 + 11) ≤ _; omega) hd (fun H1 locs1 q1 q2 q3 => K as H1 locs1 ls hX (am_put_arr (i := 0) (t := 0) (h' := cpyI h a sp.toNatClampNeg b dp.toNatClampNeg z.toNatClampNeg) hW hnb (by omega) b0 ?_ (fun _ => rfl) (fun n i hn => if_neg (fun q => hn q.1)) (fun _ _ _ => rfl) (fun _ _ _ => rfl) rfl hW.2.2.2.1 H1 q1 q2) q3 hL hVL hVS.tl.tl.tl.tl.tl hc hs)
  rw [hbk]
  show (Sum.inl (dA 3, (kd h b).2, Sum.inl (fun j => iv (cpyI h a sp.toNatClampNeg b dp.toNatClampNeg z.toNatClampNeg) b j)) : va_E) = _
  rw [e9]
theorem am_cl_on {q pc' a : Nat} {x : va_E} (hX : ∃ t9, as = as0 ++ t9) (hW : am_WS D dA ad bs Ln xs as h H) (hL : am_LR (mW k) (am_cv ad zz as) Lo ls (mL k)) (hVL : am_VL (nx h) Lo) (hVS : am_VS (nx h) st) (hc : c0 ≤ nc h) (hs : s0 ≤ ns h) (h6 : (kd h a).1 ≤ 9) (h7 : (kd h a).1 = 0 → (kd h a).2 < 10) {H1 : Heap} {locs1 : List Loc} (hx : am_ob dA ad (as ++ [q]) (clnI h a) (nx h) = x)
    (a1 : va_P D vwCl (am_ws dA ad as h ++ [(q, x)]) H1) (a2 : va_D (am_A bs) (am_ws dA ad as h ++ [(q, x)])) (a3 : va_S (am_A bs) s.heap H1 locs1)
    (K : am_Sim D dA ad zz bs Ln xs k p l e R s m args below meth c as0 c0 s0 Q pc' Lo (.ref (nx h) :: st) (clnI h a)) : W p l e R s m args below meth c H1 locs1 (nc h - c0 + 1) (ns h - s0 + (kd h a).2) Q (F0 m pc' ls (.ref q :: st.map (am_cv ad zz as))) := by
  rw [← hx, ← am_ws_cl hW.1 hW.2.2.2.1] at a1 a2
  have hn9 : nx h ≤ am_NC + as.length := by rw [hW.1]; exact Nat.le_refl _
  have hn8 : am_NC + as.length = nx h := hW.1
  have K9 := K (as ++ [q]) H1 locs1 ls (by obtain ⟨t9, rfl⟩ := hX; exact ⟨t9 ++ [q], by rw [List.append_assoc]⟩) ⟨by show am_NC + (as ++ [q]).length = nx h + 1; rw [List.length_append]; show am_NC + (as.length + 1) = _; omega, a1, a2, am_VH_cl hW.2.2.2.1 h6 h7, am_CA_cl hW.2.2.2.2 hW.2.2.2.1⟩ a3 (am_LR_ext hL hVL hn9) (hVL.mono (Nat.le_succ _)) (am_VS.cons (Nat.lt_succ_self _) (hVS.mono (Nat.le_succ _))) (Nat.le_succ_of_le hc) (Nat.le_trans hs (Nat.le_add_right _ _))
  have e5 : am_phi ad (as ++ [q]) (nx h) = q := by
    rw [← hn8]
    unfold am_phi
    rw [if_neg (by omega), show am_NC + as.length - am_NC = as.length by omega, List.getD_eq_getElem?_getD, List.getElem?_append_right (Nat.le_refl _), Nat.sub_self]
    rfl
  have e6 : nc (clnI h a) - c0 = nc h - c0 + 1 := by show nc h + 1 - c0 = _; omega
  have e7 : ns (clnI h a) - s0 = ns h - s0 + (kd h a).2 := by show ns h + (kd h a).2 - s0 = _; omega
  rw [e6, e7, List.map_cons, am_st_ext hVS hn9] at K9
  have e8 : am_cv ad zz (as ++ [q]) (.ref (nx h)) = .ref q := by show Value.ref _ = _; rw [e5]
  rw [e8] at K9
  exact K9
/-- Object.clone of a made row of ints or bytes -/
theorem sm_clone {ix y n : Nat} {rk : Nat × Nat} {a : Nat} (C : am_Cx l D dA ad zz bs Ln xs d k p R s m args meth c) (hd0 : 1 ≤ d) (hd : decode (mB k) pc = .ok (.invokevirtual ix, 3)) (hm : cR (mC k) ix = some (y, n, 16, rk)) (hr9 : st.length ≤ 4) (hcr : nc h + 1 ≤ R.cells + c0) (hsr : ns h + (kd h a).2 ≤ R.slots + s0)
    (ha : (kd h a).1 = rk.1) (hfit : rk.1 = 3 → ∀ i : Nat, i < (kd h a).2 → isBy (iv h a i) = true)
    (K : am_Sim D dA ad zz bs Ln xs k p l e R s m args below meth c as0 c0 s0 Q (pc + 3) Lo (.ref (nx h) :: st) (clnI h a)) : am_Sim D dA ad zz bs Ln xs k p l e R s m args below meth c as0 c0 s0 Q pc Lo (.ref a :: st) h := by
  have C9 := C
  obtain ⟨hx, hb, hml, hr, hlk, hown, htr, hnm, hHH, ⟨hfr, hlo⟩, hKV, hK, hCF, ⟨hbs, hLn⟩, hzz, hinj, hadb, hU1, hU2⟩ := C
  intro as H locs ls hX hW hS hL hVL hVS hc hs
  have hts := am_hts (args := args) hKV
  obtain ⟨w, hok⟩ := am_c_at hm
  unfold am_cok at hok
  dsimp only at hok
  rw [if_neg (by decide), if_neg (by decide), if_neg (by decide), if_neg (by decide), if_pos rfl] at hok
  simp only [Bool.or_eq_true, Bool.and_eq_true, decide_eq_true_eq] at hok
  have hcw := am_clw
  simp only [Bool.and_eq_true, decide_eq_true_eq] at hcw
  obtain ⟨⟨⟨⟨⟨⟨⟨w1, w2⟩, w3⟩, w4⟩, w5⟩, w6⟩, w7⟩, w8⟩ := hcw
  have h8 := am_cats (st := st.map (am_cv ad zz as)) (by simpa using hr9)
  have hA : ∀ q, s.heap.size ≤ q → am_A bs q := fun q hq => Nat.le_trans hbs hq
  have key : ∀ (t : Nat) (hat : (kd h a).1 = t) (h19 : t = 1 ∨ t = 3) (nm : String) (ty : FieldType) (hw0 : Cond.methodLink (cNm (mC k)) ix ⟨nm, "clone", "()Ljava/lang/Object;"⟩ ∈ am_GW) (hsm : Cond.sameMethod nm "java/lang/Object" "clone" "()Ljava/lang/Object;" ∈ am_GW) (hse : Cond.selects nm ⟨nm, "clone", "()Ljava/lang/Object;"⟩ ⟨"java/lang/Object", "clone", "()Ljava/lang/Object;"⟩ ∈ am_GW) (hca : Cond.castable nm "java/lang/Cloneable" ∈ am_NW) (tn : (am_tys dA)[t - 1]? = some (dA t, ty)) (hnm9 : s.vm.findClass nm = some (dA t)) (hft : ∀ i : Nat, i < (kd h a).2 → fits ty (.int (iv h a i)) = true),
      W p l e R s m args below meth c H locs (nc h - c0) (ns h - s0) Q (F0 m pc ls (.ref (am_phi ad as a) :: st.map (am_cv ad zz as))) := by
    intro t hat h19 nm ty hw0 hsm hse hca tn hnm9 hft
    obtain ⟨h0, h1, he⟩ := am_arr_at hW hVS.hd (by omega) (by omega)
    have harr : am_arr dA ad as h a (kd h a).1 (kd h a).2 = .inl (dA t, (kd h a).2, .inl (fun i => iv h a i)) := by
      rcases h19 with rfl | rfl <;> rw [hat] <;> rfl
    rw [harr] at he
    refine va_clone hx hb (hml.trans hL.1.symm) hown (hts _ hw0) (hts _ hsm) (hts _ (am_gwm w1)) (hts _ (am_gwm w2)) (hts _ hse) (hKV.2.1 _ hca) hK hW.2.1 hW.2.2.1 hS hA (a - am_NC) (t - 1) he tn hnm9 (fun i v hv => ?_) (by omega) (by show _ + 14 ≤ _; omega) (by omega) (by show _ + (kd h a).2 ≤ _; omega) hd (fun q H1 k1 a1 a2 a3 => ?_)
    · have hv2 : (arrV (dA t) (kd h a).2 (fun j => .int (iv h a j))).slots[i]? = some v := hv
      have hi : i < (kd h a).2 := by
        have := (Array.getElem?_eq_some_iff.mp hv2).1
        rwa [arrV_size] at this
      rw [arrV_read _ _ hi] at hv2
      cases hv2
      exact hft i hi
    · refine am_cl_on (a := a) hX hW hL hVL hVS.tl hc hs (by omega) (fun q => by omega) ?_ a1 a2 a3 K
      have e4 : kd (clnI h a) (nx h) = kd h a := if_pos rfl
      have e5 : (fun i => iv (clnI h a) (nx h) i) = fun i => iv h a i := funext fun i => if_pos rfl
      unfold am_ob
      rw [e4, if_neg (by omega)]
      rcases h19 with rfl | rfl
      · rw [hat]
        show (Sum.inl (dA 1, (kd h a).2, Sum.inl (fun i => iv (clnI h a) (nx h) i)) : va_E) = _
        rw [e5]
      · rw [hat]
        show (Sum.inl (dA 3, (kd h a).2, Sum.inl (fun i => iv (clnI h a) (nx h) i)) : va_E) = _
        rw [e5]
  rcases hok with ⟨r1, hw⟩ | ⟨r1, hw⟩
  · exact key 1 (ha.trans r1) (Or.inl rfl) "[I" .int (am_wd_mem hw) (am_gwm w3) (am_gwm w5) (List.mem_filter.mpr ⟨w7, rfl⟩) rfl (hK.2 0 (dA 1, .int) rfl).2 (fun _ _ => rfl)
  · exact key 3 (ha.trans r1) (Or.inr rfl) "[B" .byte (am_wd_mem hw) (am_gwm w4) (am_gwm w6) (List.mem_filter.mpr ⟨w8, rfl⟩) rfl (hK.2 2 (dA 3, .byte) rfl).2 (fun i hi => am_fitB (hfit r1 i hi))
end C0
