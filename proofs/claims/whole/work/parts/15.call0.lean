/-! CALLS: the tables, and the members of the JDK that the kit has rows for. -/
/-- a row of calls, held to its words -/
def am_cok (e : (Nat × Nat) × Nat × Nat × Nat × (Nat × Nat)) (w : String × Nat) : Bool :=
  let c := e.1.1; let i := e.1.2; let y := e.2.1; let n := e.2.2.1; let kc := e.2.2.2.1; let rk := e.2.2.2.2
  if kc = 9 then am_wd w.2 (.methodLink (cNm c) i Lib.objectInit)
  else if kc = 8 then am_wd w.2 (.methodLink (cNm c) i arraycopyName)
  else if kc = 10 then am_wd w.2 (.methodLink (cNm c) i Lib.Math.max.name)
  else if kc = 11 then am_wd w.2 (.methodLink (cNm c) i Lib.Math.min.name)
  else if kc = 5 then am_wd w.2 (.methodLink (cNm c) i ⟨"MarkShelter$Sign", "ordinal", "()I"⟩) && decide (n = 0) && decide (rk = (10, 0)) && decide (mY y = ⟨"java/lang/Enum", "ordinal", "()I"⟩)
  else decide ((parseMethodDescriptor (mY y).desc).map (fun d => d.parameters.length) = some n) &&
    (if kc = 1 ∨ kc = 4 then am_wn w.2 (.methodLinkNest (cNm c) i (mY y) w.1) else am_wd w.2 (.methodLink (cNm c) i (mY y))) &&
    (if kc = 7 then !(mH y).isEmpty else (mH y).isEmpty) &&
    (if kc = 3 ∨ kc = 4 then decide ((mY y).name = "<init>") && decide (mRT y = none) else true) &&
    (if kc = 2 then (decide (rk.1 = 0) && decide (rk.2 < 10) && decide ((am_cl rk.2).1 = (mY y).cls)) || (decide (rk = (11, 0)) && decide ((mY y).cls = "java/lang/String")) else true) &&
    (decide (kc = 0) || decide (kc = 1) || decide (kc = 2) || decide (kc = 3) || decide (kc = 4) || decide (kc = 7))
theorem am_cck : (cT.zip cWs).all (fun q => am_cok q.1 q.2) = true := by decide +kernel
theorem am_cln : cT.length = cWs.length := by decide +kernel
theorem am_c_at {c i : Nat} {r : Nat × Nat × Nat × (Nat × Nat)} (h : cR c i = some r) : ∃ w, am_cok ((c, i), r) w = true := by
  obtain ⟨w, hw⟩ := am_zip am_cln (am_lookup h)
  exact ⟨w, List.all_eq_true.mp am_cck _ hw⟩
theorem am_kck : kT.all (fun q => am_kok q.1 q.2.1 q.2.2) = true := by
  unfold kT
  simp only [List.all_append, am_kck0, am_kck1, am_kck2, am_kck3, am_kck4, am_kck5, am_kck6, am_kck7, am_kck8, am_kck9, am_kck10, am_kck11, am_kck12, am_kck13, am_kck14, am_kck15, am_kck16, am_kck17, am_kck18, am_kck19, am_kck20, am_kck21, am_kck22, am_kck23, am_kck24, am_kck25, am_kck26, am_kck27, Bool.and_self]
theorem am_kin : cT.all (fun e => decide (8 ≤ e.2.2.2.1) || kT.any (fun q => decide (q.1 = e.2.1) && decide (q.2.1 = e.2.2.2.1))) = true := by decide +kernel
theorem am_k_at {c i y n kc : Nat} {rk : Nat × Nat} (h : cR c i = some (y, n, kc, rk)) (hk : kc < 8) : ∃ w, am_kok y kc w = true := by
  have h1 := List.all_eq_true.mp am_kin _ (am_lookup h)
  rw [Bool.or_eq_true, decide_eq_true_eq] at h1
  rcases h1 with h1 | h1
  · dsimp only at h1
    omega
  · obtain ⟨q, hq, h2⟩ := List.any_eq_true.mp h1
    rw [Bool.and_eq_true, decide_eq_true_eq, decide_eq_true_eq] at h2
    obtain ⟨q1, q2, q3⟩ := q
    obtain ⟨rfl, rfl⟩ := h2
    exact ⟨q3, List.all_eq_true.mp am_kck _ hq⟩
theorem am_jdkw : (decide (Cond.instanceMethod Lib.objectInit ∈ lw_tbl) && decide (Cond.code Lib.objectInit ⟨#[0xb1]⟩ 1 none ∈ lw_tbl) && decide (Cond.native arraycopyName ∈ lw_tbl) && decide (Cond.static arraycopyName ∈ lw_tbl) && decide (Cond.initialized "java/lang/System" ∈ lw_tbl) &&
  decide (Cond.static Lib.Math.max.name ∈ lw_tbl) && decide (Cond.code Lib.Math.max.name Lib.Math.max.code 2 (some .int) ∈ lw_tbl) && decide (Cond.static Lib.Math.min.name ∈ lw_tbl) && decide (Cond.code Lib.Math.min.name Lib.Math.min.code 2 (some .int) ∈ lw_tbl) && decide (Cond.initialized "java/lang/Math" ∈ lw_tbl)) = true := by decide +kernel
theorem am_cats {st : List Value} (h : st.length ≤ 4) : (st.map fun v => v.category).sum ≤ 8 := by
  have : ∀ l : List Value, (l.map fun v => v.category).sum ≤ 2 * l.length := by
    intro l
    induction l with
    | nil => simp
    | cons v l ih =>
      have : v.category ≤ 2 := by cases v <;> simp [Value.category]
      simp only [List.map_cons, List.sum_cons, List.length_cons]
      omega
  have := this st
  omega
section C0
variable {l : Launch} {D : va_G} {dA : Nat → ClassId} {ad : Nat → Nat} {zz : Value} {bs Ln : Nat} {xs : Nat → Int32} {d k : Nat} {p : Program} {e : Env} {R : Room} {s : State} {m : MethodId} {args : Array Value} {below : List Frame} {meth : Method} {c : Code} {as0 : List Nat} {c0 s0 : Nat} {Q : State → Prop} {pc : Nat} {Lo : ALs} {st : List Value} {h h' : AH}
variable {as : List Nat} {H : Heap} {locs : List Loc} {ls : Array Slot} {cells slots : Nat} {rest : List Value}
theorem sm_objinit {ix y n : Nat} {rk : Nat × Nat} {a : Nat} (C : am_Cx l D dA ad zz bs Ln xs d k p R s m args meth c) (hd0 : 1 ≤ d) (hd : decode (mB k) pc = .ok (.invokespecial ix, 3)) (hm : cR (mC k) ix = some (y, n, 9, rk)) (hr9 : st.length ≤ 4)
    (K : am_Sim D dA ad zz bs Ln xs k p l e R s m args below meth c as0 c0 s0 Q (pc + 3) Lo st h) : am_Sim D dA ad zz bs Ln xs k p l e R s m args below meth c as0 c0 s0 Q pc Lo (.ref a :: st) h := by
  obtain ⟨hx, hb, hml, hr, hlk, hown, htr, hnm, hHH, ⟨hfr, hlo⟩, hKV, hK, hCF, ⟨hbs, hLn⟩, hzz, hinj, hadb, hU1, hU2⟩ := C
  intro as H locs ls hX hW hS hL hVL hVS hc hs
  have hts := am_hts (args := args) hKV
  obtain ⟨w, hok⟩ := am_c_at hm
  unfold am_cok at hok
  dsimp only at hok
  rw [if_pos rfl] at hok
  have hw := am_jdkw
  simp only [Bool.and_eq_true, decide_eq_true_eq] at hw
  have h8 := am_cats (st := st.map (am_cv ad zz as)) (by simpa using hr9)
  exact W.objInit hx hb hown (hts _ (am_wd_mem hok)) (hts _ (List.mem_filter.mpr ⟨hw.1.1.1.1.1.1.1.1.1, rfl⟩)) (hts _ (List.mem_filter.mpr ⟨hw.1.1.1.1.1.1.1.1.2, rfl⟩)) rfl (hL.1.trans hml.symm) rfl hd (by omega) (by show 2 * 0 + _ + 12 ≤ _; omega) (K as H locs ls hX hW hS hL hVL hVS.tl hc hs)
theorem sm_max {ix y n : Nat} {rk : Nat × Nat} {u v : Int32} (C : am_Cx l D dA ad zz bs Ln xs d k p R s m args meth c) (hd0 : 1 ≤ d) (hd : decode (mB k) pc = .ok (.invokestatic ix, 3)) (hm : cR (mC k) ix = some (y, n, 10, rk)) (hr9 : st.length ≤ 4) (hcr : nc h ≤ R.cells + c0) (hsr : ns h ≤ R.slots + s0)
    (K : am_Sim D dA ad zz bs Ln xs k p l e R s m args below meth c as0 c0 s0 Q (pc + 3) Lo (.int (if u < v then v else u) :: st) h) : am_Sim D dA ad zz bs Ln xs k p l e R s m args below meth c as0 c0 s0 Q pc Lo (.int v :: .int u :: st) h := by
  obtain ⟨hx, hb, hml, hr, hlk, hown, htr, hnm, hHH, ⟨hfr, hlo⟩, hKV, hK, hCF, ⟨hbs, hLn⟩, hzz, hinj, hadb, hU1, hU2⟩ := C
  intro as H locs ls hX hW hS hL hVL hVS hc hs
  have hts := am_hts (args := args) hKV
  obtain ⟨w, hok⟩ := am_c_at hm
  unfold am_cok at hok
  dsimp only at hok
  rw [if_neg (by decide), if_neg (by decide), if_pos rfl] at hok
  have hw := am_jdkw
  simp only [Bool.and_eq_true, decide_eq_true_eq] at hw
  have h8 := am_cats (st := st.map (am_cv ad zz as)) (by simpa using hr9)
  exact va_mmax hx hb (hml.trans hL.1.symm) hown (hts _ (am_wd_mem hok)) (hts _ (List.mem_filter.mpr ⟨hw.1.1.1.1.2, rfl⟩)) (hts _ (List.mem_filter.mpr ⟨hw.2, rfl⟩)) (hts _ (List.mem_filter.mpr ⟨hw.1.1.1.2, rfl⟩)) (by omega) (by omega) (by omega) (by omega) hd (K as H locs ls hX hW hS hL hVL (am_VS.cons trivial hVS.tl.tl) hc hs)
theorem sm_min {ix y n : Nat} {rk : Nat × Nat} {u v : Int32} (C : am_Cx l D dA ad zz bs Ln xs d k p R s m args meth c) (hd0 : 1 ≤ d) (hd : decode (mB k) pc = .ok (.invokestatic ix, 3)) (hm : cR (mC k) ix = some (y, n, 11, rk)) (hr9 : st.length ≤ 4) (hcr : nc h ≤ R.cells + c0) (hsr : ns h ≤ R.slots + s0)
    (K : am_Sim D dA ad zz bs Ln xs k p l e R s m args below meth c as0 c0 s0 Q (pc + 3) Lo (.int (if v < u then v else u) :: st) h) : am_Sim D dA ad zz bs Ln xs k p l e R s m args below meth c as0 c0 s0 Q pc Lo (.int v :: .int u :: st) h := by
  obtain ⟨hx, hb, hml, hr, hlk, hown, htr, hnm, hHH, ⟨hfr, hlo⟩, hKV, hK, hCF, ⟨hbs, hLn⟩, hzz, hinj, hadb, hU1, hU2⟩ := C
  intro as H locs ls hX hW hS hL hVL hVS hc hs
  have hts := am_hts (args := args) hKV
  obtain ⟨w, hok⟩ := am_c_at hm
  unfold am_cok at hok
  dsimp only at hok
  rw [if_neg (by decide), if_neg (by decide), if_neg (by decide), if_pos rfl] at hok
  have hw := am_jdkw
  simp only [Bool.and_eq_true, decide_eq_true_eq] at hw
  have h8 := am_cats (st := st.map (am_cv ad zz as)) (by simpa using hr9)
  exact va_mmin hx hb (hml.trans hL.1.symm) hown (hts _ (am_wd_mem hok)) (hts _ (List.mem_filter.mpr ⟨hw.1.1.2, rfl⟩)) (hts _ (List.mem_filter.mpr ⟨hw.2, rfl⟩)) (hts _ (List.mem_filter.mpr ⟨hw.1.2, rfl⟩)) (by omega) (by omega) (by omega) (by omega) hd (K as H locs ls hX hW hS hL hVL (am_VS.cons trivial hVS.tl.tl) hc hs)
/-- references that stand for cells of one sort are one where their numbers are -/
theorem am_phi_inj {x y : Nat} (hinj : ∀ i j, i < 49 → j < 49 → ad i = ad j → i = j) (hW : am_WS D dA ad bs Ln xs as h H) (hx : x < nx h) (hy : y < nx h) (hxy : (x < 49 ∧ y < 49) ∨ (am_NC ≤ x ∧ am_NC ≤ y)) (he : am_phi ad as x = am_phi ad as y) : x = y := by
  rcases hxy with ⟨h1, h2⟩ | ⟨h1, h2⟩
  · rw [am_phi_c (Nat.lt_trans h1 (by decide)), am_phi_c (Nat.lt_trans h2 (by decide))] at he
    exact hinj x y h1 h2 he
  · have h3 := hW.1
    have e1 := am_ws_at (dA := dA) (ad := ad) (as := as) (h := h) h1 (by omega)
    have e2 := am_ws_at (dA := dA) (ad := ad) (as := as) (h := h) h2 (by omega)
    have := hW.2.2.1.1 _ _ _ _ e1 e2 he
    omega
theorem sm_acmp_eq {x y t : Nat} {off : Int} (C : am_Cx l D dA ad zz bs Ln xs d k p R s m args meth c) (hd : decode (mB k) pc = .ok (.if_acmp .eq off, 3)) (hxy : (x < 49 ∧ y < 49) ∨ (am_NC ≤ x ∧ am_NC ≤ y)) (ht : am_tg pc off = some t)
    (K1 : x = y → am_Sim D dA ad zz bs Ln xs k p l e R s m args below meth c as0 c0 s0 Q t Lo st h) (K2 : ¬ x = y → am_Sim D dA ad zz bs Ln xs k p l e R s m args below meth c as0 c0 s0 Q (pc + 3) Lo st h) : am_Sim D dA ad zz bs Ln xs k p l e R s m args below meth c as0 c0 s0 Q pc Lo (.ref y :: .ref x :: st) h := by
  obtain ⟨hx, hb, hml, hr, hlk, hown, htr, hnm, hHH, ⟨hfr, hlo⟩, hKV, hK, hCF, ⟨hbs, hLn⟩, hzz, hinj, hadb, hU1, hU2⟩ := C
  intro as H locs ls hX hW hS hL hVL hVS hc hs
  exact lv_acmp_eq (rx := some (am_phi ad as x)) (ry := some (am_phi ad as y)) hx hb hd (am_tg_spec ht) (fun q => K1 (am_phi_inj hinj hW hVS.tl.hd hVS.hd hxy (Option.some.inj q)) as H locs ls hX hW hS hL hVL hVS.tl.tl hc hs) (fun q => K2 (fun z => q (by rw [z])) as H locs ls hX hW hS hL hVL hVS.tl.tl hc hs)
theorem sm_acmp_ne {x y t : Nat} {off : Int} (C : am_Cx l D dA ad zz bs Ln xs d k p R s m args meth c) (hd : decode (mB k) pc = .ok (.if_acmp .ne off, 3)) (hxy : (x < 49 ∧ y < 49) ∨ (am_NC ≤ x ∧ am_NC ≤ y)) (ht : am_tg pc off = some t)
    (K1 : ¬ x = y → am_Sim D dA ad zz bs Ln xs k p l e R s m args below meth c as0 c0 s0 Q t Lo st h) (K2 : x = y → am_Sim D dA ad zz bs Ln xs k p l e R s m args below meth c as0 c0 s0 Q (pc + 3) Lo st h) : am_Sim D dA ad zz bs Ln xs k p l e R s m args below meth c as0 c0 s0 Q pc Lo (.ref y :: .ref x :: st) h := by
  obtain ⟨hx, hb, hml, hr, hlk, hown, htr, hnm, hHH, ⟨hfr, hlo⟩, hKV, hK, hCF, ⟨hbs, hLn⟩, hzz, hinj, hadb, hU1, hU2⟩ := C
  intro as H locs ls hX hW hS hL hVL hVS hc hs
  exact lv_acmp_ne (rx := some (am_phi ad as x)) (ry := some (am_phi ad as y)) hx hb hd (am_tg_spec ht) (fun q => K1 (fun z => q (by rw [z])) as H locs ls hX hW hS hL hVL hVS.tl.tl hc hs) (fun q => K2 (am_phi_inj hinj hW hVS.tl.hd hVS.hd hxy (Option.some.inj q)) as H locs ls hX hW hS hL hVL hVS.tl.tl hc hs)
set_option maxHeartbeats 1000000 in
theorem sm_copy {ix y n : Nat} {rk : Nat × Nat} {a b : Nat} {z dp sp : Int32} (C : am_Cx l D dA ad zz bs Ln xs d k p R s m args meth c) (hd0 : 1 ≤ d) (hd : decode (mB k) pc = .ok (.invokestatic ix, 3)) (hm : cR (mC k) ix = some (y, n, 8, rk)) (hr9 : st.length ≤ 4)
    (ha : (kd h a).1 = 1) (hbk : (kd h b).1 = 1) (h1 : ¬ sp < 0) (h2 : ¬ dp < 0) (h3 : ¬ z < 0) (h4 : sp.toNatClampNeg + z.toNatClampNeg ≤ (kd h a).2) (h5 : dp.toNatClampNeg + z.toNatClampNeg ≤ (kd h b).2)
    (K : am_Sim D dA ad zz bs Ln xs k p l e R s m args below meth c as0 c0 s0 Q (pc + 3) Lo st (cpyI h a sp.toNatClampNeg b dp.toNatClampNeg z.toNatClampNeg)) : am_Sim D dA ad zz bs Ln xs k p l e R s m args below meth c as0 c0 s0 Q pc Lo (.int z :: .int dp :: .ref b :: .int sp :: .ref a :: st) h := by
  obtain ⟨hx, hb, hml, hr, hlk, hown, htr, hnm, hHH, ⟨hfr, hlo⟩, hKV, hK, hCF, ⟨hbs, hLn⟩, hzz, hinj, hadb, hU1, hU2⟩ := C
  intro as H locs ls hX hW hS hL hVL hVS hc hs
  have hts := am_hts (args := args) hKV
  obtain ⟨w, hok⟩ := am_c_at hm
  unfold am_cok at hok
  dsimp only at hok
  rw [if_neg (by decide), if_pos rfl] at hok
  have hw := am_jdkw
  simp only [Bool.and_eq_true, decide_eq_true_eq] at hw
  have h8 := am_cats (st := st.map (am_cv ad zz as)) (by simpa using hr9)
  have hnb : b < nx h := hVS.tl.tl.hd
  have hna : a < nx h := hVS.tl.tl.tl.tl.hd
  obtain ⟨a0, a1, ae⟩ := am_arr_at hW hna (by omega) (by omega)
  obtain ⟨b0, b1, be⟩ := am_arr_at hW hnb (by omega) (by omega)
  rw [ha] at ae
  rw [hbk] at be
  have e9 : (fun j => iv (cpyI h a sp.toNatClampNeg b dp.toNatClampNeg z.toNatClampNeg) b j) = va_cpy (fun j => iv h a j) (fun j => iv h b j) sp.toNatClampNeg dp.toNatClampNeg z.toNatClampNeg := by
    funext j
    show (if b = b ∧ dp.toNatClampNeg ≤ j ∧ j < dp.toNatClampNeg + z.toNatClampNeg then _ else _) = (if dp.toNatClampNeg ≤ j ∧ j < dp.toNatClampNeg + z.toNatClampNeg then _ else _)
    simp only [true_and]
    rfl
  refine va_copyi hx hb (hml.trans hL.1.symm) hown (hts _ (am_wd_mem hok)) (hts _ (List.mem_filter.mpr ⟨hw.1.1.1.1.1.1.1.2, rfl⟩)) (hts _ (List.mem_filter.mpr ⟨hw.1.1.1.1.1.1.2, rfl⟩)) (hts _ (List.mem_filter.mpr ⟨hw.1.1.1.1.1.2, rfl⟩)) hK hW.2.1 hW.2.2.1 hS (a - am_NC) (b - am_NC) 0 0 ae be rfl rfl rfl h1 h2 h3 h4 h5 (fun _ _ => rfl) (by omega) (by show _ + (7 + 11) ≤ _; omega) hd (fun H1 locs1 q1 q2 q3 => K as H1 locs1 ls hX (am_put_arr (i := 0) (t := 0) (h' := cpyI h a sp.toNatClampNeg b dp.toNatClampNeg z.toNatClampNeg) hW hnb (by omega) b0 ?_ (fun _ => rfl) (fun n i hn => if_neg (fun q => hn q.1)) (fun _ _ _ => rfl) (fun _ _ _ => rfl) rfl hW.2.2.2.1 H1 q1 q2) q3 hL hVL hVS.tl.tl.tl.tl.tl hc hs)
  rw [hbk]
  show (Sum.inl (dA 1, (kd h b).2, Sum.inl (fun j => iv (cpyI h a sp.toNatClampNeg b dp.toNatClampNeg z.toNatClampNeg) b j)) : va_E) = _
  rw [e9]
end C0
