/-! NEW ARRAYS, STATICS, CONSTANTS, THE SMALL MEMBERS OF THE JDK. -/
section NEWA
variable {p : Program} {l : Launch} {e : Env} {R : Room} {s : State} {m : MethodId} {args : Array Value} {below : List Frame} {meth : Method} {c : Code} {H : Heap} {locs : List Loc} {cells slots : Nat} {Q : State → Prop}
variable {cc : ByteArray} {pc : Nat} {ls : Array Slot} {rest : List Value} {D : va_G} {cl : List vw_C} {A : Nat → Prop} {a : Nat} {tys : List (ClassId × FieldType)} {ws : va_W} {H0 : Heap}
/-- a new row of rows of ints -/
theorem am_newA (hexec : p.tables.exec = Jvm.exec) (hb : c.code = cc) {own : String} {index : Nat} (hown : s.vm.findClass own = some m.cls) (hclink : (Cond.classLink own index "[I").before args s = true) (hover : am_AA s) (hK : va_K D cl tys s) (hP : va_P D cl ws H) (hD : va_D A ws) (hS : va_S A H0 H locs) (hA : ∀ q, H0.size ≤ q → A q)
    {n : Int32} {N' : Nat} (hn : ¬ n < 0) (hN : n.toNatClampNeg = N') (hbytes : N' * 4 ≤ 536870912) (hcells : cells + 1 ≤ R.cells) (hslots : slots + N' ≤ R.slots) (hdg : decode cc pc = .ok (.anewarray index, 3))
    (kk : ∀ (q : Nat) (cA : ClassId) (H1 : Heap), s.vm.findClass "[[I" = some cA → va_P D cl (ws ++ [(q, .inl (cA, N', .inr (.inr (.inr (.inr (fun _ => none))))))]) H1 → va_D A (ws ++ [(q, .inl (cA, N', .inr (.inr (.inr (.inr (fun _ => none))))))]) → va_S A H0 H1 locs →
      W p l e R s m args below meth c H1 locs (cells + 1) (slots + N') Q (F0 m (pc + 3) ls (.ref q :: rest))) : W p l e R s m args below meth c H locs cells slots Q (F0 m pc ls (.int n :: rest)) := by
  subst hN
  refine W.anewA (t := .int) hexec hb hown hclink (show (Cond.arrayOver (.array .int)).before args s = true from hover) rfl hdg rfl hn hbytes hcells hslots fun cA kA comp f1 f2 f3 f4 => ?_
  generalize hH1 : H.push ({ cls := cA, slots := Array.replicate n.toNatClampNeg .null, vm := .none } : Cell) = H1
  have z1 : H1.size = H.size + 1 := by rw [← hH1, Array.size_push]
  have e1 : H1[H.size]? = some (arrV cA n.toNatClampNeg (fun _ => .null)) := by rw [← hH1, Array.getElem?_push_size, ← arrV_new]
  have o1 : ∀ q : Nat, q < H.size → H1[q]? = H[q]? := fun q hq => by rw [← hH1, Array.getElem?_push, if_neg (Nat.ne_of_lt hq)]
  have hk : ∀ (k : Nat) (x : Nat × va_E), ws[k]? = some x → H1[x.1]? = H[x.1]? := fun k x hx => o1 x.1 ((hP k x hx).lt)
  refine kk H.size cA H1 f1 ((hP.kept hk).app (fun k x hx => ?_)) (hD.push hP rfl (hA _ hS.1)) ⟨Nat.le_trans hS.1 (by omega), fun x h1 h2 => (o1 x (Nat.lt_of_lt_of_le h1 hS.1)).trans (hS.2.1 x h1 h2), hS.2.2⟩
  have hz : k < 1 := (List.getElem?_eq_some_iff.mp hx).1
  rw [show k = 0 by omega] at hx
  cases hx
  show H1[H.size]? = some (vp_cell _ _)
  rw [vp_cell_q]
  exact e1
end NEWA
section MK2
variable {l : Launch} {D : va_G} {dA : Nat → ClassId} {ad : Nat → Nat} {zz : Value} {bs Ln : Nat} {xs : Nat → Int32} {d k : Nat} {p : Program} {e : Env} {R : Room} {s : State} {m : MethodId} {args : Array Value} {below : List Frame} {meth : Method} {c : Code} {as0 : List Nat} {c0 s0 : Nat} {Q : State → Prop} {pc : Nat} {Lo : ALs} {st : List Value} {h h' : AH}
variable {as : List Nat} {H : Heap} {locs : List Loc} {ls : Array Slot} {cells slots : Nat} {rest : List Value}
/-- on, with a cell more -/
theorem am_mk_on {q pc' : Nat} {kk : Nat × Nat} {N : Nat} {x : va_E} (hX : ∃ t9, as = as0 ++ t9) (hW : am_WS D dA ad bs Ln xs as h H) (hL : am_LR (mW k) (am_cv ad zz as) Lo ls (mL k)) (hVL : am_VL (nx h) Lo) (hVS : am_VS (nx h) st) (hc : c0 ≤ nc h) (hs : s0 ≤ ns h) (h6 : kk.1 ≤ 9) (h7 : kk.1 = 0 → kk.2 < 10) {H1 : Heap} {locs1 : List Loc} (hx : am_ob dA ad (as ++ [q]) (mkA h kk N) (nx h) = x)
    (a1 : va_P D vwCl (am_ws dA ad as h ++ [(q, x)]) H1) (a2 : va_D (am_A bs) (am_ws dA ad as h ++ [(q, x)])) (a3 : va_S (am_A bs) s.heap H1 locs1)
    (K : am_Sim D dA ad zz bs Ln xs k p l e R s m args below meth c as0 c0 s0 Q pc' Lo (.ref (nx h) :: st) (mkA h kk N)) : W p l e R s m args below meth c H1 locs1 (nc h - c0 + 1) (ns h - s0 + N) Q (F0 m pc' ls (.ref q :: st.map (am_cv ad zz as))) := by
  rw [← hx, ← am_ws_new hW.1 hW.2.2.2.1] at a1 a2
  have hn9 : nx h ≤ am_NC + as.length := by rw [hW.1]; exact Nat.le_refl _
  have hn8 : am_NC + as.length = nx h := hW.1
  have K9 := K (as ++ [q]) H1 locs1 ls (by obtain ⟨t9, rfl⟩ := hX; exact ⟨t9 ++ [q], by rw [List.append_assoc]⟩) ⟨by show am_NC + (as ++ [q]).length = nx h + 1; rw [List.length_append]; show am_NC + (as.length + 1) = _; omega, a1, a2, am_VH_mk hW.2.2.2.1 h6 h7, am_CA_mk hW.2.2.2.2 hW.2.2.2.1⟩ a3 (am_LR_ext hL hVL hn9) (hVL.mono (Nat.le_succ _)) (am_VS.cons (Nat.lt_succ_self _) (hVS.mono (Nat.le_succ _))) (Nat.le_succ_of_le hc) (Nat.le_trans hs (Nat.le_add_right _ _))
  have e5 : am_phi ad (as ++ [q]) (nx h) = q := by
    rw [← hn8]
    unfold am_phi
    rw [if_neg (by omega), show am_NC + as.length - am_NC = as.length by omega, List.getD_eq_getElem?_getD, List.getElem?_append_right (Nat.le_refl _), Nat.sub_self]
    rfl
  have e6 : nc (mkA h kk N) - c0 = nc h - c0 + 1 := by show nc h + 1 - c0 = _; omega
  have e7 : ns (mkA h kk N) - s0 = ns h - s0 + N := by show ns h + N - s0 = _; omega
  rw [e6, e7, List.map_cons, am_st_ext hVS hn9] at K9
  have e8 : am_cv ad zz (as ++ [q]) (.ref (nx h)) = .ref q := by show Value.ref _ = _; rw [e5]
  rw [e8] at K9
  exact K9
theorem am_ob_mkI {as : List Nat} {t z : Nat} (ht : t = 1 ∨ t = 3 ∨ t = 9) : am_ob dA ad as (mkA h (t, z) z) (nx h) = .inl (dA t, z, .inl (fun _ => 0)) := by
  have e4 : kd (mkA h (t, z) z) (nx h) = (t, z) := if_pos rfl
  have e1 : (fun i => iv (mkA h (t, z) z) (nx h) i) = fun _ => 0 := funext fun j => if_pos rfl
  unfold am_ob
  rw [e4]
  rcases ht with rfl | rfl | rfl
  · show (Sum.inl (dA 1, z, Sum.inl (fun i => iv (mkA h (1, z) z) (nx h) i)) : va_E) = _
    rw [e1]
  · show (Sum.inl (dA 3, z, Sum.inl (fun i => iv (mkA h (3, z) z) (nx h) i)) : va_E) = _
    rw [e1]
  · show (Sum.inl (dA 9, z, Sum.inl (fun i => iv (mkA h (9, z) z) (nx h) i)) : va_E) = _
    rw [e1]
theorem am_ob_mkJ {as : List Nat} {z : Nat} : am_ob dA ad as (mkA h (2, z) z) (nx h) = .inl (dA 2, z, .inr (.inl (fun _ => 0))) := by
  have e4 : kd (mkA h (2, z) z) (nx h) = (2, z) := if_pos rfl
  have e1 : (fun i => jv (mkA h (2, z) z) (nx h) i) = fun _ => 0 := funext fun j => if_pos rfl
  unfold am_ob
  rw [e4]
  show (Sum.inl (dA 2, z, Sum.inr (Sum.inl (fun i => jv (mkA h (2, z) z) (nx h) i))) : va_E) = _
  rw [e1]
theorem am_ob_mkR {as : List Nat} {t z : Nat} (ht : t = 4 ∨ t = 5 ∨ t = 6 ∨ t = 7 ∨ t = 8) : am_ob dA ad as (mkA h (t, z) z) (nx h) = .inl (dA t, z, .inr (.inr (.inr (.inr (fun _ => none))))) := by
  have e4 : kd (mkA h (t, z) z) (nx h) = (t, z) := if_pos rfl
  have e1 : (fun i => (rv (mkA h (t, z) z) (nx h) i).map (am_phi ad as)) = fun _ => none := funext fun j => by
    have : rv (mkA h (t, z) z) (nx h) j = none := if_pos rfl
    rw [this]
    rfl
  unfold am_ob
  rw [e4]
  rcases ht with rfl | rfl | rfl | rfl | rfl
  · show (Sum.inl (dA 4, z, Sum.inr (Sum.inr (Sum.inr (Sum.inr (fun i => (rv (mkA h (4, z) z) (nx h) i).map (am_phi ad as)))))) : va_E) = _
    rw [e1]
  · show (Sum.inl (dA 5, z, Sum.inr (Sum.inr (Sum.inr (Sum.inr (fun i => (rv (mkA h (5, z) z) (nx h) i).map (am_phi ad as)))))) : va_E) = _
    rw [e1]
  · show (Sum.inl (dA 6, z, Sum.inr (Sum.inr (Sum.inr (Sum.inr (fun i => (rv (mkA h (6, z) z) (nx h) i).map (am_phi ad as)))))) : va_E) = _
    rw [e1]
  · show (Sum.inl (dA 7, z, Sum.inr (Sum.inr (Sum.inr (Sum.inr (fun i => (rv (mkA h (7, z) z) (nx h) i).map (am_phi ad as)))))) : va_E) = _
    rw [e1]
  · show (Sum.inl (dA 8, z, Sum.inr (Sum.inr (Sum.inr (Sum.inr (fun i => (rv (mkA h (8, z) z) (nx h) i).map (am_phi ad as)))))) : va_E) = _
    rw [e1]
theorem am_arrw : (decide (Cond.arrayClass .int ∈ am_tb) && decide (Cond.arrayClass .long ∈ am_tb) && decide (Cond.arrayClass .byte ∈ am_tb) && decide (Cond.arrayClass .boolean ∈ am_tb)) = true := by decide +kernel
set_option maxHeartbeats 1000000 in
theorem sm_newarray {t : ArrayType} {tt : Nat} {z : Int32} (htt : (t = .int ∧ tt = 1) ∨ (t = .long ∧ tt = 2) ∨ (t = .byte ∧ tt = 3) ∨ (t = .boolean ∧ tt = 9)) (C : am_Cx l D dA ad zz bs Ln xs d k p R s m args meth c) (hd : decode (mB k) pc = .ok (.newarray t, 2)) (hz : ¬ z < 0) (hz2 : z.toNatClampNeg ≤ 10000) (hcr : nc h + 1 ≤ R.cells + c0) (hsr : ns h + z.toNatClampNeg ≤ R.slots + s0)
    (K : am_Sim D dA ad zz bs Ln xs k p l e R s m args below meth c as0 c0 s0 Q (pc + 2) Lo (.ref (nx h) :: st) (mkA h (tt, z.toNatClampNeg) z.toNatClampNeg)) : am_Sim D dA ad zz bs Ln xs k p l e R s m args below meth c as0 c0 s0 Q pc Lo (.int z :: st) h := by
  obtain ⟨hx, hb, hml, hr, hlk, hown, htr, hnm, hHH, ⟨hfr, hlo⟩, hKV, hK, hCF, ⟨hbs, hLn⟩, hzz, hinj, hadb, hU1, hU2⟩ := C
  intro as H locs ls hX hW hS hL hVL hVS hc hs
  have hts := am_hts (args := args) hKV
  have hw := am_arrw
  simp only [Bool.and_eq_true, decide_eq_true_eq] at hw
  have hA : ∀ q, s.heap.size ≤ q → am_A bs q := fun q hq => Nat.le_trans hbs hq
  rcases htt with ⟨rfl, rfl⟩ | ⟨rfl, rfl⟩ | ⟨rfl, rfl⟩ | ⟨rfl, rfl⟩
  · refine va_newa (atype := .int) (ty := .int) (N' := z.toNatClampNeg) (a0 := (z.toNatClampNeg, .inl (fun _ => 0))) hx hb (hts _ (List.mem_filter.mpr ⟨hw.1.1.1, rfl⟩)) rfl hK hW.2.1 hW.2.2.1 hS hA (fun cA => rfl) hz rfl (by show _ * 4 ≤ _; omega) (by omega) (by omega) hd (fun q cA H1 k1 a1 a2 a3 => ?_)
    have e1 : s.vm.findClass _ = some cA := (k1.2 9 (cA, .int) rfl).2
    have e2 : s.vm.findClass _ = some (dA 1) := (hK.2 0 (dA 1, .int) rfl).2
    cases e1.symm.trans e2
    exact am_mk_on hX hW hL hVL hVS.tl hc hs (by show 1 ≤ 9; decide) (fun q => absurd q (by show ¬ 1 = 0; decide)) (am_ob_mkI (Or.inl rfl)) a1 a2 a3 K
  · refine va_newa (atype := .long) (ty := .long) (N' := z.toNatClampNeg) (a0 := (z.toNatClampNeg, .inr (.inl (fun _ => 0)))) hx hb (hts _ (List.mem_filter.mpr ⟨hw.1.1.2, rfl⟩)) rfl hK hW.2.1 hW.2.2.1 hS hA (fun cA => rfl) hz rfl (by show _ * 8 ≤ _; omega) (by omega) (by omega) hd (fun q cA H1 k1 a1 a2 a3 => ?_)
    have e1 : s.vm.findClass _ = some cA := (k1.2 9 (cA, .long) rfl).2
    have e2 : s.vm.findClass _ = some (dA 2) := (hK.2 1 (dA 2, .long) rfl).2
    cases e1.symm.trans e2
    exact am_mk_on hX hW hL hVL hVS.tl hc hs (by show 2 ≤ 9; decide) (fun q => absurd q (by show ¬ 2 = 0; decide)) am_ob_mkJ a1 a2 a3 K
  · refine va_newa (atype := .byte) (ty := .byte) (N' := z.toNatClampNeg) (a0 := (z.toNatClampNeg, .inl (fun _ => 0))) hx hb (hts _ (List.mem_filter.mpr ⟨hw.1.2, rfl⟩)) rfl hK hW.2.1 hW.2.2.1 hS hA (fun cA => rfl) hz rfl (by show _ * 1 ≤ _; omega) (by omega) (by omega) hd (fun q cA H1 k1 a1 a2 a3 => ?_)
    have e1 : s.vm.findClass _ = some cA := (k1.2 9 (cA, .byte) rfl).2
    have e2 : s.vm.findClass _ = some (dA 3) := (hK.2 2 (dA 3, .byte) rfl).2
    cases e1.symm.trans e2
    exact am_mk_on hX hW hL hVL hVS.tl hc hs (by show 3 ≤ 9; decide) (fun q => absurd q (by show ¬ 3 = 0; decide)) (am_ob_mkI (Or.inr (Or.inl rfl))) a1 a2 a3 K
  · refine va_newa (atype := .boolean) (ty := .boolean) (N' := z.toNatClampNeg) (a0 := (z.toNatClampNeg, .inl (fun _ => 0))) hx hb (hts _ (List.mem_filter.mpr ⟨hw.2, rfl⟩)) rfl hK hW.2.1 hW.2.2.1 hS hA (fun cA => rfl) hz rfl (by show _ * 1 ≤ _; omega) (by omega) (by omega) hd (fun q cA H1 k1 a1 a2 a3 => ?_)
    have e1 : s.vm.findClass _ = some cA := (k1.2 9 (cA, .boolean) rfl).2
    have e2 : s.vm.findClass _ = some (dA 9) := (hK.2 8 (dA 9, .boolean) rfl).2
    cases e1.symm.trans e2
    exact am_mk_on hX hW hL hVL hVS.tl hc hs (by show 9 ≤ 9; decide) (fun q => absurd q (by show ¬ 9 = 0; decide)) (am_ob_mkI (Or.inr (Or.inr rfl))) a1 a2 a3 K
theorem am_a_at {c i t : Nat} (h : aR c i = some t) : ∃ w, am_aok ((c, i), t, w) = true := by
  unfold aR at h
  cases e : aT.lookup (c, i) with
  | none => rw [e] at h; cases h
  | some r =>
    rw [e] at h
    obtain ⟨r1, r2⟩ := r
    cases h
    exact ⟨r2, List.all_eq_true.mp am_ack _ (am_lookup e)⟩
set_option maxHeartbeats 1000000 in
theorem sm_anewarray {ix t : Nat} {z : Int32} (C : am_Cx l D dA ad zz bs Ln xs d k p R s m args meth c) (hd : decode (mB k) pc = .ok (.anewarray ix, 3)) (ha : aR (mC k) ix = some t) (hz : ¬ z < 0) (hz2 : z.toNatClampNeg ≤ 10000) (hcr : nc h + 1 ≤ R.cells + c0) (hsr : ns h + z.toNatClampNeg ≤ R.slots + s0)
    (K : am_Sim D dA ad zz bs Ln xs k p l e R s m args below meth c as0 c0 s0 Q (pc + 3) Lo (.ref (nx h) :: st) (mkA h (t, z.toNatClampNeg) z.toNatClampNeg)) : am_Sim D dA ad zz bs Ln xs k p l e R s m args below meth c as0 c0 s0 Q pc Lo (.int z :: st) h := by
  obtain ⟨hx, hb, hml, hr, hlk, hown, htr, hnm, hHH, ⟨hfr, hlo⟩, hKV, hK, hCF, ⟨hbs, hLn⟩, hzz, hinj, hadb, hU1, hU2⟩ := C
  intro as H locs ls hX hW hS hL hVL hVS hc hs
  have hts := am_hts (args := args) hKV
  have hA : ∀ q, s.heap.size ≤ q → am_A bs q := fun q hq => Nat.le_trans hbs hq
  obtain ⟨w, hok⟩ := am_a_at ha
  unfold am_aok at hok
  simp only [Bool.and_eq_true, decide_eq_true_eq] at hok
  obtain ⟨ht, hw⟩ := hok
  rcases (show t = 4 ∨ t = 5 ∨ t = 6 ∨ t = 7 ∨ t = 8 by omega) with rfl | rfl | rfl | rfl | rfl
  · refine va_newq (C := "MarkShelter$Sign") (N' := z.toNatClampNeg) hx hb hown (hts _ (am_wd_mem hw)) hKV.2.2.1.1 hK hW.2.1 hW.2.2.1 hS hA hz rfl (by omega) (by omega) (by omega) hd (fun q cA H1 k1 a1 a2 a3 => ?_)
    obtain ⟨_, _, _, _, _, e1⟩ := (k1.2 9 (cA, .object "MarkShelter$Sign") rfl).2
    obtain ⟨_, _, _, _, _, e2⟩ := (hK.2 3 (dA 4, .object "MarkShelter$Sign") rfl).2
    cases e1.symm.trans e2
    exact am_mk_on hX hW hL hVL hVS.tl hc hs (by show 4 ≤ 9; decide) (fun q => absurd q (by show ¬ 4 = 0; decide)) (am_ob_mkR (Or.inl rfl)) a1 a2 a3 K
  · refine va_newq (C := "MarkShelter$Stray") (N' := z.toNatClampNeg) hx hb hown (hts _ (am_wd_mem hw)) hKV.2.2.1.2.1 hK hW.2.1 hW.2.2.1 hS hA hz rfl (by omega) (by omega) (by omega) hd (fun q cA H1 k1 a1 a2 a3 => ?_)
    obtain ⟨_, _, _, _, _, e1⟩ := (k1.2 9 (cA, .object "MarkShelter$Stray") rfl).2
    obtain ⟨_, _, _, _, _, e2⟩ := (hK.2 4 (dA 5, .object "MarkShelter$Stray") rfl).2
    cases e1.symm.trans e2
    exact am_mk_on hX hW hL hVL hVS.tl hc hs (by show 5 ≤ 9; decide) (fun q => absurd q (by show ¬ 5 = 0; decide)) (am_ob_mkR (Or.inr (Or.inl rfl))) a1 a2 a3 K
  · refine va_newq (C := "MarkShelter$Order") (N' := z.toNatClampNeg) hx hb hown (hts _ (am_wd_mem hw)) hKV.2.2.1.2.2.1 hK hW.2.1 hW.2.2.1 hS hA hz rfl (by omega) (by omega) (by omega) hd (fun q cA H1 k1 a1 a2 a3 => ?_)
    obtain ⟨_, _, _, _, _, e1⟩ := (k1.2 9 (cA, .object "MarkShelter$Order") rfl).2
    obtain ⟨_, _, _, _, _, e2⟩ := (hK.2 5 (dA 6, .object "MarkShelter$Order") rfl).2
    cases e1.symm.trans e2
    exact am_mk_on hX hW hL hVL hVS.tl hc hs (by show 6 ≤ 9; decide) (fun q => absurd q (by show ¬ 6 = 0; decide)) (am_ob_mkR (Or.inr (Or.inr (Or.inl rfl)))) a1 a2 a3 K
  · refine va_newq (C := "java/lang/String") (N' := z.toNatClampNeg) hx hb hown (hts _ (am_wd_mem hw)) hKV.2.2.1.2.2.2.1 hK hW.2.1 hW.2.2.1 hS hA hz rfl (by omega) (by omega) (by omega) hd (fun q cA H1 k1 a1 a2 a3 => ?_)
    obtain ⟨_, _, _, _, _, e1⟩ := (k1.2 9 (cA, .object "java/lang/String") rfl).2
    obtain ⟨_, _, _, _, _, e2⟩ := (hK.2 6 (dA 7, .object "java/lang/String") rfl).2
    cases e1.symm.trans e2
    exact am_mk_on hX hW hL hVL hVS.tl hc hs (by show 7 ≤ 9; decide) (fun q => absurd q (by show ¬ 7 = 0; decide)) (am_ob_mkR (Or.inr (Or.inr (Or.inr (Or.inl rfl))))) a1 a2 a3 K
  · refine am_newA (N' := z.toNatClampNeg) hx hb hown (hts _ (am_wd_mem hw)) hKV.2.2.1.2.2.2.2 hK hW.2.1 hW.2.2.1 hS hA hz rfl (by omega) (by omega) (by omega) hd (fun q cA H1 k1 a1 a2 a3 => ?_)
    have e2 : s.vm.findClass "[[I" = some (dA 8) := (hK.2 7 (dA 8, .array .int) rfl).2
    cases k1.symm.trans e2
    exact am_mk_on hX hW hL hVL hVS.tl hc hs (by show 8 ≤ 9; decide) (fun q => absurd q (by show ¬ 8 = 0; decide)) (am_ob_mkR (Or.inr (Or.inr (Or.inr (Or.inr rfl))))) a1 a2 a3 K
theorem am_s_at {c i : Nat} {v : Value} (h : sR c i = some v) : ∃ (j : Nat) (w : String × String × String × String × Nat), sT[j]? = some ((c, i), v) ∧ sWs[j]? = some w ∧ am_sok ((c, i), v) w = true := by
  obtain ⟨j, hj, he⟩ := List.getElem_of_mem (am_lookup h)
  have hl : j < sWs.length := by rw [← am_sln]; exact hj
  have h1 : sT[j]? = some ((c, i), v) := by rw [List.getElem?_eq_getElem hj, he]
  refine ⟨j, sWs[j], h1, List.getElem?_eq_getElem hl, ?_⟩
  have h2 : ((sT.zip sWs))[j]'(by rw [List.length_zip]; omega) ∈ sT.zip sWs := List.getElem_mem _
  have h3 := List.all_eq_true.mp am_sck _ h2
  rw [List.getElem_zip, he] at h3
  exact h3
theorem sm_getstatic {ix : Nat} {v : Value} (C : am_Cx l D dA ad zz bs Ln xs d k p R s m args meth c) (hd : decode (mB k) pc = .ok (.getstatic ix, 3)) (hv : sR (mC k) ix = some v)
    (K : am_Sim D dA ad zz bs Ln xs k p l e R s m args below meth c as0 c0 s0 Q (pc + 3) Lo (v :: st) h) : am_Sim D dA ad zz bs Ln xs k p l e R s m args below meth c as0 c0 s0 Q pc Lo st h := by
  obtain ⟨hx, hb, hml, hr, hlk, hown, htr, hnm, hHH, ⟨hfr, hlo⟩, hKV, hK, hCF, ⟨hbs, hLn⟩, hzz, hinj, hadb, hU1, hU2⟩ := C
  intro as H locs ls hX hW hS hL hVL hVS hc hs
  have hts := am_hts (args := args) hKV
  obtain ⟨j, w, h1, h2, hok⟩ := am_s_at hv
  have hZ := hCF.2.2.1 j _ _ h1 h2
  unfold am_sok at hok
  rw [Bool.and_eq_true] at hok
  obtain ⟨hvo, hlk9⟩ := hok
  have hV := am_vok_V hvo
  have hV2 : am_V (nx h) v := hV.mono hW.2.2.2.1.1
  have K9 := K as H locs ls hX hW hS hL hVL (am_VS.cons hV2 hVS) hc hs
  rw [List.map_cons, am_cv_c hV] at K9
  split at hlk9
  · exact va_gets hx hb hZ hS hown (hts _ (am_wd_mem hlk9)) (fun _ q => q) hd K9
  · exact va_getsN hx hb hZ hS hown (va_Nw.use rfl (hKV.2.1 _ (am_wn_mem hlk9))) (fun _ q => q) hd K9
theorem am_l_at {c i : Nat} {v : Value} (h : lR c i = some v) : ∃ w, am_lok ((c, i), v, w) = true := by
  unfold lR at h
  cases e : lT.lookup (c, i) with
  | none => rw [e] at h; cases h
  | some r =>
    rw [e] at h
    obtain ⟨r1, r2⟩ := r
    cases h
    exact ⟨r2, List.all_eq_true.mp am_lck _ (am_lookup e)⟩
theorem sm_ldc2 {ix : Nat} {v : Int64} (C : am_Cx l D dA ad zz bs Ln xs d k p R s m args meth c) (hd : decode (mB k) pc = .ok (.ldc2_w ix, 3)) (hv : lR (mC k) ix = some (.long v))
    (K : am_Sim D dA ad zz bs Ln xs k p l e R s m args below meth c as0 c0 s0 Q (pc + 3) Lo (.long v :: st) h) : am_Sim D dA ad zz bs Ln xs k p l e R s m args below meth c as0 c0 s0 Q pc Lo st h := by
  obtain ⟨hx, hb, hml, hr, hlk, hown, htr, hnm, hHH, ⟨hfr, hlo⟩, hKV, hK, hCF, ⟨hbs, hLn⟩, hzz, hinj, hadb, hU1, hU2⟩ := C
  intro as H locs ls hX hW hS hL hVL hVS hc hs
  obtain ⟨w, hok⟩ := am_l_at hv
  exact lv_ldc2 hx hb hown (am_hts hKV _ (am_wd_mem hok)) hd (K as H locs ls hX hW hS hL hVL (am_VS.cons trivial hVS) hc hs)
theorem sm_ldcI {ix : Nat} {v : Int32} (C : am_Cx l D dA ad zz bs Ln xs d k p R s m args meth c) (hd : decode (mB k) pc = .ok (.ldc ix, 2)) (hv : lR (mC k) ix = some (.int v))
    (K : am_Sim D dA ad zz bs Ln xs k p l e R s m args below meth c as0 c0 s0 Q (pc + 2) Lo (.int v :: st) h) : am_Sim D dA ad zz bs Ln xs k p l e R s m args below meth c as0 c0 s0 Q pc Lo st h := by
  obtain ⟨hx, hb, hml, hr, hlk, hown, htr, hnm, hHH, ⟨hfr, hlo⟩, hKV, hK, hCF, ⟨hbs, hLn⟩, hzz, hinj, hadb, hU1, hU2⟩ := C
  intro as H locs ls hX hW hS hL hVL hVS hc hs
  obtain ⟨w, hok⟩ := am_l_at hv
  exact lv_ldc hx hb hown (am_hts hKV _ (am_wd_mem hok)) hd (K as H locs ls hX hW hS hL hVL (am_VS.cons trivial hVS) hc hs)
theorem sm_ldcS {ix n : Nat} (C : am_Cx l D dA ad zz bs Ln xs d k p R s m args meth c) (hd : decode (mB k) pc = .ok (.ldc ix, 2)) (hv : lR (mC k) ix = some (.ref n))
    (K : am_Sim D dA ad zz bs Ln xs k p l e R s m args below meth c as0 c0 s0 Q (pc + 2) Lo (.ref n :: st) h) : am_Sim D dA ad zz bs Ln xs k p l e R s m args below meth c as0 c0 s0 Q pc Lo st h := by
  obtain ⟨hx, hb, hml, hr, hlk, hown, htr, hnm, hHH, ⟨hfr, hlo⟩, hKV, hK, hCF, ⟨hbs, hLn⟩, hzz, hinj, hadb, hU1, hU2⟩ := C
  intro as H locs ls hX hW hS hL hVL hVS hc hs
  obtain ⟨w, hok⟩ := am_l_at hv
  unfold am_lok at hok
  simp only [Bool.and_eq_true, decide_eq_true_eq] at hok
  obtain ⟨hn, hany⟩ := hok
  obtain ⟨t, ht, hq⟩ := List.any_eq_true.mp hany
  simp only [Bool.and_eq_true, decide_eq_true_eq] at hq
  obtain ⟨⟨e1, e2⟩, e3⟩ := hq
  have hR := hKV.2.2.2.2.1 t ht
  rw [e1, e2, e3] at hR
  have K9 := K as H locs ls hX hW hS hL hVL (am_VS.cons (show n < nx h from Nat.lt_of_lt_of_le hn hW.2.2.2.1.1) hVS) hc hs
  rw [List.map_cons] at K9
  have e4 : am_cv ad zz as (.ref n) = .ref (ad n) := by show Value.ref _ = _; rw [am_phi_c hn]
  rw [e4] at K9
  exact va_ldcS hx hb hown hR hd K9
theorem am_x_at {c i t : Nat} (h : xR c i = some t) : ∃ w, am_xok ((c, i), t, w) = true := by
  unfold xR at h
  cases e : xT.lookup (c, i) with
  | none => rw [e] at h; cases h
  | some r =>
    rw [e] at h
    obtain ⟨r1, r2⟩ := r
    cases h
    exact ⟨r2, List.all_eq_true.mp am_xck2 _ (am_lookup e)⟩
/-- a cast of a made row of ints or bytes -/
theorem sm_cast {ix t a : Nat} (C : am_Cx l D dA ad zz bs Ln xs d k p R s m args meth c) (hd : decode (mB k) pc = .ok (.checkcast ix, 3)) (hv : xR (mC k) ix = some t) (hk : (kd h a).1 = t)
    (K : am_Sim D dA ad zz bs Ln xs k p l e R s m args below meth c as0 c0 s0 Q (pc + 3) Lo (.ref a :: st) h) : am_Sim D dA ad zz bs Ln xs k p l e R s m args below meth c as0 c0 s0 Q pc Lo (.ref a :: st) h := by
  obtain ⟨hx, hb, hml, hr, hlk, hown, htr, hnm, hHH, ⟨hfr, hlo⟩, hKV, hK, hCF, ⟨hbs, hLn⟩, hzz, hinj, hadb, hU1, hU2⟩ := C
  intro as H locs ls hX hW hS hL hVL hVS hc hs
  have hts := am_hts (args := args) hKV
  obtain ⟨w, hok⟩ := am_x_at hv
  unfold am_xok at hok
  simp only [Bool.or_eq_true, Bool.and_eq_true, decide_eq_true_eq] at hok
  have K9 := K as H locs ls hX hW hS hL hVL hVS hc hs
  rcases hok with ⟨rfl, hw⟩ | ⟨rfl, hw⟩
  · obtain ⟨h0, h1, he⟩ := am_arr_at hW hVS.hd (by omega) (by omega)
    rw [hk] at he
    exact va_castA hx hb hown (hts _ (am_wd_mem hw)) hW.2.1 (a - am_NC) he (hK.2 0 (dA 1, .int) rfl).2 hd K9
  · obtain ⟨h0, h1, he⟩ := am_arr_at hW hVS.hd (by omega) (by omega)
    rw [hk] at he
    exact va_castA hx hb hown (hts _ (am_wd_mem hw)) hW.2.1 (a - am_NC) he (hK.2 2 (dA 3, .byte) rfl).2 hd K9
end MK2
