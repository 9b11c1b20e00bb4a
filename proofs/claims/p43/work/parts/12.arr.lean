/-! ARRAYS, NEW CELLS, STATICS, CONSTANTS. -/
theorem k_kd_12 {L n z : Nat} (h : k_kd L n = (12, z)) : (n = 52 ∧ z = 49) ∨ (n = 53 ∧ z = L) := by
  unfold k_kd at h
  (repeat' split at h) <;> simp_all
theorem k_kd_13 {L n z : Nat} {xs : Nat → Int32} (h : k_kd L n = (13, z)) : (∃ t, t < 65 ∧ n = k_bA t ∧ z = k_len.getD t 0 ∧ ∀ j, k_iv xs n j = (k_byt.getD t []).getD j 0) ∨ (n = 50 ∧ z = 100) ∨ (n = 51 ∧ z = 100) := by
  have key : (n = 50 ∧ z = 100) ∨ (n = 51 ∧ z = 100) ∨ ((110 ≤ n ∧ n < 156) ∧ z = k_len.getD (n - 110) 0) ∨ ((175 ≤ n ∧ n < 194) ∧ z = k_len.getD (n - 129) 0) := by
    unfold k_kd at h
    (repeat' split at h) <;> simp_all
  rcases key with k | k | ⟨k, z1⟩ | ⟨k, z1⟩
  · exact Or.inr (Or.inl k)
  · exact Or.inr (Or.inr k)
  · refine Or.inl ⟨n - 110, by omega, ?_, z1, fun j => ?_⟩
    · unfold k_bA; rw [if_pos (by omega)]; omega
    · unfold k_iv
      rw [if_neg (by omega), if_neg (by omega), if_neg (by omega), if_neg (by omega), if_neg (by omega), if_pos k]
  · refine Or.inl ⟨n - 129, by omega, ?_, z1, fun j => ?_⟩
    · unfold k_bA; rw [if_neg (by omega)]; omega
    · unfold k_iv
      rw [if_neg (by omega), if_neg (by omega), if_neg (by omega), if_neg (by omega), if_neg (by omega), if_neg (by omega), if_pos k]
theorem k_kd_14 {L n z : Nat} (h : k_kd L n = (14, z)) : n = 49 ∧ z = 49 := by
  unfold k_kd at h
  (repeat' split at h) <;> simp_all
theorem inR_vp {i : Int32} {n : Nat} (h : inR i n = true) : vp_in i n := by
  unfold inR at h
  simp only [Bool.and_eq_true, decide_eq_true_eq] at h
  unfold vp_in
  rintro (q | q)
  · exact h.1 q
  · omega
theorem inR_lt {i : Int32} {n : Nat} (h : inR i n = true) : i.toNatClampNeg < n := by
  unfold inR at h
  simp only [Bool.and_eq_true, decide_eq_true_eq] at h
  exact h.2
section ARA
variable {p : Program} {l : Launch} {e : Env} {R : Room} {s : State} {m : MethodId} {args : Array Value} {below : List Frame} {meth : Method} {c : Code} {H : Heap} {locs : List Loc} {cells slots : Nat} {Q : State → Prop}
variable {cc : ByteArray} {pc : Nat} {ls : Array Slot} {rest : List Value} {D : va_G} {cl : List vw_C} {A : Nat → Prop} {a : Nat} {tys : List (ClassId × FieldType)} {ws : va_W} {H0 : Heap}
/-- a row out of a row of rows -/
theorem am_aldA (hexec : p.tables.exec = Jvm.exec) (hb : c.code = cc) (hK : va_K D cl tys s) (hP : va_P D cl ws H) (q0 t0 : Nat) {cA : ClassId} {n : Nat} {f : Nat → Option Nat} (ha : ws[q0]? = some (a, .inl (cA, n, .inr (.inr (.inr (.inr f)))))) (ht : tys[t0]? = some (cA, .array .int)) {i : Int32} (hin : vp_in i n) (hdg : decode cc pc = .ok (.aaload, 1))
    (kk : W p l e R s m args below meth c H locs cells slots Q (F0 m (pc + 1) ls (va_rf (f i.toNatClampNeg) :: rest))) : W p l e R s m args below meth c H locs cells slots Q (F0 m pc ls (.int i :: .ref a :: rest)) := by
  have hlt : i.toNatClampNeg < n := Nat.not_le.mp fun q => hin (Or.inr q)
  exact W.aald (v := va_rf (f i.toNatClampNeg)) (ty := .array .int) hexec hb (hP q0 _ ha) ((hK.2 t0 _ ht).1 n (fun j => va_rf (f j))) rfl (fun q => by cases q) (by show ¬ (i < 0 ∨ (arrV _ _ _).slots.size ≤ _); rw [arrV_size]; exact hin) (by show (arrV _ _ _).slots[_]? = _; rw [arrV_read _ _ hlt]) rfl rfl hdg kk
/-- a row into a row of rows -/
theorem am_astA (hexec : p.tables.exec = Jvm.exec) (hb : c.code = cc) (hAA : am_AA s) (hK : va_K D cl tys s) (hP : va_P D cl ws H) (hD : va_D A ws) (hS : va_S A H0 H locs) (q0 t0 qk t1 : Nat) {cA cB : ClassId} {n nv v : Nat} {f : Nat → Option Nat} {fv : Nat → Int32} (ha : ws[q0]? = some (a, .inl (cA, n, .inr (.inr (.inr (.inr f)))))) (ht : tys[t0]? = some (cA, .array .int)) (hv : ws[qk]? = some (v, .inl (cB, nv, .inl fv))) (ht1 : tys[t1]? = some (cB, .int)) {i : Int32} (hin : vp_in i n) (hdg : decode cc pc = .ok (.aastore, 1))
    (kk : ∀ (H1 : Heap) (locs1 : List Loc), va_P D cl (ws.set q0 (a, .inl (cA, n, .inr (.inr (.inr (.inr (va_up f i.toNatClampNeg (some v)))))))) H1 → va_D A (ws.set q0 (a, .inl (cA, n, .inr (.inr (.inr (.inr (va_up f i.toNatClampNeg (some v)))))))) → va_S A H0 H1 locs1 → W p l e R s m args below meth c H1 locs1 cells slots Q (F0 m (pc + 1) ls rest)) : W p l e R s m args below meth c H locs cells slots Q (F0 m pc ls (.ref v :: .int i :: .ref a :: rest)) := by
  have hlt : i.toNatClampNeg < n := Nat.not_le.mp fun q => hin (Or.inr q)
  have h0 : ¬ i < 0 := fun q => hin (Or.inl q)
  obtain ⟨comp, cX, kX, x1, -, x3, x4, x5⟩ := am_AAs (args := args) hAA
  have hcA : s.vm.findClass "[[I" = some cA := (hK.2 t0 _ ht).2
  cases x5.symm.trans hcA
  have hcB : s.vm.findClass "[I" = some cB := (hK.2 t1 _ ht1).2
  cases x1.symm.trans hcB
  obtain ⟨kE, hkE, -⟩ := Vm.findClass_spec hcB
  refine W.aast hexec hb (hP q0 _ ha) (fun q h => by cases h) (fun h => by cases h) x3 x4 rfl hkE ⟨h0, by show _ < (arrV _ _ _).slots.size; rw [arrV_size]; exact hlt⟩ (hP qk _ hv) (fun q h => by cases h) hkE (Vm.assignable_self _ _) rfl rfl hdg fun H1 e z oq => ?_
  refine kk H1 _ (hP.set hD ha ?_ oq) (hD.set ha) (hS.put z oq (hD.2 q0 _ ha))
  show H1[a]? = some (vp_cell _ _)
  rw [e]
  rw [vp_cell_q, vp_cell_q, arrV_store]
  congr 2
  funext q
  by_cases hq : q = i.toNatClampNeg
  · subst hq
    simp [updV, va_up, va_rf]
  · simp [updV, va_up, hq]
end ARA
section ARR
variable {l : Launch} {D : va_G} {dA : Nat → ClassId} {ad : Nat → Nat} {zz : Value} {bs Ln : Nat} {xs : Nat → Int32} {d k : Nat} {p : Program} {e : Env} {R : Room} {s : State} {m : MethodId} {args : Array Value} {below : List Frame} {meth : Method} {c : Code} {c0 s0 : Nat} {Q : State → Prop} {pc : Nat} {Lo : ALs} {st : List Value} {h h' : AH}
variable {as : List Nat} {H : Heap} {locs : List Loc} {ls : Array Slot} {cells slots : Nat} {rest : List Value}
theorem am_iald {a : Nat} {i : Int32} (C : am_Cx l D dA ad zz bs Ln xs d k p R s m args meth c) (hd : decode (mB k) pc = .ok (.iaload, 1)) (hk : (kd h a).1 = 1 ∨ (kd h a).1 = 12) (hi : inR i (kd h a).2 = true) (hW : am_WS D dA ad bs Ln xs as h H) (hS : va_S (am_A bs) s.heap H locs) (ha : a < nx h)
    (K : W p l e R s m args below meth c H locs cells slots Q (F0 m (pc + 1) ls (.int (iv h a i.toNatClampNeg) :: rest))) : W p l e R s m args below meth c H locs cells slots Q (F0 m pc ls (.int i :: .ref (am_phi ad as a) :: rest)) := by
  obtain ⟨hx, hb, hml, hr, hlk, hown, htr, hnm, hHH, ⟨hfr, hlo⟩, hKV, hK, hCF, ⟨hbs, hLn⟩, hzz, hinj, hadb, hU1, hU2⟩ := C
  rcases hk with hk | hk
  · obtain ⟨h0, h1, he⟩ := am_arr_at hW ha (by omega) (by omega)
    rw [hk] at he
    exact va_iald hx hb hK hW.2.1 (a - am_NC) 0 he rfl (inR_vp hi) hd K
  · obtain ⟨g0, g1, g2⟩ := am_const hW ha (by omega)
    rw [am_phi_c g0]
    rw [(g2 _).1] at K
    have e1 : kd h a = (12, (kd h a).2) := by rw [← hk]
    rw [e1] at g1
    rcases k_kd_12 g1.symm with ⟨q, z⟩ | ⟨q, z⟩ <;> rw [z] at hi <;> subst q
    · exact va_ti hx hb hCF.2.2.2.2.2.2.1 hS (inR_vp hi) rfl hd K
    · exact va_ti hx hb hCF.2.2.2.2.2.2.2 hS (inR_vp hi) rfl hd K
theorem am_bald {a : Nat} {i : Int32} (C : am_Cx l D dA ad zz bs Ln xs d k p R s m args meth c) (hd : decode (mB k) pc = .ok (.baload, 1)) (hk : (kd h a).1 = 3 ∨ (kd h a).1 = 13 ∨ (kd h a).1 = 9) (hi : inR i (kd h a).2 = true) (hW : am_WS D dA ad bs Ln xs as h H) (hS : va_S (am_A bs) s.heap H locs) (ha : a < nx h)
    (K : W p l e R s m args below meth c H locs cells slots Q (F0 m (pc + 1) ls (.int (iv h a i.toNatClampNeg) :: rest))) : W p l e R s m args below meth c H locs cells slots Q (F0 m pc ls (.int i :: .ref (am_phi ad as a) :: rest)) := by
  obtain ⟨hx, hb, hml, hr, hlk, hown, htr, hnm, hHH, ⟨hfr, hlo⟩, hKV, hK, hCF, ⟨hbs, hLn⟩, hzz, hinj, hadb, hU1, hU2⟩ := C
  rcases hk with hk | hk | hk
  case inr.inr =>
    obtain ⟨h0, h1, he⟩ := am_arr_at hW ha (by omega) (by omega)
    rw [hk] at he
    exact va_zald hx hb hK hW.2.1 (a - am_NC) 8 he rfl (inR_vp hi) hd K
  · obtain ⟨h0, h1, he⟩ := am_arr_at hW ha (by omega) (by omega)
    rw [hk] at he
    exact va_bald hx hb hK hW.2.1 (a - am_NC) 2 he rfl (inR_vp hi) hd K
  · obtain ⟨g0, g1, g2⟩ := am_const hW ha (by omega)
    rw [am_phi_c g0]
    rw [(g2 _).1] at K
    have e1 : kd h a = (13, (kd h a).2) := by rw [← hk]
    rw [e1] at g1
    rcases k_kd_13 (xs := xs) g1.symm with ⟨ti, h65, hn, z, hv⟩ | ⟨hn, z⟩ | ⟨hn, z⟩
    · rw [z] at hi
      have hT := (hCF.2.1 ti h65).2.2.2
      rw [← hn] at hT
      exact va_tb hx hb hT hS (inR_vp hi) (congrArg Value.int (hv _).symm) hd K
    · rw [z] at hi
      subst hn
      exact va_tb hx hb hCF.2.2.2.2.1 hS (inR_vp hi) rfl hd K
    · rw [z] at hi
      subst hn
      exact va_tb hx hb hCF.2.2.2.2.2.1 hS (inR_vp hi) rfl hd K
theorem am_lald {a : Nat} {i : Int32} (C : am_Cx l D dA ad zz bs Ln xs d k p R s m args meth c) (hd : decode (mB k) pc = .ok (.laload, 1)) (hk : (kd h a).1 = 2) (hi : inR i (kd h a).2 = true) (hW : am_WS D dA ad bs Ln xs as h H) (hS : va_S (am_A bs) s.heap H locs) (ha : a < nx h)
    (K : W p l e R s m args below meth c H locs cells slots Q (F0 m (pc + 1) ls (.long (jv h a i.toNatClampNeg) :: rest))) : W p l e R s m args below meth c H locs cells slots Q (F0 m pc ls (.int i :: .ref (am_phi ad as a) :: rest)) := by
  obtain ⟨hx, hb, hml, hr, hlk, hown, htr, hnm, hHH, ⟨hfr, hlo⟩, hKV, hK, hCF, ⟨hbs, hLn⟩, hzz, hinj, hadb, hU1, hU2⟩ := C
  obtain ⟨h0, h1, he⟩ := am_arr_at hW ha (by omega) (by omega)
  rw [hk] at he
  exact va_lald hx hb hK hW.2.1 (a - am_NC) 1 he rfl (inR_vp hi) hd K
theorem am_aald {a : Nat} {i : Int32} (C : am_Cx l D dA ad zz bs Ln xs d k p R s m args meth c) (hd : decode (mB k) pc = .ok (.aaload, 1)) (hk : (4 ≤ (kd h a).1 ∧ (kd h a).1 ≤ 8) ∨ (kd h a).1 = 14) (hi : inR i (kd h a).2 = true) (hW : am_WS D dA ad bs Ln xs as h H) (hS : va_S (am_A bs) s.heap H locs) (ha : a < nx h)
    (K : W p l e R s m args below meth c H locs cells slots Q (F0 m (pc + 1) ls (am_cv ad zz as (va_rf (rv h a i.toNatClampNeg)) :: rest))) : W p l e R s m args below meth c H locs cells slots Q (F0 m pc ls (.int i :: .ref (am_phi ad as a) :: rest)) := by
  obtain ⟨hx, hb, hml, hr, hlk, hown, htr, hnm, hHH, ⟨hfr, hlo⟩, hKV, hK, hCF, ⟨hbs, hLn⟩, hzz, hinj, hadb, hU1, hU2⟩ := C
  rcases hk with hk | hk
  · obtain ⟨h0, h1, he⟩ := am_arr_at hW ha (by omega) (by omega)
    rw [am_cv_rf] at K
    rcases (show (kd h a).1 = 4 ∨ (kd h a).1 = 5 ∨ (kd h a).1 = 6 ∨ (kd h a).1 = 7 ∨ (kd h a).1 = 8 by omega) with q | q | q | q | q <;> rw [q] at he
    · exact va_aldq hx hb hK hW.2.1 (a - am_NC) 3 he rfl (inR_vp hi) hd K
    · exact va_aldq hx hb hK hW.2.1 (a - am_NC) 4 he rfl (inR_vp hi) hd K
    · exact va_aldq hx hb hK hW.2.1 (a - am_NC) 5 he rfl (inR_vp hi) hd K
    · exact va_aldq hx hb hK hW.2.1 (a - am_NC) 6 he rfl (inR_vp hi) hd K
    · exact am_aldA hx hb hK hW.2.1 (a - am_NC) 7 he rfl (inR_vp hi) hd K
  · obtain ⟨g0, g1, g2⟩ := am_const hW ha (by omega)
    rw [am_phi_c g0]
    rw [(g2 _).2] at K
    have e1 : kd h a = (14, (kd h a).2) := by rw [← hk]
    rw [e1] at g1
    obtain ⟨q, z⟩ := k_kd_14 g1.symm
    rw [z] at hi
    subst q
    refine vb_tq hx hb hCF.2.2.2.1 hS (inR_vp hi) ?_ hd K
    have h9 := inR_lt hi
    have e2 : k_rv 49 i.toNatClampNeg = some i.toNatClampNeg := by
      unfold k_rv
      rw [if_neg (by omega), if_pos rfl, if_pos h9]
    rw [e2]
    show Value.ref _ = Value.ref _
    rw [am_phi_c (show i.toNatClampNeg < am_NC by unfold am_NC; omega)]
theorem am_alen {a : Nat} (C : am_Cx l D dA ad zz bs Ln xs d k p R s m args meth c) (hd : decode (mB k) pc = .ok (.arraylength, 1)) (hk : (1 ≤ (kd h a).1 ∧ (kd h a).1 ≤ 9) ∨ (12 ≤ (kd h a).1 ∧ (kd h a).1 ≤ 14)) (hW : am_WS D dA ad bs Ln xs as h H) (hS : va_S (am_A bs) s.heap H locs) (ha : a < nx h)
    (K : W p l e R s m args below meth c H locs cells slots Q (F0 m (pc + 1) ls (.int (nI (kd h a).2) :: rest))) : W p l e R s m args below meth c H locs cells slots Q (F0 m pc ls (.ref (am_phi ad as a) :: rest)) := by
  obtain ⟨hx, hb, hml, hr, hlk, hown, htr, hnm, hHH, ⟨hfr, hlo⟩, hKV, hK, hCF, ⟨hbs, hLn⟩, hzz, hinj, hadb, hU1, hU2⟩ := C
  rcases hk with hk | hk
  · obtain ⟨h0, h1, he⟩ := am_arr_at hW ha (by omega) (by omega)
    rcases (show (kd h a).1 = 1 ∨ (kd h a).1 = 2 ∨ (kd h a).1 = 3 ∨ (kd h a).1 = 4 ∨ (kd h a).1 = 5 ∨ (kd h a).1 = 6 ∨ (kd h a).1 = 7 ∨ (kd h a).1 = 8 ∨ (kd h a).1 = 9 by omega) with q | q | q | q | q | q | q | q | q <;> rw [q] at he
    · exact va_alen hx hb hK hW.2.1 (a - am_NC) 0 he rfl rfl hd K
    · exact va_alen hx hb hK hW.2.1 (a - am_NC) 1 he rfl rfl hd K
    · exact va_alen hx hb hK hW.2.1 (a - am_NC) 2 he rfl rfl hd K
    · exact va_alen hx hb hK hW.2.1 (a - am_NC) 3 he rfl rfl hd K
    · exact va_alen hx hb hK hW.2.1 (a - am_NC) 4 he rfl rfl hd K
    · exact va_alen hx hb hK hW.2.1 (a - am_NC) 5 he rfl rfl hd K
    · exact va_alen hx hb hK hW.2.1 (a - am_NC) 6 he rfl rfl hd K
    · exact va_alen hx hb hK hW.2.1 (a - am_NC) 7 he rfl rfl hd K
    · exact va_alen hx hb hK hW.2.1 (a - am_NC) 8 he rfl rfl hd K
  · obtain ⟨g0, g1, g2⟩ := am_const hW ha (by omega)
    rw [am_phi_c g0]
    rcases (show (kd h a).1 = 12 ∨ (kd h a).1 = 13 ∨ (kd h a).1 = 14 by omega) with q | q | q
    · have e1 : kd h a = (12, (kd h a).2) := by rw [← q]
      rw [e1] at g1
      rcases k_kd_12 g1.symm with ⟨w, z⟩ | ⟨w, z⟩ <;> rw [z] at K <;> subst w
      · exact va_tlen hx hb hCF.2.2.2.2.2.2.1 hS rfl hd K
      · exact va_tlen hx hb hCF.2.2.2.2.2.2.2 hS rfl hd K
    · have e1 : kd h a = (13, (kd h a).2) := by rw [← q]
      rw [e1] at g1
      rcases k_kd_13 (xs := xs) g1.symm with ⟨ti, h65, hn, z, hv⟩ | ⟨hn, z⟩ | ⟨hn, z⟩
      · rw [z] at K
        have hT := (hCF.2.1 ti h65).2.2.2
        rw [← hn] at hT
        exact va_tlen hx hb hT hS rfl hd K
      · rw [z] at K
        subst hn
        exact va_tlen hx hb hCF.2.2.2.2.1 hS rfl hd K
      · rw [z] at K
        subst hn
        exact va_tlen hx hb hCF.2.2.2.2.2.1 hS rfl hd K
    · have e1 : kd h a = (14, (kd h a).2) := by rw [← q]
      rw [e1] at g1
      obtain ⟨w, z⟩ := k_kd_14 g1.symm
      rw [z] at K
      subst w
      exact va_tlen hx hb hCF.2.2.2.1 hS rfl hd K
/-- a write into a made array -/
theorem am_put_arr {a i t : Nat} {x : va_E} (hW : am_WS D dA ad bs Ln xs as h H) (ha : a < nx h) (h7 : (kd h a).1 ≠ 0) (h0 : am_NC ≤ a) (hx : am_arr dA ad as h' a (kd h a).1 (kd h a).2 = x) (hkd : ∀ n, kd h' n = kd h n) (hiv : ∀ n i, n ≠ a → iv h' n i = iv h n i) (hjv : ∀ n i, n ≠ a → jv h' n i = jv h n i) (hrv : ∀ n i, n ≠ a → rv h' n i = rv h n i) (hnx : nx h' = nx h) (hVH : am_VH h')
    (H1 : Heap) (a1 : va_P D vwCl ((am_ws dA ad as h).set (a - am_NC) (am_phi ad as a, x)) H1) (a2 : va_D (am_A bs) ((am_ws dA ad as h).set (a - am_NC) (am_phi ad as a, x))) : am_WS D dA ad bs Ln xs as h' H1 := by
  have h1 : a < am_NC + as.length := by rw [hW.1]; exact ha
  have hws : (am_ws dA ad as h).set (a - am_NC) (am_phi ad as a, x) = am_ws dA ad as h' := by
    refine am_put_ws h0 h1 ?_ hkd hiv hjv hrv
    unfold am_ob
    rw [hkd, if_neg h7, hx]
  rw [hws] at a1 a2
  exact ⟨by rw [hnx]; exact hW.1, a1, a2, hVH, am_CA_set hW.2.2.2.2 h0 (fun n _ => hkd n) hiv hrv⟩
theorem am_VH_I {a j : Nat} {x : Int32} (hV : am_VH h) : am_VH (setI h a j x) := hV
theorem am_VH_J {a j : Nat} {x : Int64} (hV : am_VH h) : am_VH (setJ h a j x) := hV
theorem am_VH_R {a j b : Nat} (hV : am_VH h) (hb : b < nx h) : am_VH (setR h a j (some b)) := by
  refine ⟨hV.1, fun a1 j1 b1 h1 => ?_, hV.2.2⟩
  rw [rv_setR] at h1
  unfold u2 at h1
  split at h1
  · cases h1; exact hb
  · exact hV.2.1 a1 j1 b1 h1
theorem u2_self {α : Type} {f : Nat → Nat → α} {a q : Nat} {x : α} {j : Nat} : u2 f a q x a j = if j = q then x else f a j := by unfold u2; simp
theorem am_iast {a : Nat} {i : Int32} {x : Int32} (C : am_Cx l D dA ad zz bs Ln xs d k p R s m args meth c) (hd : decode (mB k) pc = .ok (.iastore, 1)) (hk : (kd h a).1 = 1) (hi : inR i (kd h a).2 = true) (hW : am_WS D dA ad bs Ln xs as h H) (hS : va_S (am_A bs) s.heap H locs) (ha : a < nx h)
    (K : ∀ (H1 : Heap) (locs1 : List Loc), am_WS D dA ad bs Ln xs as (setI h a i.toNatClampNeg x) H1 → va_S (am_A bs) s.heap H1 locs1 → W p l e R s m args below meth c H1 locs1 cells slots Q (F0 m (pc + 1) ls rest)) : W p l e R s m args below meth c H locs cells slots Q (F0 m pc ls (.int x :: .int i :: .ref (am_phi ad as a) :: rest)) := by
  obtain ⟨hx, hb, hml, hr, hlk, hown, htr, hnm, hHH, ⟨hfr, hlo⟩, hKV, hK, hCF, ⟨hbs, hLn⟩, hzz, hinj, hadb, hU1, hU2⟩ := C
  obtain ⟨h0, h1, he⟩ := am_arr_at hW ha (by omega) (by omega)
  rw [hk] at he
  have e9 : (fun j => iv (setI h a i.toNatClampNeg x) a j) = upd (fun j => iv h a j) i.toNatClampNeg x := by
    funext j
    show u2 _ _ _ _ _ j = if j = i.toNatClampNeg then x else iv h a j
    rw [u2_self]
    rfl
  refine va_iast hx hb hK hW.2.1 hW.2.2.1 hS (a - am_NC) 0 he rfl (inR_vp hi) hd (fun H1 locs1 a1 a2 a3 => K H1 locs1 (am_put_arr (i := 0) (t := 0) (h' := setI h a i.toNatClampNeg x) hW ha (by omega) h0 ?_ (fun _ => rfl) (fun n i hn => u2_ne hn) (fun _ _ _ => rfl) (fun _ _ _ => rfl) rfl (am_VH_I hW.2.2.2.1) H1 a1 a2) a3)
  rw [hk]
  show (Sum.inl (dA 1, (kd h a).2, Sum.inl (fun j => iv (setI h a i.toNatClampNeg x) a j)) : va_E) = _
  rw [e9]
theorem am_bast {a : Nat} {i : Int32} {x : Int32} (C : am_Cx l D dA ad zz bs Ln xs d k p R s m args meth c) (hd : decode (mB k) pc = .ok (.bastore, 1)) (hk : (kd h a).1 = 3) (hi : inR i (kd h a).2 = true) (hW : am_WS D dA ad bs Ln xs as h H) (hS : va_S (am_A bs) s.heap H locs) (ha : a < nx h)
    (K : ∀ (H1 : Heap) (locs1 : List Loc), am_WS D dA ad bs Ln xs as (setI h a i.toNatClampNeg x.toInt8.toInt32) H1 → va_S (am_A bs) s.heap H1 locs1 → W p l e R s m args below meth c H1 locs1 cells slots Q (F0 m (pc + 1) ls rest)) : W p l e R s m args below meth c H locs cells slots Q (F0 m pc ls (.int x :: .int i :: .ref (am_phi ad as a) :: rest)) := by
  obtain ⟨hx, hb, hml, hr, hlk, hown, htr, hnm, hHH, ⟨hfr, hlo⟩, hKV, hK, hCF, ⟨hbs, hLn⟩, hzz, hinj, hadb, hU1, hU2⟩ := C
  obtain ⟨h0, h1, he⟩ := am_arr_at hW ha (by omega) (by omega)
  rw [hk] at he
  have e9 : (fun j => iv (setI h a i.toNatClampNeg x.toInt8.toInt32) a j) = upd (fun j => iv h a j) i.toNatClampNeg (vp_nar .byte x) := by
    funext j
    show u2 _ _ _ _ _ j = if j = i.toNatClampNeg then x.toInt8.toInt32 else iv h a j
    rw [u2_self]
    rfl
  refine va_bast hx hb hK hW.2.1 hW.2.2.1 hS (a - am_NC) 2 he rfl (inR_vp hi) hd (fun H1 locs1 a1 a2 a3 => K H1 locs1 (am_put_arr (i := 0) (t := 0) (h' := setI h a i.toNatClampNeg x.toInt8.toInt32) hW ha (by omega) h0 ?_ (fun _ => rfl) (fun n i hn => u2_ne hn) (fun _ _ _ => rfl) (fun _ _ _ => rfl) rfl (am_VH_I hW.2.2.2.1) H1 a1 a2) a3)
  rw [hk]
  show (Sum.inl (dA 3, (kd h a).2, Sum.inl (fun j => iv (setI h a i.toNatClampNeg x.toInt8.toInt32) a j)) : va_E) = _
  rw [e9]
theorem am_zast {a : Nat} {i : Int32} {x : Int32} (C : am_Cx l D dA ad zz bs Ln xs d k p R s m args meth c) (hd : decode (mB k) pc = .ok (.bastore, 1)) (hk : (kd h a).1 = 9) (hx01 : x = 0 ∨ x = 1) (hi : inR i (kd h a).2 = true) (hW : am_WS D dA ad bs Ln xs as h H) (hS : va_S (am_A bs) s.heap H locs) (ha : a < nx h)
    (K : ∀ (H1 : Heap) (locs1 : List Loc), am_WS D dA ad bs Ln xs as (setI h a i.toNatClampNeg x) H1 → va_S (am_A bs) s.heap H1 locs1 → W p l e R s m args below meth c H1 locs1 cells slots Q (F0 m (pc + 1) ls rest)) : W p l e R s m args below meth c H locs cells slots Q (F0 m pc ls (.int x :: .int i :: .ref (am_phi ad as a) :: rest)) := by
  obtain ⟨hx, hb, hml, hr, hlk, hown, htr, hnm, hHH, ⟨hfr, hlo⟩, hKV, hK, hCF, ⟨hbs, hLn⟩, hzz, hinj, hadb, hU1, hU2⟩ := C
  obtain ⟨h0, h1, he⟩ := am_arr_at hW ha (by omega) (by omega)
  rw [hk] at he
  have ez : vp_nar .boolean x = x := by rcases hx01 with rfl | rfl <;> decide
  have e9 : (fun j => iv (setI h a i.toNatClampNeg x) a j) = upd (fun j => iv h a j) i.toNatClampNeg (vp_nar .boolean x) := by
    rw [ez]
    funext j
    show u2 _ _ _ _ _ j = if j = i.toNatClampNeg then x else iv h a j
    rw [u2_self]
    rfl
  refine va_zast hx hb hK hW.2.1 hW.2.2.1 hS (a - am_NC) 8 he rfl (inR_vp hi) hd (fun H1 locs1 a1 a2 a3 => K H1 locs1 (am_put_arr (i := 0) (t := 0) (h' := setI h a i.toNatClampNeg x) hW ha (by omega) h0 ?_ (fun _ => rfl) (fun n i hn => u2_ne hn) (fun _ _ _ => rfl) (fun _ _ _ => rfl) rfl (am_VH_I hW.2.2.2.1) H1 a1 a2) a3)
  rw [hk]
  show (Sum.inl (dA 9, (kd h a).2, Sum.inl (fun j => iv (setI h a i.toNatClampNeg x) a j)) : va_E) = _
  rw [e9]
theorem am_last {a : Nat} {i : Int32} {x : Int64} (C : am_Cx l D dA ad zz bs Ln xs d k p R s m args meth c) (hd : decode (mB k) pc = .ok (.lastore, 1)) (hk : (kd h a).1 = 2) (hi : inR i (kd h a).2 = true) (hW : am_WS D dA ad bs Ln xs as h H) (hS : va_S (am_A bs) s.heap H locs) (ha : a < nx h)
    (K : ∀ (H1 : Heap) (locs1 : List Loc), am_WS D dA ad bs Ln xs as (setJ h a i.toNatClampNeg x) H1 → va_S (am_A bs) s.heap H1 locs1 → W p l e R s m args below meth c H1 locs1 cells slots Q (F0 m (pc + 1) ls rest)) : W p l e R s m args below meth c H locs cells slots Q (F0 m pc ls (.long x :: .int i :: .ref (am_phi ad as a) :: rest)) := by
  obtain ⟨hx, hb, hml, hr, hlk, hown, htr, hnm, hHH, ⟨hfr, hlo⟩, hKV, hK, hCF, ⟨hbs, hLn⟩, hzz, hinj, hadb, hU1, hU2⟩ := C
  obtain ⟨h0, h1, he⟩ := am_arr_at hW ha (by omega) (by omega)
  rw [hk] at he
  have e9 : (fun j => jv (setJ h a i.toNatClampNeg x) a j) = vp_updL (fun j => jv h a j) i.toNatClampNeg x := by
    funext j
    show u2 _ _ _ _ _ j = if j = i.toNatClampNeg then x else jv h a j
    rw [u2_self]
    rfl
  refine va_last hx hb hK hW.2.1 hW.2.2.1 hS (a - am_NC) 1 he rfl (inR_vp hi) hd (fun H1 locs1 a1 a2 a3 => K H1 locs1 (am_put_arr (i := 0) (t := 0) (h' := setJ h a i.toNatClampNeg x) hW ha (by omega) h0 ?_ (fun _ => rfl) (fun _ _ _ => rfl) (fun n i hn => u2_ne hn) (fun _ _ _ => rfl) rfl (am_VH_J hW.2.2.2.1) H1 a1 a2) a3)
  rw [hk]
  show (Sum.inl (dA 2, (kd h a).2, Sum.inr (Sum.inl (fun j => jv (setJ h a i.toNatClampNeg x) a j))) : va_E) = _
  rw [e9]
theorem am_anyS {x : Nat} (hCF : am_CF ad zz Ln xs (am_A bs) s s.heap) (hS : va_S (am_A bs) s.heap H locs) (hi : x < 49) : va_Any "MarkShelter$Sign" s H (ad x) := by
  obtain ⟨cell, g1, g2, g3, -⟩ := (hCF.1 x hi).1.kept hS.2.1
  obtain ⟨kC, hkC, -⟩ := Vm.findClass_spec g3
  refine ⟨cell, g1, g2, ⟨kC, hkC⟩, fun comp hcomp => ?_⟩
  cases g3.symm.trans hcomp
  exact Vm.assignable_self _ _
theorem am_anyT {x : Nat} (hCF : am_CF ad zz Ln xs (am_A bs) s s.heap) (hS : va_S (am_A bs) s.heap H locs) (hi : x < 65) : va_Any "java/lang/String" s H (ad (k_sA x)) := by
  obtain ⟨cell, g1, g2, g3, -⟩ := (hCF.2.1 x hi).1.kept hS.2.1
  obtain ⟨kC, hkC, -⟩ := Vm.findClass_spec g3
  refine ⟨cell, g1, g2, ⟨kC, hkC⟩, fun comp hcomp => ?_⟩
  cases g3.symm.trans hcomp
  exact Vm.assignable_self _ _
theorem am_aast {a x : Nat} {i : Int32} (C : am_Cx l D dA ad zz bs Ln xs d k p R s m args meth c) (hd : decode (mB k) pc = .ok (.aastore, 1)) (hk : ((kd h a).1 = 4 ∧ kd h x = (10, 0)) ∨ ((kd h a).1 = 5 ∧ kd h x = (0, 4)) ∨ ((kd h a).1 = 6 ∧ kd h x = (0, 2)) ∨ ((kd h a).1 = 7 ∧ kd h x = (11, 0)) ∨ ((kd h a).1 = 8 ∧ (kd h x).1 = 1)) (hi : inR i (kd h a).2 = true) (hW : am_WS D dA ad bs Ln xs as h H) (hS : va_S (am_A bs) s.heap H locs) (ha : a < nx h) (hxn : x < nx h)
    (K : ∀ (H1 : Heap) (locs1 : List Loc), am_WS D dA ad bs Ln xs as (setR h a i.toNatClampNeg (some x)) H1 → va_S (am_A bs) s.heap H1 locs1 → W p l e R s m args below meth c H1 locs1 cells slots Q (F0 m (pc + 1) ls rest)) : W p l e R s m args below meth c H locs cells slots Q (F0 m pc ls (.ref (am_phi ad as x) :: .int i :: .ref (am_phi ad as a) :: rest)) := by
  obtain ⟨hx, hb, hml, hr, hlk, hown, htr, hnm, hHH, ⟨hfr, hlo⟩, hKV, hK, hCF, ⟨hbs, hLn⟩, hzz, hinj, hadb, hU1, hU2⟩ := C
  obtain ⟨h0, h1, he⟩ := am_arr_at hW ha (by omega) (by omega)
  have e9 : (fun j => (rv (setR h a i.toNatClampNeg (some x)) a j).map (am_phi ad as)) = va_up (fun j => (rv h a j).map (am_phi ad as)) i.toNatClampNeg (some (am_phi ad as x)) := by
    funext j
    show Option.map _ (u2 _ _ _ _ _ j) = if j = i.toNatClampNeg then _ else _
    rw [u2_self]
    split <;> rfl
  rcases hk with ⟨hk, hx9⟩ | ⟨hk, hx9⟩ | ⟨hk, hx9⟩ | ⟨hk, hx9⟩ | ⟨hk, hx9⟩ <;> rw [hk] at he
  · obtain ⟨g0, g1, g2⟩ := am_const hW hxn (by rw [hx9]; decide)
    have hxi : x < 49 := k_kd_10 (g1.symm.trans hx9)
    refine va_astqM hx hb hK hW.2.1 hW.2.2.1 hS (a - am_NC) 3 he rfl (by rw [am_phi_c g0]; exact am_anyS hCF hS hxi) (inR_vp hi) hd (fun H1 locs1 a1 a2 a3 => K H1 locs1 (am_put_arr (i := 0) (t := 0) (h' := setR h a i.toNatClampNeg (some x)) hW ha (by omega) h0 ?_ (fun _ => rfl) (fun _ _ _ => rfl) (fun _ _ _ => rfl) (fun n i hn => u2_ne hn) rfl (am_VH_R hW.2.2.2.1 hxn) H1 a1 a2) a3)
    rw [hk]
    show (Sum.inl (dA 4, (kd h a).2, Sum.inr (Sum.inr (Sum.inr (Sum.inr (fun j => (rv (setR h a i.toNatClampNeg (some x)) a j).map (am_phi ad as)))))) : va_E) = _
    rw [e9]
  · obtain ⟨y0, y1, -, hy⟩ := am_obj hW hxn hx9
    refine va_astq hx hb hK hW.2.1 hW.2.2.1 hS (a - am_NC) 4 (x - am_NC) 4 he rfl hy rfl (inR_vp hi) hd (fun H1 locs1 a1 a2 a3 => K H1 locs1 (am_put_arr (i := 0) (t := 0) (h' := setR h a i.toNatClampNeg (some x)) hW ha (by omega) h0 ?_ (fun _ => rfl) (fun _ _ _ => rfl) (fun _ _ _ => rfl) (fun n i hn => u2_ne hn) rfl (am_VH_R hW.2.2.2.1 hxn) H1 a1 a2) a3)
    rw [hk]
    show (Sum.inl (dA 5, (kd h a).2, Sum.inr (Sum.inr (Sum.inr (Sum.inr (fun j => (rv (setR h a i.toNatClampNeg (some x)) a j).map (am_phi ad as)))))) : va_E) = _
    rw [e9]
  · obtain ⟨y0, y1, -, hy⟩ := am_obj hW hxn hx9
    refine va_astq hx hb hK hW.2.1 hW.2.2.1 hS (a - am_NC) 5 (x - am_NC) 2 he rfl hy rfl (inR_vp hi) hd (fun H1 locs1 a1 a2 a3 => K H1 locs1 (am_put_arr (i := 0) (t := 0) (h' := setR h a i.toNatClampNeg (some x)) hW ha (by omega) h0 ?_ (fun _ => rfl) (fun _ _ _ => rfl) (fun _ _ _ => rfl) (fun n i hn => u2_ne hn) rfl (am_VH_R hW.2.2.2.1 hxn) H1 a1 a2) a3)
    rw [hk]
    show (Sum.inl (dA 6, (kd h a).2, Sum.inr (Sum.inr (Sum.inr (Sum.inr (fun j => (rv (setR h a i.toNatClampNeg (some x)) a j).map (am_phi ad as)))))) : va_E) = _
    rw [e9]
  · obtain ⟨g0, g1, g2⟩ := am_const hW hxn (by rw [hx9]; decide)
    obtain ⟨ti, h65, hta, -, -⟩ := k_kd_11 (g1.symm.trans hx9)
    refine va_astqM hx hb hK hW.2.1 hW.2.2.1 hS (a - am_NC) 6 he rfl (by rw [am_phi_c g0, hta]; exact am_anyT hCF hS h65) (inR_vp hi) hd (fun H1 locs1 a1 a2 a3 => K H1 locs1 (am_put_arr (i := 0) (t := 0) (h' := setR h a i.toNatClampNeg (some x)) hW ha (by omega) h0 ?_ (fun _ => rfl) (fun _ _ _ => rfl) (fun _ _ _ => rfl) (fun n i hn => u2_ne hn) rfl (am_VH_R hW.2.2.2.1 hxn) H1 a1 a2) a3)
    rw [hk]
    show (Sum.inl (dA 7, (kd h a).2, Sum.inr (Sum.inr (Sum.inr (Sum.inr (fun j => (rv (setR h a i.toNatClampNeg (some x)) a j).map (am_phi ad as)))))) : va_E) = _
    rw [e9]
  · obtain ⟨y0, y1, hy⟩ := am_arr_at hW hxn (by omega) (by omega)
    rw [hx9] at hy
    refine am_astA hx hb hKV.2.2.1.2.2.2.2 hK hW.2.1 hW.2.2.1 hS (a - am_NC) 7 (x - am_NC) 0 he rfl hy rfl (inR_vp hi) hd (fun H1 locs1 a1 a2 a3 => K H1 locs1 (am_put_arr (i := 0) (t := 0) (h' := setR h a i.toNatClampNeg (some x)) hW ha (by omega) h0 ?_ (fun _ => rfl) (fun _ _ _ => rfl) (fun _ _ _ => rfl) (fun n i hn => u2_ne hn) rfl (am_VH_R hW.2.2.2.1 hxn) H1 a1 a2) a3)
    rw [hk]
    show (Sum.inl (dA 8, (kd h a).2, Sum.inr (Sum.inr (Sum.inr (Sum.inr (fun j => (rv (setR h a i.toNatClampNeg (some x)) a j).map (am_phi ad as)))))) : va_E) = _
    rw [e9]
end ARR
