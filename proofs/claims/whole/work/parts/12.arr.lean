/-! ARRAYS, NEW CELLS, STATICS, CONSTANTS. -/
theorem k_kd_12 {L n z : Nat} (h : k_kd L n = (12, z)) : (n = 51 ∧ z = 4) ∨ (n = 52 ∧ z = 49) ∨ (n = 53 ∧ z = L) := by
  unfold k_kd at h
  (repeat' split at h) <;> simp_all
theorem k_kd_13 {L n z : Nat} (h : k_kd L n = (13, z)) : 110 ≤ n ∧ n < 156 ∧ z = k_len.getD (n - 110) 0 := by
  unfold k_kd at h
  (repeat' split at h) <;> simp_all
theorem k_kd_14 {L n z : Nat} (h : k_kd L n = (14, z)) : n = 49 ∧ z = 49 := by
  unfold k_kd at h
  (repeat' split at h) <;> simp_all
theorem k_kd_15 {L n z : Nat} (h : k_kd L n = (15, z)) : n = 50 ∧ z = 29 := by
  unfold k_kd at h
  (repeat' split at h) <;> simp_all
theorem inR_vp {i : Int32} {n : Nat} (h : inR i n = true) : vp_in i n := by
  unfold inR at h
  simp only [Bool.and_eq_true, decide_eq_true_eq] at h
  unfold vp_in
  rintro (q | q)
  · exact h.1 q
  · omega
theorem inR_lt {i : Int32} {n : Nat} (h : inR i n = true) : i.toNatClampNeg < n := by
  unfold inR at h
  simp only [Bool.and_eq_true, decide_eq_true_eq] at h
  exact h.2
section ARR
variable {l : Launch} {D : va_G} {dA : Nat → ClassId} {ad : Nat → Nat} {zz : Value} {bs Ln : Nat} {xs : Nat → Int32} {d k : Nat} {p : Program} {e : Env} {R : Room} {s : State} {m : MethodId} {args : Array Value} {below : List Frame} {meth : Method} {c : Code} {c0 s0 : Nat} {Q : State → Prop} {pc : Nat} {Lo : ALs} {st : List Value} {h h' : AH}
variable {as : List Nat} {H : Heap} {locs : List Loc} {ls : Array Slot} {cells slots : Nat} {rest : List Value}
theorem am_iald {a : Nat} {i : Int32} (C : am_Cx l D dA ad zz bs Ln xs d k p R s m args meth c) (hd : decode (mB k) pc = .ok (.iaload, 1)) (hk : (kd h a).1 = 1 ∨ (kd h a).1 = 12) (hi : inR i (kd h a).2 = true) (hW : am_WS D dA ad bs Ln xs as h H) (hS : va_S (am_A bs) s.heap H locs) (ha : a < nx h)
    (K : W p l e R s m args below meth c H locs cells slots Q (F0 m (pc + 1) ls (.int (iv h a i.toNatClampNeg) :: rest))) : W p l e R s m args below meth c H locs cells slots Q (F0 m pc ls (.int i :: .ref (am_phi ad as a) :: rest)) := by
  obtain ⟨hx, hb, hml, hr, hlk, hown, htr, hnm, hHH, ⟨hfr, hlo⟩, hKV, hK, hCF, ⟨hbs, hLn⟩, hzz, hinj, hadb, hU1, hU2⟩ := C
  rcases hk with hk | hk
  · obtain ⟨h0, h1, he⟩ := am_arr_at hW ha (by omega) (by omega)
    rw [hk] at he
    exact va_iald hx hb hK hW.2.1 (a - am_NC) 0 he rfl (inR_vp hi) hd K
  · obtain ⟨g0, g1, g2⟩ := am_const hW ha (by omega)
    rw [am_phi_c g0]
    rw [(g2 _).1] at K
    have e1 : kd h a = (12, (kd h a).2) := by rw [← hk]
    rw [e1] at g1
    rcases k_kd_12 g1.symm with ⟨q, z⟩ | ⟨q, z⟩ | ⟨q, z⟩ <;> rw [z] at hi <;> subst q
    · exact va_ti hx hb hCF.2.2.2.2.2.1 hS (inR_vp hi) rfl hd K
    · exact va_ti hx hb hCF.2.2.2.2.2.2.1 hS (inR_vp hi) rfl hd K
    · exact va_ti hx hb hCF.2.2.2.2.2.2.2 hS (inR_vp hi) rfl hd K
theorem am_bald {a : Nat} {i : Int32} (C : am_Cx l D dA ad zz bs Ln xs d k p R s m args meth c) (hd : decode (mB k) pc = .ok (.baload, 1)) (hk : (kd h a).1 = 3 ∨ (kd h a).1 = 13) (hi : inR i (kd h a).2 = true) (hW : am_WS D dA ad bs Ln xs as h H) (hS : va_S (am_A bs) s.heap H locs) (ha : a < nx h)
    (K : W p l e R s m args below meth c H locs cells slots Q (F0 m (pc + 1) ls (.int (iv h a i.toNatClampNeg) :: rest))) : W p l e R s m args below meth c H locs cells slots Q (F0 m pc ls (.int i :: .ref (am_phi ad as a) :: rest)) := by
  obtain ⟨hx, hb, hml, hr, hlk, hown, htr, hnm, hHH, ⟨hfr, hlo⟩, hKV, hK, hCF, ⟨hbs, hLn⟩, hzz, hinj, hadb, hU1, hU2⟩ := C
  rcases hk with hk | hk
  · obtain ⟨h0, h1, he⟩ := am_arr_at hW ha (by omega) (by omega)
    rw [hk] at he
    exact va_bald hx hb hK hW.2.1 (a - am_NC) 2 he rfl (inR_vp hi) hd K
  · obtain ⟨g0, g1, g2⟩ := am_const hW ha (by omega)
    rw [am_phi_c g0]
    rw [(g2 _).1] at K
    have e1 : kd h a = (13, (kd h a).2) := by rw [← hk]
    rw [e1] at g1
    obtain ⟨q1, q2, z⟩ := k_kd_13 g1.symm
    rw [z] at hi
    have hT := (hCF.2.1 (a - 110) (by omega)).2.2.2
    rw [show 110 + (a - 110) = a by omega] at hT
    refine va_tb hx hb hT hS (inR_vp hi) ?_ hd K
    unfold k_iv
    rw [if_neg (by omega), if_neg (by omega), if_neg (by omega), if_neg (by omega), if_pos ⟨q1, q2⟩]
theorem am_lald {a : Nat} {i : Int32} (C : am_Cx l D dA ad zz bs Ln xs d k p R s m args meth c) (hd : decode (mB k) pc = .ok (.laload, 1)) (hk : (kd h a).1 = 2) (hi : inR i (kd h a).2 = true) (hW : am_WS D dA ad bs Ln xs as h H) (hS : va_S (am_A bs) s.heap H locs) (ha : a < nx h)
    (K : W p l e R s m args below meth c H locs cells slots Q (F0 m (pc + 1) ls (.long (jv h a i.toNatClampNeg) :: rest))) : W p l e R s m args below meth c H locs cells slots Q (F0 m pc ls (.int i :: .ref (am_phi ad as a) :: rest)) := by
  obtain ⟨hx, hb, hml, hr, hlk, hown, htr, hnm, hHH, ⟨hfr, hlo⟩, hKV, hK, hCF, ⟨hbs, hLn⟩, hzz, hinj, hadb, hU1, hU2⟩ := C
  obtain ⟨h0, h1, he⟩ := am_arr_at hW ha (by omega) (by omega)
  rw [hk] at he
  exact va_lald hx hb hK hW.2.1 (a - am_NC) 1 he rfl (inR_vp hi) hd K
theorem am_aald {a : Nat} {i : Int32} (C : am_Cx l D dA ad zz bs Ln xs d k p R s m args meth c) (hd : decode (mB k) pc = .ok (.aaload, 1)) (hk : (4 ≤ (kd h a).1 ∧ (kd h a).1 ≤ 6) ∨ (kd h a).1 = 14 ∨ (kd h a).1 = 15) (hi : inR i (kd h a).2 = true) (hW : am_WS D dA ad bs Ln xs as h H) (hS : va_S (am_A bs) s.heap H locs) (ha : a < nx h)
    (K : W p l e R s m args below meth c H locs cells slots Q (F0 m (pc + 1) ls (am_cv ad zz as (va_rf (rv h a i.toNatClampNeg)) :: rest))) : W p l e R s m args below meth c H locs cells slots Q (F0 m pc ls (.int i :: .ref (am_phi ad as a) :: rest)) := by
  obtain ⟨hx, hb, hml, hr, hlk, hown, htr, hnm, hHH, ⟨hfr, hlo⟩, hKV, hK, hCF, ⟨hbs, hLn⟩, hzz, hinj, hadb, hU1, hU2⟩ := C
  rcases hk with hk | hk | hk
  · obtain ⟨h0, h1, he⟩ := am_arr_at hW ha (by omega) (by omega)
    rw [am_cv_rf] at K
    rcases (show (kd h a).1 = 4 ∨ (kd h a).1 = 5 ∨ (kd h a).1 = 6 by omega) with q | q | q <;> rw [q] at he
    · exact va_aldq hx hb hK hW.2.1 (a - am_NC) 3 he rfl (inR_vp hi) hd K
    · exact va_aldq hx hb hK hW.2.1 (a - am_NC) 4 he rfl (inR_vp hi) hd K
    · exact va_aldq hx hb hK hW.2.1 (a - am_NC) 5 he rfl (inR_vp hi) hd K
  · obtain ⟨g0, g1, g2⟩ := am_const hW ha (by omega)
    rw [am_phi_c g0]
    rw [(g2 _).2] at K
    have e1 : kd h a = (14, (kd h a).2) := by rw [← hk]
    rw [e1] at g1
    obtain ⟨q, z⟩ := k_kd_14 g1.symm
    rw [z] at hi
    subst q
    refine vb_tq hx hb hCF.2.2.2.1 hS (inR_vp hi) ?_ hd K
    have h9 := inR_lt hi
    have e2 : k_rv 49 i.toNatClampNeg = some i.toNatClampNeg := by
      unfold k_rv
      rw [if_neg (by omega), if_pos rfl, if_pos h9]
    rw [e2]
    show Value.ref _ = Value.ref _
    rw [am_phi_c (show i.toNatClampNeg < am_NC by unfold am_NC; omega)]
  · obtain ⟨g0, g1, g2⟩ := am_const hW ha (by omega)
    rw [am_phi_c g0]
    rw [(g2 _).2] at K
    have e1 : kd h a = (15, (kd h a).2) := by rw [← hk]
    rw [e1] at g1
    obtain ⟨q, z⟩ := k_kd_15 g1.symm
    rw [z] at hi
    subst q
    refine vb_tq hx hb hCF.2.2.2.2.1 hS (inR_vp hi) ?_ hd K
    have h9 := inR_lt hi
    have e2 : k_rv 50 i.toNatClampNeg = some (60 + i.toNatClampNeg) := by
      unfold k_rv
      rw [if_neg (by omega), if_neg (by omega), if_pos rfl, if_pos h9]
    rw [e2]
    show Value.ref _ = Value.ref _
    rw [am_phi_c (show 60 + i.toNatClampNeg < am_NC by unfold am_NC; omega)]
theorem am_alen {a : Nat} (C : am_Cx l D dA ad zz bs Ln xs d k p R s m args meth c) (hd : decode (mB k) pc = .ok (.arraylength, 1)) (hk : (1 ≤ (kd h a).1 ∧ (kd h a).1 ≤ 6) ∨ (12 ≤ (kd h a).1 ∧ (kd h a).1 ≤ 15)) (hW : am_WS D dA ad bs Ln xs as h H) (hS : va_S (am_A bs) s.heap H locs) (ha : a < nx h)
    (K : W p l e R s m args below meth c H locs cells slots Q (F0 m (pc + 1) ls (.int (nI (kd h a).2) :: rest))) : W p l e R s m args below meth c H locs cells slots Q (F0 m pc ls (.ref (am_phi ad as a) :: rest)) := by
  obtain ⟨hx, hb, hml, hr, hlk, hown, htr, hnm, hHH, ⟨hfr, hlo⟩, hKV, hK, hCF, ⟨hbs, hLn⟩, hzz, hinj, hadb, hU1, hU2⟩ := C
  rcases hk with hk | hk
  · obtain ⟨h0, h1, he⟩ := am_arr_at hW ha (by omega) (by omega)
    rcases (show (kd h a).1 = 1 ∨ (kd h a).1 = 2 ∨ (kd h a).1 = 3 ∨ (kd h a).1 = 4 ∨ (kd h a).1 = 5 ∨ (kd h a).1 = 6 by omega) with q | q | q | q | q | q <;> rw [q] at he
    · exact va_alen hx hb hK hW.2.1 (a - am_NC) 0 he rfl rfl hd K
    · exact va_alen hx hb hK hW.2.1 (a - am_NC) 1 he rfl rfl hd K
    · exact va_alen hx hb hK hW.2.1 (a - am_NC) 2 he rfl rfl hd K
    · exact va_alen hx hb hK hW.2.1 (a - am_NC) 3 he rfl rfl hd K
    · exact va_alen hx hb hK hW.2.1 (a - am_NC) 4 he rfl rfl hd K
    · exact va_alen hx hb hK hW.2.1 (a - am_NC) 5 he rfl rfl hd K
  · obtain ⟨g0, g1, g2⟩ := am_const hW ha (by omega)
    rw [am_phi_c g0]
    rcases (show (kd h a).1 = 12 ∨ (kd h a).1 = 13 ∨ (kd h a).1 = 14 ∨ (kd h a).1 = 15 by omega) with q | q | q | q
    · have e1 : kd h a = (12, (kd h a).2) := by rw [← q]
      rw [e1] at g1
      rcases k_kd_12 g1.symm with ⟨w, z⟩ | ⟨w, z⟩ | ⟨w, z⟩ <;> rw [z] at K <;> subst w
      · exact va_tlen hx hb hCF.2.2.2.2.2.1 hS rfl hd K
      · exact va_tlen hx hb hCF.2.2.2.2.2.2.1 hS rfl hd K
      · exact va_tlen hx hb hCF.2.2.2.2.2.2.2 hS rfl hd K
    · have e1 : kd h a = (13, (kd h a).2) := by rw [← q]
      rw [e1] at g1
      obtain ⟨q1, q2, z⟩ := k_kd_13 g1.symm
      rw [z] at K
      have hT := (hCF.2.1 (a - 110) (by omega)).2.2.2
      rw [show 110 + (a - 110) = a by omega] at hT
      exact va_tlen hx hb hT hS rfl hd K
    · have e1 : kd h a = (14, (kd h a).2) := by rw [← q]
      rw [e1] at g1
      obtain ⟨w, z⟩ := k_kd_14 g1.symm
      rw [z] at K
      subst w
      exact va_tlen hx hb hCF.2.2.2.1 hS rfl hd K
    · have e1 : kd h a = (15, (kd h a).2) := by rw [← q]
      rw [e1] at g1
      obtain ⟨w, z⟩ := k_kd_15 g1.symm
      rw [z] at K
      subst w
      exact va_tlen hx hb hCF.2.2.2.2.1 hS rfl hd K
/-- a write into a made array -/
theorem am_put_arr {a i t : Nat} {x : va_E} (hW : am_WS D dA ad bs Ln xs as h H) (ha : a < nx h) (h7 : (kd h a).1 ≠ 0) (h0 : am_NC ≤ a) (hx : am_arr dA ad as h' a (kd h a).1 (kd h a).2 = x) (hkd : ∀ n, kd h' n = kd h n) (hiv : ∀ n i, n ≠ a → iv h' n i = iv h n i) (hjv : ∀ n i, n ≠ a → jv h' n i = jv h n i) (hrv : ∀ n i, n ≠ a → rv h' n i = rv h n i) (hnx : nx h' = nx h) (hVH : am_VH h')
    (H1 : Heap) (a1 : va_P D vwCl ((am_ws dA ad as h).set (a - am_NC) (am_phi ad as a, x)) H1) (a2 : va_D (am_A bs) ((am_ws dA ad as h).set (a - am_NC) (am_phi ad as a, x))) : am_WS D dA ad bs Ln xs as h' H1 := by
  have h1 : a < am_NC + as.length := by rw [hW.1]; exact ha
  have hws : (am_ws dA ad as h).set (a - am_NC) (am_phi ad as a, x) = am_ws dA ad as h' := by
    refine am_put_ws h0 h1 ?_ hkd hiv hjv hrv
    unfold am_ob
    rw [hkd, if_neg h7, hx]
  rw [hws] at a1 a2
  exact ⟨by rw [hnx]; exact hW.1, a1, a2, hVH, am_CA_set hW.2.2.2.2 h0 (fun n _ => hkd n) hiv hrv⟩
theorem am_VH_I {a j : Nat} {x : Int32} (hV : am_VH h) : am_VH (setI h a j x) := hV
theorem am_VH_J {a j : Nat} {x : Int64} (hV : am_VH h) : am_VH (setJ h a j x) := hV
theorem am_VH_R {a j b : Nat} (hV : am_VH h) (hb : b < nx h) : am_VH (setR h a j (some b)) := by
  refine ⟨hV.1, fun a1 j1 b1 h1 => ?_, hV.2.2⟩
  rw [rv_setR] at h1
  unfold u2 at h1
  split at h1
  · cases h1; exact hb
  · exact hV.2.1 a1 j1 b1 h1
theorem u2_self {α : Type} {f : Nat → Nat → α} {a q : Nat} {x : α} {j : Nat} : u2 f a q x a j = if j = q then x else f a j := by unfold u2; simp
theorem am_iast {a : Nat} {i : Int32} {x : Int32} (C : am_Cx l D dA ad zz bs Ln xs d k p R s m args meth c) (hd : decode (mB k) pc = .ok (.iastore, 1)) (hk : (kd h a).1 = 1) (hi : inR i (kd h a).2 = true) (hW : am_WS D dA ad bs Ln xs as h H) (hS : va_S (am_A bs) s.heap H locs) (ha : a < nx h)
    (K : ∀ (H1 : Heap) (locs1 : List Loc), am_WS D dA ad bs Ln xs as (setI h a i.toNatClampNeg x) H1 → va_S (am_A bs) s.heap H1 locs1 → W p l e R s m args below meth c H1 locs1 cells slots Q (F0 m (pc + 1) ls rest)) : W p l e R s m args below meth c H locs cells slots Q (F0 m pc ls (.int x :: .int i :: .ref (am_phi ad as a) :: rest)) := by
  obtain ⟨hx, hb, hml, hr, hlk, hown, htr, hnm, hHH, ⟨hfr, hlo⟩, hKV, hK, hCF, ⟨hbs, hLn⟩, hzz, hinj, hadb, hU1, hU2⟩ := C
  obtain ⟨h0, h1, he⟩ := am_arr_at hW ha (by omega) (by omega)
  rw [hk] at he
  have e9 : (fun j => iv (setI h a i.toNatClampNeg x) a j) = upd (fun j => iv h a j) i.toNatClampNeg x := by
    funext j
    show u2 _ _ _ _ _ j = if j = i.toNatClampNeg then x else iv h a j
    rw [u2_self]
    rfl
  refine va_iast hx hb hK hW.2.1 hW.2.2.1 hS (a - am_NC) 0 he rfl (inR_vp hi) hd (fun H1 locs1 a1 a2 a3 => K H1 locs1 (am_put_arr (i := 0) (t := 0) (h' := setI h a i.toNatClampNeg x) hW ha (by omega) h0 ?_ (fun _ => rfl) (fun n i hn => u2_ne hn) (fun _ _ _ => rfl) (fun _ _ _ => rfl) rfl (am_VH_I hW.2.2.2.1) H1 a1 a2) a3)
  rw [hk]
  show (Sum.inl (dA 1, (kd h a).2, Sum.inl (fun j => iv (setI h a i.toNatClampNeg x) a j)) : va_E) = _
  rw [e9]
theorem am_bast {a : Nat} {i : Int32} {x : Int32} (C : am_Cx l D dA ad zz bs Ln xs d k p R s m args meth c) (hd : decode (mB k) pc = .ok (.bastore, 1)) (hk : (kd h a).1 = 3) (hi : inR i (kd h a).2 = true) (hW : am_WS D dA ad bs Ln xs as h H) (hS : va_S (am_A bs) s.heap H locs) (ha : a < nx h)
    (K : ∀ (H1 : Heap) (locs1 : List Loc), am_WS D dA ad bs Ln xs as (setI h a i.toNatClampNeg x.toInt8.toInt32) H1 → va_S (am_A bs) s.heap H1 locs1 → W p l e R s m args below meth c H1 locs1 cells slots Q (F0 m (pc + 1) ls rest)) : W p l e R s m args below meth c H locs cells slots Q (F0 m pc ls (.int x :: .int i :: .ref (am_phi ad as a) :: rest)) := by
  obtain ⟨hx, hb, hml, hr, hlk, hown, htr, hnm, hHH, ⟨hfr, hlo⟩, hKV, hK, hCF, ⟨hbs, hLn⟩, hzz, hinj, hadb, hU1, hU2⟩ := C
  obtain ⟨h0, h1, he⟩ := am_arr_at hW ha (by omega) (by omega)
  rw [hk] at he
  have e9 : (fun j => iv (setI h a i.toNatClampNeg x.toInt8.toInt32) a j) = upd (fun j => iv h a j) i.toNatClampNeg (vp_nar .byte x) := by
    funext j
    show u2 _ _ _ _ _ j = if j = i.toNatClampNeg then x.toInt8.toInt32 else iv h a j
    rw [u2_self]
    rfl
  refine va_bast hx hb hK hW.2.1 hW.2.2.1 hS (a - am_NC) 2 he rfl (inR_vp hi) hd (fun H1 locs1 a1 a2 a3 => K H1 locs1 (am_put_arr (i := 0) (t := 0) (h' := setI h a i.toNatClampNeg x.toInt8.toInt32) hW ha (by omega) h0 ?_ (fun _ => rfl) (fun n i hn => u2_ne hn) (fun _ _ _ => rfl) (fun _ _ _ => rfl) rfl (am_VH_I hW.2.2.2.1) H1 a1 a2) a3)
  rw [hk]
  show (Sum.inl (dA 3, (kd h a).2, Sum.inl (fun j => iv (setI h a i.toNatClampNeg x.toInt8.toInt32) a j)) : va_E) = _
  rw [e9]
theorem am_last {a : Nat} {i : Int32} {x : Int64} (C : am_Cx l D dA ad zz bs Ln xs d k p R s m args meth c) (hd : decode (mB k) pc = .ok (.lastore, 1)) (hk : (kd h a).1 = 2) (hi : inR i (kd h a).2 = true) (hW : am_WS D dA ad bs Ln xs as h H) (hS : va_S (am_A bs) s.heap H locs) (ha : a < nx h)
    (K : ∀ (H1 : Heap) (locs1 : List Loc), am_WS D dA ad bs Ln xs as (setJ h a i.toNatClampNeg x) H1 → va_S (am_A bs) s.heap H1 locs1 → W p l e R s m args below meth c H1 locs1 cells slots Q (F0 m (pc + 1) ls rest)) : W p l e R s m args below meth c H locs cells slots Q (F0 m pc ls (.long x :: .int i :: .ref (am_phi ad as a) :: rest)) := by
  obtain ⟨hx, hb, hml, hr, hlk, hown, htr, hnm, hHH, ⟨hfr, hlo⟩, hKV, hK, hCF, ⟨hbs, hLn⟩, hzz, hinj, hadb, hU1, hU2⟩ := C
  obtain ⟨h0, h1, he⟩ := am_arr_at hW ha (by omega) (by omega)
  rw [hk] at he
  have e9 : (fun j => jv (setJ h a i.toNatClampNeg x) a j) = vp_updL (fun j => jv h a j) i.toNatClampNeg x := by
    funext j
    show u2 _ _ _ _ _ j = if j = i.toNatClampNeg then x else jv h a j
    rw [u2_self]
    rfl
  refine va_last hx hb hK hW.2.1 hW.2.2.1 hS (a - am_NC) 1 he rfl (inR_vp hi) hd (fun H1 locs1 a1 a2 a3 => K H1 locs1 (am_put_arr (i := 0) (t := 0) (h' := setJ h a i.toNatClampNeg x) hW ha (by omega) h0 ?_ (fun _ => rfl) (fun _ _ _ => rfl) (fun n i hn => u2_ne hn) (fun _ _ _ => rfl) rfl (am_VH_J hW.2.2.2.1) H1 a1 a2) a3)
  rw [hk]
  show (Sum.inl (dA 2, (kd h a).2, Sum.inr (Sum.inl (fun j => jv (setJ h a i.toNatClampNeg x) a j))) : va_E) = _
  rw [e9]
theorem am_anyS {x : Nat} (hCF : am_CF ad zz Ln xs (am_A bs) s s.heap) (hS : va_S (am_A bs) s.heap H locs) (hi : x < 49) : va_Any "MarkShelter$Sign" s H (ad x) := by
  obtain ⟨cell, g1, g2, g3, -⟩ := (hCF.1 x hi).1.kept hS.2.1
  obtain ⟨kC, hkC, -⟩ := Vm.findClass_spec g3
  refine ⟨cell, g1, g2, ⟨kC, hkC⟩, fun comp hcomp => ?_⟩
  cases g3.symm.trans hcomp
  exact Vm.assignable_self _ _
theorem am_aast {a x : Nat} {i : Int32} (C : am_Cx l D dA ad zz bs Ln xs d k p R s m args meth c) (hd : decode (mB k) pc = .ok (.aastore, 1)) (hk : ((kd h a).1 = 4 ∧ kd h x = (10, 0)) ∨ ((kd h a).1 = 5 ∧ kd h x = (0, 4)) ∨ ((kd h a).1 = 6 ∧ kd h x = (0, 2))) (hi : inR i (kd h a).2 = true) (hW : am_WS D dA ad bs Ln xs as h H) (hS : va_S (am_A bs) s.heap H locs) (ha : a < nx h) (hxn : x < nx h)
    (K : ∀ (H1 : Heap) (locs1 : List Loc), am_WS D dA ad bs Ln xs as (setR h a i.toNatClampNeg (some x)) H1 → va_S (am_A bs) s.heap H1 locs1 → W p l e R s m args below meth c H1 locs1 cells slots Q (F0 m (pc + 1) ls rest)) : W p l e R s m args below meth c H locs cells slots Q (F0 m pc ls (.ref (am_phi ad as x) :: .int i :: .ref (am_phi ad as a) :: rest)) := by
  obtain ⟨hx, hb, hml, hr, hlk, hown, htr, hnm, hHH, ⟨hfr, hlo⟩, hKV, hK, hCF, ⟨hbs, hLn⟩, hzz, hinj, hadb, hU1, hU2⟩ := C
  obtain ⟨h0, h1, he⟩ := am_arr_at hW ha (by omega) (by omega)
  have e9 : (fun j => (rv (setR h a i.toNatClampNeg (some x)) a j).map (am_phi ad as)) = va_up (fun j => (rv h a j).map (am_phi ad as)) i.toNatClampNeg (some (am_phi ad as x)) := by
    funext j
    show Option.map _ (u2 _ _ _ _ _ j) = if j = i.toNatClampNeg then _ else _
    rw [u2_self]
    split <;> rfl
  rcases hk with ⟨hk, hx9⟩ | ⟨hk, hx9⟩ | ⟨hk, hx9⟩ <;> rw [hk] at he
  · obtain ⟨g0, g1, g2⟩ := am_const hW hxn (by rw [hx9]; decide)
    have hxi : x < 49 := k_kd_10 (g1.symm.trans hx9)
    refine va_astqM hx hb hK hW.2.1 hW.2.2.1 hS (a - am_NC) 3 he rfl (by rw [am_phi_c g0]; exact am_anyS hCF hS hxi) (inR_vp hi) hd (fun H1 locs1 a1 a2 a3 => K H1 locs1 (am_put_arr (i := 0) (t := 0) (h' := setR h a i.toNatClampNeg (some x)) hW ha (by omega) h0 ?_ (fun _ => rfl) (fun _ _ _ => rfl) (fun _ _ _ => rfl) (fun n i hn => u2_ne hn) rfl (am_VH_R hW.2.2.2.1 hxn) H1 a1 a2) a3)
    rw [hk]
    show (Sum.inl (dA 4, (kd h a).2, Sum.inr (Sum.inr (Sum.inr (Sum.inr (fun j => (rv (setR h a i.toNatClampNeg (some x)) a j).map (am_phi ad as)))))) : va_E) = _
    rw [e9]
  · obtain ⟨y0, y1, -, hy⟩ := am_obj hW hxn hx9
    refine va_astq hx hb hK hW.2.1 hW.2.2.1 hS (a - am_NC) 4 (x - am_NC) 4 he rfl hy rfl (inR_vp hi) hd (fun H1 locs1 a1 a2 a3 => K H1 locs1 (am_put_arr (i := 0) (t := 0) (h' := setR h a i.toNatClampNeg (some x)) hW ha (by omega) h0 ?_ (fun _ => rfl) (fun _ _ _ => rfl) (fun _ _ _ => rfl) (fun n i hn => u2_ne hn) rfl (am_VH_R hW.2.2.2.1 hxn) H1 a1 a2) a3)
    rw [hk]
    show (Sum.inl (dA 5, (kd h a).2, Sum.inr (Sum.inr (Sum.inr (Sum.inr (fun j => (rv (setR h a i.toNatClampNeg (some x)) a j).map (am_phi ad as)))))) : va_E) = _
    rw [e9]
  · obtain ⟨y0, y1, -, hy⟩ := am_obj hW hxn hx9
    refine va_astq hx hb hK hW.2.1 hW.2.2.1 hS (a - am_NC) 5 (x - am_NC) 2 he rfl hy rfl (inR_vp hi) hd (fun H1 locs1 a1 a2 a3 => K H1 locs1 (am_put_arr (i := 0) (t := 0) (h' := setR h a i.toNatClampNeg (some x)) hW ha (by omega) h0 ?_ (fun _ => rfl) (fun _ _ _ => rfl) (fun _ _ _ => rfl) (fun n i hn => u2_ne hn) rfl (am_VH_R hW.2.2.2.1 hxn) H1 a1 a2) a3)
    rw [hk]
    show (Sum.inl (dA 6, (kd h a).2, Sum.inr (Sum.inr (Sum.inr (Sum.inr (fun j => (rv (setR h a i.toNatClampNeg (some x)) a j).map (am_phi ad as)))))) : va_E) = _
    rw [e9]
end ARR
