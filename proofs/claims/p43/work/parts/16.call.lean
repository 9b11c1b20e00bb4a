/-! CALLS of methods that the abstract machine runs. -/
def exNm (E : Nat) : String := ["java/lang/IllegalStateException", "java/lang/IllegalArgumentException", "java/lang/IndexOutOfBoundsException"].getD E ""
def am_Pc (D : va_G) (dA : Nat → ClassId) (ad : Nat → Nat) (zz : Value) (bs Ln : Nat) (xs : Nat → Int32) (as : List Nat) (h : AH) (av : List Value) : Array Value → State → Prop := fun a U =>
  a = (av.map (am_cv ad zz as)).toArray ∧ am_KV ad U ∧ va_K D vwCl (am_tys dA) U ∧ am_CF ad zz Ln xs (am_A bs) U U.heap ∧ bs ≤ U.heap.size ∧ am_WS D dA ad bs Ln xs as h U.heap ∧ vx_Zq Bundle.tN "UNASSIGNED_STACK" Bundle.steD (am_A bs) U U.heap ∧ vx_Zq Bundle.tN "SUPPRESSED_SENTINEL" Bundle.listD (am_A bs) U U.heap
def am_Qc (D : va_G) (dA : Nat → ClassId) (ad : Nat → Nat) (zz : Value) (bs Ln : Nat) (xs : Nat → Int32) (as : List Nat) (h' : AH) (o : AO) : Array Value → State → Outcome → State → Prop := fun _ st oc t =>
  ∃ (v : Option Value) (as' : List Nat), o = .inl v ∧ oc = .returned (v.map (am_cv ad zz as')) ∧ (∃ t9, as' = as ++ t9) ∧ am_WS D dA ad bs Ln xs as' h' t.heap ∧ va_F (am_A bs) st t ∧ ∀ w, v = some w → am_V (nx h') w
def am_XC (D : va_G) (dA : Nat → ClassId) (ad : Nat → Nat) (bs Ln : Nat) (xs : Nat → Int32) (as : List Nat) (h' : AH) (o : AO) : String → State → State → Prop := fun En st t =>
  ∃ (E : Nat) (as' : List Nat), o = .inr E ∧ En = exNm E ∧ (∃ t9, as' = as ++ t9) ∧ am_WS D dA ad bs Ln xs as' h' t.heap ∧ va_F (am_A bs) st t
def am_rm (d mc ms : Nat) : Room := { frames := d, cells := mc, slots := ms, locals := 40 * d }
def am_Wy (y : Nat) : List Cond := (if (mH y).isEmpty = true then am_cw y else am_cwH y) :: am_GW
def am_Met (l : Launch) (D : va_G) (dA : Nat → ClassId) (ad : Nat → Nat) (zz : Value) (bs Ln : Nat) (xs : Nat → Int32) (d y : Nat) (av : List Value) (as : List Nat) (h : AH) (o : AO) (h' : AH) : Prop :=
  vx_Met l (mY y) (am_Wy y) (am_rm d (nc h' - nc h) (ns h' - ns h)) (am_Pc D dA ad zz bs Ln xs as h av) (am_Qc D dA ad zz bs Ln xs as h' o) (am_XC D dA ad bs Ln xs as h' o) (nc h' - nc h) (ns h' - ns h) (am_A bs)
theorem am_cnew_of {c y kc : Nat} {rk : Nat × Nat} (hk : ¬ (kc = 0 ∨ kc = 1 ∨ kc = 2 ∨ kc = 3 ∨ kc = 4 ∨ kc = 7)) (h : (decide (kc = 0) || decide (kc = 1) || decide (kc = 2) || decide (kc = 3) || decide (kc = 4) || decide (kc = 7) || am_cnew c y kc rk) = true) :
    (kc = 6 ∨ kc = 14 → rk = (0, 8) ∧ (mY y).cls = "java/lang/AbstractStringBuilder" ∧ (kc = 14 → Cond.sameMethod (mY y).cls (mY y).cls (mY y).name (mY y).desc ∈ am_GW)) ∧
    (kc = 13 → rk = (0, 8) ∧ cNm c = "java/lang/StringBuilder" ∧ (mY y).name ≠ "<init>" ∧ Cond.superclass (cNm c) (mY y).cls ∈ am_GW) ∧
    (kc = 15 → rk = (0, 8) ∧ (mY y).cls = "java/lang/StringBuilder" ∧ Cond.sameMethod "java/lang/AbstractStringBuilder" "java/lang/AbstractStringBuilder" (mY y).name (mY y).desc ∈ am_GW ∧ Cond.instanceMethod (am_xA y) ∈ am_GW ∧ am_cw 167 ∈ am_GW ∧ mY 167 = am_xA y) := by
  simp only [Bool.or_eq_true, decide_eq_true_eq] at h
  have h1 : am_cnew c y kc rk = true := h.resolve_left (fun q => hk (by omega))
  unfold am_cnew at h1
  simp only [Bool.and_eq_true, Bool.or_eq_true, decide_eq_true_eq] at h1
  obtain ⟨hrk, h1⟩ := h1
  refine ⟨fun q => ?_, fun q => ?_, fun q => ?_⟩
  · rcases h1 with (⟨⟨a, b⟩, c⟩ | ⟨⟨⟨a, b⟩, c⟩, d⟩) | ⟨⟨⟨⟨⟨a, b⟩, c⟩, d⟩, e⟩, f⟩
    · exact ⟨hrk, b, fun q4 => am_wdX_mem q4 c⟩
    · omega
    · omega
  · rcases h1 with (⟨⟨a, b⟩, c⟩ | ⟨⟨⟨a, b⟩, c⟩, d⟩) | ⟨⟨⟨⟨⟨a, b⟩, c⟩, d⟩, e⟩, f⟩
    · omega
    · exact ⟨hrk, b, c, am_wdX_mem trivial d⟩
    · omega
  · rcases h1 with (⟨⟨a, b⟩, c⟩ | ⟨⟨⟨a, b⟩, c⟩, d⟩) | ⟨⟨⟨⟨⟨a, b⟩, c⟩, d⟩, e⟩, f⟩
    · omega
    · omega
    · exact ⟨hrk, b, am_wdX_mem trivial c, am_wdX_mem trivial d, am_wdX_mem trivial e, f⟩
section CALL
variable {l : Launch} {D : va_G} {dA : Nat → ClassId} {ad : Nat → Nat} {zz : Value} {bs Ln : Nat} {xs : Nat → Int32} {d k : Nat} {p : Program} {e : Env} {R : Room} {s : State} {m : MethodId} {args : Array Value} {below : List Frame} {meth : Method} {c : Code} {as0 : List Nat} {c0 s0 : Nat} {Q : State → Prop} {pc : Nat} {Lo : ALs} {st : List Value} {h h' : AH}
variable {as : List Nat} {H : Heap} {locs : List Loc} {ls : Array Slot} {cells slots : Nat} {rest : List Value}
theorem am_Pc_blind {av : List Value} : FrameBlind (am_Pc D dA ad zz bs Ln xs as h av) := by
  intro a U g mk q
  obtain ⟨q0, q1, q2, q3, q4, q5, q6, q7⟩ := q
  exact ⟨q0, am_KV.warm (s := U) (U := U.calling g mk a) (State.WarmedH.refl U) q1, va_K.moved (u := U) (U := U.calling g mk a) (Vm.Alike.refl U.vm) q2, am_CF.moved (u := U) (U := U.calling g mk a) (Vm.Alike.refl U.vm) q3, q4, q5, vx_Zq.moved (u := U) (U := U.calling g mk a) (Vm.Alike.refl U.vm) q6, vx_Zq.moved (u := U) (U := U.calling g mk a) (Vm.Alike.refl U.vm) q7⟩
/-- the callee's start, out of the caller's world -/
theorem am_Pc_of {av : List Value} (C : am_Cx l D dA ad zz bs Ln xs d k p R s m args meth c) (hW : am_WS D dA ad bs Ln xs as h H) (hS : va_S (am_A bs) s.heap H locs) {U : State} (hU : U.heap = H) (hWm : s.WarmedH U.vm) : am_Pc D dA ad zz bs Ln xs as h av (av.map (am_cv ad zz as)).toArray U := by
  obtain ⟨hx, hb, hml, hr, hlk, hown, htr, hnm, hHH, ⟨hfr, hlo⟩, hKV, hK, hCF, ⟨hbs, hLn⟩, hzz, hinj, hadb, hU1, hU2⟩ := C
  refine ⟨rfl, hKV.warm hWm, va_K.moved hWm.alike hK, ?_, ?_, by rw [hU]; exact hW, ?_, ?_⟩
  · rw [hU]; exact am_CF.kept hS.2.1 (am_CF.moved hWm.alike hCF)
  · rw [hU]; exact Nat.le_trans hbs hS.1
  · rw [hU]; exact (vx_Zq.moved hWm.alike hU1).kept hS.2.1
  · rw [hU]; exact (vx_Zq.moved hWm.alike hU2).kept hS.2.1
theorem am_run_on {mc ms : Nat} {st0 : List Value} {a : Array Value} {o : AO} (hr : vx_Run p l e R s m args below meth c H locs cells slots mc ms (F0 m pc ls st0) rest (am_Qc D dA ad zz bs Ln xs as h' o a) (am_XC D dA ad bs Ln xs as h' o) (am_A bs)) (hS : va_S (am_A bs) s.heap H locs)
    (kr : ∀ (v : Option Value) (as' : List Nat) (H1 : Heap) (locs1 : List Loc), o = .inl v → (∃ t9, as' = as ++ t9) → am_WS D dA ad bs Ln xs as' h' H1 → va_S (am_A bs) s.heap H1 locs1 → (∀ w, v = some w → am_V (nx h') w) → W p l e R s m args below meth c H1 locs1 (cells + mc) (slots + ms) Q (F0 m (pc + 3) ls ((v.map (am_cv ad zz as')).toList ++ rest)))
    (kx : ∀ (E : Nat) (as' : List Nat) (H1 : Heap) (locs1 : List Loc) (q : Addr) (ce : Cell), o = .inr E → (∃ t9, as' = as ++ t9) → am_WS D dA ad bs Ln xs as' h' H1 → va_S (am_A bs) s.heap H1 locs1 → H1[q]? = some ce → ce.vm = .none → s.vm.findClass (exNm E) = some ce.cls → vx_W p l e R s m args below meth c H1 locs1 (cells + mc) (slots + ms) Q (F0 m pc ls rest) q) :
    W p l e R s m args below meth c H locs cells slots Q (F0 m pc ls st0) := by
  intro T hT X
  rcases hr T hT X with ⟨v0, st₀, t, T', L, h0, X', hL, e1, e2, ⟨v, as', ho, hv, hx, hw, hF, hvv⟩, st⟩ | ⟨q, st₀, t, T', L, En, ce, h0, X', hL, e1, e2, ⟨E, as', ho, rfl, hx, hw, hF⟩, hce, hcv, hcl, st⟩
  · cases hv
    obtain ⟨-, -, k3⟩ := vx_keep h0 e1 hS (fun _ _ z => z) (fun _ z => z) hL hF
    obtain ⟨t2, a1, b1⟩ := kr v as' T'.heap (locs ++ L) ho hx (by rw [e1]; exact hw) k3 hvv T' rfl X'
    exact ⟨t2, st t2 a1, b1⟩
  · obtain ⟨-, -, k3⟩ := vx_keep h0 e1 hS (fun _ _ z => z) (fun _ z => z) hL hF
    obtain ⟨t2, a1, b1⟩ := kx E as' T'.heap (locs ++ L) q ce ho hx (by rw [e1]; exact hw) k3 (by rw [e1]; exact hce) hcv hcl T' rfl X'
    exact ⟨t2, st.trans a1, b1⟩
theorem am_recv0 {b : Nat} {rk : Nat × Nat} {nm : String} (C : am_Cx l D dA ad zz bs Ln xs d k p R s m args meth c) (hW : am_WS D dA ad bs Ln xs as h H) (hS : va_S (am_A bs) s.heap H locs) (hb9 : b < nx h) (hk : kd h b = rk)
    (hn : (rk.1 = 0 ∧ rk.2 < 10 ∧ (am_cl rk.2).1 = nm) ∨ (rk = (11, 0) ∧ nm = "java/lang/String") ∨ (rk = (10, 0) ∧ nm = "MarkShelter$Sign")) : ∃ cellB : Cell, H[am_phi ad as b]? = some cellB ∧ cellB.vm.isStatics = false ∧ s.vm.findClass nm = some cellB.cls := by
  obtain ⟨hx, hb, hml, hr, hlk, hown, htr, hnm, hHH, ⟨hfr, hlo⟩, hKV, hK, hCF, ⟨hbs, hLn⟩, hzz, hinj, hadb, hU1, hU2⟩ := C
  rcases hn with ⟨h1, h2, h3⟩ | ⟨h1, h3⟩ | ⟨h1, h3⟩
  · obtain ⟨r1, r2⟩ := rk
    dsimp only at h1 h2 h3
    subst h1
    obtain ⟨-, -, -, he⟩ := am_obj hW hb9 hk
    obtain ⟨cell, g1, g2, g3⟩ := va_recv hK hW.2.1 (am_cl_at h2) he
    exact ⟨cell, g1, g2, by rw [← h3]; exact g3⟩
  · rw [h1] at hk
    obtain ⟨g0, g1, g2⟩ := am_const hW hb9 (by rw [hk]; decide)
    obtain ⟨ti, h65, hta, -, -⟩ := k_kd_11 (g1.symm.trans hk)
    obtain ⟨c1, -, -, -⟩ := hCF.2.1 ti h65
    rw [← hta] at c1
    obtain ⟨cell, q1, q2, q3, -⟩ := c1.kept hS.2.1
    rw [am_phi_c g0, h3]
    exact ⟨cell, q1, q2, q3⟩
  · rw [h1] at hk
    obtain ⟨g0, g1, g2⟩ := am_const hW hb9 (by rw [hk]; decide)
    have hi : b < 49 := k_kd_10 (g1.symm.trans hk)
    obtain ⟨c1, -, -⟩ := hCF.1 b hi
    obtain ⟨cell, q1, q2, q3, -⟩ := c1.kept hS.2.1
    rw [am_phi_c g0, h3]
    exact ⟨cell, q1, q2, q3⟩
theorem am_recv {b : Nat} {rk : Nat × Nat} {nm : String} (C : am_Cx l D dA ad zz bs Ln xs d k p R s m args meth c) (hW : am_WS D dA ad bs Ln xs as h H) (hS : va_S (am_A bs) s.heap H locs) (hb9 : b < nx h) (hk : (kd h b = rk ∨ (rk = (0, 9) ∧ kd h b = (11, 0))))
    (hn : (rk.1 = 0 ∧ rk.2 < 10 ∧ (am_cl rk.2).1 = nm) ∨ (rk = (11, 0) ∧ nm = "java/lang/String") ∨ (rk = (10, 0) ∧ nm = "MarkShelter$Sign")) : ∃ cellB : Cell, H[am_phi ad as b]? = some cellB ∧ cellB.vm.isStatics = false ∧ s.vm.findClass nm = some cellB.cls := by
  rcases hk with hk | ⟨e, hk⟩
  · exact am_recv0 C hW hS hb9 hk hn
  · refine am_recv0 C hW hS hb9 hk (Or.inr (Or.inl ⟨rfl, ?_⟩))
    rcases hn with ⟨h1, h2, h3⟩ | ⟨h1, h3⟩ | ⟨h1, h3⟩
    · rw [e] at h3
      rw [← h3]
      decide +kernel
    · rw [e] at h1
      exact absurd h1 (by decide)
    · rw [e] at h1
      exact absurd h1 (by decide)
/-- what may lie on the stack below a call: four values, or eight of one word each -/
def am_w1 (v : Value) : Bool := match v with
  | .int _ => true
  | .ref _ => true
  | .null => true
  | _ => false
def stB (st : List Value) : Bool := decide (st.length ≤ 8) && st.all am_w1
theorem am_catW {ad : Nat → Nat} {zz : Value} {as : List Nat} {st : List Value} (h : st.length ≤ 4 ∨ stB st = true) : ((st.map (am_cv ad zz as)).map fun v => v.category).sum ≤ 8 := by
  rcases h with h | h
  · exact am_cats (st := st.map (am_cv ad zz as)) (by simpa using h)
  · unfold stB at h
    simp only [Bool.and_eq_true, decide_eq_true_eq] at h
    have z : ∀ l : List Value, l.all am_w1 = true → ((l.map (am_cv ad zz as)).map fun v => v.category).sum = l.length := by
      intro l
      induction l with
      | nil => intro _; rfl
      | cons v l ih =>
        intro hl
        rw [List.all_cons, Bool.and_eq_true] at hl
        have e : (am_cv ad zz as v).category = 1 := by
          cases v <;> first | rfl | exact absurd hl.1 (by decide) | exact absurd hl.1 (fun q => by cases q)
        rw [List.map_cons, List.map_cons, List.sum_cons, e, ih hl.2, List.length_cons]
        omega
    rw [z st h.2]
    exact h.1
theorem am_Wy_cons (y : Nat) : am_Wy y = (if (mH y).isEmpty = true then am_cw y else am_cwH y) :: am_GW := rfl
theorem am_good_in {ws : List Cond} (h : ∀ w ∈ ws, w ∈ am_GW) : GoodIn am_GW ws := fun w hw => ⟨h w hw, good_of_word (am_gwf (h w hw))⟩
set_option maxHeartbeats 2000000 in
/-- a static call -/
theorem am_runS {ix y n kc : Nat} {rk : Nat × Nat} {av : List Value} {o : AO} {h1 : AH} (C : am_Cx l D dA ad zz bs Ln xs (d + 1) k p R s m args meth c) (hd : decode (mB k) pc = .ok (.invokestatic ix, 3)) (hm : cR (mC k) ix = some (y, n, kc, rk)) (hkc : kc = 0 ∨ kc = 1 ∨ kc = 7) (hn : av.length = n) (hr9 : st.length ≤ 4 ∨ stB st = true)
    (hM : am_Met l D dA ad zz bs Ln xs d y av as h o h1) (hW : am_WS D dA ad bs Ln xs as h H) (hS : va_S (am_A bs) s.heap H locs) (hL : ls.size = mL k) (hf : cells + (nc h1 - nc h) ≤ R.cells ∧ slots + (ns h1 - ns h) ≤ R.slots) :
    vx_Run p l e R s m args below meth c H locs cells slots (nc h1 - nc h) (ns h1 - ns h) (F0 m pc ls ((av.reverse ++ st).map (am_cv ad zz as))) (st.map (am_cv ad zz as)) (am_Qc D dA ad zz bs Ln xs as h1 o (av.map (am_cv ad zz as)).toArray) (am_XC D dA ad bs Ln xs as h1 o) (am_A bs) := by
  have C9 := C
  obtain ⟨hx, hb, hml, hr, hlk, hown, htr, hnm, hHH, ⟨hfr, hlo⟩, hKV, hK, hCF, ⟨hbs, hLn⟩, hzz, hinj, hadb, hU1, hU2⟩ := C
  have hts := am_hts (args := args) hKV
  obtain ⟨w, hok⟩ := am_c_at hm
  obtain ⟨w2, hok2⟩ := am_k_at hm (by omega)
  have h8 := am_catW (ad := ad) (zz := zz) (as := as) hr9
  have hstk : (av.reverse ++ st).map (am_cv ad zz as) = (av.map (am_cv ad zz as)).reverse ++ st.map (am_cv ad zz as) := by rw [List.map_append, List.map_reverse]
  have hPre : PreS s H (am_Pc D dA ad zz bs Ln xs as h av) (av.map (am_cv ad zz as)) := ⟨am_Pc_blind, fun U hU hWm => am_Pc_of C9 hW hS hU hWm⟩
  have hFix : CallFix p m c (mB k) (mL k) s args am_GW (cNm (mC k)) := ⟨hx, hb, hml, hown, hts⟩
  unfold am_kok at hok2
  simp only [Bool.and_eq_true, decide_eq_true_eq] at hok2
  obtain ⟨⟨⟨⟨⟨⟨hmh, hcls⟩, hml9⟩, hwi⟩, hwc⟩, hws⟩, -⟩ := hok2
  unfold am_mhd at hmh
  simp only [Bool.and_eq_true, decide_eq_true_eq] at hmh
  obtain ⟨⟨⟨m1, m2⟩, m3⟩, m4⟩ := hmh
  have hR : (am_rm d (nc h1 - nc h) (ns h1 - ns h)).frames + 1 ≤ R.frames ∧ 8 + (mL y + 11) + (am_rm d (nc h1 - nc h) (ns h1 - ns h)).locals ≤ R.locals := ⟨hfr, by show 8 + (mL y + 11) + 40 * d ≤ _; omega⟩
  unfold am_cok at hok
  dsimp only at hok
  rcases hkc with rfl | rfl | rfl
  · rw [if_neg (by decide), if_neg (by decide), if_neg (by decide), if_neg (by decide), if_neg (by decide), if_neg (by decide)] at hok
    simp only [Bool.and_eq_true, decide_eq_true_eq] at hok
    obtain ⟨⟨⟨⟨⟨hpar, hlk9⟩, hhy⟩, -⟩, -⟩, -⟩ := hok
    rw [if_neg (by decide)] at hlk9 hhy
    rw [if_neg (by decide)] at hwc
    rw [if_pos (Or.inl rfl)] at hws
    have hWy : am_Wy y = am_cw y :: am_GW := by rw [am_Wy_cons, if_pos hhy]
    have hG : GoodIn am_GW (va_wsS (cNm (mC k)) ix (mY y) (am_Wy y)) := am_good_in fun w hw => by
      unfold va_wsS at hw
      rw [hWy] at hw
      simp only [List.cons_append, List.nil_append, List.mem_cons] at hw
      rcases hw with rfl | rfl | rfl | rfl | hw
      · exact am_wd_mem hlk9
      · exact am_wd_mem hws
      · exact am_wd_mem hwi
      · exact am_wd_mem hwc
      · exact hw
    exact vx_runS hFix hM (va_cwS n hts hG hWy rfl rfl ⟨m1, m2, hpar⟩ hR) hPre rfl (by rw [List.length_map]; exact hn) hL hstk (by show 2 * 0 + _ ≤ 8; omega) hd hf
  · rw [if_neg (by decide), if_neg (by decide), if_neg (by decide), if_neg (by decide), if_neg (by decide), if_neg (by decide)] at hok
    simp only [Bool.and_eq_true, decide_eq_true_eq] at hok
    obtain ⟨⟨⟨⟨⟨hpar, hlk9⟩, hhy⟩, -⟩, -⟩, -⟩ := hok
    rw [if_pos (by simp)] at hlk9
    rw [if_neg (by decide)] at hhy
    rw [if_neg (by decide)] at hwc
    rw [if_pos (Or.inr (Or.inl rfl))] at hws
    have hWy : am_Wy y = am_cw y :: am_GW := by rw [am_Wy_cons, if_pos hhy]
    have hG : GoodIn am_GW (am_Wy y) := am_good_in fun w hw => by
      rw [hWy] at hw
      rcases List.mem_cons.mp hw with rfl | hw
      · exact am_wd_mem hwc
      · exact hw
    exact vx_runSN hFix hM ⟨va_cnB n hts hG hWy rfl rfl (hKV.2.1 _ (am_wn_mem hlk9)) (hts _ (am_wd_mem hwi)) ⟨m1, m2, hpar⟩ hR, hts _ (am_wd_mem hws), trivial⟩ hPre rfl (by rw [List.length_map]; exact hn) hL hstk (by show 2 * 0 + _ ≤ 8; omega) hd hf
  · rw [if_neg (by decide), if_neg (by decide), if_neg (by decide), if_neg (by decide), if_neg (by decide), if_neg (by decide)] at hok
    simp only [Bool.and_eq_true, decide_eq_true_eq] at hok
    obtain ⟨⟨⟨⟨⟨hpar, hlk9⟩, hhy⟩, -⟩, -⟩, -⟩ := hok
    rw [if_neg (by decide)] at hlk9
    rw [if_pos (by simp)] at hhy
    rw [if_pos rfl] at hwc
    rw [if_pos (Or.inr (Or.inr rfl))] at hws
    have hhy2 : ¬ (mH y).isEmpty = true := by
      intro q
      rw [q] at hhy
      cases hhy
    have hWy : am_Wy y = am_cwH y :: am_GW := by rw [am_Wy_cons, if_neg hhy2]
    have hG : GoodIn am_GW (va_wsS (cNm (mC k)) ix (mY y) (am_Wy y)) := am_good_in fun w hw => by
      unfold va_wsS at hw
      rw [hWy] at hw
      simp only [List.cons_append, List.nil_append, List.mem_cons] at hw
      rcases hw with rfl | rfl | rfl | rfl | hw
      · exact am_wd_mem hlk9
      · exact am_wd_mem hws
      · exact am_wd_mem hwi
      · exact am_wd_mem hwc
      · exact hw
    exact vx_runSX hFix hM (vx_cwSW n hts hG hWy rfl rfl ⟨m1, m2, hpar⟩ hR) hPre rfl (by rw [List.length_map]; exact hn) hL hstk (by show 2 * 0 + _ ≤ 8; omega) hd hf
set_option maxHeartbeats 2000000 in
/-- a call with a receiver -/
theorem am_runV {i9 : Instr} {ix y n kc b : Nat} {rk : Nat × Nat} {av : List Value} {o : AO} {h1 : AH} (C : am_Cx l D dA ad zz bs Ln xs (d + 1) k p R s m args meth c) (hd : decode (mB k) pc = .ok (i9, 3)) (hi9 : i9 = if kc = 3 ∨ kc = 4 ∨ kc = 13 then .invokespecial ix else .invokevirtual ix) (hm : cR (mC k) ix = some (y, n, kc, rk)) (hkc : kc = 2 ∨ kc = 3 ∨ kc = 4 ∨ kc = 5 ∨ kc = 6 ∨ kc = 13 ∨ kc = 14 ∨ kc = 15) (hn : av.length = n) (hr9 : st.length ≤ 4 ∨ stB st = true)
    (hM : am_Met l D dA ad zz bs Ln xs d y (.ref b :: av) as h o h1) (hbk : (kd h b = rk ∨ (rk = (0, 9) ∧ kd h b = (11, 0)))) (hbn : b < nx h) (hW : am_WS D dA ad bs Ln xs as h H) (hS : va_S (am_A bs) s.heap H locs) (hL : ls.size = mL k) (hf : cells + (nc h1 - nc h) ≤ R.cells ∧ slots + (ns h1 - ns h) ≤ R.slots) :
    vx_Run p l e R s m args below meth c H locs cells slots (nc h1 - nc h) (ns h1 - ns h) (F0 m pc ls ((av.reverse ++ .ref b :: st).map (am_cv ad zz as))) (st.map (am_cv ad zz as)) (am_Qc D dA ad zz bs Ln xs as h1 o ((Value.ref b :: av).map (am_cv ad zz as)).toArray) (am_XC D dA ad bs Ln xs as h1 o) (am_A bs) := by
  have C9 := C
  obtain ⟨hx, hb, hml, hr, hlk, hown, htr, hnm, hHH, ⟨hfr, hlo⟩, hKV, hK, hCF, ⟨hbs, hLn⟩, hzz, hinj, hadb, hU1, hU2⟩ := C
  have hts := am_hts (args := args) hKV
  obtain ⟨w, hok⟩ := am_c_at hm
  obtain ⟨w2, hok2⟩ := am_k_at hm (by omega)
  have h8 := am_catW (ad := ad) (zz := zz) (as := as) hr9
  have hstk : (av.reverse ++ .ref b :: st).map (am_cv ad zz as) = (av.map (am_cv ad zz as)).reverse ++ .ref (am_phi ad as b) :: st.map (am_cv ad zz as) := by rw [List.map_append, List.map_reverse]; rfl
  have hPc : ∀ U : State, U.heap = H → s.WarmedH U.vm → am_Pc D dA ad zz bs Ln xs as h (.ref b :: av) (Value.ref (am_phi ad as b) :: av.map (am_cv ad zz as)).toArray U := fun U hU hWm => am_Pc_of (av := .ref b :: av) C9 hW hS hU hWm
  have hFix : CallFix p m c (mB k) (mL k) s args am_GW (cNm (mC k)) := ⟨hx, hb, hml, hown, hts⟩
  unfold am_kok at hok2
  simp only [Bool.and_eq_true, decide_eq_true_eq] at hok2
  obtain ⟨⟨⟨⟨⟨⟨hmh, hcls⟩, hml9⟩, hwi⟩, hwc⟩, hws⟩, hwl⟩ := hok2
  unfold am_mhd at hmh
  simp only [Bool.and_eq_true, decide_eq_true_eq] at hmh
  obtain ⟨⟨⟨m1, m2⟩, m3⟩, m4⟩ := hmh
  have hR : (am_rm d (nc h1 - nc h) (ns h1 - ns h)).frames + 1 ≤ R.frames ∧ 8 + (mL y + 11) + (am_rm d (nc h1 - nc h) (ns h1 - ns h)).locals ≤ R.locals := ⟨hfr, by show 8 + (mL y + 11) + 40 * d ≤ _; omega⟩
  unfold am_cok at hok
  dsimp only at hok
  rcases hkc with rfl | rfl | rfl | rfl | rfl | rfl | rfl | rfl
  · rw [if_neg (by decide), if_neg (by decide), if_neg (by decide), if_neg (by decide), if_neg (by decide), if_neg (by decide)] at hok
    simp only [Bool.and_eq_true, decide_eq_true_eq] at hok
    obtain ⟨⟨⟨⟨⟨hpar, hlk9⟩, hhy⟩, -⟩, hrk⟩, -⟩ := hok
    rw [if_neg (by decide)] at hlk9 hhy
    rw [if_neg (by decide)] at hwc
    rw [if_neg (by decide)] at hws
    rw [if_pos (by simp)] at hwl hrk
    rw [if_neg (by decide)] at hi9
    subst hi9
    have hrk2 : (rk.1 = 0 ∧ rk.2 < 10 ∧ (am_cl rk.2).1 = (mY y).cls) ∨ (rk = (11, 0) ∧ (mY y).cls = "java/lang/String") ∨ (rk = (10, 0) ∧ (mY y).cls = "MarkShelter$Sign") := by
      simp only [Bool.or_eq_true, Bool.and_eq_true, decide_eq_true_eq] at hrk
      rcases hrk with ⟨⟨q1, q2⟩, q3⟩ | ⟨q1, q2⟩
      · exact Or.inl ⟨q1, q2, q3⟩
      · exact Or.inr (Or.inl ⟨q1, q2⟩)
    have hWy : am_Wy y = am_cw y :: am_GW := by rw [am_Wy_cons, if_pos hhy]
    have hG : GoodIn am_GW (wsV (cNm (mC k)) ix (mY y).cls (mY y) (am_Wy y)) := am_good_in fun w hw => by
      unfold wsV at hw
      rw [hWy] at hw
      simp only [List.cons_append, List.nil_append, List.mem_cons] at hw
      rcases hw with rfl | rfl | rfl | rfl | rfl | hw
      · exact am_wd_mem hlk9
      · exact am_wd_mem hws
      · exact am_wd_mem hwl
      · exact am_wd_mem hwi
      · exact am_wd_mem hwc
      · exact hw
    exact vx_runV hFix hM (cwV n hts hG hWy rfl rfl ⟨rfl, m1, m2, hpar⟩ hR) ⟨am_Pc_blind, am_recv C9 hW hS hbn hbk hrk2, hPc⟩ rfl (by rw [List.length_map]; exact hn) hL hstk (by show 2 * 0 + _ ≤ 8; omega) hd hf
  · rw [if_neg (by decide), if_neg (by decide), if_neg (by decide), if_neg (by decide), if_neg (by decide), if_neg (by decide)] at hok
    simp only [Bool.and_eq_true, decide_eq_true_eq] at hok
    obtain ⟨⟨⟨⟨⟨hpar, hlk9⟩, hhy⟩, hini⟩, -⟩, -⟩ := hok
    rw [if_neg (by decide)] at hlk9 hhy
    rw [if_neg (by decide)] at hwc
    rw [if_neg (by decide)] at hws
    rw [if_pos (by simp)] at hi9 hini
    simp only [Bool.and_eq_true, decide_eq_true_eq] at hini
    subst hi9
    have hWy : am_Wy y = am_cw y :: am_GW := by rw [am_Wy_cons, if_pos hhy]
    have hWy2 : am_Wy y = Cond.code (mY y) (mB y) (mL y) none :: am_GW := by rw [hWy]; unfold am_cw; rw [hini.2]
    have hG : GoodIn am_GW (am_Wy y) := am_good_in fun w hw => by
      rw [hWy] at hw
      rcases List.mem_cons.mp hw with rfl | hw
      · exact am_wd_mem hwc
      · exact hw
    exact vx_runI hFix hM (cwI n hts hG hWy2 rfl rfl (hts _ (am_wd_mem hwi)) (hts _ (am_wd_mem hlk9)) (hts _ (am_wd_mem hws)) hini.1 ⟨m1, m2, hpar⟩ hR) ⟨am_Pc_blind, hPc⟩ rfl (by rw [List.length_map]; exact hn) hL hstk (by show 2 * 0 + _ ≤ 8; omega) hd hf
  · rw [if_neg (by decide), if_neg (by decide), if_neg (by decide), if_neg (by decide), if_neg (by decide), if_neg (by decide)] at hok
    simp only [Bool.and_eq_true, decide_eq_true_eq] at hok
    obtain ⟨⟨⟨⟨⟨hpar, hlk9⟩, hhy⟩, hini⟩, -⟩, -⟩ := hok
    rw [if_pos (by simp)] at hlk9
    rw [if_neg (by decide)] at hhy
    rw [if_neg (by decide)] at hwc
    rw [if_neg (by decide)] at hws
    rw [if_pos (by simp)] at hi9 hini
    simp only [Bool.and_eq_true, decide_eq_true_eq] at hini
    subst hi9
    have hWy : am_Wy y = am_cw y :: am_GW := by rw [am_Wy_cons, if_pos hhy]
    have hWy2 : am_Wy y = Cond.code (mY y) (mB y) (mL y) none :: am_GW := by rw [hWy]; unfold am_cw; rw [hini.2]
    have hG : GoodIn am_GW (am_Wy y) := am_good_in fun w hw => by
      rw [hWy] at hw
      rcases List.mem_cons.mp hw with rfl | hw
      · exact am_wd_mem hwc
      · exact hw
    exact vx_runIN hFix hM ⟨va_cnB n hts hG hWy2 rfl rfl (hKV.2.1 _ (am_wn_mem hlk9)) (hts _ (am_wd_mem hwi)) ⟨m1, m2, hpar⟩ hR, hini.1, hts _ (am_wd_mem hws)⟩ ⟨am_Pc_blind, hPc⟩ rfl (by rw [List.length_map]; exact hn) hL hstk (by show 2 * 0 + _ ≤ 8; omega) hd hf
  · rw [if_neg (by decide), if_neg (by decide), if_neg (by decide), if_neg (by decide), if_neg (by decide), if_pos rfl] at hok
    simp only [Bool.and_eq_true, decide_eq_true_eq] at hok
    obtain ⟨⟨⟨hlk9, hn0⟩, hrk⟩, hyy⟩ := hok
    rw [if_neg (by decide)] at hwc
    rw [if_neg (by decide)] at hws
    rw [if_neg (by decide), if_pos rfl] at hwl
    rw [if_neg (by decide)] at hi9
    subst hi9
    have hhy : (mH y).isEmpty = true := by
      have : ∀ q ∈ cT, q.2.2.2.1 = 5 → (mH q.2.1).isEmpty = true := by decide +kernel
      exact this _ (am_lookup hm) rfl
    have hsm : Cond.sameMethod "MarkShelter$Sign" "java/lang/Enum" "ordinal" "()I" ∈ am_GW := by
      have : (decide (Cond.sameMethod "MarkShelter$Sign" "java/lang/Enum" "ordinal" "()I" ∈ am_tb) && goodWord (Cond.sameMethod "MarkShelter$Sign" "java/lang/Enum" "ordinal" "()I")) = true := by decide +kernel
      rw [Bool.and_eq_true, decide_eq_true_eq] at this
      exact List.mem_filter.mpr this
    have hWy : am_Wy y = am_cw y :: am_GW := by rw [am_Wy_cons, if_pos hhy]
    have hG : GoodIn am_GW (va_wsU (cNm (mC k)) ix "MarkShelter$Sign" "java/lang/Enum" ⟨"MarkShelter$Sign", "ordinal", "()I"⟩ (mY y) (am_Wy y)) := am_good_in fun w hw => by
      unfold va_wsU at hw
      rw [hWy] at hw
      simp only [List.cons_append, List.nil_append, List.mem_cons] at hw
      rcases hw with rfl | rfl | rfl | rfl | rfl | rfl | hw
      · exact am_wd_mem hlk9
      · exact hsm
      · exact am_wd_mem hwl
      · exact am_wd_mem hws
      · exact am_wd_mem hwi
      · exact am_wd_mem hwc
      · exact hw
    exact vx_runU (x := ⟨"MarkShelter$Sign", "ordinal", "()I"⟩) hFix hM (va_cwU n hts hG hWy rfl rfl hyy ⟨by decide, by decide, by rw [hn0]; decide +kernel⟩ hR) ⟨am_Pc_blind, am_recv C9 hW hS hbn hbk (Or.inr (Or.inr ⟨hrk, rfl⟩)), hPc⟩ rfl (by rw [List.length_map]; exact hn) hL hstk (by show 2 * 0 + _ ≤ 8; omega) hd hf
  · rw [if_neg (by decide), if_neg (by decide), if_neg (by decide), if_neg (by decide), if_neg (by decide), if_neg (by decide)] at hok
    simp only [Bool.and_eq_true, decide_eq_true_eq] at hok
    obtain ⟨⟨⟨⟨⟨hpar, hlk9⟩, hhy⟩, -⟩, -⟩, hnew⟩ := hok
    rw [if_neg (by decide)] at hlk9 hhy
    rw [if_neg (by decide)] at hwc
    rw [if_neg (by decide)] at hws
    have hnw := am_cnew_of (by decide) hnew
    obtain ⟨hrk, hcl, -⟩ := hnw.1 (Or.inl rfl)
    rw [if_neg (by decide), if_neg (by decide), if_pos (by simp)] at hwl
    rw [if_neg (by decide)] at hi9
    subst hi9
    have hWy : am_Wy y = am_cw y :: am_GW := by rw [am_Wy_cons, if_pos hhy]
    have hG : GoodIn am_GW (am_Wy y) := am_good_in fun w hw => by
      rw [hWy] at hw
      rcases List.mem_cons.mp hw with rfl | hw
      · exact am_wd_mem hwc
      · exact hw
    exact vx_runV (C := "java/lang/StringBuilder") hFix hM ⟨callB_of n hts hG hWy rfl rfl (hts _ (am_wd_mem hwi)) (hts _ (am_wd_mem hlk9)) ⟨m1, m2, hpar⟩ hR, hts _ (am_wd_mem hws), hts _ (am_wd_mem hwl)⟩ ⟨am_Pc_blind, am_recv C9 hW hS hbn hbk (Or.inl (by rw [hrk]; exact ⟨rfl, by decide, by decide +kernel⟩)), hPc⟩ rfl (by rw [List.length_map]; exact hn) hL hstk (by show 2 * 0 + _ ≤ 8; omega) hd hf
  · rw [if_neg (by decide), if_neg (by decide), if_neg (by decide), if_neg (by decide), if_neg (by decide), if_neg (by decide)] at hok
    simp only [Bool.and_eq_true, decide_eq_true_eq] at hok
    obtain ⟨⟨⟨⟨⟨hpar, hlk9⟩, hhy⟩, -⟩, -⟩, hnew⟩ := hok
    rw [if_neg (by decide)] at hlk9 hhy
    rw [if_neg (by decide)] at hwc
    rw [if_neg (by decide)] at hws
    have hnw := am_cnew_of (by decide) hnew
    obtain ⟨hrk, hown9, hno9, hsup9⟩ := hnw.2.1 rfl
    rw [if_neg (by decide), if_neg (by decide), if_neg (by decide), if_pos rfl] at hwl
    rw [if_pos (by simp)] at hi9
    subst hi9
    have hWy : am_Wy y = am_cw y :: am_GW := by rw [am_Wy_cons, if_pos hhy]
    have hG : GoodIn am_GW (va_wsSU (cNm (mC k)) ix (mY y) (am_Wy y)) := am_good_in fun w hw => by
      unfold va_wsSU at hw
      rw [hWy] at hw
      simp only [List.cons_append, List.nil_append, List.mem_cons] at hw
      rcases hw with rfl | rfl | rfl | rfl | rfl | rfl | hw
      · exact am_wd_mem hlk9
      · exact am_wd_mem hwl
      · exact hsup9
      · exact am_wd_mem hws
      · exact am_wd_mem hwi
      · exact am_wd_mem hwc
      · exact hw
    have hat := (hK.1 8 _ (am_cl_at (by decide))).2
    exact vx_runSU hat hFix hM (va_cwSU n hts hG hWy rfl rfl ⟨hno9, hpar⟩ hR) ⟨am_Pc_blind, am_recv C9 hW hS hbn hbk (Or.inl (by rw [hrk]; exact ⟨rfl, by decide, rfl⟩)), hPc⟩ rfl (by rw [List.length_map]; exact hn) hL hstk (by show 2 * 0 + _ ≤ 8; omega) hd hf
  · rw [if_neg (by decide), if_neg (by decide), if_neg (by decide), if_neg (by decide), if_neg (by decide), if_neg (by decide)] at hok
    simp only [Bool.and_eq_true, decide_eq_true_eq] at hok
    obtain ⟨⟨⟨⟨⟨hpar, hlk9⟩, hhy⟩, -⟩, -⟩, hnew⟩ := hok
    rw [if_neg (by decide)] at hlk9 hhy
    rw [if_neg (by decide)] at hwc
    rw [if_neg (by decide)] at hws
    have hnw := am_cnew_of (by decide) hnew
    obtain ⟨hrk, hcl, hsm9⟩ := hnw.1 (Or.inr rfl)
    have hsm9 := hsm9 rfl
    rw [if_neg (by decide), if_neg (by decide), if_pos (by simp)] at hwl
    rw [if_neg (by decide)] at hi9
    subst hi9
    have hWy : am_Wy y = am_cw y :: am_GW := by rw [am_Wy_cons, if_pos hhy]
    have hG : GoodIn am_GW (va_wsU (cNm (mC k)) ix "java/lang/StringBuilder" (mY y).cls (mY y) (mY y) (am_Wy y)) := am_good_in fun w hw => by
      unfold va_wsU at hw
      rw [hWy] at hw
      simp only [List.cons_append, List.nil_append, List.mem_cons] at hw
      rcases hw with rfl | rfl | rfl | rfl | rfl | rfl | hw
      · exact am_wd_mem hlk9
      · exact hsm9
      · exact am_wd_mem hwl
      · exact am_wd_mem hws
      · exact am_wd_mem hwi
      · exact am_wd_mem hwc
      · exact hw
    exact vx_runU (x := mY y) hFix hM (va_cwU n hts hG hWy rfl rfl rfl ⟨m1, m2, hpar⟩ hR) ⟨am_Pc_blind, am_recv C9 hW hS hbn hbk (Or.inl (by rw [hrk]; exact ⟨rfl, by decide, by decide +kernel⟩)), hPc⟩ rfl (by rw [List.length_map]; exact hn) hL hstk (by show 2 * 0 + _ ≤ 8; omega) hd hf
  · rw [if_neg (by decide), if_neg (by decide), if_neg (by decide), if_neg (by decide), if_neg (by decide), if_neg (by decide)] at hok
    simp only [Bool.and_eq_true, decide_eq_true_eq] at hok
    obtain ⟨⟨⟨⟨⟨hpar, hlk9⟩, hhy⟩, -⟩, -⟩, hnew⟩ := hok
    rw [if_neg (by decide)] at hlk9 hhy
    rw [if_neg (by decide)] at hwc
    rw [if_neg (by decide)] at hws
    have hnw := am_cnew_of (by decide) hnew
    obtain ⟨hrk, hcl, hsm9, hin9, hcw9, h167⟩ := hnw.2.2 rfl
    rw [if_neg (by decide), if_neg (by decide), if_neg (by decide), if_neg (by decide), if_pos rfl] at hwl
    rw [if_neg (by decide)] at hi9
    subst hi9
    have hWy : am_Wy y = am_cw y :: am_GW := by rw [am_Wy_cons, if_pos hhy]
    have hG : GoodIn am_GW (va_wsO (cNm (mC k)) ix "java/lang/StringBuilder" "java/lang/AbstractStringBuilder" (am_xA y) (mY y) (am_Wy y)) := am_good_in fun w hw => by
      unfold va_wsO at hw
      rw [hWy] at hw
      simp only [List.cons_append, List.nil_append, List.mem_cons] at hw
      rcases hw with rfl | rfl | rfl | rfl | rfl | rfl | rfl | hw
      · exact am_wd_mem hlk9
      · exact hsm9
      · exact hin9
      · exact am_wd_mem hwl
      · exact am_wd_mem hws
      · exact am_wd_mem hwi
      · exact am_wd_mem hwc
      · exact hw
    have h0c : Cond.code ⟨"java/lang/AbstractStringBuilder", (am_xA y).name, (am_xA y).desc⟩ (mB 167) (mL 167) (mRT 167) ∈ am_GW := by
      have h1 : (⟨"java/lang/AbstractStringBuilder", (am_xA y).name, (am_xA y).desc⟩ : MethodName) = mY 167 := h167.symm
      rw [h1]
      exact hcw9
    exact vx_runU (x := am_xA y) hFix hM (va_cwO n hts hG hWy rfl rfl h0c ⟨by decide, by decide, hpar⟩ hR) ⟨am_Pc_blind, am_recv C9 hW hS hbn hbk (Or.inl (by rw [hrk]; exact ⟨rfl, by decide, by decide +kernel⟩)), hPc⟩ rfl (by rw [List.length_map]; exact hn) hL hstk (by show 2 * 0 + _ ≤ 8; omega) hd hf
end CALL
