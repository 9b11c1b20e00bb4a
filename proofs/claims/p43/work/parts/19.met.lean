/-! THE CONTRACT of a method, out of the walk of its body. -/
def am_rtok (y : Nat) : Bool := match mR y with
  | 0 => decide (mRT y = none)
  | 1 => decide (mRT y = some .int)
  | 2 => decide (mRT y = some .long)
  | 3 => decide (mRT y = some .double)
  | 5 => decide (mRT y = some .boolean)
  | 6 => decide (mRT y = some .char)
  | 7 => decide (mRT y = some .byte)
  | 4 => (match mRT y with | some (.object _) => true | some (.array _) => true | _ => false)
  | _ => false
theorem am_rtck : kT.all (fun q => am_rtok q.1) = true := by decide +kernel
theorem am_mk_len {W : List Nat} {f : Value → Value} (hf : ∀ v, (f v).category = v.category) : ∀ (av : List Value) (i : Nat), (lg_sl (av.map f)).length = (mkL W i av).length
  | [], _ => rfl
  | v :: av, i => by
    have ih := am_mk_len (W := W) hf av
    have e : lg_sl ((v :: av).map f) = (if (f v).category = 2 then [Slot.val (f v), .second] else [.val (f v)]) ++ lg_sl (av.map f) := rfl
    rw [e, List.length_append, hf v]
    cases v with
    | long x => rw [if_pos (show (Value.long x).category = 2 from rfl), ih (i + 2)]; simp [mkL]; omega
    | double x => rw [if_pos (show (Value.double x).category = 2 from rfl), ih (i + 2)]; simp [mkL]; omega
    | int x => rw [if_neg (show ¬ (Value.int x).category = 2 from by show ¬ 1 = 2; decide), ih (i + 1)]; simp [mkL]; omega
    | float x => rw [if_neg (show ¬ (Value.float x).category = 2 from by show ¬ 1 = 2; decide), ih (i + 1)]; simp [mkL]; omega
    | null => rw [if_neg (show ¬ (Value.null).category = 2 from by show ¬ 1 = 2; decide), ih (i + 1)]; simp [mkL]; omega
    | ref x => rw [if_neg (show ¬ (Value.ref x).category = 2 from by show ¬ 1 = 2; decide), ih (i + 1)]; simp [mkL]; omega
    | retAddr x => rw [if_neg (show ¬ (Value.retAddr x).category = 2 from by show ¬ 1 = 2; decide), ih (i + 1)]; simp [mkL]; omega
theorem am_mk_get {W : List Nat} {f : Value → Value} (hf : ∀ v, (f v).category = v.category) : ∀ (av : List Value) (i j : Nat) (v : Value), (mkL W i av)[j]? = some (some v) → (i + j, f v) ∈ lv_args i (av.map f) ∧ (v.category = 2 → i + j ∈ W) ∧ v ∈ av
  | [], _, _, _, h => by simp [mkL] at h
  | w :: av, i, j, v, h => by
    have e : lv_args i ((w :: av).map f) = (i, f w) :: lv_args (if (f w).category = 2 then i + 2 else i + 1) (av.map f) := rfl
    rw [e, hf w]
    have wide : ∀ u : Value, u.category = 2 → w = u → mkL W i (w :: av) = (if W.contains i then some u else none) :: none :: mkL W (i + 2) av → (i + j, f v) ∈ (i, f w) :: lv_args (if w.category = 2 then i + 2 else i + 1) (av.map f) ∧ (v.category = 2 → i + j ∈ W) ∧ v ∈ w :: av := by
      intro u hu hw hm
      rw [hm] at h
      rw [hw, if_pos hu]
      match j, h with
      | 0, h =>
        simp only [List.getElem?_cons_zero, Option.some.injEq] at h
        split at h
        · rename_i hc
          cases h
          exact ⟨by simp, fun _ => by simpa using hc, List.mem_cons_self⟩
        · cases h
      | 1, h => simp at h
      | j + 2, h =>
        simp only [List.getElem?_cons_succ] at h
        obtain ⟨q1, q2, q3⟩ := am_mk_get hf av (i + 2) j v h
        rw [show i + 2 + j = i + (j + 2) by omega] at q1 q2
        exact ⟨List.mem_cons_of_mem _ q1, q2, List.mem_cons_of_mem _ q3⟩
    have thin : w.category ≠ 2 → mkL W i (w :: av) = some w :: mkL W (i + 1) av → (i + j, f v) ∈ (i, f w) :: lv_args (if w.category = 2 then i + 2 else i + 1) (av.map f) ∧ (v.category = 2 → i + j ∈ W) ∧ v ∈ w :: av := by
      intro hw hm
      rw [hm] at h
      rw [if_neg hw]
      match j, h with
      | 0, h =>
        simp only [List.getElem?_cons_zero, Option.some.injEq] at h
        subst h
        exact ⟨by simp, fun q => absurd q hw, List.mem_cons_self⟩
      | j + 1, h =>
        simp only [List.getElem?_cons_succ] at h
        obtain ⟨q1, q2, q3⟩ := am_mk_get hf av (i + 1) j v h
        rw [show i + 1 + j = i + (j + 1) by omega] at q1 q2
        exact ⟨List.mem_cons_of_mem _ q1, q2, List.mem_cons_of_mem _ q3⟩
    cases w with
    | long x => exact wide _ rfl rfl rfl
    | double x => exact wide _ rfl rfl rfl
    | int x => exact thin (by show ¬ 1 = 2; decide) rfl
    | float x => exact thin (by show ¬ 1 = 2; decide) rfl
    | null => exact thin (by show ¬ 1 = 2; decide) rfl
    | ref x => exact thin (by show ¬ 1 = 2; decide) rfl
    | retAddr x => exact thin (by show ¬ 1 = 2; decide) rfl
theorem am_pad_get {n : Nat} {L : ALs} {j : Nat} {v : Value} (h : (padL n L)[j]? = some (some v)) : L[j]? = some (some v) := by
  unfold padL at h
  by_cases e : j < L.length
  · rwa [List.getElem?_append_left e] at h
  · rw [List.getElem?_append_right (by omega), List.getElem?_replicate] at h
    split at h <;> simp at h
/-- a method's locals at its entry -/
theorem am_entry {W : List Nat} {f : Value → Value} (hf : ∀ v, (f v).category = v.category) {av : List Value} {n : Nat} (hn : (mkL W 0 av).length ≤ n) : am_LR W f (padL n (mkL W 0 av)) ((lg_sl (av.map f) ++ List.replicate (n - (lg_sl (av.map f)).length) Slot.unset).toArray) n := by
  have h1 := lv_entry (av.map f) (n := n) (by rw [am_mk_len hf]; exact hn)
  refine ⟨h1.1, h1.2.1, fun i v hi => ?_, fun i v hi h2 => ?_⟩
  · obtain ⟨q1, -, -⟩ := am_mk_get hf _ _ _ _ (am_pad_get hi)
    rw [Nat.zero_add] at q1
    exact h1.2.2 _ q1
  · obtain ⟨-, q2, -⟩ := am_mk_get hf _ _ _ _ (am_pad_get hi)
    rw [Nat.zero_add] at q2
    exact q2 h2
theorem am_entry_V {W : List Nat} {av : List Value} {n m : Nat} (h : am_VS m av) : am_VL m (padL n (mkL W 0 av)) := by
  intro i v hi
  obtain ⟨-, -, q3⟩ := am_mk_get (f := id) (fun _ => rfl) _ _ _ _ (am_pad_get hi)
  exact h v q3
def am_Body (f : Nat) : Prop := ∀ (l : Launch) (D : va_G) (dA : Nat → ClassId) (ad : Nat → Nat) (zz : Value) (bs Ln : Nat) (xs : Nat → Int32) (d k : Nat) (p : Program) (e : Env) (R : Room) (s : State) (m : MethodId) (args : Array Value) (below : List Frame) (meth : Method) (c : Code) (as0 : List Nat) (c0 s0 : Nat) (Q : State → Prop) (pc : Nat) (Lo : ALs) (st : List Value) (h : AH) (o : AO) (h' : AH),
  am_Cx l D dA ad zz bs Ln xs d k p R s m args meth c → am_Ends D dA ad zz bs Ln xs d k p l e R s m args below meth c as0 c0 s0 Q o h' → nc h' ≤ R.cells + c0 → ns h' ≤ R.slots + s0 → exec f d k pc Lo st h = some (o, h') →
  am_Sim D dA ad zz bs Ln xs k p l e R s m args below meth c as0 c0 s0 Q pc Lo st h
section MET
variable {l : Launch} {D : va_G} {dA : Nat → ClassId} {ad : Nat → Nat} {zz : Value} {bs Ln : Nat} {xs : Nat → Int32} {d k : Nat} {p : Program} {e : Env} {R : Room} {s : State} {m : MethodId} {args : Array Value} {below : List Frame} {meth : Method} {c : Code} {as0 : List Nat} {c0 s0 : Nat} {Q : State → Prop} {pc : Nat} {Lo : ALs} {st : List Value} {h h' : AH}
variable {as : List Nat} {H : Heap} {locs : List Loc} {ls : Array Slot} {cells slots : Nat} {rest : List Value}
theorem am_nar_ok {t : Nat} {x : Int32} (h : am_nar t x = some x) : (t = 1 ∧ narrow .int (.int x) = .int x) ∨ (t = 5 ∧ narrow .boolean (.int x) = .int x) ∨ (t = 6 ∧ narrow .char (.int x) = .int x) ∨ (t = 7 ∧ narrow .byte (.int x) = .int x) := by
  unfold am_nar at h
  split at h
  · rename_i e1
    exact Or.inl ⟨e1, rfl⟩
  · split at h
    · rename_i e1
      split at h
      · rename_i e2
        refine Or.inr (Or.inl ⟨e1, ?_⟩)
        rcases e2 with rfl | rfl <;> decide
      · cases h
    · split at h
      · rename_i e1
        split at h
        · rename_i e2
          refine Or.inr (Or.inr (Or.inl ⟨e1, ?_⟩))
          have := pk_nc x
          rwa [e2] at this
        · cases h
      · split at h
        · rename_i e1
          split at h
          · rename_i e2
            refine Or.inr (Or.inr (Or.inr ⟨e1, ?_⟩))
            have := pk_nb x
            rwa [e2] at this
          · cases h
        · cases h
set_option maxHeartbeats 1000000 in
theorem am_ends_met {o : AO} (hrt : am_rtok k = true) (hnl : (mY k).name ≠ "law") (C : am_Cx l D dA ad zz bs Ln xs d k p R s m args meth c) (hcr : nc h' ≤ R.cells + c0) (hsr : ns h' ≤ R.slots + s0) :
    am_Ends D dA ad zz bs Ln xs d k p l e R s m args below meth c as0 c0 s0 (vx_MQ below (am_Qc D dA ad zz bs Ln xs as0 h' o) (am_XC D dA ad bs Ln xs as0 h' o) args s (nc h' - c0) (ns h' - s0) (am_A bs)) o h' := by
  have C9 := C
  obtain ⟨hx, hb, hml, hr, hlk, hown, htr, hnm, hHH, ⟨hfr, hlo⟩, hKV, hK, hCF, ⟨hbs, hLn⟩, hzz, hinj, hadb, hU1, hU2⟩ := C
  unfold am_rtok at hrt
  refine ⟨?_, ?_, ?_⟩
  · intro pc ls H locs as i st v hd hR ho hX hW hS hVS hc hs
    refine vx_ret ?_
    have hq : ∀ t : State, t.heap = H → ∀ v9, v = v9 → (∀ w, v9 = some w → am_V (nx h') w) → am_Qc D dA ad zz bs Ln xs as0 h' o args s (.returned (v9.map (am_cv ad zz as))) t := fun t ht v9 hv9 hvv => ⟨v9, as, by rw [← hv9]; exact ho, rfl, hX, by rw [ht]; exact hW, hS.F ht, hvv⟩
    rcases hR with ⟨rfl, x, rfl, rfl, hn⟩ | ⟨rfl, x, rfl, rfl, hm⟩ | ⟨rfl, x, rfl, rfl, hm⟩ | ⟨rfl, x, rfl, rfl, hx9, hm⟩ | ⟨rfl, rfl, rfl, hm⟩
    · have hq9 : ∀ t : State, t.heap = H → s.WarmedH t.vm → am_Qc D dA ad zz bs Ln xs as0 h' o args s (.returned (some (.int x))) t := fun t ht _ => hq t ht (some (.int x)) rfl (fun w hw => by cases hw; trivial)
      rcases am_nar_ok hn with ⟨e1, hn9⟩ | ⟨e1, hn9⟩ | ⟨e1, hn9⟩ | ⟨e1, hn9⟩ <;> rw [e1] at hrt <;> have hrt := of_decide_eq_true hrt <;> rw [hrt] at hr
      · exact W.zret hx hb hr hn9 hq9 hS.2.2 hd
      · exact W.zret hx hb hr hn9 hq9 hS.2.2 hd
      · exact W.zret hx hb hr hn9 hq9 hS.2.2 hd
      · exact W.zret hx hb hr hn9 hq9 hS.2.2 hd
    · rw [hm] at hrt
      have hrt := of_decide_eq_true hrt
      rw [hrt] at hr
      exact W.lret hx hb hr (fun t ht _ => hq t ht (some (.long x)) rfl (fun w hw => by cases hw; trivial)) hS.2.2 hd
    · rw [hm] at hrt
      have hrt := of_decide_eq_true hrt
      rw [hrt] at hr
      exact W.dret hx hb hr (fun t ht _ => hq t ht (some (.double x)) rfl (fun w hw => by cases hw; trivial)) hS.2.2 hd hlk
    · rw [hm] at hrt
      have hrt2 : ∃ rt, mRT k = some rt ∧ ((∃ n, rt = .object n) ∨ ∃ t, rt = .array t) := by
        have hrt : (match mRT k with | some (.object _) => true | some (.array _) => true | _ => false) = true := hrt
        split at hrt
        · rename_i n e1
          exact ⟨_, e1, Or.inl ⟨n, rfl⟩⟩
        · rename_i n e1
          exact ⟨_, e1, Or.inr ⟨n, rfl⟩⟩
        · cases hrt
      obtain ⟨rt, e1, e2⟩ := hrt2
      rw [e1] at hr
      have hv9 : am_cv ad zz as x = .null ∨ ∃ a, am_cv ad zz as x = .ref a := by
        rcases hx9 with rfl | ⟨a, rfl⟩
        · exact Or.inl rfl
        · exact Or.inr ⟨_, rfl⟩
      exact W.aret (v := am_cv ad zz as x) hx hb hr e2 hv9 (fun t ht _ => hq t ht (some x) rfl (fun w hw => by cases hw; exact hVS.hd)) hS.2.2 hd
    · rw [hm] at hrt
      have hrt := of_decide_eq_true hrt
      rw [hrt] at hr
      exact W.vret hx hb hr (fun t ht _ => hq t ht none rfl (fun w hw => by cases hw)) hS.2.2 hd
  · intro pc ix E ls H locs as st h1 hd ht ho hh hd10 hr9 hX hW hS hls hc hs
    subst ho; subst hh
    have e1 : nc (bump h1 1 6) = nc h1 + 1 := rfl
    have e2 : ns (bump h1 1 6) = ns h1 + 6 := rfl
    exact am_throw (a0 := #[]) C9 hd ht hd10 hr9 hX hW hS hls (by omega) (by omega) (by omega) (by omega)
  · intro pc E ls H locs as rest q ce hmt ho hX hW hS hce hcv hcl hc hs
    exact vx_out (E := exNm E) (fun x hx9 => by rw [hHH.resolve_left hnl, hmt] at hx9; cases hx9) hlk hce hcv hcl (fun t ht _ => ⟨E, as, ho, rfl, hX, by rw [ht]; exact hW, hS.F ht⟩) hS.2.2 (Nat.le_refl _) (Nat.le_refl _)
theorem am_rt_of {y kc : Nat} {w : Nat × Nat × Nat × Nat} (h : (y, kc, w) ∈ kT) : am_rtok y = true := List.all_eq_true.mp am_rtck _ h
theorem am_k_at2 {c i y n kc : Nat} {rk : Nat × Nat} (h : cR c i = some (y, n, kc, rk)) (hk : kc < 8 ∨ (12 ≤ kc ∧ kc < 16)) : ∃ w, am_kok y kc w = true ∧ (y, kc, w) ∈ kT := by
  have h1 := List.all_eq_true.mp am_kin _ (am_lookup h)
  rw [Bool.or_eq_true, decide_eq_true_eq] at h1
  rcases h1 with h1 | h1
  · dsimp only at h1
    omega
  · obtain ⟨q, hq, h2⟩ := List.any_eq_true.mp h1
    rw [Bool.and_eq_true, decide_eq_true_eq, decide_eq_true_eq] at h2
    obtain ⟨q1, q2, q3⟩ := q
    obtain ⟨rfl, rfl⟩ := h2
    exact ⟨q3, List.all_eq_true.mp am_kck _ hq, hq⟩
set_option maxHeartbeats 2000000 in
theorem am_met_of {f y n9 i9 c9 kc : Nat} {rk : Nat × Nat} {av : List Value} {o : AO} (hB : am_Body f) (hm : cR c9 i9 = some (y, n9, kc, rk)) (hkc : kc < 8 ∨ (12 ≤ kc ∧ kc < 16)) (hhy : kc = 7 ↔ ¬ (mH y).isEmpty = true) (htr : l.stackTraces = false) (hzz : zz = .null ∨ ∃ a, zz = .ref a) (hinj : ∀ i j, i < 49 → j < 49 → ad i = ad j → i = j) (hadb : ∀ n, n < am_NC → ad n < bs) (hLn : Ln < 2 ^ 31) (hVS : am_VS (nx h) av)
    (hgo : aGo (exec f) (d + 1) y av h = some (o, h')) : am_Met l D dA ad zz bs Ln xs d y av as h o h' := by
  obtain ⟨w, hok2, hmem⟩ := am_k_at2 hm hkc
  have hrt := am_rt_of hmem
  unfold am_kok at hok2
  simp only [Bool.and_eq_true, decide_eq_true_eq] at hok2
  obtain ⟨⟨⟨⟨⟨⟨hmh, hcls⟩, hml9⟩, hwi⟩, hwc⟩, hws⟩, -⟩ := hok2
  unfold am_mhd at hmh
  simp only [Bool.and_eq_true, decide_eq_true_eq] at hmh
  obtain ⟨⟨⟨m1, m2⟩, m3⟩, m4⟩ := hmh
  have hgo' : (mkL (mW y) 0 av).length ≤ mL y ∧ exec f d y 0 (padL (mL y) (mkL (mW y) 0 av)) [] h = some (o, h') := by
    unfold aGo at hgo
    dsimp only at hgo
    split at hgo
    · rename_i hc
      exact ⟨hc, hgo⟩
    · cases hgo
  obtain ⟨hlen, hex⟩ := hgo'
  have hmono := am_mono_exec f _ _ _ _ _ _ _ _ hex
  have body : ∀ p e s m args below meth c s₁, BodyLoose p l (mY y) (headSpec (am_Wy y) (am_rm d (nc h' - nc h) (ns h' - ns h))) (mB y) (mL y) (mRT y) e s m args below meth c s₁ → c.maxLocals = mL y → c.exceptionTable.toList = tableOf (mH y) → am_Pc D dA ad zz bs Ln xs as h av args s →
      W p l e (am_rm d (nc h' - nc h) (ns h' - ns h)) s m args below meth c s.heap [] 0 0 (vx_MQ below (am_Qc D dA ad zz bs Ln xs as h' o) (am_XC D dA ad bs Ln xs as h' o) args s (nc h' - nc h) (ns h' - ns h) (am_A bs)) (entryFrame m args (mL y)) := by
    intro p e s m args below meth c s₁ B hml hHH hP
    obtain ⟨rfl, q1, q2, q3, q4, q5, q6, q7⟩ := hP
    have hC : am_Cx l D dA ad zz bs Ln xs d y p (am_rm d (nc h' - nc h) (ns h' - ns h)) s m (av.map (am_cv ad zz as)).toArray meth c :=
      ⟨B.exec, B.bytes, hml, B.returns, B.notSynchronized, by rw [← hcls]; exact findClass_of_methodNamed B.named, htr, fun q => by rw [(name_of_methodNamed B.named B.method).1]; exact q, Or.inr hHH, ⟨Nat.le_refl _, Nat.le_refl _⟩, q1, q2, q3, ⟨q4, hLn⟩, hzz, hinj, hadb, q6, q7⟩
    have hE := am_ends_met (e := e) (below := below) (as0 := as) (c0 := nc h) (s0 := ns h) (o := o) (h' := h') hrt m4 hC (by show nc h' ≤ (nc h' - nc h) + nc h; omega) (by show ns h' ≤ (ns h' - ns h) + ns h; omega)
    have hSim := hB l D dA ad zz bs Ln xs d y p e _ s m _ below meth c as (nc h) (ns h) _ 0 _ [] h o h' hC hE (by show nc h' ≤ (nc h' - nc h) + nc h; omega) (by show ns h' ≤ (ns h' - ns h) + ns h; omega) hex
    have hent := am_entry (W := mW y) (f := am_cv ad zz as) (am_cat (am_zcat hzz)) hlen
    rw [lg_entry_eq]
    have := hSim as s.heap [] _ ⟨[], by simp⟩ q5 va_S.rf hent (am_entry_V hVS) (fun v hv => by cases hv) (Nat.le_refl _) (Nat.le_refl _)
    rw [Nat.sub_self, Nat.sub_self] at this
    exact this
  unfold am_Met
  by_cases hk7 : kc = 7
  · have hne := hhy.mp hk7
    rw [if_pos hk7] at hwc
    have hWy : am_Wy y = am_cwH y :: am_GW := by rw [am_Wy_cons, if_neg hne]
    refine vx_ofWH (cc := mB y) (maxL := mL y) (ret := mRT y) (hh := mH y) m3 hWy (fun p e s m args below meth c s₁ B hml hP => body p e s m args below meth c s₁ B hml ?_ hP)
    have hpre := atoms_spec (ws := am_Wy y) B.pre
    exact vx_table (x := mY y) B (hpre (am_cwH y) (by rw [hWy]; exact List.mem_cons_self))
  · have hem : (mH y).isEmpty = true := by
      rcases Classical.em ((mH y).isEmpty = true) with q | q
      · exact q
      · exact absurd (hhy.mpr q) hk7
    rw [if_neg hk7] at hwc
    have hWy : am_Wy y = am_cw y :: am_GW := by rw [am_Wy_cons, if_pos hem]
    refine vx_ofW (cc := mB y) (maxL := mL y) (ret := mRT y) m3 hWy (fun p e s m args below meth c s₁ B hml hex9 hP => body p e s m args below meth c s₁ B hml ?_ hP)
    have h1 : mH y = [] := by simpa using hem
    rw [h1]
    show _ = ([] : List ExceptionTableEntry)
    cases e : c.exceptionTable.toList with
    | nil => rfl
    | cons x t => exact (hex9 x (by rw [e]; exact List.mem_cons_self)).elim
end MET
