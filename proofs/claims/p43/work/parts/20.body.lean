/-! THE ABSTRACT MACHINE IS THE MACHINE'S. -/
/-- a call that the abstract machine makes -/
def am_CI (k pc : Nat) (st : List Value) (h : AH) (y : Nat) (av rest : List Value) : Prop := ∃ (ix na kc : Nat) (rk : Nat × Nat), cR (mC k) ix = some (y, na, kc, rk) ∧ (rest.length ≤ 4 ∨ stB rest = true) ∧
  (((kc = 0 ∨ kc = 1 ∨ kc = 7) ∧ decode (mB k) pc = .ok (.invokestatic ix, 3) ∧ av.length = na ∧ st = av.reverse ++ rest) ∨
   (∃ (b : Nat) (av' : List Value), av = .ref b :: av' ∧ (kc = 2 ∨ kc = 3 ∨ kc = 4 ∨ kc = 5 ∨ kc = 6 ∨ kc = 13 ∨ kc = 14 ∨ kc = 15) ∧ decode (mB k) pc = .ok (if kc = 3 ∨ kc = 4 ∨ kc = 13 then .invokespecial ix else .invokevirtual ix, 3) ∧ av'.length = na ∧ st = av'.reverse ++ .ref b :: rest ∧ (kd h b = rk ∨ (rk = (0, 9) ∧ kd h b = (11, 0)))))
def am_Good (D : va_G) (dA : Nat → ClassId) (ad : Nat → Nat) (zz : Value) (bs Ln : Nat) (xs : Nat → Int32) (d k : Nat) (p : Program) (l : Launch) (e : Env) (R : Room) (s : State) (m : MethodId) (args : Array Value) (below : List Frame) (meth : Method) (c : Code) (as0 : List Nat) (c0 s0 : Nat) (Q : State → Prop) (pc : Nat) (Lo : ALs) (st : List Value) (h : AH) : ACt → Prop
  | .inl (pc', L', st', h1) => nc h1 ≤ R.cells + c0 → ns h1 ≤ R.slots + s0 → am_Sim D dA ad zz bs Ln xs k p l e R s m args below meth c as0 c0 s0 Q pc' L' st' h1 → am_Sim D dA ad zz bs Ln xs k p l e R s m args below meth c as0 c0 s0 Q pc Lo st h
  | .inr (.inl (y, av, n, L', rest, h1)) => n = 3 ∧ L' = Lo ∧ h1 = h ∧ am_CI k pc st h y av rest
  | .inr (.inr (some (o, h1))) => nc h1 ≤ R.cells + c0 → ns h1 ≤ R.slots + s0 → am_Ends D dA ad zz bs Ln xs d k p l e R s m args below meth c as0 c0 s0 Q o h1 → am_Sim D dA ad zz bs Ln xs k p l e R s m args below meth c as0 c0 s0 Q pc Lo st h
  | .inr (.inr none) => True
theorem am_nar_eq {t : Nat} {x w : Int32} (h : am_nar t x = some w) : w = x := by
  unfold am_nar at h
  (repeat' split at h) <;> first | (cases h; done) | (cases h; rfl)
section BODY
variable {l : Launch} {D : va_G} {dA : Nat → ClassId} {ad : Nat → Nat} {zz : Value} {bs Ln : Nat} {xs : Nat → Int32} {d k : Nat} {p : Program} {e : Env} {R : Room} {s : State} {m : MethodId} {args : Array Value} {below : List Frame} {meth : Method} {c : Code} {as0 : List Nat} {c0 s0 : Nat} {Q : State → Prop} {pc : Nat} {Lo : ALs} {st : List Value} {h h' : AH}
theorem am_rd_V {a j t : Nat} (hV : am_VH h) : am_V (nx h) (am_rd h a j t) := by
  unfold am_rd
  split
  · exact trivial
  · split
    · exact trivial
    · split
      · exact trivial
      · cases e9 : rv h a j with
        | none => exact trivial
        | some b => exact hV.2.1 a j b e9
theorem am_rf_V {a j : Nat} (hV : am_VH h) : am_V (nx h) (va_rf (rv h a j)) := by
  cases e9 : rv h a j with
  | none => exact trivial
  | some b => exact hV.2.1 a j b e9
theorem sm_getf {ix j t a : Nat} {kk : Nat × Nat} (C : am_Cx l D dA ad zz bs Ln xs d k p R s m args meth c) (hd : decode (mB k) pc = .ok (.getfield ix, 3)) (hf : fR (mC k) ix = some (kk, j, t)) (hk : kd h a = kk ∨ (kk = (0, 9) ∧ kd h a = (11, 0))) (K : am_Sim D dA ad zz bs Ln xs k p l e R s m args below meth c as0 c0 s0 Q (pc + 3) Lo (am_rd h a j t :: st) h) : am_Sim D dA ad zz bs Ln xs k p l e R s m args below meth c as0 c0 s0 Q pc Lo (.ref a :: st) h := by
  intro as H locs ls hX hW hS hL hVL hVS hc hs
  exact am_getf C hd hf hk hW hS hVS.hd (K as H locs ls hX hW hS hL hVL (am_VS.cons (am_rd_V hW.2.2.2.1) hVS.tl) hc hs)
theorem sm_putI {ix j a k2 : Nat} {x : Int32} (C : am_Cx l D dA ad zz bs Ln xs d k p R s m args meth c) (hd : decode (mB k) pc = .ok (.putfield ix, 3)) (hf : fR (mC k) ix = some ((0, k2), j, 1)) (hk : kd h a = (0, k2)) (hpf : pfOK k k2 j = true) (K : am_Sim D dA ad zz bs Ln xs k p l e R s m args below meth c as0 c0 s0 Q (pc + 3) Lo st (setI h a j x)) : am_Sim D dA ad zz bs Ln xs k p l e R s m args below meth c as0 c0 s0 Q pc Lo (.int x :: .ref a :: st) h := by
  intro as H locs ls hX hW hS hL hVL hVS hc hs
  exact am_putf (v := .int x) (h' := setI h a j x) C hd hf hk hpf hW hS hVS.tl.hd (Or.inl ⟨rfl, _, rfl⟩) (fun _ => rfl) (fun n i hn => by show u2 _ _ _ _ n i = _; unfold u2; rw [if_neg (fun q => hn.elim (fun z => z q.1) (fun z => z q.2))]; rfl) (fun _ _ _ => rfl) (fun _ _ _ => rfl) (by show Value.int (u2 _ a j x a j) = _; rw [u2_eq]) rfl (am_VH_I hW.2.2.2.1) (fun H1 locs1 q1 q2 => K as H1 locs1 ls hX q1 q2 hL hVL hVS.tl.tl hc hs)
theorem sm_putJ {ix j a k2 : Nat} {x : Int64} (C : am_Cx l D dA ad zz bs Ln xs d k p R s m args meth c) (hd : decode (mB k) pc = .ok (.putfield ix, 3)) (hf : fR (mC k) ix = some ((0, k2), j, 2)) (hk : kd h a = (0, k2)) (hpf : pfOK k k2 j = true) (K : am_Sim D dA ad zz bs Ln xs k p l e R s m args below meth c as0 c0 s0 Q (pc + 3) Lo st (setJ h a j x)) : am_Sim D dA ad zz bs Ln xs k p l e R s m args below meth c as0 c0 s0 Q pc Lo (.long x :: .ref a :: st) h := by
  intro as H locs ls hX hW hS hL hVL hVS hc hs
  exact am_putf (v := .long x) (h' := setJ h a j x) C hd hf hk hpf hW hS hVS.tl.hd (Or.inr (Or.inl ⟨rfl, _, rfl⟩)) (fun _ => rfl) (fun _ _ _ => rfl) (fun n i hn => by show u2 _ _ _ _ n i = _; unfold u2; rw [if_neg (fun q => hn.elim (fun z => z q.1) (fun z => z q.2))]; rfl) (fun _ _ _ => rfl) (by show Value.long (u2 _ a j x a j) = _; rw [u2_eq]) rfl (am_VH_J hW.2.2.2.1) (fun H1 locs1 q1 q2 => K as H1 locs1 ls hX q1 q2 hL hVL hVS.tl.tl hc hs)
theorem sm_putR {ix j a k2 : Nat} {x : Nat} (C : am_Cx l D dA ad zz bs Ln xs d k p R s m args meth c) (hd : decode (mB k) pc = .ok (.putfield ix, 3)) (hf : fR (mC k) ix = some ((0, k2), j, 4)) (hk : kd h a = (0, k2)) (hpf : pfOK k k2 j = true) (K : am_Sim D dA ad zz bs Ln xs k p l e R s m args below meth c as0 c0 s0 Q (pc + 3) Lo st (setR h a j (some x))) : am_Sim D dA ad zz bs Ln xs k p l e R s m args below meth c as0 c0 s0 Q pc Lo (.ref x :: .ref a :: st) h := by
  intro as H locs ls hX hW hS hL hVL hVS hc hs
  exact am_putf (v := .ref x) (h' := setR h a j (some x)) C hd hf hk hpf hW hS hVS.tl.hd (Or.inr (Or.inr (Or.inl ⟨rfl, _, rfl⟩))) (fun _ => rfl) (fun _ _ _ => rfl) (fun _ _ _ => rfl) (fun n i hn => by show u2 _ _ _ _ n i = _; unfold u2; rw [if_neg (fun q => hn.elim (fun z => z q.1) (fun z => z q.2))]; rfl) (by show va_rf (u2 _ a j (some x) a j) = _; rw [u2_eq]; rfl) rfl (am_VH_R hW.2.2.2.1 hVS.hd) (fun H1 locs1 q1 q2 => K as H1 locs1 ls hX q1 q2 hL hVL hVS.tl.tl hc hs)
theorem sm_putB {ix j a k2 : Nat} {x : Int32} (C : am_Cx l D dA ad zz bs Ln xs d k p R s m args meth c) (hd : decode (mB k) pc = .ok (.putfield ix, 3)) (hf : fR (mC k) ix = some ((0, k2), j, 7)) (hk : kd h a = (0, k2)) (hpf : pfOK k k2 j = true) (hby : isBy x = true) (K : am_Sim D dA ad zz bs Ln xs k p l e R s m args below meth c as0 c0 s0 Q (pc + 3) Lo st (setI h a j x)) : am_Sim D dA ad zz bs Ln xs k p l e R s m args below meth c as0 c0 s0 Q pc Lo (.int x :: .ref a :: st) h := by
  intro as H locs ls hX hW hS hL hVL hVS hc hs
  exact am_putf (v := .int x) (h' := setI h a j x) C hd hf hk hpf hW hS hVS.tl.hd (Or.inr (Or.inr (Or.inr ⟨rfl, _, rfl, hby⟩))) (fun _ => rfl) (fun n i hn => by show u2 _ _ _ _ n i = _; unfold u2; rw [if_neg (fun q => hn.elim (fun z => z q.1) (fun z => z q.2))]; rfl) (fun _ _ _ => rfl) (fun _ _ _ => rfl) (by show Value.int (u2 _ a j x a j) = _; rw [u2_eq]) rfl (am_VH_I hW.2.2.2.1) (fun H1 locs1 q1 q2 => K as H1 locs1 ls hX q1 q2 hL hVL hVS.tl.tl hc hs)
theorem sm_zast {a : Nat} {i x : Int32} (C : am_Cx l D dA ad zz bs Ln xs d k p R s m args meth c) (hd : decode (mB k) pc = .ok (.bastore, 1)) (hk : (kd h a).1 = 9) (hx01 : x = 0 ∨ x = 1) (hi : inR i (kd h a).2 = true) (K : am_Sim D dA ad zz bs Ln xs k p l e R s m args below meth c as0 c0 s0 Q (pc + 1) Lo st (setI h a i.toNatClampNeg x)) : am_Sim D dA ad zz bs Ln xs k p l e R s m args below meth c as0 c0 s0 Q pc Lo (.int x :: .int i :: .ref a :: st) h := by
  intro as H locs ls hX hW hS hL hVL hVS hc hs
  exact am_zast C hd hk hx01 hi hW hS hVS.tl.tl.hd (fun H1 locs1 q1 q2 => K as H1 locs1 ls hX q1 q2 hL hVL hVS.tl.tl.tl hc hs)
theorem sm_iald {a : Nat} {i : Int32} (C : am_Cx l D dA ad zz bs Ln xs d k p R s m args meth c) (hd : decode (mB k) pc = .ok (.iaload, 1)) (hk : (kd h a).1 = 1 ∨ (kd h a).1 = 12) (hi : inR i (kd h a).2 = true) (K : am_Sim D dA ad zz bs Ln xs k p l e R s m args below meth c as0 c0 s0 Q (pc + 1) Lo (.int (iv h a i.toNatClampNeg) :: st) h) : am_Sim D dA ad zz bs Ln xs k p l e R s m args below meth c as0 c0 s0 Q pc Lo (.int i :: .ref a :: st) h := by
  intro as H locs ls hX hW hS hL hVL hVS hc hs
  exact am_iald C hd hk hi hW hS hVS.tl.hd (K as H locs ls hX hW hS hL hVL (am_VS.cons trivial hVS.tl.tl) hc hs)
theorem sm_bald {a : Nat} {i : Int32} (C : am_Cx l D dA ad zz bs Ln xs d k p R s m args meth c) (hd : decode (mB k) pc = .ok (.baload, 1)) (hk : (kd h a).1 = 3 ∨ (kd h a).1 = 13 ∨ (kd h a).1 = 9) (hi : inR i (kd h a).2 = true) (K : am_Sim D dA ad zz bs Ln xs k p l e R s m args below meth c as0 c0 s0 Q (pc + 1) Lo (.int (iv h a i.toNatClampNeg) :: st) h) : am_Sim D dA ad zz bs Ln xs k p l e R s m args below meth c as0 c0 s0 Q pc Lo (.int i :: .ref a :: st) h := by
  intro as H locs ls hX hW hS hL hVL hVS hc hs
  exact am_bald C hd hk hi hW hS hVS.tl.hd (K as H locs ls hX hW hS hL hVL (am_VS.cons trivial hVS.tl.tl) hc hs)
theorem sm_lald {a : Nat} {i : Int32} (C : am_Cx l D dA ad zz bs Ln xs d k p R s m args meth c) (hd : decode (mB k) pc = .ok (.laload, 1)) (hk : (kd h a).1 = 2) (hi : inR i (kd h a).2 = true) (K : am_Sim D dA ad zz bs Ln xs k p l e R s m args below meth c as0 c0 s0 Q (pc + 1) Lo (.long (jv h a i.toNatClampNeg) :: st) h) : am_Sim D dA ad zz bs Ln xs k p l e R s m args below meth c as0 c0 s0 Q pc Lo (.int i :: .ref a :: st) h := by
  intro as H locs ls hX hW hS hL hVL hVS hc hs
  exact am_lald C hd hk hi hW hS hVS.tl.hd (K as H locs ls hX hW hS hL hVL (am_VS.cons trivial hVS.tl.tl) hc hs)
theorem sm_aald {a : Nat} {i : Int32} (C : am_Cx l D dA ad zz bs Ln xs d k p R s m args meth c) (hd : decode (mB k) pc = .ok (.aaload, 1)) (hk : (4 ≤ (kd h a).1 ∧ (kd h a).1 ≤ 8) ∨ (kd h a).1 = 14) (hi : inR i (kd h a).2 = true) (K : am_Sim D dA ad zz bs Ln xs k p l e R s m args below meth c as0 c0 s0 Q (pc + 1) Lo (va_rf (rv h a i.toNatClampNeg) :: st) h) : am_Sim D dA ad zz bs Ln xs k p l e R s m args below meth c as0 c0 s0 Q pc Lo (.int i :: .ref a :: st) h := by
  intro as H locs ls hX hW hS hL hVL hVS hc hs
  exact am_aald C hd hk hi hW hS hVS.tl.hd (K as H locs ls hX hW hS hL hVL (am_VS.cons (am_rf_V hW.2.2.2.1) hVS.tl.tl) hc hs)
theorem sm_alen {a : Nat} (C : am_Cx l D dA ad zz bs Ln xs d k p R s m args meth c) (hd : decode (mB k) pc = .ok (.arraylength, 1)) (hk : (1 ≤ (kd h a).1 ∧ (kd h a).1 ≤ 9) ∨ (12 ≤ (kd h a).1 ∧ (kd h a).1 ≤ 14)) (K : am_Sim D dA ad zz bs Ln xs k p l e R s m args below meth c as0 c0 s0 Q (pc + 1) Lo (.int (nI (kd h a).2) :: st) h) : am_Sim D dA ad zz bs Ln xs k p l e R s m args below meth c as0 c0 s0 Q pc Lo (.ref a :: st) h := by
  intro as H locs ls hX hW hS hL hVL hVS hc hs
  exact am_alen C hd hk hW hS hVS.hd (K as H locs ls hX hW hS hL hVL (am_VS.cons trivial hVS.tl) hc hs)
theorem sm_iast {a : Nat} {i : Int32} {x : Int32} (C : am_Cx l D dA ad zz bs Ln xs d k p R s m args meth c) (hd : decode (mB k) pc = .ok (.iastore, 1)) (hk : (kd h a).1 = 1) (hi : inR i (kd h a).2 = true) (K : am_Sim D dA ad zz bs Ln xs k p l e R s m args below meth c as0 c0 s0 Q (pc + 1) Lo st (setI h a i.toNatClampNeg x)) : am_Sim D dA ad zz bs Ln xs k p l e R s m args below meth c as0 c0 s0 Q pc Lo (.int x :: .int i :: .ref a :: st) h := by
  intro as H locs ls hX hW hS hL hVL hVS hc hs
  exact am_iast C hd hk hi hW hS hVS.tl.tl.hd (fun H1 locs1 q1 q2 => K as H1 locs1 ls hX q1 q2 hL hVL hVS.tl.tl.tl hc hs)
theorem sm_bast {a : Nat} {i : Int32} {x : Int32} (C : am_Cx l D dA ad zz bs Ln xs d k p R s m args meth c) (hd : decode (mB k) pc = .ok (.bastore, 1)) (hk : (kd h a).1 = 3) (hi : inR i (kd h a).2 = true) (K : am_Sim D dA ad zz bs Ln xs k p l e R s m args below meth c as0 c0 s0 Q (pc + 1) Lo st (setI h a i.toNatClampNeg x.toInt8.toInt32)) : am_Sim D dA ad zz bs Ln xs k p l e R s m args below meth c as0 c0 s0 Q pc Lo (.int x :: .int i :: .ref a :: st) h := by
  intro as H locs ls hX hW hS hL hVL hVS hc hs
  exact am_bast C hd hk hi hW hS hVS.tl.tl.hd (fun H1 locs1 q1 q2 => K as H1 locs1 ls hX q1 q2 hL hVL hVS.tl.tl.tl hc hs)
theorem sm_last {a : Nat} {i : Int32} {x : Int64} (C : am_Cx l D dA ad zz bs Ln xs d k p R s m args meth c) (hd : decode (mB k) pc = .ok (.lastore, 1)) (hk : (kd h a).1 = 2) (hi : inR i (kd h a).2 = true) (K : am_Sim D dA ad zz bs Ln xs k p l e R s m args below meth c as0 c0 s0 Q (pc + 1) Lo st (setJ h a i.toNatClampNeg x)) : am_Sim D dA ad zz bs Ln xs k p l e R s m args below meth c as0 c0 s0 Q pc Lo (.long x :: .int i :: .ref a :: st) h := by
  intro as H locs ls hX hW hS hL hVL hVS hc hs
  exact am_last C hd hk hi hW hS hVS.tl.tl.hd (fun H1 locs1 q1 q2 => K as H1 locs1 ls hX q1 q2 hL hVL hVS.tl.tl.tl hc hs)
theorem sm_aast {a x : Nat} {i : Int32} (C : am_Cx l D dA ad zz bs Ln xs d k p R s m args meth c) (hd : decode (mB k) pc = .ok (.aastore, 1)) (hk : ((kd h a).1 = 4 ∧ kd h x = (10, 0)) ∨ ((kd h a).1 = 5 ∧ kd h x = (0, 4)) ∨ ((kd h a).1 = 6 ∧ kd h x = (0, 2)) ∨ ((kd h a).1 = 7 ∧ kd h x = (11, 0)) ∨ ((kd h a).1 = 8 ∧ (kd h x).1 = 1)) (hi : inR i (kd h a).2 = true) (K : am_Sim D dA ad zz bs Ln xs k p l e R s m args below meth c as0 c0 s0 Q (pc + 1) Lo st (setR h a i.toNatClampNeg (some x))) : am_Sim D dA ad zz bs Ln xs k p l e R s m args below meth c as0 c0 s0 Q pc Lo (.ref x :: .int i :: .ref a :: st) h := by
  intro as H locs ls hX hW hS hL hVL hVS hc hs
  exact am_aast C hd hk hi hW hS hVS.tl.tl.hd hVS.hd (fun H1 locs1 q1 q2 => K as H1 locs1 ls hX q1 q2 hL hVL hVS.tl.tl.tl hc hs)
theorem am_take {n : Nat} {l9 : List Value} (h : n ≤ l9.length) : ((l9.take n).reverse).length = n ∧ l9 = ((l9.take n).reverse).reverse ++ l9.drop n := by
  rw [List.length_reverse, List.length_take, List.reverse_reverse, List.take_append_drop]
  exact ⟨Nat.min_eq_left h, rfl⟩
theorem am_drop {n : Nat} {l9 rest : List Value} {v : Value} (h : l9.drop n = v :: rest) : ((l9.take n).reverse).length = n ∧ l9 = ((l9.take n).reverse).reverse ++ v :: rest := by
  have h1 : n ≤ l9.length := by
    rcases Nat.lt_or_ge l9.length n with q | q
    · rw [List.drop_eq_nil_of_le (by omega)] at h
      cases h
    · exact q
  obtain ⟨q1, q2⟩ := am_take h1
  rw [h] at q2
  exact ⟨q1, q2⟩
set_option maxHeartbeats 1000000 in
theorem gd_inv0 {ix : Nat} {mm : Nat × Nat × Nat × (Nat × Nat)} (C : am_Cx l D dA ad zz bs Ln xs d k p R s m args meth c) (hd : decode (mB k) pc = .ok (.invokestatic ix, 3)) (hm : cR (mC k) ix = some mm) : am_Good D dA ad zz bs Ln xs d k p l e R s m args below meth c as0 c0 s0 Q pc Lo st h (aInv 0 d pc 3 Lo st h mm) := by
  obtain ⟨y, na, kc, rk⟩ := mm
  unfold aInv
  dsimp only
  split
  · exact trivial
  · rename_i hik
    split
    · rename_i hkc
      split
      · rename_i hc
        obtain ⟨q1, q2⟩ := am_take hc.1
        exact ⟨rfl, rfl, rfl, ix, na, kc, rk, hm, hc.2, Or.inl ⟨hkc, hd, q1, q2⟩⟩
      · exact trivial
    · split
      · rename_i hkc
        split
        · rename_i b rest hb9
          split
          · rename_i hc
            obtain ⟨q1, q2⟩ := am_drop hb9
            rcases hkc with rfl | rfl | rfl | rfl | rfl | rfl | rfl | rfl
            · exact absurd rfl hik
            · exact absurd rfl hik
            · exact absurd rfl hik
            · exact absurd rfl hik
            · exact absurd rfl hik
            · exact absurd rfl hik
            · exact absurd rfl hik
            · exact absurd rfl hik
          · exact trivial
        · exact trivial
      · split
        · rename_i hkc
          subst hkc
          split
          · split
            · rename_i hc
              obtain ⟨c1, c3, c4, c5, c6, c7, c8⟩ := hc
              unfold am_cpk at c1
              simp only [Bool.or_eq_true, Bool.and_eq_true, decide_eq_true_eq] at c1
              rcases c1 with (⟨k1, k2⟩ | ⟨⟨k1, k2⟩, k3⟩) | ⟨⟨k1, k3⟩, k2⟩
              · exact fun _ _ K => sm_copy C (by omega) hd hm c8 k1 k2 c3 c4 c5 c6 c7 K
              · exact fun _ _ K => sm_copyB C (by omega) hd hm c8 k1 k2 (fun i hi => am_all k3 hi) c3 c4 c5 c6 c7 K
              · exact fun _ _ K => sm_copyT C (by omega) hd hm c8 k1 k3 k2 c3 c4 c5 c6 c7 K
            · exact trivial
          · exact trivial
        · split
          · rename_i hkc
            subst hkc
            split
            · split
              · rename_i hc
                exact absurd rfl hik
              · exact trivial
            · exact trivial
          · split
            · rename_i hkc
              subst hkc
              split
              · split
                · rename_i hc
                  exact absurd rfl hik
                · exact trivial
              · exact trivial
            · split
              · rename_i hkc
                split
                · split
                  · rename_i hc
                    rcases hkc with rfl | rfl
                    · exact fun q1 q2 K => sm_max C (by omega) hd hm hc q1 q2 K
                    · exact fun q1 q2 K => sm_min C (by omega) hd hm hc q1 q2 K
                  · exact trivial
                · exact trivial
              · exact trivial

set_option maxHeartbeats 1000000 in
theorem gd_inv1 {ix : Nat} {mm : Nat × Nat × Nat × (Nat × Nat)} (C : am_Cx l D dA ad zz bs Ln xs d k p R s m args meth c) (hd : decode (mB k) pc = .ok (.invokevirtual ix, 3)) (hm : cR (mC k) ix = some mm) : am_Good D dA ad zz bs Ln xs d k p l e R s m args below meth c as0 c0 s0 Q pc Lo st h (aInv 1 d pc 3 Lo st h mm) := by
  obtain ⟨y, na, kc, rk⟩ := mm
  unfold aInv
  dsimp only
  split
  · exact trivial
  · rename_i hik
    split
    · rename_i hkc
      split
      · rename_i hc
        obtain ⟨q1, q2⟩ := am_take hc.1
        rcases hkc with rfl | rfl | rfl <;> exact absurd rfl hik
      · exact trivial
    · split
      · rename_i hkc
        split
        · rename_i b rest hb9
          split
          · rename_i hc
            obtain ⟨q1, q2⟩ := am_drop hb9
            rcases hkc with rfl | rfl | rfl | rfl | rfl | rfl | rfl | rfl
            · exact ⟨rfl, rfl, rfl, ix, na, _, rk, hm, Or.inl hc.2, Or.inr ⟨b, _, rfl, by simp, hd, q1, q2, hc.1⟩⟩
            · exact absurd rfl hik
            · exact absurd rfl hik
            · exact ⟨rfl, rfl, rfl, ix, na, _, rk, hm, Or.inl hc.2, Or.inr ⟨b, _, rfl, by simp, hd, q1, q2, hc.1⟩⟩
            · exact ⟨rfl, rfl, rfl, ix, na, _, rk, hm, Or.inl hc.2, Or.inr ⟨b, _, rfl, by simp, hd, q1, q2, hc.1⟩⟩
            · exact absurd rfl hik
            · exact ⟨rfl, rfl, rfl, ix, na, _, rk, hm, Or.inl hc.2, Or.inr ⟨b, _, rfl, by simp, hd, q1, q2, hc.1⟩⟩
            · exact ⟨rfl, rfl, rfl, ix, na, _, rk, hm, Or.inl hc.2, Or.inr ⟨b, _, rfl, by simp, hd, q1, q2, hc.1⟩⟩
          · exact trivial
        · exact trivial
      · split
        · rename_i hkc
          subst hkc
          split
          · split
            · rename_i hc
              obtain ⟨c1, c3, c4, c5, c6, c7, c8⟩ := hc
              exact absurd rfl hik
            · exact trivial
          · exact trivial
        · split
          · rename_i hkc
            subst hkc
            split
            · split
              · rename_i hc
                exact fun q1 q2 K => sm_clone C (by omega) hd hm hc.2 q1 q2 hc.1.1 (fun e i hi => am_all (hc.1.2.2 e) hi) K
              · exact trivial
            · exact trivial
          · split
            · rename_i hkc
              subst hkc
              split
              · split
                · rename_i hc
                  exact absurd rfl hik
                · exact trivial
              · exact trivial
            · split
              · rename_i hkc
                split
                · split
                  · rename_i hc
                    rcases hkc with rfl | rfl
                    · exact absurd rfl hik
                    · exact absurd rfl hik
                  · exact trivial
                · exact trivial
              · exact trivial

set_option maxHeartbeats 1000000 in
theorem gd_inv2 {ix : Nat} {mm : Nat × Nat × Nat × (Nat × Nat)} (C : am_Cx l D dA ad zz bs Ln xs d k p R s m args meth c) (hd : decode (mB k) pc = .ok (.invokespecial ix, 3)) (hm : cR (mC k) ix = some mm) : am_Good D dA ad zz bs Ln xs d k p l e R s m args below meth c as0 c0 s0 Q pc Lo st h (aInv 2 d pc 3 Lo st h mm) := by
  obtain ⟨y, na, kc, rk⟩ := mm
  unfold aInv
  dsimp only
  split
  · exact trivial
  · rename_i hik
    split
    · rename_i hkc
      split
      · rename_i hc
        obtain ⟨q1, q2⟩ := am_take hc.1
        rcases hkc with rfl | rfl | rfl <;> exact absurd rfl hik
      · exact trivial
    · split
      · rename_i hkc
        split
        · rename_i b rest hb9
          split
          · rename_i hc
            obtain ⟨q1, q2⟩ := am_drop hb9
            rcases hkc with rfl | rfl | rfl | rfl | rfl | rfl | rfl | rfl
            · exact absurd rfl hik
            · exact ⟨rfl, rfl, rfl, ix, na, _, rk, hm, Or.inl hc.2, Or.inr ⟨b, _, rfl, by simp, hd, q1, q2, hc.1⟩⟩
            · exact ⟨rfl, rfl, rfl, ix, na, _, rk, hm, Or.inl hc.2, Or.inr ⟨b, _, rfl, by simp, hd, q1, q2, hc.1⟩⟩
            · exact absurd rfl hik
            · exact absurd rfl hik
            · exact ⟨rfl, rfl, rfl, ix, na, _, rk, hm, Or.inl hc.2, Or.inr ⟨b, _, rfl, by simp, hd, q1, q2, hc.1⟩⟩
            · exact absurd rfl hik
            · exact absurd rfl hik
          · exact trivial
        · exact trivial
      · split
        · rename_i hkc
          subst hkc
          split
          · split
            · rename_i hc
              obtain ⟨c1, c3, c4, c5, c6, c7, c8⟩ := hc
              exact absurd rfl hik
            · exact trivial
          · exact trivial
        · split
          · rename_i hkc
            subst hkc
            split
            · split
              · rename_i hc
                exact absurd rfl hik
              · exact trivial
            · exact trivial
          · split
            · rename_i hkc
              subst hkc
              split
              · split
                · rename_i hc
                  exact fun _ _ K => sm_objinit C (by omega) hd hm hc K
                · exact trivial
              · exact trivial
            · split
              · rename_i hkc
                split
                · split
                  · rename_i hc
                    rcases hkc with rfl | rfl
                    · exact absurd rfl hik
                    · exact absurd rfl hik
                  · exact trivial
                · exact trivial
              · exact trivial

set_option maxHeartbeats 4000000 in
set_option maxRecDepth 100000 in
theorem am_one_good (C : am_Cx l D dA ad zz bs Ln xs d k p R s m args meth c) : am_Good D dA ad zz bs Ln xs d k p l e R s m args below meth c as0 c0 s0 Q pc Lo st h (aOne d k pc Lo st h) := by
  unfold aOne
  split
  · rename_i i n hd
    split
    · rename_i hil
      cases i with
      | aconst_null => 
        have hn : n = 1 := eq_of_beq hil
        subst hn
        dsimp only
        exact fun _ _ K => sm_null C hd K
      | iconst z => 
        have hn : n = 1 := eq_of_beq hil
        subst hn
        dsimp only
        exact fun _ _ K => sm_iconst C hd K
      | bipush z => 
        have hn : n = 2 := eq_of_beq hil
        subst hn
        dsimp only
        exact fun _ _ K => sm_bipush C hd K
      | sipush z => 
        have hn : n = 3 := eq_of_beq hil
        subst hn
        dsimp only
        exact fun _ _ K => sm_sipush C hd K
      | lconst z => 
        have hn : n = 1 := eq_of_beq hil
        subst hn
        dsimp only
        exact fun _ _ K => sm_lconst C hd K
      | dconst z => 
        have hn : n = 1 := eq_of_beq hil
        subst hn
        dsimp only
        split
        · rename_i hz
          subst hz
          exact fun _ _ K => sm_dconst0 C hd K
        · exact trivial
      | ldc ix => 
        have hn : n = 2 := eq_of_beq hil
        subst hn
        dsimp only
        split
        · rename_i v hv
          exact fun _ _ K => sm_ldcS C hd hv K
        · rename_i v hv
          exact fun _ _ K => sm_ldcI C hd hv K
        · exact trivial
      | dup2 => 
        have hn : n = 1 := eq_of_beq hil
        subst hn
        dsimp only
        split
        · exact fun _ _ K => sm_dup2 C hd K
        · exact trivial
      | checkcast ix => 
        have hn : n = 3 := eq_of_beq hil
        subst hn
        dsimp only
        split
        · rename_i t a st1 hv
          split
          · rename_i hk
            exact fun _ _ K => sm_cast C hd hv hk K
          · exact trivial
        · exact trivial
      | ldc2_w ix => 
        have hn : n = 3 := eq_of_beq hil
        subst hn
        dsimp only
        split
        · rename_i v hv
          exact fun _ _ K => sm_ldc2 C hd hv K
        · exact trivial
      | iload_n j => 
        have hn : n = 1 := eq_of_beq hil
        subst hn
        dsimp only
        split
        · rename_i x hl
          exact fun _ _ K => sm_iload_n C hd hl K
        · exact trivial
      | iload j => 
        have hn : n = 2 := eq_of_beq hil
        subst hn
        dsimp only
        split
        · rename_i x hl
          exact fun _ _ K => sm_iload C hd hl K
        · exact trivial
      | lload_n j => 
        have hn : n = 1 := eq_of_beq hil
        subst hn
        dsimp only
        split
        · rename_i x hl
          exact fun _ _ K => sm_lload_n C hd hl K
        · exact trivial
      | lload j => 
        have hn : n = 2 := eq_of_beq hil
        subst hn
        dsimp only
        split
        · rename_i x hl
          exact fun _ _ K => sm_lload C hd hl K
        · exact trivial
      | dload j => 
        have hn : n = 2 := eq_of_beq hil
        subst hn
        dsimp only
        split
        · rename_i x hl
          exact fun _ _ K => sm_dload C hd hl K
        · exact trivial
      | aload_n j => 
        have hn : n = 1 := eq_of_beq hil
        subst hn
        dsimp only
        split
        · rename_i v hl
          split
          · rename_i hv
            exact fun _ _ K => sm_aload_n C hd hl hv K
          · exact trivial
        · exact trivial
      | aload j => 
        have hn : n = 2 := eq_of_beq hil
        subst hn
        dsimp only
        split
        · rename_i v hl
          split
          · rename_i hv
            exact fun _ _ K => sm_aload C hd hl hv K
          · exact trivial
        · exact trivial
      | istore_n j => 
        have hn : n = 1 := eq_of_beq hil
        subst hn
        dsimp only
        split
        · rename_i x st1
          split
          · rename_i hj
            exact fun _ _ K => sm_istore_n C hd hj K
          · exact trivial
        · exact trivial
      | istore j => 
        have hn : n = 2 := eq_of_beq hil
        subst hn
        dsimp only
        split
        · rename_i x st1
          split
          · rename_i hj
            exact fun _ _ K => sm_istore C hd hj K
          · exact trivial
        · exact trivial
      | lstore_n j => 
        have hn : n = 1 := eq_of_beq hil
        subst hn
        dsimp only
        split
        · rename_i x st1
          split
          · rename_i hj
            exact fun _ _ K => sm_lstore_n C hd hj.1 hj.2 K
          · exact trivial
        · exact trivial
      | lstore j => 
        have hn : n = 2 := eq_of_beq hil
        subst hn
        dsimp only
        split
        · rename_i x st1
          split
          · rename_i hj
            exact fun _ _ K => sm_lstore C hd hj.1 hj.2 K
          · exact trivial
        · exact trivial
      | dstore j => 
        have hn : n = 2 := eq_of_beq hil
        subst hn
        dsimp only
        split
        · rename_i x st1
          split
          · rename_i hj
            exact fun _ _ K => sm_dstore C hd hj.1 hj.2 K
          · exact trivial
        · exact trivial
      | astore_n j => 
        have hn : n = 1 := eq_of_beq hil
        subst hn
        dsimp only
        split
        · rename_i v st1
          split
          · rename_i hj
            exact fun _ _ K => sm_astore_n C hd hj.1 hj.2 K
          · exact trivial
        · exact trivial
      | astore j => 
        have hn : n = 2 := eq_of_beq hil
        subst hn
        dsimp only
        split
        · rename_i v st1
          split
          · rename_i hj
            exact fun _ _ K => sm_astore C hd hj.1 hj.2 K
          · exact trivial
        · exact trivial
      | iinc j z => 
        have hn : n = 3 := eq_of_beq hil
        subst hn
        dsimp only
        split
        · rename_i x hl
          split
          · rename_i hj
            exact fun _ _ K => sm_iinc C hd hl hj K
          · exact trivial
        · exact trivial
      | dup => 
        have hn : n = 1 := eq_of_beq hil
        subst hn
        dsimp only
        split
        · exact fun _ _ K => sm_dupi C hd K
        · exact fun _ _ K => sm_dupr C hd K
        · exact trivial
      | pop => 
        have hn : n = 1 := eq_of_beq hil
        subst hn
        dsimp only
        split
        · exact fun _ _ K => sm_popi C hd K
        · exact fun _ _ K => sm_popr C hd K
        · exact trivial
      | iadd => 
        have hn : n = 1 := eq_of_beq hil
        subst hn
        dsimp only
        split
        · exact fun _ _ K => sm_iadd C hd K
        · exact trivial
      | isub => 
        have hn : n = 1 := eq_of_beq hil
        subst hn
        dsimp only
        split
        · exact fun _ _ K => sm_isub C hd K
        · exact trivial
      | imul => 
        have hn : n = 1 := eq_of_beq hil
        subst hn
        dsimp only
        split
        · exact fun _ _ K => sm_imul C hd K
        · exact trivial
      | iand => 
        have hn : n = 1 := eq_of_beq hil
        subst hn
        dsimp only
        split
        · exact fun _ _ K => sm_iand C hd K
        · exact trivial
      | ior => 
        have hn : n = 1 := eq_of_beq hil
        subst hn
        dsimp only
        split
        · exact fun _ _ K => sm_ior C hd K
        · exact trivial
      | ineg => 
        have hn : n = 1 := eq_of_beq hil
        subst hn
        dsimp only
        split
        · exact fun _ _ K => sm_ineg C hd K
        · exact trivial
      | ishl => 
        have hn : n = 1 := eq_of_beq hil
        subst hn
        dsimp only
        split
        · exact fun _ _ K => sm_ishl C hd K
        · exact trivial
      | ishr => 
        have hn : n = 1 := eq_of_beq hil
        subst hn
        dsimp only
        split
        · exact fun _ _ K => sm_ishr C hd K
        · exact trivial
      | iushr => 
        have hn : n = 1 := eq_of_beq hil
        subst hn
        dsimp only
        split
        · exact fun _ _ K => sm_iushr C hd K
        · exact trivial
      | ladd => 
        have hn : n = 1 := eq_of_beq hil
        subst hn
        dsimp only
        split
        · exact fun _ _ K => sm_ladd C hd K
        · exact trivial
      | lmul => 
        have hn : n = 1 := eq_of_beq hil
        subst hn
        dsimp only
        split
        · exact fun _ _ K => sm_lmul C hd K
        · exact trivial
      | lcmp => 
        have hn : n = 1 := eq_of_beq hil
        subst hn
        dsimp only
        split
        · exact fun _ _ K => sm_lcmp C hd K
        · exact trivial
      | i2l => 
        have hn : n = 1 := eq_of_beq hil
        subst hn
        dsimp only
        split
        · exact fun _ _ K => sm_i2l C hd K
        · exact trivial
      | l2i => 
        have hn : n = 1 := eq_of_beq hil
        subst hn
        dsimp only
        split
        · exact fun _ _ K => sm_l2i C hd K
        · exact trivial
      | i2b => 
        have hn : n = 1 := eq_of_beq hil
        subst hn
        dsimp only
        split
        · exact fun _ _ K => sm_i2b C hd K
        · exact trivial
      | i2c => 
        have hn : n = 1 := eq_of_beq hil
        subst hn
        dsimp only
        split
        · exact fun _ _ K => sm_i2c C hd K
        · exact trivial
      | i2d => 
        have hn : n = 1 := eq_of_beq hil
        subst hn
        dsimp only
        split
        · exact fun _ _ K => sm_i2d C hd K
        · exact trivial
      | idiv => 
        have hn : n = 1 := eq_of_beq hil
        subst hn
        dsimp only
        split
        · split
          · exact trivial
          · rename_i hy
            exact fun _ _ K => sm_idiv C hd hy K
        · exact trivial
      | irem => 
        have hn : n = 1 := eq_of_beq hil
        subst hn
        dsimp only
        split
        · split
          · exact trivial
          · rename_i hy
            exact fun _ _ K => sm_irem C hd hy K
        · exact trivial
      | ddiv => 
        have hn : n = 1 := eq_of_beq hil
        subst hn
        dsimp only
        split
        · split
          · rename_i hy
            exact fun _ _ K => sm_ddiv C hd hy K
          · exact trivial
        · exact trivial
      | dcmp op => 
        have hn : n = 1 := eq_of_beq hil
        subst hn
        dsimp only
        split
        · exact fun _ _ K => sm_dcmp C hd K
        · exact trivial
      | goto off => 
        have hn : n = 3 := eq_of_beq hil
        subst hn
        dsimp only
        split
        · rename_i t ht
          exact fun _ _ K => sm_goto C hd ht K
        · exact trivial
      | ifCond cnd off => 
        have hn : n = 3 := eq_of_beq hil
        subst hn
        dsimp only
        split
        · cases cnd with
          | eq =>
            dsimp only
            unfold aIf
            split
            · rename_i t ht
              split
              · rename_i hq
                exact fun _ _ K => sm_if_eq C hd ht (fun _ => K) (fun z => absurd hq z)
              · rename_i hq
                exact fun _ _ K => sm_if_eq C hd ht (fun z => absurd z hq) (fun _ => K)
            · exact trivial
          | ne =>
            dsimp only
            unfold aIf
            split
            · rename_i t ht
              split
              · rename_i hq
                exact fun _ _ K => sm_if_ne C hd ht (fun _ => K) (fun z => absurd hq z)
              · rename_i hq
                exact fun _ _ K => sm_if_ne C hd ht (fun z => absurd z hq) (fun _ => K)
            · exact trivial
          | lt =>
            dsimp only
            unfold aIf
            split
            · rename_i t ht
              split
              · rename_i hq
                exact fun _ _ K => sm_if_lt C hd ht (fun _ => K) (fun z => absurd hq z)
              · rename_i hq
                exact fun _ _ K => sm_if_lt C hd ht (fun z => absurd z hq) (fun _ => K)
            · exact trivial
          | ge =>
            dsimp only
            unfold aIf
            split
            · rename_i t ht
              split
              · rename_i hq
                exact fun _ _ K => sm_if_ge C hd ht (fun _ => K) (fun z => absurd hq z)
              · rename_i hq
                exact fun _ _ K => sm_if_ge C hd ht (fun z => absurd z hq) (fun _ => K)
            · exact trivial
          | gt =>
            dsimp only
            unfold aIf
            split
            · rename_i t ht
              split
              · rename_i hq
                exact fun _ _ K => sm_if_gt C hd ht (fun _ => K) (fun z => absurd hq z)
              · rename_i hq
                exact fun _ _ K => sm_if_gt C hd ht (fun z => absurd z hq) (fun _ => K)
            · exact trivial
          | le =>
            dsimp only
            unfold aIf
            split
            · rename_i t ht
              split
              · rename_i hq
                exact fun _ _ K => sm_if_le C hd ht (fun _ => K) (fun z => absurd hq z)
              · rename_i hq
                exact fun _ _ K => sm_if_le C hd ht (fun z => absurd z hq) (fun _ => K)
            · exact trivial
        · exact trivial
      | if_icmp cnd off => 
        have hn : n = 3 := eq_of_beq hil
        subst hn
        dsimp only
        split
        · cases cnd with
          | eq =>
            dsimp only
            unfold aIf
            split
            · rename_i t ht
              split
              · rename_i hq
                exact fun _ _ K => sm_icmp_eq C hd ht (fun _ => K) (fun z => absurd hq z)
              · rename_i hq
                exact fun _ _ K => sm_icmp_eq C hd ht (fun z => absurd z hq) (fun _ => K)
            · exact trivial
          | ne =>
            dsimp only
            unfold aIf
            split
            · rename_i t ht
              split
              · rename_i hq
                exact fun _ _ K => sm_icmp_ne C hd ht (fun _ => K) (fun z => absurd hq z)
              · rename_i hq
                exact fun _ _ K => sm_icmp_ne C hd ht (fun z => absurd z hq) (fun _ => K)
            · exact trivial
          | lt =>
            dsimp only
            unfold aIf
            split
            · rename_i t ht
              split
              · rename_i hq
                exact fun _ _ K => sm_icmp_lt C hd ht (fun _ => K) (fun z => absurd hq z)
              · rename_i hq
                exact fun _ _ K => sm_icmp_lt C hd ht (fun z => absurd z hq) (fun _ => K)
            · exact trivial
          | ge =>
            dsimp only
            unfold aIf
            split
            · rename_i t ht
              split
              · rename_i hq
                exact fun _ _ K => sm_icmp_ge C hd ht (fun _ => K) (fun z => absurd hq z)
              · rename_i hq
                exact fun _ _ K => sm_icmp_ge C hd ht (fun z => absurd z hq) (fun _ => K)
            · exact trivial
          | gt =>
            dsimp only
            unfold aIf
            split
            · rename_i t ht
              split
              · rename_i hq
                exact fun _ _ K => sm_icmp_gt C hd ht (fun _ => K) (fun z => absurd hq z)
              · rename_i hq
                exact fun _ _ K => sm_icmp_gt C hd ht (fun z => absurd z hq) (fun _ => K)
            · exact trivial
          | le =>
            dsimp only
            unfold aIf
            split
            · rename_i t ht
              split
              · rename_i hq
                exact fun _ _ K => sm_icmp_le C hd ht (fun _ => K) (fun z => absurd hq z)
              · rename_i hq
                exact fun _ _ K => sm_icmp_le C hd ht (fun z => absurd z hq) (fun _ => K)
            · exact trivial
        · exact trivial
      | if_acmp cnd off => 
        have hn : n = 3 := eq_of_beq hil
        subst hn
        dsimp only
        split
        · rename_i y x st1
          split
          · rename_i hxy
            cases cnd with
            | eq =>
              dsimp only
              unfold aIf
              split
              · rename_i t ht
                split
                · rename_i hq
                  exact fun _ _ K => sm_acmp_eq C hd hxy ht (fun _ => K) (fun z => absurd hq z)
                · rename_i hq
                  exact fun _ _ K => sm_acmp_eq C hd hxy ht (fun z => absurd z hq) (fun _ => K)
              · exact trivial
            | ne =>
              dsimp only
              unfold aIf
              split
              · rename_i t ht
                split
                · rename_i hq
                  exact fun _ _ K => sm_acmp_ne C hd hxy ht (fun _ => K) (fun z => absurd z hq)
                · rename_i hq
                  exact fun _ _ K => sm_acmp_ne C hd hxy ht (fun z => absurd z hq) (fun _ => K)
              · exact trivial
          · exact trivial
        · exact trivial
      | ifnull off => 
        have hn : n = 3 := eq_of_beq hil
        subst hn
        dsimp only
        split
        · exact fun _ _ K => sm_ifnullR C hd K
        · split
          · rename_i t ht
            exact fun _ _ K => sm_ifnullN (a := 0) C hd ht K
          · exact trivial
        · exact trivial
      | ifnonnull off => 
        have hn : n = 3 := eq_of_beq hil
        subst hn
        dsimp only
        split
        · exact fun _ _ K => sm_ifnonnullN (a := 0) C hd K
        · split
          · rename_i t ht
            exact fun _ _ K => sm_ifnonnullR C hd ht K
          · exact trivial
        · exact trivial
      | tableswitch df lo hi offs => 
        dsimp only
        split
        · split
          · rename_i hq
            split
            · rename_i t ht
              exact fun _ _ K => sm_tableOut C hd hq ht K
            · exact trivial
          · rename_i hq
            split
            · rename_i off ho
              split
              · rename_i t ht
                exact fun _ _ K => sm_tableIn C hd hq ho ht K
              · exact trivial
            · exact trivial
        · exact trivial
      | getfield ix => 
        have hn : n = 3 := eq_of_beq hil
        subst hn
        dsimp only
        split
        · rename_i kk j t a st1 hf
          split
          · rename_i hk
            split
            · rename_i ht
              rcases ht with rfl | rfl <;> exact fun _ _ K => sm_getf C hd hf hk K
            · split
              · rename_i ht
                subst ht
                exact fun _ _ K => sm_getf C hd hf hk K
              · split
                · rename_i ht
                  subst ht
                  exact fun _ _ K => sm_getf C hd hf hk K
                · exact trivial
          · exact trivial
        · exact trivial
      | putfield ix => 
        have hn : n = 3 := eq_of_beq hil
        subst hn
        dsimp only
        split
        · rename_i kk j t v a st1 hf
          split
          · rename_i hk
            obtain ⟨hk1, hk2, hpf⟩ := hk
            obtain ⟨kk1, kk2⟩ := kk
            dsimp only at hk2
            subst hk2
            split
            · split
              · rename_i ht
                rcases ht with rfl | ⟨rfl, hby⟩
                · exact fun _ _ K => sm_putI C hd hf hk1 hpf K
                · exact fun _ _ K => sm_putB C hd hf hk1 hpf hby K
              · exact trivial
            · split
              · rename_i ht
                subst ht
                exact fun _ _ K => sm_putJ C hd hf hk1 hpf K
              · exact trivial
            · split
              · rename_i ht
                subst ht
                exact fun _ _ K => sm_putR C hd hf hk1 hpf K
              · exact trivial
            · exact trivial
          · exact trivial
        · exact trivial
      | getstatic ix => 
        have hn : n = 3 := eq_of_beq hil
        subst hn
        dsimp only
        split
        · rename_i v hv
          exact fun _ _ K => sm_getstatic C hd hv K
        · exact trivial
      | arraylength => 
        have hn : n = 1 := eq_of_beq hil
        subst hn
        dsimp only
        split
        · split
          · rename_i hk
            exact fun _ _ K => sm_alen C hd hk K
          · exact trivial
        · exact trivial
      | iaload => 
        have hn : n = 1 := eq_of_beq hil
        subst hn
        dsimp only
        split
        · split
          · rename_i hk
            exact fun _ _ K => sm_iald C hd hk.1 hk.2 K
          · exact trivial
        · exact trivial
      | baload => 
        have hn : n = 1 := eq_of_beq hil
        subst hn
        dsimp only
        split
        · split
          · rename_i hk
            exact fun _ _ K => sm_bald C hd hk.1 hk.2 K
          · exact trivial
        · exact trivial
      | laload => 
        have hn : n = 1 := eq_of_beq hil
        subst hn
        dsimp only
        split
        · split
          · rename_i hk
            exact fun _ _ K => sm_lald C hd hk.1 hk.2 K
          · exact trivial
        · exact trivial
      | aaload => 
        have hn : n = 1 := eq_of_beq hil
        subst hn
        dsimp only
        split
        · split
          · rename_i hk
            exact fun _ _ K => sm_aald C hd hk.1 hk.2 K
          · exact trivial
        · exact trivial
      | iastore => 
        have hn : n = 1 := eq_of_beq hil
        subst hn
        dsimp only
        split
        · split
          · rename_i hk
            exact fun _ _ K => sm_iast C hd hk.1 hk.2 K
          · exact trivial
        · exact trivial
      | lastore => 
        have hn : n = 1 := eq_of_beq hil
        subst hn
        dsimp only
        split
        · split
          · rename_i hk
            exact fun _ _ K => sm_last C hd hk.1 hk.2 K
          · exact trivial
        · exact trivial
      | bastore => 
        have hn : n = 1 := eq_of_beq hil
        subst hn
        dsimp only
        split
        · split
          · rename_i hk
            exact fun _ _ K => sm_bast C hd hk.1 hk.2 K
          · split
            · rename_i hk
              exact fun _ _ K => sm_zast C hd hk.1.1 hk.1.2 hk.2 K
            · exact trivial
        · exact trivial
      | aastore => 
        have hn : n = 1 := eq_of_beq hil
        subst hn
        dsimp only
        split
        · split
          · rename_i hk
            exact fun _ _ K => sm_aast C hd hk.2 hk.1 K
          · exact trivial
        · exact trivial
      | newarray t => 
        have hn : n = 2 := eq_of_beq hil
        subst hn
        dsimp only
        cases t with
        | int =>
          dsimp only
          unfold aNewA
          split
          · split
            · rename_i hz
              exact fun q1 q2 K => sm_newarray (Or.inl ⟨rfl, rfl⟩) C hd hz.1 hz.2 q1 q2 K
            · exact trivial
          · exact trivial
        | long =>
          dsimp only
          unfold aNewA
          split
          · split
            · rename_i hz
              exact fun q1 q2 K => sm_newarray (Or.inr (Or.inl ⟨rfl, rfl⟩)) C hd hz.1 hz.2 q1 q2 K
            · exact trivial
          · exact trivial
        | byte =>
          dsimp only
          unfold aNewA
          split
          · split
            · rename_i hz
              exact fun q1 q2 K => sm_newarray (Or.inr (Or.inr (Or.inl ⟨rfl, rfl⟩))) C hd hz.1 hz.2 q1 q2 K
            · exact trivial
          · exact trivial
        | boolean =>
          dsimp only
          unfold aNewA
          split
          · split
            · rename_i hz
              exact fun q1 q2 K => sm_newarray (Or.inr (Or.inr (Or.inr ⟨rfl, rfl⟩))) C hd hz.1 hz.2 q1 q2 K
            · exact trivial
          · exact trivial
        | _ => exact trivial
      | anewarray ix => 
        have hn : n = 3 := eq_of_beq hil
        subst hn
        dsimp only
        split
        · rename_i t ht
          unfold aNewA
          split
          · split
            · rename_i hz
              exact fun q1 q2 K => sm_anewarray C hd ht hz.1 hz.2 q1 q2 K
            · exact trivial
          · exact trivial
        · exact trivial
      | new ix => 
        have hn : n = 3 := eq_of_beq hil
        subst hn
        dsimp only
        split
        · rename_i E ht
          split
          · rename_i hq
            exact fun _ _ hE => fun as H locs ls hX hW hS hL hVL hVS hc hs => hE.2.1 pc ix E ls H locs as st h hd ht rfl rfl hq.1 hq.2 hX hW hS hL.1 hc hs
          · exact trivial
        · split
          · rename_i ci N hn
            exact fun q1 q2 K => sm_new C hd hn q1 q2 K
          · exact trivial
      | invokestatic ix => 
        have hn : n = 3 := eq_of_beq hil
        subst hn
        dsimp only
        split
        · rename_i mm hm
          exact gd_inv0 C hd hm
        · exact trivial
      | invokevirtual ix => 
        have hn : n = 3 := eq_of_beq hil
        subst hn
        dsimp only
        split
        · rename_i mm hm
          exact gd_inv1 C hd hm
        · exact trivial
      | invokespecial ix => 
        have hn : n = 3 := eq_of_beq hil
        subst hn
        dsimp only
        split
        · rename_i mm hm
          exact gd_inv2 C hd hm
        · exact trivial
      | ireturn => 
        have hn : n = 1 := eq_of_beq hil
        subst hn
        dsimp only
        split
        · split
          · rename_i w hw
            have hw2 := am_nar_eq hw
            subst hw2
            exact fun _ _ hE => fun as H locs ls hX hW hS hL hVL hVS hc hs => hE.1 pc ls H locs as _ _ _ hd (Or.inl ⟨rfl, _, rfl, rfl, hw⟩) rfl hX hW hS hVS hc hs
          · exact trivial
        · exact trivial
      | lreturn => 
        have hn : n = 1 := eq_of_beq hil
        subst hn
        dsimp only
        split
        · split
          · rename_i hr
            exact fun _ _ hE => fun as H locs ls hX hW hS hL hVL hVS hc hs => hE.1 pc ls H locs as _ _ _ hd (Or.inr (Or.inl ⟨rfl, _, rfl, rfl, hr⟩)) rfl hX hW hS hVS hc hs
          · exact trivial
        · exact trivial
      | dreturn => 
        have hn : n = 1 := eq_of_beq hil
        subst hn
        dsimp only
        split
        · split
          · rename_i hr
            exact fun _ _ hE => fun as H locs ls hX hW hS hL hVL hVS hc hs => hE.1 pc ls H locs as _ _ _ hd (Or.inr (Or.inr (Or.inl ⟨rfl, _, rfl, rfl, hr⟩))) rfl hX hW hS hVS hc hs
          · exact trivial
        · exact trivial
      | areturn => 
        have hn : n = 1 := eq_of_beq hil
        subst hn
        dsimp only
        split
        · split
          · rename_i hr
            exact fun _ _ hE => fun as H locs ls hX hW hS hL hVL hVS hc hs => hE.1 pc ls H locs as _ _ _ hd (Or.inr (Or.inr (Or.inr (Or.inl ⟨rfl, _, rfl, rfl, Or.inr ⟨_, rfl⟩, hr⟩)))) rfl hX hW hS hVS hc hs
          · exact trivial
        · split
          · rename_i hr
            exact fun _ _ hE => fun as H locs ls hX hW hS hL hVL hVS hc hs => hE.1 pc ls H locs as _ _ _ hd (Or.inr (Or.inr (Or.inr (Or.inl ⟨rfl, _, rfl, rfl, Or.inl rfl, hr⟩)))) rfl hX hW hS hVS hc hs
          · exact trivial
        · exact trivial
      | return_ => 
        have hn : n = 1 := eq_of_beq hil
        subst hn
        dsimp only
        split
        · split
          · rename_i hr
            exact fun _ _ hE => fun as H locs ls hX hW hS hL hVL hVS hc hs => hE.1 pc ls H locs as _ _ _ hd (Or.inr (Or.inr (Or.inr (Or.inr ⟨rfl, rfl, rfl, hr⟩)))) rfl hX hW hS hVS hc hs
          · exact trivial
        · exact trivial
      | _ => exact trivial
    · exact trivial
  · exact trivial
end BODY
