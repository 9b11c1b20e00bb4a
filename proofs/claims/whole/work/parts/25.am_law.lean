theorem room_slots : 3000000 ≤ room_1.slots := by decide
theorem room_cells : 100000 ≤ room_1.cells := by decide
/-- the law's end: 1 on the stack, in its room -/
theorem am_law_ends {D : va_G} {dA : Nat → ClassId} {ad : Nat → Nat} {zz : Value} {Ln : Nat} {xs : Nat → Int32} {d : Nat} {p : Program} {l : Launch} {e : Env} {s : State} {m : MethodId} {below : List Frame} {meth : Method} {c : Code} {b : Nat} {h' : AH}
    (hx : p.tables.exec = Jvm.exec) (hb : c.code = code) (hr : meth.sig.returnType = ret) (hlocks : meth.locks = false) (hc : nc h' ≤ 100000) (hn : ns h' ≤ room_1.slots) :
    am_Ends D dA ad zz s.heap.size Ln xs d 264 p l e room_1 s m #[Value.ref b] below meth c [] 0 0 (lw_Z below #[Value.ref b] s) (.inl (some (.int 1))) h' := by
  refine ⟨?_, ?_, ?_⟩
  · intro pc ls H locs as i st v hd hR ho hX hW hS hVS hc9 hs9
    cases ho
    rcases hR with ⟨rfl, x, rfl, hv, hn9⟩ | ⟨rfl, x, rfl, hv, hm⟩ | ⟨rfl, x, rfl, hv, hm⟩ | ⟨rfl, x, rfl, hv, hx9, hm⟩ | ⟨rfl, rfl, hv, hm⟩
    · cases hv
      refine va_forget (fun q hq => hS.2.2 q hq) (W.widen (k := room_1.cells) (n := room_1.slots) (by have := room_cells; omega) (by omega) ?_)
      exact W.base (lw_ret (Drawn.sameBut.refl s.drawn lw_cs) hx hb hr hlocks hd)
    · cases hv
    · cases hv
    · cases hv
      rcases hx9 with h | ⟨a, h⟩ <;> cases h
    · cases hv
  · intro pc ix E ls H locs as st h1 hd ht ho
    cases ho
  · intro pc E ls H locs as rest q ce hm ho
    cases ho
theorem am_mB_law : mB 264 = code := rfl
/-- the claim's start, out of the abstract machine's run of the law -/
theorem am_law {f : Nat} {h' : AH} {p : Program} {e : Env} {s : State} {m : MethodId} {below : List Frame} {meth : Method} {c : Code} (l : Launch) (hflags : l.flags = flags0) {b L : Nat} {xs : Nat → Int32} (hL : L ≤ 3072) (C0 : lw_At p s m meth c b L xs)
    (hex : exec f 2000 264 0 (padL 9 [some (.ref 53)]) [] (am_h0 L xs) = some (.inl (some (.int 1)), h')) (hnc : nc h' ≤ 100000) (hns : ns h' ≤ 3000000) :
    W p l e room_1 s m #[Value.ref b] below meth c s.heap [] 0 0 (lw_Z below #[Value.ref b] s) (entryFrame m ([Value.ref b] : List Value).toArray 9) := by
  obtain ⟨hx, hb, hr, hml, hown, hT, hX, hbl, hlk, hgv⟩ := C0
  have hN : ∀ w ∈ am_nl, w.before #[Value.ref b] s = true := flat_of_before _ hgv
  obtain ⟨D, dA, hK⟩ := am_aK hT
  obtain ⟨⟨zz, hzz, hz⟩, hu1, hu2⟩ := am_aZ hT hN
  have hCF := am_aC hT hN rfl hL hX hz
  have htr : l.stackTraces = false := by
    first | (rw [Launch.stackTraces, hflags]; rfl) | (simp [Launch.stackTraces, hflags, flags0]; done)
  have hC : am_Cx l D dA (am_ads #[Value.ref b] s b) zz s.heap.size L xs 2000 264 p room_1 s m #[Value.ref b] meth c :=
    ⟨hx, by rw [am_mB_law]; exact hb, hml, hr, hlk, hown, htr, fun q => absurd q (by decide +kernel), Or.inl (by decide +kernel), ⟨by decide, by decide⟩, am_aV hT hN b, hK, hCF, ⟨Nat.le_refl _, by omega⟩, hzz, am_inj hN b, fun n hn => am_adb hN rfl hbl hn, hu1, hu2⟩
  have hE := am_law_ends (D := D) (dA := dA) (ad := am_ads #[Value.ref b] s b) (zz := zz) (Ln := L) (xs := xs) (d := 2000) (p := p) (l := l) (e := e) (s := s) (m := m) (below := below) (meth := meth) (c := c) (b := b) (h' := h') hx hb hr hlk hnc (Nat.le_trans hns room_slots)
  have hSim := am_body f l D dA (am_ads #[Value.ref b] s b) zz s.heap.size L xs 2000 264 p e room_1 s m #[Value.ref b] below meth c [] 0 0 _ 0 _ [] (am_h0 L xs) _ h' hC hE (by have := room_cells; show nc h' ≤ room_1.cells + 0; omega) (by show ns h' ≤ room_1.slots + 0; have := room_slots; omega) hex
  have hent := am_entry (W := mW 264) (f := am_cv (am_ads #[Value.ref b] s b) zz []) (am_cat (am_zcat hzz)) (av := [Value.ref 53]) (n := 9) (by decide)
  have hb53 : am_phi (am_ads #[Value.ref b] s b) [] 53 = b := by
    unfold am_phi
    rw [if_pos (by decide)]
    exact am_s53 rfl (by decide +kernel)
  have he : ([Value.ref 53].map (am_cv (am_ads #[Value.ref b] s b) zz [])) = [Value.ref b] := by
    show [Value.ref (am_phi (am_ads #[Value.ref b] s b) [] 53)] = _
    rw [hb53]
  have hV : am_VL (nx (am_h0 L xs)) (padL 9 (mkL (mW 264) 0 [Value.ref 53])) := am_entry_V (fun v hv => by
    cases List.mem_singleton.mp hv
    show 53 < 200
    decide)
  rw [he] at hent
  rw [lg_entry_eq]
  exact hSim [] s.heap [] _ ⟨[], rfl⟩ am_aH va_S.rf hent hV (fun v hv => by cases hv) (Nat.zero_le _) (Nat.zero_le _)
