/-! HOW A METHOD ENDS: what each end owes; throws and their catching. -/
def am_Ret (k : Nat) (i : Instr) (st : List Value) (v : Option Value) : Prop :=
  (i = .ireturn ∧ ∃ x, st = [.int x] ∧ v = some (.int x) ∧ am_nar (mR k) x = some x) ∨ (i = .lreturn ∧ ∃ x, st = [.long x] ∧ v = some (.long x) ∧ mR k = 2) ∨ (i = .dreturn ∧ ∃ x, st = [.double x] ∧ v = some (.double x) ∧ mR k = 3) ∨
  (i = .areturn ∧ ∃ x, st = [x] ∧ v = some x ∧ (x = .null ∨ ∃ a, x = .ref a) ∧ mR k = 4) ∨ (i = .return_ ∧ st = [] ∧ v = none ∧ mR k = 0)
def am_Ends (D : va_G) (dA : Nat → ClassId) (ad : Nat → Nat) (zz : Value) (bs Ln : Nat) (xs : Nat → Int32) (d k : Nat) (p : Program) (l : Launch) (e : Env) (R : Room) (s : State) (m : MethodId) (args : Array Value) (below : List Frame) (meth : Method) (c : Code) (as0 : List Nat) (c0 s0 : Nat) (Q : State → Prop) (o : AO) (h' : AH) : Prop :=
  (∀ (pc : Nat) (ls : Array Slot) (H : Heap) (locs : List Loc) (as : List Nat) (i : Instr) (st : List Value) (v : Option Value), decode (mB k) pc = .ok (i, 1) → am_Ret k i st v → o = .inl v → (∃ t9, as = as0 ++ t9) → am_WS D dA ad bs Ln xs as h' H → va_S (am_A bs) s.heap H locs → am_VS (nx h') st → c0 ≤ nc h' → s0 ≤ ns h' →
    W p l e R s m args below meth c H locs (nc h' - c0) (ns h' - s0) Q (F0 m pc ls (st.map (am_cv ad zz as)))) ∧
  (∀ (pc ix E : Nat) (ls : Array Slot) (H : Heap) (locs : List Loc) (as : List Nat) (st : List Value) (h1 : AH), decode (mB k) pc = .ok (.new ix, 3) → tR k pc = some E → o = .inr E → h' = bump h1 1 6 → 10 ≤ d → st.length ≤ 4 → (∃ t9, as = as0 ++ t9) → am_WS D dA ad bs Ln xs as h1 H → va_S (am_A bs) s.heap H locs → ls.size = mL k → c0 ≤ nc h1 → s0 ≤ ns h1 →
    W p l e R s m args below meth c H locs (nc h1 - c0) (ns h1 - s0) Q (F0 m pc ls (st.map (am_cv ad zz as)))) ∧
  (∀ (pc E : Nat) (ls : Array Slot) (H : Heap) (locs : List Loc) (as : List Nat) (rest : List Value) (q : Addr) (ce : Cell), mH k = [] → o = .inr E → (∃ t9, as = as0 ++ t9) → am_WS D dA ad bs Ln xs as h' H → va_S (am_A bs) s.heap H locs → H[q]? = some ce → ce.vm = .none → s.vm.findClass (exNm E) = some ce.cls → c0 ≤ nc h' → s0 ≤ ns h' →
    vx_W p l e R s m args below meth c H locs (nc h' - c0) (ns h' - s0) Q (F0 m pc ls rest) q)
/-! the throw sites -/
def am_nms : List String := ["java/lang/RuntimeException", "java/lang/Exception"]
def am_tok (e : (Nat × Nat) × Nat × Nat × Nat × Nat) : Bool :=
  let k := e.1.1; let pc := e.1.2; let E := e.2.1; let ik := e.2.2.1; let ii := e.2.2.2.1; let ic := e.2.2.2.2
  decide (decode (mB k) pc = .ok (.new ik, 3)) && decide (decode (mB k) (pc + 3) = .ok (.dup, 1)) && decide (decode (mB k) (pc + 4) = .ok (.ldc ii, 2)) && decide (decode (mB k) (pc + 6) = .ok (.invokespecial ic, 3)) && decide (decode (mB k) (pc + 9) = .ok (.athrow, 1)) &&
  (mH k).isEmpty && decide (cNm (mC k) = "MarkShelter") && (k_txt.any (fun t => decide (t.1 = "MarkShelter") && decide (t.2.1 = ii))) && decide (E < 3) && decide ((mY k).name ≠ "law")
theorem am_tck : tT.all am_tok = true := by decide +kernel
theorem am_t_at {k pc E : Nat} (h : tR k pc = some E) : ∃ w, am_tok ((k, pc), E, w) = true ∧ ((k, pc), E, w) ∈ tT := by
  unfold tR at h
  cases e : tT.lookup (k, pc) with
  | none => rw [e] at h; cases h
  | some r =>
    rw [e] at h
    obtain ⟨r1, r2⟩ := r
    cases h
    exact ⟨r2, List.all_eq_true.mp am_tck _ (am_lookup e), am_lookup e⟩
/-- the words of the throws -/
def am_tws (E ik ic : Nat) : List Cond := Cond.classLink "MarkShelter" ik (exNm E) :: Cond.initialized (exNm E) :: vx_atS "MarkShelter" ic (exNm E) am_nms
def am_tw1 (E ik ic : Nat) : Bool := (am_tws E ik ic).all (fun w => decide (w ∈ am_tb) && (goodWord w || am_isN w) && vx_ot w) && Bundle.fit (exNm E) && am_nms.all Bundle.fit
theorem am_tw0 : am_tw1 0 44 48 = true := by decide +kernel
theorem am_tw2 : am_tw1 1 55 59 = true := by decide +kernel
theorem am_tw3 : am_tw1 2 137 141 = true := by decide +kernel
theorem am_twk : tT.all (fun e => (decide (e.2.1 = 0) && decide (e.2.2.1 = 44) && decide (e.2.2.2.2 = 48)) || (decide (e.2.1 = 1) && decide (e.2.2.1 = 55) && decide (e.2.2.2.2 = 59)) || (decide (e.2.1 = 2) && decide (e.2.2.1 = 137) && decide (e.2.2.2.2 = 141))) = true := by decide +kernel
theorem am_tw {e : (Nat × Nat) × Nat × Nat × Nat × Nat} (h : e ∈ tT) : am_tw1 e.2.1 e.2.2.1 e.2.2.2.2 = true := by
  have h1 := List.all_eq_true.mp am_twk _ h
  simp only [Bool.or_eq_true, Bool.and_eq_true, decide_eq_true_eq] at h1
  rcases h1 with (⟨⟨a, b⟩, c⟩ | ⟨⟨a, b⟩, c⟩) | ⟨⟨a, b⟩, c⟩ <;> rw [a, b, c]
  · exact am_tw0
  · exact am_tw2
  · exact am_tw3
section ENDS
variable {l : Launch} {D : va_G} {dA : Nat → ClassId} {ad : Nat → Nat} {zz : Value} {bs Ln : Nat} {xs : Nat → Int32} {d k : Nat} {p : Program} {e : Env} {R : Room} {s : State} {m : MethodId} {args : Array Value} {below : List Frame} {meth : Method} {c : Code} {as0 : List Nat} {c0 s0 : Nat} {Q : State → Prop} {pc : Nat} {Lo : ALs} {st : List Value} {h h' : AH}
variable {as : List Nat} {H : Heap} {locs : List Loc} {ls : Array Slot} {cells slots : Nat} {rest : List Value}
theorem am_ws_word {w : Cond} (hKV : am_KV ad s) (h : w ∈ am_tb) (hg : (goodWord w || am_isN w) = true) : w.before args s = true := by
  rw [Bool.or_eq_true] at hg
  rcases hg with hg | hg
  · exact am_gw hg (hKV.1 w (List.mem_filter.mpr ⟨h, hg⟩))
  · refine va_Nw.use ?_ (hKV.2.1 w (List.mem_filter.mpr ⟨h, hg⟩))
    cases w <;> first | rfl | (exact absurd hg Bool.false_ne_true)
theorem am_WS_bump {cc nn : Nat} (hW : am_WS D dA ad bs Ln xs as h H) {H1 : Heap} (hq : ∀ q : Nat, q < H.size → H1[q]? = H[q]?) : am_WS D dA ad bs Ln xs as (bump h cc nn) H1 :=
  ⟨hW.1, hW.2.1.kept (fun k q hk => hq q.1 ((hW.2.1 k q hk).lt)), hW.2.2.1, hW.2.2.2.1, hW.2.2.2.2⟩
set_option maxHeartbeats 1000000 in
theorem am_throw {ix E mc ms : Nat} {a0 : Array Value} {Qc : Array Value → State → Outcome → State → Prop} {h1 : AH} (C : am_Cx l D dA ad zz bs Ln xs d k p R s m args meth c) (hd : decode (mB k) pc = .ok (.new ix, 3)) (ht : tR k pc = some E) (hd10 : 10 ≤ d) (hr9 : st.length ≤ 4) (hX : ∃ t9, as = as0 ++ t9) (hW : am_WS D dA ad bs Ln xs as h1 H) (hS : va_S (am_A bs) s.heap H locs) (hls : ls.size = mL k)
    (hcr : cells + 1 ≤ R.cells) (hsr : slots + 6 ≤ R.slots) (hmc : cells + 1 ≤ mc) (hms : slots + 6 ≤ ms) :
    W p l e R s m args below meth c H locs cells slots (vx_MQ below Qc (am_XC D dA ad bs Ln xs as0 (bump h1 1 6) (.inr E)) args s mc ms (am_A bs)) (F0 m pc ls (st.map (am_cv ad zz as))) := by
  obtain ⟨hx, hb, hml, hr, hlk, hown, htr, hnm, hHH, ⟨hfr, hlo⟩, hKV, hK, hCF, ⟨hbs, hLn⟩, hzz, hinj, hadb, hU1, hU2⟩ := C
  obtain ⟨⟨ik, ii, ic⟩, hok, hmem⟩ := am_t_at ht
  have htw := am_tw hmem
  unfold am_tok at hok
  dsimp only at hok htw
  simp only [Bool.and_eq_true, decide_eq_true_eq] at hok
  obtain ⟨⟨⟨⟨⟨⟨⟨⟨⟨d0, d3⟩, d4⟩, d6⟩, d9⟩, hhy⟩, hcm⟩, htx⟩, hE⟩, hnl⟩ := hok
  obtain ⟨tx, htx1, htx2⟩ := List.any_eq_true.mp htx
  simp only [Bool.and_eq_true, decide_eq_true_eq] at htx2
  obtain ⟨sa, hsa⟩ := hKV.2.2.2.1 tx htx1
  rw [htx2.1, htx2.2] at hsa
  rw [hcm] at hown
  unfold am_tw1 at htw
  simp only [Bool.and_eq_true] at htw
  obtain ⟨⟨hws, hfit⟩, hfits⟩ := htw
  have hw1 : ∀ w ∈ am_tws E ik ic, w.before args s = true := fun w hw => by
    have h9 := List.all_eq_true.mp hws w hw
    simp only [Bool.and_eq_true, decide_eq_true_eq] at h9
    exact am_ws_word hKV h9.1.1 h9.1.2
  have hw2 : ∀ w ∈ am_tws E ik ic, vx_ot w = true := fun w hw => by
    have h9 := List.all_eq_true.mp hws w hw
    simp only [Bool.and_eq_true, decide_eq_true_eq] at h9
    exact h9.2
  have h8 := am_cats (st := st.map (am_cv ad zz as)) (by simpa using hr9)
  have hmt : mH k = [] := by simpa using hhy
  exact vx_throwS (names := am_nms) (cls := exNm E) hx hb htr hown hfit (fun n hn => List.all_eq_true.mp hfits n hn) (hw1 _ List.mem_cons_self) (hw1 _ (List.mem_cons_of_mem _ List.mem_cons_self)) hsa (fun w hw => hw1 w (List.mem_cons_of_mem _ (List.mem_cons_of_mem _ hw))) (fun w hw => hw2 w hw) hU1 hU2 hS (hls.trans hml.symm) d0 d3 d4 d6 d9
    (fun x hx9 => by rw [hHH.resolve_left hnl, hmt] at hx9; cases hx9) (by show 2 + 3 < _; omega) (by show _ + (13 * (2 + 1) + 43) ≤ _; omega) hcr hsr hlk
    (fun t hal hsz hq => ⟨E, as, rfl, rfl, hX, am_WS_bump hW hq, ⟨Nat.le_trans hS.1 hsz, fun q h1 h2 => (hq q (Nat.lt_of_lt_of_le h1 hS.1)).trans (hS.2.1 q h1 h2)⟩⟩) hS.2.2 hmc hms
end ENDS
