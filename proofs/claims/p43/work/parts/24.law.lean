/-! THE LAW OUT OF THE ABSTRACT MACHINE'S RUN. -/
def am_icl : List Nat := [12, 8, 4, 6, 6, 7, 7, 6, 4, 4]
def am_tyl : List FieldType := [.int, .long, .byte, .object "MarkShelter$Sign", .object "MarkShelter$Stray", .object "MarkShelter$Order", .object "java/lang/String", .array .int, .boolean]
theorem am_f21 : (List.range 10).all (fun c => decide (Cond.instantiable (vwCl.getD c ("", TX1, 0)).1 (am_icl.getD c 0) ∈ am_tb)) = true := by decide +kernel
theorem am_f22 : (decide (Cond.arrayClass .int ∈ am_tb) && decide (Cond.arrayClass .long ∈ am_tb) && decide (Cond.arrayClass .byte ∈ am_tb) && decide (Cond.arrayOver (.object "MarkShelter$Sign") ∈ am_tb) && decide (Cond.arrayOver (.object "MarkShelter$Stray") ∈ am_tb) && decide (Cond.arrayOver (.object "MarkShelter$Order") ∈ am_tb) && decide (Cond.arrayOver (.object "java/lang/String") ∈ am_tb) && decide (Cond.arrayOver (.array .int) ∈ am_tb) && decide (Cond.arrayClass .boolean ∈ am_tb)) = true := by decide +kernel
theorem am_f23 : vwCl.length = 10 := by decide +kernel
theorem am_f24 : sT.length = sWs.length := by decide +kernel
theorem am_f25 : (List.range 200).all (fun n => (List.range 50).all (fun j => match k_rv n j with | some q => decide (q < 200) | none => true)) = true := by decide +kernel
section LAW
variable {s : State} {args : Array Value} {b L : Nat} {xs : Nat → Int32}
theorem am_aO {C : String} (h : (Cond.arrayOver (.object C)).before args s = true) : ∃ c : ClassId, ArrOfT s c (.object C) ∧ va_RA s c (.object C) := by
  obtain ⟨comp, c, k, h1, h2, h3, h4, h5⟩ := Cond.arrayOver_spec h
  exact ⟨c, fun N z => ⟨(fun k h => by cases h), k, h3, comp, h4⟩, k, comp, h3, h4, h1, h5⟩
theorem am_aK (hT : ∀ w ∈ am_tb, w.before args s = true) : ∃ (D : va_G) (dA : Nat → ClassId), va_K D vwCl (am_tys dA) s := by
  have h0 : ∀ c : Nat, ∃ q : ClassId × (Nat → Nat), ∀ e, vwCl[c]? = some e → u_Kn s e.1 e.2.1 e.2.2 q.1 q.2 := by
    intro c
    cases hc : vwCl[c]? with
    | none => exact ⟨(0, fun _ => 0), fun e h => by cases h⟩
    | some e =>
      have hlt : c < 10 := by
        have := (List.getElem?_eq_some_iff.mp hc).1
        rwa [am_f23] at this
      have hi := of_decide_eq_true (am_rg am_f21 hlt)
      rw [List.getD_eq_getElem?_getD, hc] at hi
      obtain ⟨cC, iS, h⟩ := u_known (C := e.1) (T := e.2.1) (N := e.2.2) hT (fun w hw => (List.mem_filter.mp (am_lays_in hc w hw)).1) (hT _ hi)
      exact ⟨(cC, iS), fun e' h' => by cases h'; exact h⟩
  have h1 : ∀ t : Nat, ∃ c : ClassId, ∀ ty, am_tyl[t]? = some ty → ArrOfT s c ty ∧ va_RA s c ty := by
    have h22 := am_f22
    simp only [Bool.and_eq_true, decide_eq_true_eq] at h22
    obtain ⟨⟨⟨⟨⟨⟨⟨⟨w1, w2⟩, w3⟩, w4⟩, w5⟩, w6⟩, w7⟩, w8⟩, w9⟩ := h22
    intro t
    rcases t with _ | _ | _ | _ | _ | _ | _ | _ | _ | t
    · obtain ⟨c, k, comp, h1, h2, h3⟩ := Cond.arrayClass_spec (hT _ w1)
      exact ⟨c, fun ty h => by cases h; exact ⟨fun N z => ⟨(fun k h => by cases h), k, h2, comp, h3⟩, h1⟩⟩
    · obtain ⟨c, k, comp, h1, h2, h3⟩ := Cond.arrayClass_spec (hT _ w2)
      exact ⟨c, fun ty h => by cases h; exact ⟨fun N z => ⟨(fun k h => by cases h), k, h2, comp, h3⟩, h1⟩⟩
    · obtain ⟨c, k, comp, h1, h2, h3⟩ := Cond.arrayClass_spec (hT _ w3)
      exact ⟨c, fun ty h => by cases h; exact ⟨fun N z => ⟨(fun k h => by cases h), k, h2, comp, h3⟩, h1⟩⟩
    · obtain ⟨c, h⟩ := am_aO (hT _ w4)
      exact ⟨c, fun ty h' => by cases h'; exact h⟩
    · obtain ⟨c, h⟩ := am_aO (hT _ w5)
      exact ⟨c, fun ty h' => by cases h'; exact h⟩
    · obtain ⟨c, h⟩ := am_aO (hT _ w6)
      exact ⟨c, fun ty h' => by cases h'; exact h⟩
    · obtain ⟨c, h⟩ := am_aO (hT _ w7)
      exact ⟨c, fun ty h' => by cases h'; exact h⟩
    · obtain ⟨comp, c, k, h1, h2, h3, h4, h5⟩ := am_AAs (args := args) (hT _ w8)
      exact ⟨c, fun ty h => by cases h; exact ⟨fun N z => ⟨(fun k h => by cases h), k, h3, comp, h4⟩, h5⟩⟩
    · obtain ⟨c, k, comp, h1, h2, h3⟩ := Cond.arrayClass_spec (hT _ w9)
      exact ⟨c, fun ty h => by cases h; exact ⟨fun N z => ⟨(fun k h => by cases h), k, h2, comp, h3⟩, h1⟩⟩
    · exact ⟨0, fun ty h => by simp [am_tyl] at h⟩
  obtain ⟨q, hq⟩ := Classical.axiomOfChoice h0
  obtain ⟨dA, hdA⟩ := Classical.axiomOfChoice h1
  refine ⟨(fun c => (q c).1, fun c => (q c).2), fun t => dA (t - 1), hq, fun k e he => ?_⟩
  rcases k with _ | _ | _ | _ | _ | _ | _ | _ | _ | k
  · cases he; exact hdA 0 _ rfl
  · cases he; exact hdA 1 _ rfl
  · cases he; exact hdA 2 _ rfl
  · cases he; exact hdA 3 _ rfl
  · cases he; exact hdA 4 _ rfl
  · cases he; exact hdA 5 _ rfl
  · cases he; exact hdA 6 _ rfl
  · cases he; exact hdA 7 _ rfl
  · cases he; exact hdA 8 _ rfl
  · simp [am_tys] at he
theorem am_aV (hT : ∀ w ∈ am_tb, w.before args s = true) (hN : ∀ w ∈ am_nl, w.before args s = true) (b : Nat) : am_KV (am_ads args s b) s := by
  have h22 := am_f22
  simp only [Bool.and_eq_true, decide_eq_true_eq] at h22
  obtain ⟨⟨⟨⟨⟨⟨⟨⟨w1, w2⟩, w3⟩, w4⟩, w5⟩, w6⟩, w7⟩, w8⟩, w9⟩ := h22
  refine ⟨fun w hw => word_at (State.WarmedH.refl s) (good_of_word (am_gwf hw)) (hT w (List.mem_filter.mp hw).1), fun w hw => ?_, ⟨va_AO.of (hT _ w4), va_AO.of (hT _ w5), va_AO.of (hT _ w6), va_AO.of (hT _ w7), hT _ w8⟩, fun e he => ?_, fun e he => ?_, rfl⟩
  · obtain ⟨h1, h2⟩ := List.mem_filter.mp hw
    have h3 := hT w h1
    cases w <;> first | exact va_Nw.of rfl h3 | (exact absurd h2 Bool.false_ne_true)
  · obtain ⟨i, hi⟩ := List.getElem?_of_mem he
    have hlt := (List.getElem?_eq_some_iff.mp hi).1
    have h16 := am_rg am_f16 hlt
    have hgd : k_txt.getD i ("", 0, "") = e := by rw [List.getD_eq_getElem?_getD, hi]; rfl
    rw [Bool.and_eq_true, hgd] at h16
    obtain ⟨a, q1, -⟩ := am_ex (am_nh hN h16.1)
    exact ⟨a, vk_R.of (A := args) (hT _ (of_decide_eq_true h16.2)) q1⟩
  · obtain ⟨i, hi⟩ := List.getElem?_of_mem he
    have hlt := (List.getElem?_eq_some_iff.mp hi).1
    have h17 := am_rg am_f17 hlt
    have hgd : k_ldc.getD i ("", 0, "", 0) = e := by rw [List.getD_eq_getElem?_getD, hi]; rfl
    rw [hgd] at h17
    simp only [Bool.and_eq_true, Bool.or_eq_true, decide_eq_true_eq] at h17
    obtain ⟨⟨h17, hsr⟩, h65⟩ := h17
    have h4 := (am_s4 hN b h65).1
    refine vk_R.of (A := args) (hT _ hsr) ?_
    rcases h17 with (q | q) | q
    · rwa [q] at h4
    · exact va_eqR (am_nh hN q) h4
    · exact va_eqv (am_nh hN q) h4
theorem am_aZ (hT : ∀ w ∈ am_tb, w.before args s = true) (hN : ∀ w ∈ am_nl, w.before args s = true) : (∃ zz : Value, (zz = .null ∨ ∃ a, zz = .ref a) ∧ va_Z "jdk/internal/util/Preconditions" "SIOOBE_FORMATTER" "Ljava/util/function/BiFunction;" zz (am_A s.heap.size) s s.heap) ∧
    vx_Zq Bundle.tN "UNASSIGNED_STACK" Bundle.steD (am_A s.heap.size) s s.heap ∧ vx_Zq Bundle.tN "SUPPRESSED_SENTINEL" Bundle.listD (am_A s.heap.size) s s.heap := by
  have h19 := am_f19
  simp only [List.all_cons, List.all_nil, Bool.and_eq_true, decide_eq_true_eq] at h19
  obtain ⟨⟨a1, a2⟩, ⟨b1, b2⟩, ⟨c1, c2⟩, -⟩ := h19
  have h18 := am_f18
  simp only [Bool.and_eq_true] at h18
  obtain ⟨⟨r1, r2⟩, r3⟩ := h18
  refine ⟨?_, vx_Zqof (hT _ b1) (hT _ b2) (am_nh hN r2) am_hA, vx_Zqof (hT _ c1) (hT _ c2) (am_nh hN r3) am_hA⟩
  rcases va_Zqof (A := am_A s.heap.size) (hT _ a1) (hT _ a2) (am_nh hN r1) am_hA with h | ⟨t, h⟩
  · exact ⟨.null, Or.inl rfl, h⟩
  · exact ⟨.ref t, Or.inr ⟨t, rfl⟩, h⟩
theorem am_aC (hT : ∀ w ∈ am_tb, w.before args s = true) (hN : ∀ w ∈ am_nl, w.before args s = true) (ha : args = #[.ref b]) (hL : L ≤ 260) (hX : va_X b L xs s s.heap) {zz : Value} (hz : va_Z "jdk/internal/util/Preconditions" "SIOOBE_FORMATTER" "Ljava/util/function/BiFunction;" zz (am_A s.heap.size) s s.heap) :
    am_CF (am_ads args s b) zz L xs (am_A s.heap.size) s s.heap := by
  refine ⟨fun i hi => ⟨(am_s1 hN b hi).2, am_s2 hN b hi, am_s3 hN b hi⟩, fun i hi => ⟨(am_s4 hN b hi).2, am_s5v hN b hi, am_s5 hN b hi, (am_s6 hN b hi).2⟩, fun i e w he hw => ?_, (am_s10 hN b).2, (am_s11 hN b).2, (am_s13 hN b).2, (am_s14 hN b).2, ?_⟩
  · have hlt := (List.getElem?_eq_some_iff.mp he).1
    have h20 := am_rg am_f20 hlt
    rw [List.getD_eq_getElem?_getD, he, List.getD_eq_getElem?_getD, hw] at h20
    unfold am_sk9 at h20
    simp only [Option.getD_some, Bool.and_eq_true, decide_eq_true_eq] at h20
    obtain ⟨⟨l1, l2⟩, l3⟩ := h20
    obtain ⟨e1, ev⟩ := e
    cases ev with
    | ref n =>
      simp only [Bool.and_eq_true, decide_eq_true_eq] at l3
      have h := am_sev hN b l3.1
      rw [l3.2] at h
      have hp : am_phi (am_ads args s b) [] n = am_ads args s b n := by
        unfold am_phi
        rw [if_pos (show n < am_NC from Nat.lt_of_lt_of_le l3.1 (by decide))]
      show va_Z _ _ _ (.ref (am_phi (am_ads args s b) [] n)) _ _ _
      rw [hp]
      exact va_Zref (hT _ l1) (hT _ l2) h am_hA
    | int z => exact va_Zof (hT _ l1) (hT _ l2) (va_eqt (am_nh hN l3)) am_hA
    | float z =>
      simp only [Bool.and_eq_true, decide_eq_true_eq] at l3
      obtain ⟨⟨g1, g2⟩, g3⟩ := l3
      rw [g1, g2, g3]
      exact hz
    | _ => exact absurd l3 Bool.false_ne_true
  · rw [am_s53 ha (by decide +kernel)]
    obtain ⟨scr, h1, h2, h3, h4, h5⟩ := hX
    exact ⟨scr, h1, h2, h3, by omega, by rw [h4], fun j hj => h5 j hj, am_hA b (Array.getElem?_eq_some_iff.mp h1).1⟩
theorem am_aH {D : va_G} {dA : Nat → ClassId} {ad : Nat → Nat} {bs : Nat} {H : Heap} : am_WS D dA ad bs L xs [] (am_h0 L xs) H := by
  refine ⟨rfl, ?_, ?_, ⟨Nat.le_refl _, fun a j q h => ?_, fun n h1 h2 => absurd (Nat.lt_of_lt_of_le h2 h1) (Nat.lt_irrefl _)⟩, fun n hn => ⟨rfl, fun j => ⟨rfl, rfl⟩⟩⟩
  · intro k q hk
    simp [am_ws] at hk
  · exact ⟨by intros; simp_all [am_ws], fun k q hk => by simp [am_ws] at hk⟩
  · show q < 200
    have h9 : k_rv a j = some q := h
    by_cases ha : a < 200
    · by_cases hj : j < 50
      · have h25 := am_rg (am_rg am_f25 ha) hj
        rw [h9] at h25
        exact of_decide_eq_true h25
      · exfalso
        unfold k_rv at h9
        (repeat' split at h9) <;> first | omega | (cases h9; done) | (simp at h9; done)
    · exfalso
      unfold k_rv at h9
      (repeat' split at h9) <;> first | omega | (cases h9; done) | (simp at h9; done)
end LAW
