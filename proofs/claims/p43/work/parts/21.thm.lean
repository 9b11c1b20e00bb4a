/-! THE THEOREM: a run of the abstract machine is a run of the machine. -/
def am_hok (k : Nat) : Bool := decide (cNm (mC k) = "MarkShelterLaw" ∧ (mY k).name ≠ "law") && (mH k).all (fun x => decide (x.2.2.2 = 79))
theorem am_hck : (List.range 280).all (fun k => (mH k).isEmpty || am_hok k) = true := by decide +kernel
theorem am_hge (k : Nat) (h : 280 ≤ k) : mH k = [] := by
  have h1 : 7 ≤ k / 40 := by omega
  obtain ⟨n, hn⟩ : ∃ n, k / 40 = n + 7 := ⟨k / 40 - 7, by omega⟩
  unfold mH mI
  rw [hn]
  rfl
theorem am_h_ok {k : Nat} (h : mH k ≠ []) : am_hok k = true := by
  rcases Nat.lt_or_ge k 280 with q | q
  · have h1 := am_all am_hck q
    rw [Bool.or_eq_true] at h1
    rcases h1 with h1 | h1
    · exact absurd (by simpa using h1) h
    · exact h1
  · exact absurd (am_hge k q) h
theorem am_hws : (decide (Cond.classLink "MarkShelterLaw" 79 "java/lang/IllegalStateException" ∈ am_tb) && decide (Cond.castable (exNm 0) (exNm 0) ∈ am_tb)) = true := by decide +kernel
def am_hcd (E : Nat) : Nat := [79].getD E 0
theorem am_hlink {args : Array Value} {s : State} {ad : Nat → Nat} (hKV : am_KV ad s) {E : Nat} (hE : E < 1) : (Cond.classLink "MarkShelterLaw" (am_hcd E) (exNm E)).before args s = true ∧ (Cond.castable (exNm E) (exNm E)).before args s = true := by
  have hw := am_hws
  simp only [Bool.and_eq_true, decide_eq_true_eq] at hw
  obtain rfl : E = 0 := by omega
  exact ⟨am_ws_word hKV hw.1 rfl, am_ws_word hKV hw.2 rfl⟩
section THM
variable {l : Launch} {D : va_G} {dA : Nat → ClassId} {ad : Nat → Nat} {zz : Value} {bs Ln : Nat} {xs : Nat → Int32} {d k : Nat} {p : Program} {e : Env} {R : Room} {s : State} {m : MethodId} {args : Array Value} {below : List Frame} {meth : Method} {c : Code} {as0 : List Nat} {c0 s0 : Nat} {Q : State → Prop} {pc : Nat} {Lo : ALs} {st : List Value} {h h' : AH}
variable {as : List Nat} {H : Heap} {locs : List Loc} {ls : Array Slot} {cells slots : Nat} {rest : List Value}
/-- the entry that catches, and those ahead of it that don't -/
theorem am_find {k pc E : Nat} {x : Nat × Nat × Nat × Nat} (hmk : mH k ≠ []) (hx : (mH k).find? (fun x => decide (x.1 ≤ pc) && decide (pc < x.2.1) && x.2.2.2 == am_hcd E) = some x) :
    E < 1 ∧ x.1 ≤ pc ∧ pc < x.2.1 ∧ x.2.2.2 = am_hcd E ∧ ∃ pre suf, mH k = pre ++ x :: suf ∧ ∀ z ∈ pre, ¬ (z.1 ≤ pc ∧ pc < z.2.1) := by
  have hok := am_h_ok hmk
  unfold am_hok at hok
  rw [Bool.and_eq_true] at hok
  obtain ⟨-, hok⟩ := hok
  obtain ⟨hp, pre, suf, he, hn⟩ := List.find?_eq_some_iff_append.mp hx
  simp only [Bool.and_eq_true, decide_eq_true_eq, beq_iff_eq] at hp
  obtain ⟨⟨p1, p2⟩, p3⟩ := hp
  have hall : ∀ z ∈ mH k, z.2.2.2 = 79 := fun z hz => of_decide_eq_true (List.all_eq_true.mp hok z hz)
  have h79 : x.2.2.2 = 79 := hall x (by rw [he]; exact List.mem_append_right _ List.mem_cons_self)
  have hE : E < 1 := by
    rcases Nat.lt_or_ge E 1 with w | w
    · exact w
    · have : am_hcd E = 0 := by unfold am_hcd; rw [List.getD_eq_getElem?_getD, List.getElem?_eq_none (by simpa using w)]; rfl
      omega
  refine ⟨hE, p1, p2, p3, pre, suf, he, fun z hz hc => ?_⟩
  have h1 := hn z hz
  have h2 := hall z (by rw [he]; exact List.mem_append_left _ hz)
  obtain rfl : E = 0 := by omega
  simp [hc.1, hc.2, h2, am_hcd] at h1
set_option maxHeartbeats 1000000 in
theorem am_catch {E pt i : Nat} {q : Addr} {ce : Cell} (C : am_Cx l D dA ad zz bs Ln xs d k p R s m args meth c) (hmk : mH k ≠ []) (hh : hdl k pc E = some (pt, i)) (hX : ∃ t9, as = as0 ++ t9) (hW : am_WS D dA ad bs Ln xs as h H) (hS : va_S (am_A bs) s.heap H locs) (hL : am_LR (mW k) (am_cv ad zz as) Lo ls (mL k)) (hVL : am_VL (nx h) Lo) (hc : c0 ≤ nc h) (hs : s0 ≤ ns h)
    (hce : H[q]? = some ce) (hcv : ce.vm = .none) (hcl : s.vm.findClass (exNm E) = some ce.cls)
    (K : am_Sim D dA ad zz bs Ln xs k p l e R s m args below meth c as0 c0 s0 Q pt (st1 (mW k) Lo i none) [] h) : vx_W p l e R s m args below meth c H locs (nc h - c0) (ns h - s0) Q (F0 m pc ls rest) q := by
  have hok := am_h_ok hmk
  unfold am_hok at hok
  rw [Bool.and_eq_true, decide_eq_true_eq] at hok
  obtain ⟨hx, hb, hml, hr, hlk, hown, htr, hnm, hHH, ⟨hfr, hlo⟩, hKV, hK, hCF, ⟨hbs, hLn⟩, hzz, hinj, hadb, hU1, hU2⟩ := C
  rw [hok.1.1] at hown
  unfold hdl at hh
  split at hh
  · rename_i e0
    exact absurd e0 hmk
  · split at hh
    · rename_i y1 y2 hpc y4 hf
      obtain ⟨hE, f1, f2, f3, pre, suf, f4, f5⟩ := am_find (E := E) hmk hf
      dsimp only at f1 f2 f3
      obtain ⟨hl1, hl2⟩ := am_hlink (args := args) hKV hE
      have hsplit : c.exceptionTable.toList = tableOf pre ++ (⟨y1, y2, hpc, y4⟩ : ExceptionTableEntry) :: tableOf suf := by
        rw [hHH.resolve_left hok.1.2, f4]
        unfold tableOf
        rw [List.map_append, List.map_cons]
      have hgo : W p l e R s m args below meth c H locs (nc h - c0) (ns h - s0) Q (F0 m hpc ls [.ref q]) := by
        split at hh
        · rename_i j hd
          split at hh
          · rename_i hj
            cases hh
            exact lv_astore_n hx hb hd rfl hL.has hj rfl (fun ls1 h1 => K as H locs ls1 hX hW hS (am_st1 hL rfl (fun v hv => by cases hv) (am_cat (am_zcat hzz)) h1) (hVL.st1 (fun v hv => by cases hv)) (fun v hv => by cases hv) hc hs)
          · cases hh
        · rename_i j hd
          split at hh
          · rename_i hj
            cases hh
            exact lv_astore hx hb hd hL.has hj rfl (fun ls1 h1 => K as H locs ls1 hX hW hS (am_st1 hL rfl (fun v hv => by cases hv) (am_cat (am_zcat hzz)) h1) (hVL.st1 (fun v hv => by cases hv)) (fun v hv => by cases hv) hc hs)
          · cases hh
        · cases hh
      refine vx_catch (name := exNm E) (E := exNm E) hown (tableOf pre) _ (tableOf suf) hsplit (fun z hz => ?_) ?_ ?_ ?_ hl2 hce hcv hcl hgo
      · unfold tableOf at hz
        obtain ⟨z9, hz9, rfl⟩ := List.mem_map.mp hz
        have g := f5 z9 hz9
        left
        simp only [covers, Bool.and_eq_false_iff, decide_eq_false_iff_not]
        rcases Classical.em (z9.1 ≤ pc) with w | w
        · right; exact fun q9 => g ⟨w, q9⟩
        · left; exact w
      · simp only [covers, Bool.and_eq_true, decide_eq_true_eq]
        exact ⟨f1, f2⟩
      · show y4 ≠ 0
        rw [f3]
        obtain rfl : E = 0 := by omega
        decide
      · show (Cond.classLink "MarkShelterLaw" y4 (exNm E)).before args s = true
        rw [f3]
        exact hl1
    · cases hh
theorem am_hh_of {c i y n kc : Nat} {rk : Nat × Nat} (h : cR c i = some (y, n, kc, rk)) (hk : kc < 8 ∨ (12 ≤ kc ∧ kc < 16)) : kc = 7 ↔ ¬ (mH y).isEmpty = true := by
  have h5 : ∀ q ∈ cT, q.2.2.2.1 = 5 → (mH q.2.1).isEmpty = true := by decide +kernel
  obtain ⟨w, hok⟩ := am_c_at h
  unfold am_cok at hok
  dsimp only at hok
  by_cases e5 : kc = 5
  · have := h5 _ (am_lookup h) e5
    constructor
    · intro q; omega
    · intro q; exact absurd this q
  · rw [if_neg (by omega), if_neg (by omega), if_neg (by omega), if_neg (by omega), if_neg (by omega), if_neg e5] at hok
    simp only [Bool.and_eq_true] at hok
    obtain ⟨⟨⟨⟨-, hhy⟩, -⟩, -⟩, -⟩ := hok
    by_cases e7 : kc = 7
    · rw [if_pos e7] at hhy
      constructor
      · intro _ q
        rw [q] at hhy
        cases hhy
      · intro _; exact e7
    · rw [if_neg e7] at hhy
      constructor
      · intro q; exact absurd q e7
      · intro q; exact absurd hhy q
end THM
set_option maxHeartbeats 2000000 in
theorem am_body : ∀ f, am_Body f
  | 0 => fun l D dA ad zz bs Ln xs d k p e R s m args below meth c as0 c0 s0 Q pc Lo st h o h' hC hE hcr hsr hex => by cases hex
  | f + 1 => by
    have ih := am_body f
    intro l D dA ad zz bs Ln xs d k p e R s m args below meth c as0 c0 s0 Q pc Lo st h o h' hC hE hcr hsr hex
    have hg := am_one_good (e := e) (below := below) (as0 := as0) (c0 := c0) (s0 := s0) (Q := Q) (pc := pc) (Lo := Lo) (st := st) (h := h) hC
    have hex2 : aStep (exec f) d k pc Lo st h = some (o, h') := hex
    unfold aStep at hex2
    split at hex2
    · rename_i pc' L' st' h1 e1
      rw [e1] at hg
      have hm := am_mono_exec f _ _ _ _ _ _ _ _ hex2
      exact hg (Nat.le_trans hm.1 hcr) (Nat.le_trans hm.2 hsr) (ih l D dA ad zz bs Ln xs d k p e R s m args below meth c as0 c0 s0 Q pc' L' st' h1 o h' hC hE hcr hsr hex2)
    · rename_i y av n L' rest h1 e1
      rw [e1] at hg
      obtain ⟨rfl, rfl, rfl, ix, na, kc, rk, hcR, hr9, hcase⟩ := hg
      cases d with
      | zero =>
        have : aGo (exec f) 0 y av h1 = none := rfl
        rw [this] at hex2
        cases hex2
      | succ d =>
        have C9 := hC
        obtain ⟨hx, hb, hml, hr, hlk, hown, htr, hnm, hHH, ⟨hfr, hlo⟩, hKV, hK, hCF, ⟨hbs, hLn⟩, hzz, hinj, hadb, hU1, hU2⟩ := hC
        cases eg : aGo (exec f) (d + 1) y av h1 with
        | none => rw [eg] at hex2; cases hex2
        | some r =>
          obtain ⟨o1, h2⟩ := r
          rw [eg] at hex2
          have hkc8 : kc < 8 ∨ (12 ≤ kc ∧ kc < 16) := by
            rcases hcase with ⟨q, -⟩ | ⟨b, av', -, q, -⟩ <;> omega
          have hm1 : nc h1 ≤ nc h2 ∧ ns h1 ≤ ns h2 := by
            unfold aGo at eg
            dsimp only at eg
            split at eg
            · exact am_mono_exec f _ _ _ _ _ _ _ _ eg
            · cases eg
          have hm2 : nc h2 ≤ nc h' ∧ ns h2 ≤ ns h' := by
            cases o1 with
            | inl v => exact am_mono_exec f _ _ _ _ _ _ _ _ hex2
            | inr E =>
              unfold aEnd at hex2
              dsimp only at hex2
              split at hex2
              · cases hex2; exact ⟨Nat.le_refl _, Nat.le_refl _⟩
              · split at hex2
                · exact am_mono_exec f _ _ _ _ _ _ _ _ hex2
                · cases hex2
          intro as H locs ls hX hW hS hL hVL hVS hc hs
          have hVSav : am_VS (nx h1) av ∧ am_VS (nx h1) rest := by
            rcases hcase with ⟨-, -, -, q⟩ | ⟨b, av', q0, -, -, -, q, -⟩
            · rw [q] at hVS
              exact ⟨fun v hv => hVS v (List.mem_append_left _ (List.mem_reverse.mpr hv)), fun v hv => hVS v (List.mem_append_right _ hv)⟩
            · rw [q] at hVS
              refine ⟨fun v hv => ?_, fun v hv => hVS v (List.mem_append_right _ (List.mem_cons_of_mem _ hv))⟩
              rw [q0] at hv
              rcases List.mem_cons.mp hv with rfl | hv
              · exact hVS _ (List.mem_append_right _ List.mem_cons_self)
              · exact hVS v (List.mem_append_left _ (List.mem_reverse.mpr hv))
          have hM := am_met_of (D := D) (dA := dA) (ad := ad) (zz := zz) (bs := bs) (Ln := Ln) (xs := xs) (as := as) (l := l) ih hcR hkc8 (am_hh_of hcR hkc8) htr hzz hinj hadb hLn hVSav.1 eg
          have hf : (nc h1 - c0) + (nc h2 - nc h1) ≤ R.cells ∧ (ns h1 - s0) + (ns h2 - ns h1) ≤ R.slots := by omega
          have hec : (nc h1 - c0) + (nc h2 - nc h1) = nc h2 - c0 := by omega
          have hes : (ns h1 - s0) + (ns h2 - ns h1) = ns h2 - s0 := by omega
          have hn9 : nx h1 ≤ am_NC + as.length := by rw [hW.1]; exact Nat.le_refl _
          have hnx : ∀ (as' : List Nat) (H1 : Heap), (∃ t9, as' = as ++ t9) → am_WS D dA ad bs Ln xs as' h2 H1 → nx h1 ≤ nx h2 := fun as' H1 ⟨t9, ht9⟩ hw => by
            rw [← hW.1, ← hw.1, ht9, List.length_append]
            omega
          have kr : ∀ (v : Option Value) (as' : List Nat) (H1 : Heap) (locs1 : List Loc), o1 = .inl v → (∃ t9, as' = as ++ t9) → am_WS D dA ad bs Ln xs as' h2 H1 → va_S (am_A bs) s.heap H1 locs1 → (∀ w, v = some w → am_V (nx h2) w) → W p l e R s m args below meth c H1 locs1 ((nc h1 - c0) + (nc h2 - nc h1)) ((ns h1 - s0) + (ns h2 - ns h1)) Q (F0 m (pc + 3) ls ((v.map (am_cv ad zz as')).toList ++ rest.map (am_cv ad zz as))) := by
            intro v as' H1 locs1 ho hX1 hW1 hS1 hv1
            subst ho
            have hsim := ih l D dA ad zz bs Ln xs (d + 1) k p e R s m args below meth c as0 c0 s0 Q (pc + 3) _ (v.toList ++ rest) h2 o h' C9 hE hcr hsr hex2
            have hle := hnx as' H1 hX1 hW1
            obtain ⟨t9, rfl⟩ := hX1
            have hX2 : ∃ t8, as ++ t9 = as0 ++ t8 := by
              obtain ⟨t8, rfl⟩ := hX
              exact ⟨t8 ++ t9, by rw [List.append_assoc]⟩
            have hVS2 : am_VS (nx h2) (v.toList ++ rest) := by
              intro w hw
              rcases List.mem_append.mp hw with hw | hw
              · exact hv1 w (by cases v with | none => cases hw | some x => rw [List.mem_singleton.mp hw])
              · exact (hVSav.2 w hw).mono hle
            have := hsim (as ++ t9) H1 locs1 ls hX2 hW1 hS1 (am_LR_ext hL hVL hn9) (hVL.mono hle) hVS2 (Nat.le_trans hc hm1.1) (Nat.le_trans hs hm1.2)
            rw [List.map_append, am_st_ext hVSav.2 hn9] at this
            rw [hec, hes]
            cases v with
            | none => exact this
            | some x => exact this
          have kx : ∀ (E : Nat) (as' : List Nat) (H1 : Heap) (locs1 : List Loc) (q : Addr) (ce : Cell), o1 = .inr E → (∃ t9, as' = as ++ t9) → am_WS D dA ad bs Ln xs as' h2 H1 → va_S (am_A bs) s.heap H1 locs1 → H1[q]? = some ce → ce.vm = .none → s.vm.findClass (exNm E) = some ce.cls → vx_W p l e R s m args below meth c H1 locs1 ((nc h1 - c0) + (nc h2 - nc h1)) ((ns h1 - s0) + (ns h2 - ns h1)) Q (F0 m pc ls (rest.map (am_cv ad zz as))) q := by
            intro E as' H1 locs1 q ce ho hX1 hW1 hS1 hce hcv hcl
            subst ho
            have hle := hnx as' H1 hX1 hW1
            obtain ⟨t9, rfl⟩ := hX1
            have hX2 : ∃ t8, as ++ t9 = as0 ++ t8 := by
              obtain ⟨t8, rfl⟩ := hX
              exact ⟨t8 ++ t9, by rw [List.append_assoc]⟩
            rw [hec, hes]
            unfold aEnd at hex2
            dsimp only at hex2
            split at hex2
            · rename_i hmt
              cases hex2
              exact hE.2.2 pc E ls H1 locs1 (as ++ t9) _ q ce hmt rfl hX2 hW1 hS1 hce hcv hcl (Nat.le_trans hc hm1.1) (Nat.le_trans hs hm1.2)
            · rename_i hmt
              split at hex2
              · rename_i pt i hh
                exact am_catch C9 (fun q9 => hmt q9) hh hX2 hW1 hS1 (am_LR_ext hL hVL hn9) (hVL.mono hle) (Nat.le_trans hc hm1.1) (Nat.le_trans hs hm1.2) hce hcv hcl (ih l D dA ad zz bs Ln xs (d + 1) k p e R s m args below meth c as0 c0 s0 Q pt _ [] h2 o h' C9 hE hcr hsr hex2)
              · cases hex2
          rcases hcase with ⟨hkc, hd, hna, hst⟩ | ⟨b, av', rfl, hkc, hd, hna, hst, hkb⟩
          · rw [hst]
            exact am_run_on (am_runS C9 hd hcR hkc hna hr9 hM hW hS hL.1 hf) hS kr kx
          · rw [hst]
            exact am_run_on (am_runV C9 hd rfl hcR hkc hna hr9 hM hkb (hVSav.1 _ List.mem_cons_self) hW hS hL.1 hf) hS kr kx
    · rename_i r e1
      rw [e1, hex2] at hg
      exact hg hcr hsr hE
