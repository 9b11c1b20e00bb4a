/-! THE CLASS READS THE TEXT: strays, orders. -/
section LNS
variable {bt : Nat → Int32} {L bk n no H co i j k m q fu w ns g : Nat} {kf df od ok ov ow : Nat → Nat} {oz : Nat → Int32} {nm : Nat → Int64} {B : CBk} {x y z : Int32} {s : Int32 × Int32} {p : C3} {F : SM}
theorem nmW_i : ∀ a, a < 12 → ∀ b, b < 12 → nmW a = nmW b → a = b := by decide +kernel
theorem fnd_is {P : Nat → Bool} : ∀ n i k, i ≤ k → k < i + n → P k = true → (∀ j, i ≤ j → j < k → P j = false) → fnd P n i = some k
  | 0, i, k, h1, h2, _, _ => by omega
  | n + 1, i, k, h1, h2, h3, h4 => by
    unfold fnd
    by_cases e : i = k
    · subst e
      rw [if_pos h3]
    · rw [if_neg (by rw [h4 i (Nat.le_refl _) (by omega)]; decide)]
      exact fnd_is n (i + 1) k (by omega) (by omega) h3 (fun j a b => h4 j (by omega) b)
theorem fnd_no {P : Nat → Bool} : ∀ n i, (∀ j, i ≤ j → j < i + n → P j = false) → fnd P n i = none
  | 0, _, _ => rfl
  | n + 1, i, h => by
    unfold fnd
    rw [if_neg (by rw [h i (Nat.le_refl _) (by omega)]; decide)]
    exact fnd_no n (i + 1) (fun j a b => h j (by omega) (by omega))
def NmO (ns : Nat) (nm : Nat → Int64) : Prop := ns ≤ 12 ∧ ∀ j, j < ns → nm j = nmW j
theorem sna_k (N : NmO ns nm) (hk : k < ns) : sna ns nm (nmW k) = nI k := by
  have h12 := N.1
  unfold sna
  rw [fnd_is (P := fun j => decide (nm j = nmW k)) ns 0 k (Nat.zero_le _) (by omega) (decide_eq_true (N.2 k hk)) (fun j _ hj => decide_eq_false (fun e => by
    rw [N.2 j (by omega)] at e
    have := nmW_i j (by omega) k (by omega) e
    omega))]
  rfl
theorem sna_no (N : NmO ns nm) (hk : ns ≤ k) (h : k < 12) : sna ns nm (nmW k) = -1 := by
  have h12 := N.1
  unfold sna
  rw [fnd_no ns 0 (fun j _ hj => decide_eq_false (fun e => by
    rw [N.2 j (by omega)] at e
    have := nmW_i j (by omega) k (by omega) e
    omega))]
  rfl
/-- i strays have been read, no order yet -/
def SBs (bk H co i : Nat) (kf df : Nat → Nat) (B : CBk) : Prop := (B.s = (0, -1) ∧ B.ns = i ∧ B.no = 0 ∧ B.q.1 = 0) ∧ NmO i B.nm ∧ (∀ j, j < i → B.F (bk + 1) j = nI (kf j) ∧ B.F (bk + 2) j = nI (df j)) ∧ B.F bk 0 = nI H ∧ B.F bk 1 = nI co
theorem ee30 : ∀ e, e ≤ 30 → ¬ (nI e < 0 ∨ 30 < nI e) := by decide
theorem lnP_s (hk : k < 4) {e : Nat} (h : LnA bt L i (tkS m k e)) : lnP (tsg bt L) fu i = some (true, i + 7, []) := by
  have h0 : tsg bt L i = 2 := (h 0 (by decide : 0 < 7)).1
  have h1 : tsg bt L (i + 1) = 44 := (h 1 (by decide : 1 < 7)).1
  have h2 : tsg bt L (i + 1 + 1) = 3 := (h 2 (by decide : 2 < 7)).1
  have h3 : tsg bt L (i + 1 + 1 + 1) = 4 + k := (h 3 (by decide : 3 < 7)).1
  have h4 : tsg bt L (i + 1 + 1 + 1 + 1) = 8 := (h 4 (by decide : 4 < 7)).1
  have h5 : tsg bt L (i + 1 + 1 + 1 + 1 + 1) = 45 := (h 5 (by decide : 5 < 7)).1
  have h6 : tsg bt L (i + 1 + 1 + 1 + 1 + 1 + 1) = 33 := (h 6 (by decide : 6 < 7)).1
  unfold lnP lnS
  rw [if_pos h0, if_pos h1, if_pos h2, h3, if_pos (by omega), if_pos h4, if_pos h5, if_pos h6]
  rfl
theorem SBs.step (S : SBs bk H co i kf df B) (hi : i < 12) (hk : kf i < 4) (he : df i ≤ 30) (h : LnA bt L B.i (tkS i (kf i) (df i))) : SBs bk H co (i + 1) kf df (nxL bt L bk B (B.i + 7) []) := by
  obtain ⟨⟨s1, s2, s3, s4⟩, s5, s6, s7, s8⟩ := S
  have h0 : tsg bt L B.i = 2 := (h 0 (by decide : 0 < 7)).1
  have w1 : tw bt L (B.i + 1) = nmW i := (h 1 (by decide : 1 < 7)).2 (Nat.le_refl 44)
  have h3 : tsg bt L (B.i + 1 + 1 + 1) = 4 + kf i := (h 3 (by decide : 3 < 7)).1
  have w5 : tw bt L (B.i + 1 + 1 + 1 + 1 + 1) = nW (df i) := (h 5 (by decide : 5 < 7)).2 (Nat.le_succ 44)
  have e5 : (tw bt L (B.i + 1 + 1 + 1 + 1 + 1)).toInt32 = nI (df i) := by rw [w5]; exact nW_i _ (by omega)
  unfold nxL
  rw [if_pos h0]
  have z12 : B.ns < 12 := by rw [s2]; exact hi
  refine ⟨⟨?_, ?_, s3, s4⟩, ⟨by omega, fun j hj => ?_⟩, fun j hj => ?_, ?_, ?_⟩
  · show erN bt L _ 0 30 (erS bt L B.ns B.nm (B.i + 1) B.s) = _
    have e1 : erS bt L B.ns B.nm (B.i + 1) B.s = (0, -1) := by
      unfold erS
      rw [w1, s2, sna_no s5 (Nat.le_refl _) hi, if_neg (by decide), if_pos hi, s1]
    rw [e1]
    unfold erN
    rw [e5, if_neg (ee30 _ he)]
  · show adn B.ns = _
    unfold adn
    rw [if_pos z12, s2]
  · show adm B.ns B.nm (tw bt L (B.i + 1)) j = _
    unfold adm
    rw [if_pos z12, s2, w1]
    split
    · rename_i e; rw [e]
    · exact s5.2 j (by omega)
  · show adF bk B.ns B.F _ _ (bk + 1) j = _ ∧ adF bk B.ns B.F _ _ (bk + 2) j = _
    unfold adF
    rw [if_pos z12, s2, h3, e5, show 4 + kf i - 4 = kf i by omega]
    refine ⟨?_, ?_⟩
    · rw [u2_ne (by omega), u2_ne (by omega)]
      by_cases e : j = i
      · subst e
        rw [u2_eq]
      · rw [u2_nj e]
        exact (s6 j (by omega)).1
    · rw [u2_ne (by omega)]
      by_cases e : j = i
      · subst e
        rw [u2_eq]
      · rw [u2_nj e, u2_ne (by omega)]
        exact (s6 j (by omega)).2
  · show adF bk B.ns B.F _ _ bk 0 = _
    unfold adF
    rw [if_pos z12, u2_nj (by decide), u2_ne (by omega), u2_ne (by omega)]
    exact s7
  · show adF bk B.ns B.F _ _ bk 1 = _
    unfold adF
    rw [if_pos z12, u2_nj (by decide), u2_ne (by omega), u2_ne (by omega)]
    exact s8
/-- where an order's code begins -/
def fiS (ov ow : Nat → Nat) (oz : Nat → Int32) : Nat → Nat
  | 0 => 0
  | k + 1 => fiS ov ow oz k + (cdA (ov k) (ow k) (oz k).toNatClampNeg).length
def OBs (bk n H co q : Nat) (kf df od ok ov ow : Nat → Nat) (oz : Nat → Int32) (B : CBk) : Prop := (B.s = (0, -1) ∧ B.ns = n ∧ B.no = q ∧ B.q.1 = fiS ov ow oz q) ∧ NmO n B.nm ∧ (∀ j, j < n → B.F (bk + 1) j = nI (kf j) ∧ B.F (bk + 2) j = nI (df j)) ∧ (B.F bk 0 = nI H ∧ B.F bk 1 = nI co) ∧ (∀ k, k < q → B.R (bk + 8 + k) 0 = some (9 + od k) ∧ B.F (bk + 8 + k) 1 = nI (ok k) ∧ B.F (bk + 8 + k) 2 = nI (fiS ov ow oz k) ∧ B.F (bk + 8 + k) 3 = nI (fiS ov ow oz (k + 1))) ∧ ∀ k, k < q → ∀ a, a < (cdA (ov k) (ow k) (oz k).toNatClampNeg).length → B.q.2.1 (fiS ov ow oz k + a) = some ((cdA (ov k) (ow k) (oz k).toNatClampNeg).getD a (0, 0)).1 ∧ B.q.2.2 (fiS ov ow oz k + a) = ((cdA (ov k) (ow k) (oz k).toNatClampNeg).getD a (0, 0)).2
theorem SBs.obs (S : SBs bk H co n kf df B) : OBs bk n H co 0 kf df od ok ov ow oz B := ⟨S.1, S.2.1, S.2.2.1, S.2.2.2, fun k hk => absurd hk (Nat.not_lt_zero _), fun k hk => absurd hk (Nat.not_lt_zero _)⟩
def cstA (p : C3) (l : List (Nat × Int32)) : C3 := l.foldl (fun q x => cst1 q x.1 x.2) p
theorem cst_map (p : C3) (l : List (Nat × Nat)) : cst bt L ns nm p l = cstA p (l.map (fun x => (x.1, res1 bt L ns nm x.1 x.2))) := by
  unfold cst cstA
  rw [List.foldl_map]
theorem cstA_at : ∀ (l : List (Nat × Int32)) (p : C3), (cstA p l).1 = p.1 + l.length ∧ (∀ i, i < p.1 → (cstA p l).2.1 i = p.2.1 i ∧ (cstA p l).2.2 i = p.2.2 i) ∧ ∀ a, a < l.length → (cstA p l).2.1 (p.1 + a) = some (l.getD a (0, 0)).1 ∧ (cstA p l).2.2 (p.1 + a) = (l.getD a (0, 0)).2
  | [], p => ⟨rfl, fun _ _ => ⟨rfl, rfl⟩, fun a ha => absurd ha (Nat.not_lt_zero _)⟩
  | x :: l, p => by
    obtain ⟨h1, h2, h3⟩ := cstA_at l (cst1 p x.1 x.2)
    have e1 : (cst1 p x.1 x.2).1 = p.1 + 1 := rfl
    have e : cstA p (x :: l) = cstA (cst1 p x.1 x.2) l := rfl
    rw [e]
    refine ⟨by rw [h1, e1, List.length_cons]; omega, fun i hi => ?_, fun a ha => ?_⟩
    · obtain ⟨a1, a2⟩ := h2 i (by omega)
      rw [a1, a2]
      exact ⟨if_neg (by omega), if_neg (by omega)⟩
    · cases a with
      | zero =>
        obtain ⟨a1, a2⟩ := h2 p.1 (by omega)
        rw [Nat.add_zero, a1, a2]
        exact ⟨if_pos rfl, if_pos rfl⟩
      | succ a =>
        have := h3 a (by rw [List.length_cons] at ha; omega)
        rw [e1, show p.1 + 1 + a = p.1 + (a + 1) by omega] at this
        exact this
theorem ern_id : ∀ m i s, (∀ t, i ≤ t → t < i + m → tsg bt L t = 44 → 0 ≤ sna ns nm (tw bt L t)) → ern bt L ns nm m i s = s
  | 0, _, _, _ => rfl
  | m + 1, i, s, h => by
    unfold ern
    have e : er1 bt L ns nm i s = s := by
      unfold er1
      split
      · rename_i c
        exact if_pos (h i (Nat.le_refl _) (by omega) c)
      · rfl
    rw [e]
    exact ern_id m (i + 1) s (fun t a b => h t (by omega) (by omega))
theorem nI_p : ∀ u, u < 12 → 0 ≤ nI u := by decide
theorem isV_9 : ∀ o, o < 5 → isV (9 + o) = true := by decide
theorem lnP_o {o v z : Nat} (ho : o < 5) (hv : v < 9) (hf : 40 ≤ fu) (h : LnA bt L i (tkO o k v w z)) : lnP (tsg bt L) fu i = some (true, i + (tkO o k v w z).length, cdP v i) := by
  obtain ⟨f, rfl⟩ : ∃ f, fu = f + 40 := ⟨fu - 40, by omega⟩
  have h0 : tsg bt L i = 9 + o := (h 0 (by unfold tkO; rw [List.length_cons]; omega)).1
  unfold lnP
  rw [h0, if_neg (by omega), if_pos (isV_9 o ho)]
  exact lo_v h hv
theorem OBs.step (S : OBs bk n H co q kf df od ok ov ow oz B) (hq : q < 16) (hos : od q < 5 ∧ ok q < n ∧ ov q < 9 ∧ ow q < n) (hz : (oz q).toNatClampNeg ≤ 6) (h : LnA bt L B.i (tkO (od q) (ok q) (ov q) (ow q) (oz q).toNatClampNeg)) : OBs bk n H co (q + 1) kf df od ok ov ow oz (nxL bt L bk B (B.i + (tkO (od q) (ok q) (ov q) (ow q) (oz q).toNatClampNeg).length) (cdP (ov q) B.i)) := by
  obtain ⟨⟨s1, s2, s3, s4⟩, s5, s6, ⟨s7, s8⟩, s9, s10⟩ := S
  obtain ⟨o1, o2, o3, o4⟩ := hos
  have n12 := s5.1
  have l2 : 2 ≤ (tkO (od q) (ok q) (ov q) (ow q) (oz q).toNatClampNeg).length := by unfold tkO; rw [List.length_cons, List.length_cons]; omega
  have h0 : tsg bt L B.i = 9 + od q := (h 0 (by omega)).1
  have w1 : tw bt L (B.i + 1) = nmW (ok q) := (h 1 (by omega)).2 (Nat.le_refl 44)
  have z16 : B.no < 16 := by rw [s3]; exact hq
  have eC : cst bt L B.ns B.nm B.q (cdP (ov q) B.i) = cstA B.q (cdA (ov q) (ow q) (oz q).toNatClampNeg) := by
    rw [cst_map, cd_v h o3 (by omega) (by rw [s2]; exact sna_k s5 o4)]
  obtain ⟨c1, c2, c3⟩ := cstA_at (cdA (ov q) (ow q) (oz q).toNatClampNeg) B.q
  have e1 : (cstA B.q (cdA (ov q) (ow q) (oz q).toNatClampNeg)).1 = fiS ov ow oz (q + 1) := by rw [c1, s4]; rfl
  unfold nxL
  rw [h0, if_neg (by omega)]
  unfold nxO
  rw [eC, w1, s2, sna_k s5 o2, h0]
  refine ⟨⟨?_, rfl, ?_, e1⟩, s5, fun j hj => ?_, ⟨?_, ?_⟩, fun k hk => ?_, fun k hk a ha => ?_⟩
  · show er bt L n B.nm (B.i + 1) _ (erO bt L B.no B.i B.s) = _
    have e2 : erO bt L B.no B.i B.s = (0, -1) := by
      unfold erO
      rw [if_pos z16, s1]
    rw [e2]
    unfold er
    refine ern_id _ _ _ (fun t t1 t2 t44 => ?_)
    obtain ⟨a, rfl⟩ : ∃ a, t = B.i + a := ⟨t - B.i, by omega⟩
    obtain ⟨g1, g2⟩ := h a (by omega)
    have mem : (tkO (od q) (ok q) (ov q) (ow q) (oz q).toNatClampNeg).getD a (0, 0) ∈ tkO (od q) (ok q) (ov q) (ow q) (oz q).toNatClampNeg := by
      rw [List.getD_eq_getElem?_getD, List.getElem?_eq_getElem (show a < (tkO (od q) (ok q) (ov q) (ow q) (oz q).toNatClampNeg).length by omega)]
      exact List.getElem_mem _
    obtain ⟨u, u1, u2⟩ := nm_o o2 o4 _ mem (g1.symm.trans t44) (by omega)
    rw [g2 (by rw [← g1]; omega), u2, sna_k s5 u1]
    exact nI_p u (by omega)
  · show aon B.no = _
    unfold aon
    rw [if_pos z16, s3]
  · show aoF bk B.no B.F _ _ _ (bk + 1) j = _ ∧ aoF bk B.no B.F _ _ _ (bk + 2) j = _
    unfold aoF
    rw [if_pos z16, u2_ne (by omega), u2_ne (by omega), u2_ne (by omega), u2_ne (by omega), u2_ne (by omega), u2_ne (by omega), u2_ne (by omega), u2_ne (by omega)]
    exact s6 j hj
  · show aoF bk B.no B.F _ _ _ bk 0 = _
    unfold aoF
    rw [if_pos z16, u2_nj (by decide), u2_ne (by omega), u2_ne (by omega), u2_ne (by omega)]
    exact s7
  · show aoF bk B.no B.F _ _ _ bk 1 = _
    unfold aoF
    rw [if_pos z16, u2_nj (by decide), u2_ne (by omega), u2_ne (by omega), u2_ne (by omega)]
    exact s8
  · show aoR bk B.no B.R _ (bk + 8 + k) 0 = _ ∧ aoF bk B.no B.F _ _ _ (bk + 8 + k) 1 = _ ∧ aoF bk B.no B.F _ _ _ (bk + 8 + k) 2 = _ ∧ aoF bk B.no B.F _ _ _ (bk + 8 + k) 3 = _
    unfold aoR aoF
    rw [if_pos z16, if_pos z16, s3, e1, s4]
    by_cases e : k = q
    · subst e
      rw [u2_eq, u2_ne (by omega), u2_nj (by decide), u2_nj (by decide), u2_eq, u2_ne (by omega), u2_nj (by decide), u2_eq, u2_ne (by omega), u2_eq]
      exact ⟨rfl, rfl, rfl, rfl⟩
    · have ne : ∀ (f : SM) (j : Nat) (x : Int32) (c : Nat), u2 f (bk + 8 + q) j x (bk + 8 + k) c = f (bk + 8 + k) c := fun f j x c => u2_ne (by omega)
      have nb : ∀ (f : SM) (j : Nat) (x : Int32) (c : Nat), u2 f bk j x (bk + 8 + k) c = f (bk + 8 + k) c := fun f j x c => u2_ne (by omega)
      rw [u2_ne (by omega), nb, nb, nb, ne, ne, ne, ne, ne, ne, ne, ne, ne]
      exact s9 k (by omega)
  · show (cstA B.q _).2.1 _ = _ ∧ (cstA B.q _).2.2 _ = _
    by_cases e : k = q
    · subst e
      have := c3 a ha
      rw [s4] at this
      exact this
    · have lt : ∀ m, k + 1 + m ≤ q → fiS ov ow oz (k + 1) ≤ fiS ov ow oz (k + 1 + m) := by
        intro m
        induction m with
        | zero => intro _; exact Nat.le_refl _
        | succ m ih => intro hm; exact Nat.le_trans (ih (by omega)) (Nat.le_add_right _ _)
      have t := lt (q - (k + 1)) (by omega)
      rw [show k + 1 + (q - (k + 1)) = q by omega] at t
      have t2 : fiS ov ow oz (k + 1) = fiS ov ow oz k + (cdA (ov k) (ow k) (oz k).toNatClampNeg).length := rfl
      obtain ⟨d1, d2⟩ := c2 (fiS ov ow oz k + a) (by rw [s4]; omega)
      rw [d1, d2]
      exact s10 k (by omega) a ha
end LNS
