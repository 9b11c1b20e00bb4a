/-! NAMES AND NUMBERS: two names are worth the same iff their bytes are the same; a number is worth the same on both sides. -/
/-- a byte's figure in a name's worth -/
def dg (b : Int32) : Nat := (lnum b).toNatClampNeg
def dgOK (u : Nat) : Bool := !isLD (nI u) || (decide (1 ≤ dg (nI u)) && decide (dg (nI u) ≤ 36) && decide (lnum (nI u) = nI (dg (nI u))) && decide ((if dg (nI u) ≤ 26 then 96 + dg (nI u) else 21 + dg (nI u)) = u))
theorem dg_all : (List.range 256).all dgOK = true := by decide +kernel
theorem dg_ok {u : Nat} (hu : u < 256) (h : isLD (nI u) = true) : (1 ≤ dg (nI u) ∧ dg (nI u) ≤ 36) ∧ lnum (nI u) = nI (dg (nI u)) ∧ (if dg (nI u) ≤ 26 then 96 + dg (nI u) else 21 + dg (nI u)) = u := by
  have h9 := List.all_eq_true.mp dg_all u (List.mem_range.mpr hu)
  unfold dgOK at h9
  rw [h] at h9
  simp only [Bool.not_true, Bool.false_or, Bool.and_eq_true, decide_eq_true_eq] at h9
  exact ⟨h9.1.1, h9.1.2, h9.2⟩
theorem dg_inj {u v : Nat} (hu : u < 256) (hv : v < 256) (h : isLD (nI u) = true) (h2 : isLD (nI v) = true) (e : dg (nI u) = dg (nI v)) : u = v := by
  have a := (dg_ok hu h).2.2
  have b := (dg_ok hv h2).2.2
  rw [e] at a
  exact a.symm.trans b
/-- the worth of the first n bytes at q -/
def gv (bt : Nat → Int32) (q : Nat) : Nat → Nat
  | 0 => 0
  | n + 1 => gv bt q n * 37 + dg (bt (q + n))
theorem gv_inj {bt : Nat → Int32} {p q : Nat} : ∀ n m, (∀ j, j < n → 1 ≤ dg (bt (p + j)) ∧ dg (bt (p + j)) ≤ 36) → (∀ j, j < m → 1 ≤ dg (bt (q + j)) ∧ dg (bt (q + j)) ≤ 36) → gv bt p n = gv bt q m → n = m ∧ ∀ j, j < n → dg (bt (p + j)) = dg (bt (q + j))
  | 0, 0, _, _, _ => ⟨rfl, fun j hj => absurd hj (Nat.not_lt_zero _)⟩
  | 0, m + 1, _, hm, e => by
    have := hm m (by omega)
    have e : 0 = gv bt q m * 37 + dg (bt (q + m)) := e
    omega
  | n + 1, 0, hn, _, e => by
    have := hn n (by omega)
    have e : gv bt p n * 37 + dg (bt (p + n)) = 0 := e
    omega
  | n + 1, m + 1, hn, hm, e => by
    have a1 := hn n (by omega)
    have a2 := hm m (by omega)
    have e : gv bt p n * 37 + dg (bt (p + n)) = gv bt q m * 37 + dg (bt (q + m)) := e
    obtain ⟨rfl, i2⟩ := gv_inj n m (fun j hj => hn j (by omega)) (fun j hj => hm j (by omega)) (by omega)
    refine ⟨rfl, fun j hj => ?_⟩
    by_cases c : j = n
    · subst c; omega
    · exact i2 j (by omega)
theorem gv_lt {bt : Nat → Int32} {p : Nat} : ∀ n, (∀ j, j < n → dg (bt (p + j)) ≤ 36) → gv bt p n < 37 ^ n
  | 0, _ => by show 0 < 1; decide
  | n + 1, h => by
    have a := gv_lt n (fun j hj => h j (by omega))
    have b := h n (by omega)
    show gv bt p n * 37 + dg (bt (p + n)) < 37 ^ (n + 1)
    rw [Nat.pow_succ]
    omega
theorem gv_eq {bt : Nat → Int32} {p q : Nat} : ∀ n, (∀ j, j < n → bt (p + j) = bt (q + j)) → gv bt p n = gv bt q n
  | 0, _ => rfl
  | n + 1, h => by
    show gv bt p n * 37 + dg (bt (p + n)) = gv bt q n * 37 + dg (bt (q + n))
    rw [gv_eq n (fun j hj => h j (by omega)), h n (by omega)]
theorem dg64_all : (List.range 37).all (fun d => decide ((nI d).toInt64 = Int64.ofNat d)) = true := by decide +kernel
theorem dg64 {d : Nat} (h : d ≤ 36) : (nI d).toInt64 = Int64.ofNat d := of_decide_eq_true (List.all_eq_true.mp dg64_all d (List.mem_range.mpr (by omega)))
theorem ofN_am (a b : Nat) : Int64.ofNat a * 37 + Int64.ofNat b = Int64.ofNat (a * 37 + b) := by
  rw [Int64.ofNat_add, Int64.ofNat_mul]
  rfl
theorem ofN_inj {a b : Nat} (ha : a < 2 ^ 63) (hb : b < 2 ^ 63) (h : Int64.ofNat a = Int64.ofNat b) : a = b := by
  have h1 := congrArg Int64.toInt h
  rw [Int64.toInt_ofNat_of_lt ha, Int64.toInt_ofNat_of_lt hb] at h1
  omega
/-- the bytes up to L are bytes -/
def byt (bt : Nat → Int32) (L : Nat) : Prop := (∀ i, i < L → ∃ u, u < 256 ∧ bt i = nI u) ∧ ∀ i, L ≤ i → bt i = -1
theorem byt_ld {bt : Nat → Int32} {L i : Nat} (b : byt bt L) (h : isLD (bt i) = true) : ∃ u, u < 256 ∧ bt i = nI u := by
  by_cases c : i < L
  · exact b.1 i c
  · rw [b.2 i (by omega)] at h
    exact absurd h (by decide)
theorem spl_gv {bt : Nat → Int32} {L q : Nat} (b : byt bt L) : ∀ m k, spl bt m (q + k) (Int64.ofNat (gv bt q k)) = Int64.ofNat (gv bt q (re isLD bt m (q + k) - q))
  | 0, k => by
    show Int64.ofNat (gv bt q k) = Int64.ofNat (gv bt q (q + k - q))
    rw [Nat.add_sub_cancel_left]
  | m + 1, k => by
    cases c : isLD (bt (q + k)) with
    | false =>
      rw [(spl_f c).1, (spl_f (s := 0) c).2, Nat.add_sub_cancel_left]
    | true =>
      obtain ⟨u, hu, e⟩ := byt_ld b c
      rw [(spl_t c).1, (spl_t (s := 0) c).2]
      have h1 := dg_ok hu (by rw [← e]; exact c)
      rw [e, h1.2.1, dg64 h1.1.2, ofN_am]
      have h2 : gv bt q k * 37 + dg (nI u) = gv bt q (k + 1) := by
        show _ = gv bt q k * 37 + dg (bt (q + k))
        rw [e]
      rw [h2]
      exact spl_gv b m (k + 1)
theorem re_run {P : Int32 → Bool} {bt : Nat → Int32} : ∀ m p j, p ≤ j → j < re P bt m p → P (bt j) = true
  | 0, p, j, h1, h2 => by
    have h2 : j < p := h2
    omega
  | m + 1, p, j, h1, h2 => by
    unfold re at h2
    split at h2
    · rename_i c
      by_cases e : j = p
      · subst e; exact c
      · exact re_run m (p + 1) j (by omega) h2
    · omega
theorem ite_P {c : Prop} [Decidable c] {a b : Nat} (ha : ¬ a = 44 ∧ ¬ a = 45) (hb : ¬ b = 44 ∧ ¬ b = 45) : ¬ (if c then a else b) = 44 ∧ ¬ (if c then a else b) = 45 := by
  by_cases h : c
  · rw [if_pos h]; exact ha
  · rw [if_neg h]; exact hb
theorem sy1_44 {b : Int32} {e : Bool} : ¬ sy1 b e = 44 ∧ ¬ sy1 b e = 45 := by
  unfold sy1
  repeat (refine ite_P (by decide) ?_)
  decide
/-- a NAME token -/
theorem nam_tok {bt : Nat → Int32} {L t : Nat} (h : tsg bt L t = 44) : t < 400 ∧ tq bt L t < L ∧ isL (bt (tq bt L t)) = true ∧ mny bt L (tq bt L t) = re isLD bt (L - tq bt L t) (tq bt L t) - tq bt L t ∧ mny bt L (tq bt L t) ≤ 10 ∧ tw bt L t = spl bt (L - tq bt L t) (tq bt L t) 0 := by
  unfold tsg at h
  unfold tw
  by_cases c : t < 400
  · rw [if_pos c] at h ⊢
    refine ⟨c, ?_⟩
    generalize tq bt L t = q at h ⊢
    unfold tkA at h ⊢
    by_cases c1 : L ≤ q
    · rw [if_pos c1] at h; cases h
    · rw [if_neg c1] at h ⊢
      by_cases c2 : isL (bt q) = true
      · rw [if_pos c2] at h ⊢
        by_cases c3 : 10 < re isLD bt (L - q) q - q
        · rw [if_pos c3] at h; cases h
        · rw [if_neg c3]
          have hm : mny bt L q = re isLD bt (L - q) q - q := if_pos c2
          exact ⟨by omega, c2, hm, by omega, rfl⟩
      · rw [if_neg c2] at h
        by_cases c3 : isD (bt q) = true
        · rw [if_pos c3] at h
          split at h <;> cases h
        · rw [if_neg c3] at h
          rw [sym_eq (Bool.eq_false_iff.mpr c2)] at h
          exact absurd h sy1_44.1
  · rw [if_neg c] at h
    split at h <;> cases h
theorem nam_dg {bt : Nat → Int32} {L t : Nat} (b : byt bt L) (h : tsg bt L t = 44) : ∀ j, j < mny bt L (tq bt L t) → isLD (bt (tq bt L t + j)) = true ∧ (1 ≤ dg (bt (tq bt L t + j)) ∧ dg (bt (tq bt L t + j)) ≤ 36) := by
  intro j hj
  obtain ⟨a1, a2, a3, a4, a5, a6⟩ := nam_tok h
  have c := re_run (P := isLD) (bt := bt) (L - tq bt L t) (tq bt L t) (tq bt L t + j) (by omega) (by omega)
  obtain ⟨u, hu, e⟩ := byt_ld b c
  refine ⟨c, ?_⟩
  rw [e] at c ⊢
  exact (dg_ok hu c).1
theorem nam_tw {bt : Nat → Int32} {L t : Nat} (b : byt bt L) (h : tsg bt L t = 44) : tw bt L t = Int64.ofNat (gv bt (tq bt L t) (mny bt L (tq bt L t))) := by
  obtain ⟨a1, a2, a3, a4, a5, a6⟩ := nam_tok h
  rw [a6, a4]
  exact spl_gv (q := tq bt L t) b (L - tq bt L t) 0
/-- same worth, same bytes -/
def smn (bt : Nat → Int32) (L t u : Nat) : Prop := mny bt L (tq bt L t) = mny bt L (tq bt L u) ∧ ∀ j, j < mny bt L (tq bt L t) → bt (tq bt L t + j) = bt (tq bt L u + j)
theorem nam_eq {bt : Nat → Int32} {L t u : Nat} (b : byt bt L) (ht : tsg bt L t = 44) (hu : tsg bt L u = 44) : tw bt L t = tw bt L u ↔ smn bt L t u := by
  have dt := nam_dg b ht
  have du := nam_dg b hu
  have lt := gv_lt (bt := bt) (p := tq bt L t) (mny bt L (tq bt L t)) (fun j hj => (dt j hj).2.2)
  have lu := gv_lt (bt := bt) (p := tq bt L u) (mny bt L (tq bt L u)) (fun j hj => (du j hj).2.2)
  have pt : 37 ^ mny bt L (tq bt L t) ≤ 37 ^ 10 := Nat.pow_le_pow_right (by decide) (nam_tok ht).2.2.2.2.1
  have pu : 37 ^ mny bt L (tq bt L u) ≤ 37 ^ 10 := Nat.pow_le_pow_right (by decide) (nam_tok hu).2.2.2.2.1
  have h63 : 37 ^ 10 < 2 ^ 63 := by decide
  rw [nam_tw b ht, nam_tw b hu]
  refine ⟨fun e => ?_, fun ⟨e1, e2⟩ => ?_⟩
  · have e := ofN_inj (Nat.lt_of_lt_of_le lt (Nat.le_trans pt (Nat.le_of_lt h63))) (Nat.lt_of_lt_of_le lu (Nat.le_trans pu (Nat.le_of_lt h63))) e
    obtain ⟨i1, i2⟩ := gv_inj _ _ (fun j hj => (dt j hj).2) (fun j hj => (du j hj).2) e
    refine ⟨i1, fun j hj => ?_⟩
    have l1 := (dt j hj).1
    have l2 := (du j (by omega)).1
    obtain ⟨v, hv, e3⟩ := byt_ld b l1
    obtain ⟨w, hw, e4⟩ := byt_ld b l2
    have := i2 j hj
    rw [e3, e4] at this
    rw [e3] at l1
    rw [e4] at l2
    rw [e3, e4, dg_inj hv hw l1 l2 this]
  · rw [← e1, gv_eq _ e2]
/-- numbers -/
theorem nmb_nmi {bt : Nat → Int32} : ∀ m p (s : Int64), (nmb bt m p s).toInt32 = nmi bt (re isD bt m p - p) p s.toInt32
  | 0, p, s => by
    show s.toInt32 = nmi bt (p - p) p s.toInt32
    rw [Nat.sub_self]
    rfl
  | m + 1, p, s => by
    cases c : isD (bt p) with
    | false => rw [(nmb_f c).1, (nmb_f (s := 0) c).2, Nat.sub_self]; rfl
    | true =>
      rw [(nmb_t c).1, (nmb_t (s := 0) c).2, nmb_nmi m (p + 1)]
      have hr := (re_le (P := isD) (bt := bt) m (p + 1)).1
      rw [show re isD bt m (p + 1) - p = (re isD bt m (p + 1) - (p + 1)) + 1 by omega]
      show nmi bt _ (p + 1) _ = nmi bt _ (p + 1) (10 * s.toInt32 + bt p - 48)
      have e : (s * 10 + (bt p - 48).toInt64).toInt32 = 10 * s.toInt32 + bt p - 48 := by
        rw [Int64.toInt32_add, Int64.toInt32_mul, Int32.toInt32_toInt64]
        show s.toInt32 * 10 + (bt p - 48) = _
        rw [Int32.mul_comm]
        grind
      rw [e]
theorem num_tw {bt : Nat → Int32} {L t : Nat} (h : tsg bt L t = 45) : (tw bt L t).toInt32 = numT bt L t := by
  unfold tsg at h
  unfold tw numT
  by_cases c : t < 400
  · rw [if_pos c] at h ⊢
    generalize tq bt L t = q at h ⊢
    unfold tkA at h ⊢
    by_cases c1 : L ≤ q
    · rw [if_pos c1] at h; cases h
    · rw [if_neg c1] at h ⊢
      by_cases c2 : isL (bt q) = true
      · rw [if_pos c2] at h
        exfalso
        split at h
        · cases h
        · have h : kwd bt q _ = 45 := h
          unfold kwd at h
          cases e : fnd (kwB bt q (re isLD bt (L - q) q)) 49 0 with
          | none => rw [e] at h; cases h
          | some v =>
            rw [e] at h
            have h : v = 45 := h
            subst h
            have h3 := (fnd_lt e).2.2
            unfold kwB at h3
            rw [Bool.and_eq_true, decide_eq_true_eq] at h3
            have h4 := h3.1
            rw [fst_e (by decide) (by decide)] at h4
            have h5 : q < re isLD bt (L - q) q := by
              obtain ⟨mm, hm⟩ : ∃ mm, L - q = mm + 1 := ⟨L - q - 1, by omega⟩
              rw [hm, (spl_t (s := 0) (show isLD (bt q) = true by unfold isLD; rw [c2]; rfl)).2]
              have := (re_le (P := isLD) (bt := bt) mm (q + 1)).1
              omega
            omega
      · rw [if_neg c2] at h ⊢
        by_cases c3 : isD (bt q) = true
        · rw [if_pos c3] at h ⊢
          by_cases c4 : 6 < re isD bt (L - q) q - q
          · rw [if_pos c4] at h; cases h
          · rw [if_neg c4]
            have hm : mny bt L q = re isD bt (L - q) q - q := (if_neg c2).trans (if_pos c3)
            rw [hm]
            exact nmb_nmi (L - q) q 0
        · rw [if_neg c3] at h
          rw [sym_eq (Bool.eq_false_iff.mpr c2)] at h
          exact absurd h sy1_44.2
  · rw [if_neg c] at h
    split at h <;> cases h
