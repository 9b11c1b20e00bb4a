/-! READS AND WRITES of the abstract heap, as the kit's rows see them. -/
theorem k_kd_tag (L n : Nat) : 10 ≤ (k_kd L n).1 := by
  unfold k_kd
  (repeat' split) <;> simp
def am_WS (D : va_G) (dA : Nat → ClassId) (ad : Nat → Nat) (bs L : Nat) (xs : Nat → Int32) (as : List Nat) (h : AH) (H : Heap) : Prop :=
  am_NC + as.length = nx h ∧ va_P D vwCl (am_ws dA ad as h) H ∧ va_D (fun q => bs ≤ q) (am_ws dA ad as h) ∧ am_VH h ∧ am_CA L xs h
theorem am_ws_len {dA : Nat → ClassId} {ad : Nat → Nat} {as : List Nat} {h : AH} : (am_ws dA ad as h).length = as.length := by simp [am_ws]
theorem am_ws_get {dA : Nat → ClassId} {ad : Nat → Nat} {as : List Nat} {h : AH} {i : Nat} (hi : i < as.length) : (am_ws dA ad as h)[i]? = some (am_phi ad as (am_NC + i), am_ob dA ad as h (am_NC + i)) := by
  simp [am_ws, hi]
theorem am_ws_at {dA : Nat → ClassId} {ad : Nat → Nat} {as : List Nat} {h : AH} {a : Nat} (h0 : am_NC ≤ a) (h1 : a < am_NC + as.length) : (am_ws dA ad as h)[a - am_NC]? = some (am_phi ad as a, am_ob dA ad as h a) := by
  rw [am_ws_get (by omega), show am_NC + (a - am_NC) = a by omega]
theorem am_ob_congr {dA : Nat → ClassId} {ad : Nat → Nat} {as : List Nat} {h h' : AH} {n : Nat} (h1 : kd h' n = kd h n) (h2 : ∀ j, iv h' n j = iv h n j) (h3 : ∀ j, jv h' n j = jv h n j) (h4 : ∀ j, rv h' n j = rv h n j) : am_ob dA ad as h' n = am_ob dA ad as h n := by
  have e : ∀ ci j, am_fv ad as h' n ci j = am_fv ad as h n ci j := fun ci j => by unfold am_fv; rw [h2, h3, h4]
  have ef : am_fv ad as h' n = am_fv ad as h n := by
    funext ci j
    exact e ci j
  unfold am_ob am_arr
  rw [h1, ef]
  simp only [h2, h3, h4]
theorem am_ws_set {dA : Nat → ClassId} {ad : Nat → Nat} {as : List Nat} {h h' : AH} {a : Nat} {x : va_E} (h0 : am_NC ≤ a) (h1 : a < am_NC + as.length) (he : am_ob dA ad as h' a = x) (ho : ∀ n, n ≠ a → am_ob dA ad as h' n = am_ob dA ad as h n) : (am_ws dA ad as h).set (a - am_NC) (am_phi ad as a, x) = am_ws dA ad as h' := by
  refine List.ext_getElem? fun i => ?_
  rw [List.getElem?_set, am_ws_len]
  by_cases e : a - am_NC = i
  · rw [if_pos e, if_pos (by omega), ← e, am_ws_at h0 h1, he]
  · rw [if_neg e]
    by_cases hi : i < as.length
    · rw [am_ws_get hi, am_ws_get hi, ho _ (by omega)]
    · rw [List.getElem?_eq_none (by rw [am_ws_len]; omega), List.getElem?_eq_none (by rw [am_ws_len]; omega)]
theorem am_fresh {L : Nat} {xs : Nat → Int32} {h : AH} {a : Nat} (hC : am_CA L xs h) (ht : (kd h a).1 < 10) : am_NC ≤ a := by
  by_cases e : a < am_NC
  · have h1 := (hC a e).1
    have h2 := k_kd_tag L a
    rw [h1] at ht
    omega
  · omega
/-- an object's row among the world's -/
theorem am_obj {D : va_G} {dA : Nat → ClassId} {ad : Nat → Nat} {bs L : Nat} {xs : Nat → Int32} {as : List Nat} {h : AH} {H : Heap} {a ci : Nat} (hW : am_WS D dA ad bs L xs as h H) (ha : a < nx h) (hk : kd h a = (0, ci)) :
    am_NC ≤ a ∧ a < am_NC + as.length ∧ ci < 10 ∧ (am_ws dA ad as h)[a - am_NC]? = some (am_phi ad as a, .inr (ci, (List.range (fnum ci)).map (am_fv ad as h a ci))) := by
  obtain ⟨h1, -, -, hV, hC⟩ := hW
  have h0 := am_fresh hC (a := a) (by simp [hk])
  have h2 : a < am_NC + as.length := by omega
  refine ⟨h0, h2, ?_, ?_⟩
  · have := (hV.2.2 a h0 ha).2 (by rw [hk])
    rwa [hk] at this
  · rw [am_ws_at h0 h2]
    unfold am_ob
    rw [hk]
    rfl
theorem am_arr_at {D : va_G} {dA : Nat → ClassId} {ad : Nat → Nat} {bs L : Nat} {xs : Nat → Int32} {as : List Nat} {h : AH} {H : Heap} {a : Nat} (hW : am_WS D dA ad bs L xs as h H) (ha : a < nx h) (h6 : (kd h a).1 < 10) (h7 : (kd h a).1 ≠ 0) :
    am_NC ≤ a ∧ a < am_NC + as.length ∧ (am_ws dA ad as h)[a - am_NC]? = some (am_phi ad as a, am_arr dA ad as h a (kd h a).1 (kd h a).2) := by
  obtain ⟨h1, -, -, hV, hC⟩ := hW
  have h0 := am_fresh hC h6
  have h2 : a < am_NC + as.length := by omega
  refine ⟨h0, h2, ?_⟩
  rw [am_ws_at h0 h2]
  unfold am_ob
  rw [if_neg h7]
/-! what a write leaves -/
theorem am_CA_set {L : Nat} {xs : Nat → Int32} {h h' : AH} {a : Nat} (hC : am_CA L xs h) (h0 : am_NC ≤ a) (h1 : ∀ n, n ≠ a → kd h' n = kd h n) (h2 : ∀ n j, n ≠ a → iv h' n j = iv h n j) (h3 : ∀ n j, n ≠ a → rv h' n j = rv h n j) : am_CA L xs h' := by
  intro n hn
  have e : n ≠ a := by omega
  rw [h1 n e]
  refine ⟨(hC n hn).1, fun j => ?_⟩
  rw [h2 n j e, h3 n j e]
  exact (hC n hn).2 j
theorem u2_ne {α : Type} {f : Nat → Nat → α} {a j : Nat} {x : α} {n i : Nat} (h : n ≠ a) : u2 f a j x n i = f n i := by unfold u2; rw [if_neg (fun q => h q.1)]
theorem u2_eq {α : Type} {f : Nat → Nat → α} {a j : Nat} {x : α} : u2 f a j x a j = x := by unfold u2; rw [if_pos ⟨rfl, rfl⟩]
theorem u2_ni {α : Type} {f : Nat → Nat → α} {a j : Nat} {x : α} {i : Nat} (h : i ≠ j) : u2 f a j x a i = f a i := by unfold u2; rw [if_neg (fun q => h q.2)]
theorem iv_setI {h : AH} {a j : Nat} {x : Int32} {b i : Nat} : iv (setI h a j x) b i = u2 (iv h) a j x b i := rfl
theorem jv_setJ {h : AH} {a j : Nat} {x : Int64} {b i : Nat} : jv (setJ h a j x) b i = u2 (jv h) a j x b i := rfl
theorem rv_setR {h : AH} {a j : Nat} {x : Option Nat} {b i : Nat} : rv (setR h a j x) b i = u2 (rv h) a j x b i := rfl
/-- the fields of an object with one written -/
theorem am_fv_set {ad : Nat → Nat} {as : List Nat} {h h' : AH} {a ci j : Nat} {v : Value} (hj : j < fnum ci) (h1 : am_fv ad as h' a ci j = v) (h2 : ∀ i, i ≠ j → am_fv ad as h' a ci i = am_fv ad as h a ci i) : ((List.range (fnum ci)).map (am_fv ad as h a ci)).set j v = (List.range (fnum ci)).map (am_fv ad as h' a ci) := by
  refine List.ext_getElem? fun i => ?_
  rw [List.getElem?_set]
  by_cases e : j = i
  · rw [if_pos e]
    subst e
    simp [hj, h1]
  · rw [if_neg e]
    by_cases hi : i < fnum ci
    · simp [hi, h2 i (fun q => e q.symm)]
    · simp [hi]
theorem am_fv_get {ad : Nat → Nat} {as : List Nat} {h : AH} {a ci j : Nat} (hj : j < fnum ci) : ((List.range (fnum ci)).map (am_fv ad as h a ci))[j]? = some (am_fv ad as h a ci j) := by simp [hj]
