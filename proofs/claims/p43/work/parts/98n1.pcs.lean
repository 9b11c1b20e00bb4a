/-! THE PIECES OF THE TAPE'S TEXT, and their tokens. -/
section PCS
variable {la lb l : List Int32} {ta tc ts : List (Nat × Int64)} {x c : Int32} {f e f' e' : Bool × Bool} {u k i o v w z q n m : Nat}
def lcl (x : Int32) : Bool × Bool := (isLD x, decide (x = 60) || decide (x = 62))
def fcl (x : Int32) : Bool × Bool := (isLD x, decide (x = 61))
def cuB (e f : Bool × Bool) : Bool := (!e.1 || !f.1) && (!e.2 || !f.2)
theorem cut_of (h : cuB (lcl x) (fcl c) = true) : cutB x c = true := by
  unfold cuB lcl fcl at h
  unfold cutB
  generalize isLD x = a1 at *
  generalize isLD c = a2 at *
  generalize decide (x = 60) = a3 at *
  generalize decide (x = 62) = a4 at *
  generalize decide (c = 61) = a5 at *
  revert a1 a2 a3 a4 a5
  decide
/-- a piece, its tokens, and of what kinds its first and last bytes are -/
def ScP (l : List Int32) (ts : List (Nat × Int64)) (f e : Bool × Bool) : Prop := Sc l ts ∧ 0 < l.length ∧ fcl (tbt l 0) = f ∧ lcl (l.getD (l.length - 1) 0) = e
theorem ScP.app (A : ScP la ta f e) (B : ScP lb tc f' e') (h : cuB e f' = true) : ScP (la ++ lb) (ta ++ tc) f e' := by
  obtain ⟨a1, a2, a3, a4⟩ := A
  obtain ⟨b1, b2, b3, b4⟩ := B
  refine ⟨a1.app b1 a2 (cut_of (by rw [a4, b3]; exact h)), by rw [List.length_append]; omega, by rw [tbt_l a2]; exact a3, ?_⟩
  rw [← b4, List.length_append, show la.length + lb.length - 1 = la.length + (lb.length - 1) by omega]
  congr 1
  simp [List.getD_eq_getElem?_getD, List.getElem?_append_right]
def scP (l : List Int32) (ts : List (Nat × Int64)) (f e : Bool × Bool) : Bool := scG (tbt l) l.length ts 0 && decide (0 < l.length) && decide (fcl (tbt l 0) = f) && decide (lcl (l.getD (l.length - 1) 0) = e)
theorem ScP.of (h : scP l ts f e = true) : ScP l ts f e := by
  unfold scP at h
  simp only [Bool.and_eq_true, decide_eq_true_eq] at h
  exact ⟨Sc.of h.1.1.1, h.1.1.2, h.1.2, h.2⟩
/-- the worth of a number, of a name -/
def nW (u : Nat) : Int64 := (nI u).toInt64
def nmW (k : Nat) : Int64 := if k < 10 then Int64.ofNat (915 + k) else Int64.ofNat (33909 + k)
abbrev FF : Bool × Bool := (false, false)
abbrev TF : Bool × Bool := (true, false)
abbrev FT : Bool × Bool := (false, true)
def okN : Bool := (List.range 100).all fun u => scP (dgt u) [(45, nW u)] TF TF
theorem ok_n : okN = true := by decide +kernel
theorem pc_n (hu : u < 100) : ScP (dgt u) [(45, nW u)] TF TF := ScP.of (List.all_eq_true.mp ok_n u (List.mem_range.mpr hu))
def okM : Bool := (List.range 12).all fun k => scP (tb 51 ++ dgt k) [(44, nmW k)] FF TF && scP (tb 48 ++ dgt k) [(2, 0), (44, nmW k)] TF TF
theorem ok_m : okM = true := by decide +kernel
theorem pc_m (hk : k < 12) : ScP (tb 51 ++ dgt k) [(44, nmW k)] FF TF := ScP.of (by have := List.all_eq_true.mp ok_m k (List.mem_range.mpr hk); simp only [Bool.and_eq_true] at this; exact this.1)
theorem pc_s (hk : k < 12) : ScP (tb 48 ++ dgt k) [(2, 0), (44, nmW k)] TF TF := ScP.of (by have := List.all_eq_true.mp ok_m k (List.mem_range.mpr hk); simp only [Bool.and_eq_true] at this; exact this.2)
def okK : Bool := (List.range 4).all fun k => scP (tb (4 + k)) [(4 + k, 0)] TF TF
theorem ok_k : okK = true := by decide +kernel
theorem pc_k (hk : k < 4) : ScP (tb (4 + k)) [(4 + k, 0)] TF TF := ScP.of (List.all_eq_true.mp ok_k k (List.mem_range.mpr hk))
def okO : Bool := (List.range 5).all fun k => scP (tb (9 + k)) [(9 + k, 0)] TF TF
theorem ok_o : okO = true := by decide +kernel
theorem pc_o (hk : k < 5) : ScP (tb (9 + k)) [(9 + k, 0)] TF TF := ScP.of (List.all_eq_true.mp ok_o k (List.mem_range.mpr hk))
theorem pc45 : ScP (tb 45) [(0, 0)] TF FF := ScP.of (by decide +kernel)
theorem pc46 : ScP (tb 46) [(33, 0), (1, 0)] FF FF := ScP.of (by decide +kernel)
theorem pc47 : ScP (tb 47) [(33, 0)] FF FF := ScP.of (by decide +kernel)
theorem pc49 : ScP (tb 49) [(3, 0)] FF FF := ScP.of (by decide +kernel)
theorem pc50 : ScP (tb 50) [(8, 0)] FF FF := ScP.of (by decide +kernel)
theorem pc33 : ScP (tb 33) [(33, 0)] FF FF := ScP.of (by decide +kernel)
theorem pc32 : ScP (tb 32) [(32, 0)] FF FF := ScP.of (by decide +kernel)
theorem pc37 : ScP (tb 37) [(37, 0)] FF FF := ScP.of (by decide +kernel)
theorem pc40 : ScP (tb 40) [(40, 0)] FF FT := ScP.of (by decide +kernel)
theorem pc42 : ScP (tb 42) [(42, 0)] FF FF := ScP.of (by decide +kernel)
theorem pc43 : ScP (tb 43) [(43, 0)] FF FF := ScP.of (by decide +kernel)
theorem pc52 : ScP (tb 52) [(14, 0), (18, 0), (20, 0)] FF TF := ScP.of (by decide +kernel)
theorem pc53 : ScP (tb 53) [(14, 0), (15, 0), (38, 0)] FF FF := ScP.of (by decide +kernel)
theorem pc54 : ScP (tb 54) [(41, 0), (15, 0)] (false, true) TF := ScP.of (by decide +kernel)
theorem pc55 : ScP (tb 55) [(14, 0), (24, 0), (21, 0)] FF TF := ScP.of (by decide +kernel)
theorem pc56 : ScP (tb 56) [(14, 0), (23, 0)] FF TF := ScP.of (by decide +kernel)
theorem pc57 : ScP (tb 57) [(14, 0), (22, 0)] FF TF := ScP.of (by decide +kernel)
theorem pc58 : ScP (tb 58) [(26, 0), (1, 0), (39, 0)] FF FT := ScP.of (by decide +kernel)
theorem pc59 : ScP (tb 59) [(14, 0), (31, 0), (19, 0), (20, 0)] FF TF := ScP.of (by decide +kernel)
theorem pc60 : ScP (tb 60) [(25, 0), (16, 0), (40, 0), (45, nW 1), (32, 0)] FF FF := ScP.of (by decide +kernel)
theorem pc61 : ScP (tb 61) [(14, 0), (17, 0), (35, 0), (36, 0)] FF FF := ScP.of (by decide +kernel)
theorem pc62 : ScP (tb 62) [(40, 0), (45, nW 0)] FF TF := ScP.of (by decide +kernel)
theorem pc63 : ScP (tb 63) [(14, 0), (24, 0), (31, 0), (18, 0), (20, 0)] FF TF := ScP.of (by decide +kernel)
theorem pc64 : ScP (tb 64) [(26, 0), (24, 0), (23, 0)] FF TF := ScP.of (by decide +kernel)
/-- the tokens of a test, of a stray's line, of an order's line -/
def tkT (v w z : Nat) : List (Nat × Int64) := match v with
  | 0 => []
  | 1 => [(14, 0), (18, 0), (20, 0), (44, nmW w), (40, 0), (45, nW z)]
  | 2 => [(14, 0), (15, 0), (38, 0), (45, nW z), (37, 0), (45, nW z), (41, 0), (15, 0)]
  | 3 => [(14, 0), (24, 0), (21, 0), (44, nmW w)]
  | 4 => [(14, 0), (23, 0), (44, nmW w)]
  | 5 => [(14, 0), (22, 0), (44, nmW w), (26, 0), (1, 0), (39, 0), (45, nW z)]
  | 6 => [(14, 0), (31, 0), (19, 0), (20, 0), (44, nmW w), (43, 0), (45, nW z), (25, 0), (16, 0), (40, 0), (45, nW 1), (32, 0)]
  | 7 => [(14, 0), (17, 0), (35, 0), (36, 0), (45, nW z), (40, 0), (45, nW 0)]
  | _ => [(14, 0), (24, 0), (31, 0), (18, 0), (20, 0), (44, nmW w), (42, 0), (45, nW z), (26, 0), (24, 0), (23, 0), (44, nmW w), (32, 0)]
def tkS (i k e : Nat) : List (Nat × Int64) := [(2, 0), (44, nmW i), (3, 0), (4 + k, 0), (8, 0), (45, nW e), (33, 0)]
def tkO (o k v w z : Nat) : List (Nat × Int64) := (9 + o, 0) :: (44, nmW k) :: (tkT v w z ++ [(33, 0)])
def tkH (H co : Nat) : List (Nat × Int64) := [(0, 0), (45, nW H), (33, 0), (1, 0), (45, nW co), (33, 0)]
theorem tkH_sc (hH : n < 100) (hc : m < 100) : ScP (hdT n m) (tkH n m) TF FF := by
  have X := (((pc45.app (pc_n hH) rfl).app pc46 rfl).app (pc_n hc) rfl).app pc47 rfl
  simpa only [hdT, tkH, List.append_assoc, List.cons_append, List.nil_append] using X
theorem tkS_sc (S : ScP l ts f FF) {e : Nat} (hi : i < 12) (hk : k < 4) (he : e ≤ 30) : ScP (stT i k e l) (ts ++ tkS i k e) f FF := by
  have X := (((((S.app (pc_s hi) rfl).app pc49 rfl).app (pc_k hk) rfl).app pc50 rfl).app (pc_n (show e < 100 by omega)) rfl).app pc33 rfl
  simpa only [stT, tkS, List.append_assoc, List.cons_append, List.nil_append] using X
/-- a test behind a piece that ends in a digit -/
theorem tkT_sc (S : ScP l ts f TF) (hv : v < 9) (hw : w < 12) (hz : z < 100) : ∃ e, ScP (l ++ tstr v w z) (ts ++ tkT v w z) f e := by
  have T51 := pc_m hw
  have N := pc_n hz
  rcases (by omega : v = 0 ∨ v = 1 ∨ v = 2 ∨ v = 3 ∨ v = 4 ∨ v = 5 ∨ v = 6 ∨ v = 7 ∨ v = 8) with rfl | rfl | rfl | rfl | rfl | rfl | rfl | rfl | rfl
  · exact ⟨TF, by simpa only [tstr, tkT, List.append_nil, show tb 44 = [] from rfl] using S⟩
  · have X := (((S.app pc52 rfl).app T51 rfl).app pc40 rfl).app N rfl
    exact ⟨TF, by simpa only [tstr, tOf, tkT, List.append_assoc, List.cons_append, List.nil_append] using X⟩
  · have X := ((((S.app pc53 rfl).app N rfl).app pc37 rfl).app N rfl).app pc54 rfl
    exact ⟨TF, by simpa only [tstr, tOf, tkT, List.append_assoc, List.cons_append, List.nil_append] using X⟩
  · have X := (S.app pc55 rfl).app T51 rfl
    exact ⟨TF, by simpa only [tstr, tOf, tkT, List.append_assoc, List.cons_append, List.nil_append] using X⟩
  · have X := (S.app pc56 rfl).app T51 rfl
    exact ⟨TF, by simpa only [tstr, tOf, tkT, List.append_assoc, List.cons_append, List.nil_append] using X⟩
  · have X := (((S.app pc57 rfl).app T51 rfl).app pc58 rfl).app N rfl
    exact ⟨TF, by simpa only [tstr, tOf, tkT, List.append_assoc, List.cons_append, List.nil_append] using X⟩
  · have X := ((((S.app pc59 rfl).app T51 rfl).app pc43 rfl).app N rfl).app pc60 rfl
    exact ⟨FF, by simpa only [tstr, tOf, tkT, List.append_assoc, List.cons_append, List.nil_append] using X⟩
  · have X := ((S.app pc61 rfl).app N rfl).app pc62 rfl
    exact ⟨TF, by simpa only [tstr, tOf, tkT, List.append_assoc, List.cons_append, List.nil_append] using X⟩
  · have X := ((((((S.app pc63 rfl).app T51 rfl).app pc42 rfl).app N rfl).app pc64 rfl).app T51 rfl).app pc32 rfl
    exact ⟨FF, by simpa only [tstr, tOf, tkT, List.append_assoc, List.cons_append, List.nil_append] using X⟩
theorem cuB_FF (e : Bool × Bool) : cuB e FF = true := by
  obtain ⟨a, b⟩ := e
  cases a <;> cases b <;> rfl
theorem tkO_sc (S : ScP l ts f FF) (ho : o < 5) (hk : k < 12) (hv : v < 9) (hw : w < 12) (hz : z < 100) : ScP (orT o k v w z l) (ts ++ tkO o k v w z) f FF := by
  obtain ⟨e, X⟩ := tkT_sc ((S.app (pc_o ho) rfl).app (pc_m hk) rfl) hv hw hz
  have X := X.app pc33 (cuB_FF e)
  simpa only [orT, tkO, List.append_assoc, List.cons_append, List.nil_append] using X
end PCS
