/-! FOUR BYTES IN A NUMBER, and out of it. -/
theorem zb_or (x y : Int32) (i : Nat) : zbt (x ||| y) i = (zbt x i || zbt y i) := by unfold zbt; rw [Int32.toBitVec_or, BitVec.getLsbD_or]
theorem zb_shl (x : Int32) {i : Nat} (hi : i < 32) : zbt (x <<< ((8 : Int32) &&& 31)) i = (decide (8 ≤ i) && zbt x (i - 8)) := by
  unfold zbt
  rw [Int32.toBitVec_shiftLeft]
  show (x.toBitVec <<< (((8 : Int32) &&& 31).toBitVec.smod 32).toNat).getLsbD i = _
  rw [show (((8 : Int32) &&& 31).toBitVec.smod 32).toNat = 8 from by decide +kernel, BitVec.getLsbD_shiftLeft]
  by_cases c : i < 8
  · simp [c, hi, show ¬ 8 ≤ i by omega]
  · simp [c, hi, show 8 ≤ i by omega]
/-- a byte of a text -/
def bA7 (b : Int32) : Prop := b &&& 255 = b
theorem bA7.hi {b : Int32} (h : bA7 b) {i : Nat} (h8 : 8 ≤ i) (hi : i < 32) : zbt b i = false := by
  rw [← h, zb_and, zb_255 i hi, decide_eq_false (by omega), Bool.and_false]
/-- the number behind r bytes more -/
def wrd (x : Int32) (b : Nat → Int32) : Nat → Int32
  | 0 => x
  | r + 1 => (wrd x b r) <<< ((8 : Int32) &&& 31) ||| b r
theorem wrd_at {x : Int32} {b : Nat → Int32} (hb : ∀ r, bA7 (b r)) : ∀ (n r : Nat), r < n → n ≤ 4 → ∀ i, i < 8 → zbt (wrd x b n) (8 * (n - 1 - r) + i) = zbt (b r) i
  | 0, r, h, _, _, _ => absurd h (Nat.not_lt_zero _)
  | n + 1, r, h, h4, i, hi => by
    show zbt ((wrd x b n) <<< ((8 : Int32) &&& 31) ||| b n) _ = _
    rw [zb_or, zb_shl _ (by omega)]
    by_cases e : r = n
    · subst e
      rw [show 8 * (r + 1 - 1 - r) + i = i by omega, decide_eq_false (by omega), Bool.false_and, Bool.false_or]
    · rw [decide_eq_true (by omega), Bool.true_and, (hb n).hi (by omega) (by omega), Bool.or_false, show 8 * (n + 1 - 1 - r) + i - 8 = 8 * (n - 1 - r) + i by omega]
      exact wrd_at hb n r (by omega) (by omega) i hi
/-- the byte r of the four that came last -/
theorem ry_wrd {x : Int32} {b : Nat → Int32} (hb : ∀ r, bA7 (b r)) {r : Nat} (hr : r < 4) : ry8 (wrd x b 4) (24 - 8 * r) = b r := by
  unfold ry8
  refine zb_ext (fun i hi => ?_)
  rw [zb_and, zb_255 i hi]
  by_cases c : i < 8
  · rw [decide_eq_true c, Bool.and_true, zb_sshr (24 - 8 * r) (by omega) _ hi, if_pos (by omega), show 24 - 8 * r + i = 8 * (4 - 1 - r) + i by omega]
    exact wrd_at hb 4 r hr (Nat.le_refl _) i c
  · rw [decide_eq_false c, Bool.and_false, (hb r).hi (by omega) hi]
theorem by_wrd {x : Int32} {b : Nat → Int32} (hb : ∀ r, bA7 (b r)) {r : Nat} (hr : r < 4) : by8 (wrd x b 4) (24 - 8 * r) &&& 255 = b r := (by_ry (by omega)).trans (ry_wrd hb hr)
