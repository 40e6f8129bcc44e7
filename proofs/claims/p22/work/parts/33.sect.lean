/-! a section of the class, in the words of both sides -/
def cRnd (v wy : Int32) : Int32 := if wy = 1 then fDiv v 64 else if wy = 2 then fDiv (v + 32) 64 else v / 64
def isW (wy : Int32) : Prop := wy = 0 ∨ wy = 1 ∨ wy = 2
theorem i64 : (64 : Int32).toInt = 64 := by decide
theorem mDown_toInt {v : Int32} (h : -2147483584 ≤ v.toInt) : (mDown v 64).toInt = v.toInt / 64 := by
  have hr := fb_rng v
  have e0 : (0 : Int32).toInt = 0 := by decide
  have e1 : (1 : Int32).toInt = 1 := by decide
  unfold mDown
  by_cases hv : v.toInt < 0
  · rw [if_pos (Int32.lt_iff_toInt_lt.mpr (by omega))]
    have a1 : (64 - 1 - v : Int32).toInt = 63 - v.toInt := by
      rw [fb_subI (by rw [show (64 - 1 : Int32).toInt = 63 by decide]; omega) (by rw [show (64 - 1 : Int32).toInt = 63 by decide]; omega)]
      rfl
    have a2 : ((64 - 1 - v : Int32) / 64).toInt = (63 - v.toInt) / 64 := by
      rw [fb_divI (by rw [i64]; decide), a1, i64, Int.tdiv_eq_ediv_of_nonneg (by omega)]
    rw [fb_negI (by rw [a2]; omega), a2]
    omega
  · rw [if_neg (fun h9 => by have := Int32.lt_iff_toInt_lt.mp h9; omega), fb_divI (by rw [i64]; decide), i64, Int.tdiv_eq_ediv_of_nonneg (by omega)]
theorem mDown_fDiv {v : Int32} (h : -2147483584 ≤ v.toInt) : fDiv v 64 = mDown v 64 := by
  rw [← Int32.toInt_inj, fDiv_toInt (by rw [i64]; decide), mDown_toInt h, i64]
theorem cRnd_eq {v wy : Int32} (hw : isW wy) (h1 : -1073741824 ≤ v.toInt) (h2 : v.toInt ≤ 1073741824) : mClamp (cRnd v wy) = mRnd v wy := by
  unfold cRnd mRnd
  have h32 : (v + 32).toInt = v.toInt + 32 := by
    rw [fb_addI (by rw [show (32 : Int32).toInt = 32 by decide]; omega) (by rw [show (32 : Int32).toInt = 32 by decide]; omega)]; rfl
  rcases hw with h | h | h
  · rw [h, if_neg (by decide), if_neg (by decide), if_pos rfl]
  · rw [h, if_pos rfl, if_neg (by decide), if_pos rfl, mDown_fDiv (by omega)]
  · rw [h, if_neg (by decide), if_pos rfl, if_neg (by decide), if_neg (by decide), mDown_fDiv (by omega)]
theorem cClamp_eq (y : Int32) : (if -32767 < (if y < 32767 then y else 32767) then (if y < 32767 then y else 32767) else -32767) = mClamp y := by
  have k1 : (32767 : Int32).toInt = 32767 := by decide
  have k2 : (-32767 : Int32).toInt = -32767 := by decide
  unfold mClamp
  simp only [Int32.lt_iff_toInt_lt, k1, k2]
  by_cases h1 : y.toInt < 32767
  · rw [if_pos h1]
    by_cases h2 : y.toInt < -32767
    · rw [if_neg (by omega), if_pos h2]
    · rw [if_neg h2, if_neg (show ¬ 32767 < y.toInt by omega)]
      by_cases h3 : -32767 < y.toInt
      · rw [if_pos h3]
      · rw [if_neg h3, ← Int32.toInt_inj, k2]; omega
  · rw [if_neg h1, if_pos (show (-32767 : Int) < (32767 : Int32).toInt by decide), if_neg (show ¬ y.toInt < -32767 by omega)]
    by_cases h3 : 32767 < y.toInt
    · rw [if_pos h3]
    · rw [if_neg h3, ← Int32.toInt_inj, k1]; omega
theorem abs_mSize (x : Int32) : (if 0 ≤ x then x else 0 - x) = mSize x := by
  unfold mSize
  by_cases h : x < 0
  · rw [if_neg (Int32.not_le.mpr h), if_pos h, Int32.zero_sub]
  · rw [if_pos (Int32.not_lt.mp h), if_neg h]
def tkS (k5 : Nat → Int32) (x1 x2 y1 y2 x : Int32) : Int32 := k5 0 * x + k5 1 * x1 + k5 2 * x2 - k5 3 * y1 - k5 4 * y2
def sStab (k5 : Nat → Int32) : Int32 := if -64 < k5 4 then if k5 4 < 64 then if mSize (k5 3) < k5 4 + 64 then 1 else 0 else 0 else 0
def cAh (a2 b2 a1 b1 na nb : Int32) : Int32 := if a2 = b2 then (if a1 = b1 then (if na < nb then 1 else 0) else (if a1 < b1 then 1 else 0)) else (if a2 < b2 then 1 else 0)
theorem mSize_bd {x : Int32} (h : -127 ≤ x.toInt ∧ x.toInt ≤ 127) : 0 ≤ (mSize x).toInt ∧ (mSize x).toInt ≤ 127 := by
  have e0 : (0 : Int32).toInt = 0 := by decide
  unfold mSize
  by_cases hx : x < 0
  · have := Int32.lt_iff_toInt_lt.mp hx
    rw [if_pos hx, fb_negI (by omega)]; omega
  · have : ¬ x.toInt < 0 := fun h9 => hx (Int32.lt_iff_toInt_lt.mpr (by omega))
    rw [if_neg hx]; omega
theorem sub_sign {x y : Int32} (hx : -127 ≤ x.toInt ∧ x.toInt ≤ 127) (hy : -127 ≤ y.toInt ∧ y.toInt ≤ 127) : (x - y = 0 ↔ x = y) ∧ (x - y < 0 ↔ x < y) := by
  have e0 : (0 : Int32).toInt = 0 := by decide
  have hs : (x - y).toInt = x.toInt - y.toInt := fb_subI (by omega) (by omega)
  constructor
  · rw [← Int32.toInt_inj, ← Int32.toInt_inj, hs, e0]; omega
  · rw [Int32.lt_iff_toInt_lt, Int32.lt_iff_toInt_lt, hs, e0]; omega
theorem cAh_eq {mc : Nat → Int32} {a b : Nat} (hc : isC mc) (ha : a < 8) (hb : b < 8) : cAh (mc (5 * a + 4)) (mc (5 * b + 4)) (mSize (mc (5 * a + 3))) (mSize (mc (5 * b + 3))) (nI a) (nI b) = mAh mc a b := by
  have h2 := sub_sign (hc (5 * a + 4) (by omega)) (hc (5 * b + 4) (by omega))
  have m1 := mSize_bd (hc (5 * a + 3) (by omega))
  have m2 := mSize_bd (hc (5 * b + 3) (by omega))
  have h1 := sub_sign (x := mSize (mc (5 * a + 3))) (y := mSize (mc (5 * b + 3))) (by omega) (by omega)
  unfold cAh mAh mBy
  by_cases e2 : mc (5 * a + 4) = mc (5 * b + 4)
  · rw [if_pos e2, if_pos (h2.1.mpr e2)]
    by_cases e1 : mSize (mc (5 * a + 3)) = mSize (mc (5 * b + 3))
    · rw [if_pos e1, h1.1.mpr e1, if_neg (show ¬ (0 : Int32) < 0 by decide), if_pos (rfl : (0 : Int32) = 0)]
      by_cases hab : a < b
      · rw [if_pos (nI_lt hab (by omega)), if_pos hab]
      · rw [if_neg (nI_nlt (by omega) (by omega)), if_neg hab]
    · rw [if_neg e1]
      by_cases hl : mSize (mc (5 * a + 3)) < mSize (mc (5 * b + 3))
      · rw [if_pos hl, if_pos (h1.2.mpr hl)]
      · rw [if_neg hl, if_neg (fun h9 => hl (h1.2.mp h9)), if_neg (fun h9 => e1 (h1.1.mp h9))]
  · rw [if_neg e2, if_neg (fun h9 => e2 (h2.1.mp h9))]
    by_cases hl : mc (5 * a + 4) < mc (5 * b + 4)
    · rw [if_pos hl, if_pos (h2.2.mpr hl)]
    · rw [if_neg hl, if_neg (fun h9 => hl (h2.2.mp h9)), if_neg (fun h9 => e2 (h2.1.mp h9))]
def vAt (w : Nat) (c0 c1 c2 : Int64) : Int64 := if w = 0 then c0 + c1 + c2 else if w = 1 then c0 - c1 + c2 else (c0 - c2) * (c0 - c2) + c1 * c1
theorem vAt_toInt {w : Nat} {c0 c1 c2 : Int64} (hw : w ≤ 2) (h0 : -127 ≤ c0.toInt ∧ c0.toInt ≤ 127) (h1 : -127 ≤ c1.toInt ∧ c1.toInt ≤ 127) (h2 : -127 ≤ c2.toInt ∧ c2.toInt ≤ 127) : (vAt w c0 c1 c2).toInt = zN w c0.toInt c1.toInt c2.toInt := by
  unfold vAt zN
  by_cases w0 : w = 0
  · subst w0
    rw [if_pos rfl, if_neg (by decide), if_neg (by decide), fb_addL (by rw [fb_addL (by omega) (by omega)]; omega) (by rw [fb_addL (by omega) (by omega)]; omega), fb_addL (by omega) (by omega)]
    omega
  · rw [if_neg w0]
    by_cases w1 : w = 1
    · subst w1
      rw [if_pos rfl, if_neg (by decide), if_pos rfl, fb_addL (by rw [fb_subL (by omega) (by omega)]; omega) (by rw [fb_subL (by omega) (by omega)]; omega), fb_subL (by omega) (by omega)]
      omega
    · rw [if_neg w1, if_pos (show w = 2 by omega)]
      have e1 := zsq (a := c0.toInt - c2.toInt) (n := 254) (by omega) (by omega) (by decide)
      have e2 := zsq (a := c1.toInt) (n := 127) (by omega) (by omega) (by decide)
      have hs : (c0 - c2).toInt = c0.toInt - c2.toInt := fb_subL (by omega) (by omega)
      have m1 : ((c0 - c2) * (c0 - c2)).toInt = (c0.toInt - c2.toInt) * (c0.toInt - c2.toInt) := by rw [fb_mulL (by rw [hs]; omega) (by rw [hs]; omega), hs]
      have m2 : (c1 * c1).toInt = c1.toInt * c1.toInt := fb_mulL (by omega) (by omega)
      rw [fb_addL (by rw [m1, m2]; omega) (by rw [m1, m2]; omega), m1, m2]
/-- a kept row takes one more -/
theorem cpy_shift {f : Nat → Int32} {n : Nat} {x : Int32} (hn : 1 ≤ n) : upd (va_cpy f f 0 1 (n - 1)) 0 x = shiftIn n f x := by
  funext i
  unfold upd shiftIn
  by_cases h : i = 0
  · rw [if_pos h, if_pos h]
  · rw [if_neg h, if_neg h]
    by_cases h2 : i < n
    · rw [if_pos h2, pk_cpy_in (by omega) (by omega)]
      congr 1; omega
    · rw [if_neg h2, pk_cpy_out (Or.inr (by omega))]

theorem g_minL {C n : Nat} (h : C ≤ n) (hn : n < 100000) : (if nI n < nI (C + 1) then nI n else nI (C + 1)) = nI (if C < n then C + 1 else C) := by
  by_cases h1 : C < n
  · rw [if_pos h1, if_neg (nI_nlt (by omega) (by omega))]
  · rw [if_neg h1, if_pos (nI_lt (by omega) (by omega))]
    congr 1; omega
