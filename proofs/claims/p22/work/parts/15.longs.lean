theorem fb_rng (x : Int32) : -2147483648 ≤ x.toInt ∧ x.toInt < 2147483648 := by
  have h1 := Int32.le_toInt x
  have h2 := Int32.toInt_lt x
  omega
theorem fb_bmod {z : Int} (h1 : -2147483648 ≤ z) (h2 : z < 2147483648) : z.bmod (2 ^ 32) = z := by
  rw [Int.bmod_eq_of_le (by omega) (by omega)]
theorem fb_addI {x y : Int32} (h1 : -2147483648 ≤ x.toInt + y.toInt) (h2 : x.toInt + y.toInt < 2147483648) : (x + y).toInt = x.toInt + y.toInt := by
  rw [Int32.toInt_add, fb_bmod h1 h2]
theorem fb_subI {x y : Int32} (h1 : -2147483648 ≤ x.toInt - y.toInt) (h2 : x.toInt - y.toInt < 2147483648) : (x - y).toInt = x.toInt - y.toInt := by
  rw [Int32.toInt_sub, fb_bmod h1 h2]
theorem fb_mulI {x y : Int32} (h1 : -2147483648 ≤ x.toInt * y.toInt) (h2 : x.toInt * y.toInt < 2147483648) : (x * y).toInt = x.toInt * y.toInt := by
  rw [Int32.toInt_mul, fb_bmod h1 h2]
theorem fb_negI {x : Int32} (h : x.toInt ≠ -2147483648) : (-x).toInt = -x.toInt := by
  have := fb_rng x
  rw [Int32.toInt_neg, fb_bmod (by omega) (by omega)]
theorem fb_ofI {z : Int} (h1 : -2147483648 ≤ z) (h2 : z < 2147483648) : (Int32.ofInt z).toInt = z := by
  rw [Int32.toInt_ofInt, fb_bmod h1 h2]
theorem fb_asI (x : Int32) : Int32.ofInt x.toInt = x := Int32.ofInt_toInt x
theorem fb_rngL (x : Int64) : -9223372036854775808 ≤ x.toInt ∧ x.toInt < 9223372036854775808 := by
  have h1 := Int64.le_toInt x
  have h2 := Int64.toInt_lt x
  omega
theorem fb_bmodL {z : Int} (h1 : -9223372036854775808 ≤ z) (h2 : z < 9223372036854775808) : z.bmod (2 ^ 64) = z := by
  rw [Int.bmod_eq_of_le (by omega) (by omega)]
theorem fb_addL {x y : Int64} (h1 : -9223372036854775808 ≤ x.toInt + y.toInt) (h2 : x.toInt + y.toInt < 9223372036854775808) : (x + y).toInt = x.toInt + y.toInt := by
  rw [Int64.toInt_add, fb_bmodL h1 h2]
theorem fb_subL {x y : Int64} (h1 : -9223372036854775808 ≤ x.toInt - y.toInt) (h2 : x.toInt - y.toInt < 9223372036854775808) : (x - y).toInt = x.toInt - y.toInt := by
  rw [Int64.toInt_sub, fb_bmodL h1 h2]
theorem fb_mulL {x y : Int64} (h1 : -9223372036854775808 ≤ x.toInt * y.toInt) (h2 : x.toInt * y.toInt < 9223372036854775808) : (x * y).toInt = x.toInt * y.toInt := by
  rw [Int64.toInt_mul, fb_bmodL h1 h2]
theorem g_cmp_lt {x y : Int64} : lg_cmp x y < 0 ↔ x.toInt < y.toInt := by
  unfold lg_cmp
  simp only [gt_iff_lt, Int64.lt_iff_toInt_lt, ← Int64.toInt_inj]
  by_cases h1 : y.toInt < x.toInt
  · rw [if_pos h1]; constructor
    · intro h; exact absurd h (by decide)
    · intro h; omega
  · rw [if_neg h1]
    by_cases h2 : x.toInt = y.toInt
    · rw [if_pos h2]; constructor
      · intro h; exact absurd h (by decide)
      · intro h; omega
    · rw [if_neg h2]; constructor
      · intro _; omega
      · intro _; decide
theorem g_cmp_eq {x y : Int64} : lg_cmp x y = 0 ↔ x.toInt = y.toInt := by
  unfold lg_cmp
  simp only [gt_iff_lt, Int64.lt_iff_toInt_lt, ← Int64.toInt_inj]
  by_cases h1 : y.toInt < x.toInt
  · rw [if_pos h1]; constructor
    · intro h; exact absurd h (by decide)
    · intro h; omega
  · rw [if_neg h1]
    by_cases h2 : x.toInt = y.toInt
    · rw [if_pos h2]; exact ⟨fun _ => h2, fun _ => rfl⟩
    · rw [if_neg h2]; constructor
      · intro h; exact absurd h (by decide)
      · intro h; omega
theorem g_cmp_gt {x y : Int64} : 0 < lg_cmp x y ↔ y.toInt < x.toInt := by
  unfold lg_cmp
  simp only [gt_iff_lt, Int64.lt_iff_toInt_lt, ← Int64.toInt_inj]
  by_cases h1 : y.toInt < x.toInt
  · rw [if_pos h1]; exact ⟨fun _ => h1, fun _ => by decide⟩
  · rw [if_neg h1]
    by_cases h2 : x.toInt = y.toInt
    · rw [if_pos h2]; constructor
      · intro h; exact absurd h (by decide)
      · intro h; omega
    · rw [if_neg h2]; constructor
      · intro h; exact absurd h (by decide)
      · intro h; omega
theorem g_cmp_ge {x y : Int64} : 0 ≤ lg_cmp x y ↔ y.toInt ≤ x.toInt := by
  rw [← Int32.not_lt, g_cmp_lt]; omega
theorem g_cmp_le {x y : Int64} : lg_cmp x y ≤ 0 ↔ x.toInt ≤ y.toInt := by
  rw [← Int32.not_lt, g_cmp_gt]; omega
theorem fb_negL {x : Int64} (h : x.toInt ≠ -9223372036854775808) : (-x).toInt = -x.toInt := by
  have := fb_rngL x
  rw [Int64.toInt_neg, fb_bmodL (by omega) (by omega)]
theorem fb_divL {x y : Int64} (h : y.toInt ≠ -1) : (x / y).toInt = x.toInt.tdiv y.toInt := by
  rw [Int64.toInt_div]
  have h1 := fb_rngL x
  have h2 : (x.toInt.tdiv y.toInt).natAbs ≤ x.toInt.natAbs := by
    rw [Int.natAbs_tdiv]; exact Nat.div_le_self _ _
  by_cases hx : x.toInt = -9223372036854775808
  · by_cases hy : y.toInt = 1
    · rw [hy, Int.tdiv_one]; exact fb_bmodL (by omega) (by omega)
    · have h3 : (x.toInt.tdiv y.toInt).natAbs ≤ 4611686018427387904 := by
        by_cases h0 : y.toInt = 0
        · rw [h0, Int.tdiv_zero]; decide
        · have h4 : 2 ≤ y.toInt.natAbs := by omega
          rw [Int.natAbs_tdiv, hx]
          calc (-9223372036854775808 : Int).natAbs / y.toInt.natAbs ≤ (-9223372036854775808 : Int).natAbs / 2 := Nat.div_le_div_left h4 (by decide)
            _ = 4611686018427387904 := by decide
      exact fb_bmodL (by omega) (by omega)
  · exact fb_bmodL (by omega) (by omega)
theorem L_neg {x : Int64} (h : x.toInt < 0) (h2 : -9223372036854775808 < x.toInt) : -x = lN x.toInt.natAbs := by
  rw [← Int64.toInt_inj, fb_negL (by omega), pk_lT (by omega)]
  omega
theorem L_pos {x : Int64} (h : 0 ≤ x.toInt) : x = lN x.toInt.natAbs := by
  have := fb_rngL x
  rw [← Int64.toInt_inj, pk_lT (by omega)]
  omega
theorem lN_pos {n : Nat} (hn : n < 9223372036854775808) : (lN n).toInt = (n : Int) := pk_lT hn
theorem L_of {x : Int64} {z : Int} (h : x.toInt = z) (h0 : 0 ≤ z) : x = lN z.natAbs := by rw [← h]; exact L_pos (by omega)
theorem i32L (x : Int32) : x.toInt64.toInt = x.toInt := Int32.toInt_toInt64 x
/-- a section's part of the gain, its number and its divisor -/
def zN (w : Nat) (c0 c1 c2 : Int) : Int := if w = 2 then (c0 - c2) * (c0 - c2) + c1 * c1 else c0 + c2 + (if w = 1 then -1 else 1) * c1
def zO (mc mo : Nat → Int32) (w : Nat) : Nat → Int
  | 0 => 1
  | k + 1 => zO mc mo w k * zN w (mc (5 * gN (mo k))).toInt (mc (5 * gN (mo k) + 1)).toInt (mc (5 * gN (mo k) + 2)).toInt
def zU (mc mo : Nat → Int32) (w : Nat) : Nat → Int
  | 0 => 1
  | k + 1 => zU mc mo w k * zN w 64 (mc (5 * gN (mo k) + 3)).toInt (mc (5 * gN (mo k) + 4)).toInt
def isC (f : Nat → Int32) : Prop := ∀ i, i < 40 → -127 ≤ (f i).toInt ∧ (f i).toInt ≤ 127
theorem zsq {a n : Int} (h1 : -n ≤ a) (h2 : a ≤ n) (hn : 0 ≤ n) : 0 ≤ a * a ∧ a * a ≤ n * n := by
  have h : a.natAbs * a.natAbs ≤ n.natAbs * n.natAbs := Nat.mul_le_mul (by omega) (by omega)
  have e1 : ((a.natAbs * a.natAbs : Nat) : Int) = a * a := Int.natAbs_mul_self
  have e2 : ((n.natAbs * n.natAbs : Nat) : Int) = n * n := Int.natAbs_mul_self
  constructor
  · rw [← e1]; exact Int.natCast_nonneg _
  · rw [← e1, ← e2]; exact Int.ofNat_le.mpr h
def zB (w : Nat) : Nat := if w = 2 then 80645 else 381
theorem zN_le {w : Nat} {c0 c1 c2 : Int} (h0 : -127 ≤ c0 ∧ c0 ≤ 127) (h1 : -127 ≤ c1 ∧ c1 ≤ 127) (h2 : -127 ≤ c2 ∧ c2 ≤ 127) : (zN w c0 c1 c2).natAbs ≤ zB w := by
  unfold zN zB
  by_cases hw : w = 2
  · rw [if_pos hw, if_pos hw]
    have e1 := zsq (a := c0 - c2) (n := 254) (by omega) (by omega) (by decide)
    have e2 := zsq (a := c1) (n := 127) (by omega) (by omega) (by decide)
    omega
  · rw [if_neg hw, if_neg hw]
    split <;> omega
theorem zmul_le {a b : Int} {A B : Nat} (h1 : a.natAbs ≤ A) (h2 : b.natAbs ≤ B) : (a * b).natAbs ≤ A * B := by
  rw [Int.natAbs_mul]; exact Nat.mul_le_mul h1 h2
theorem zO_le {mc mo : Nat → Int32} {w : Nat} (hc : isC mc) : ∀ k, (∀ i, i < k → gN (mo i) < 8) → (zO mc mo w k).natAbs ≤ zB w ^ k
  | 0, _ => Nat.le_refl 1
  | k + 1, h => by
    have hJ := h k (Nat.lt_succ_self k)
    rw [Nat.pow_succ]
    exact zmul_le (zO_le hc k (fun i hi => h i (by omega))) (zN_le (hc _ (by omega)) (hc _ (by omega)) (hc _ (by omega)))
theorem zU_le {mc mo : Nat → Int32} {w : Nat} (hc : isC mc) : ∀ k, (∀ i, i < k → gN (mo i) < 8) → (zU mc mo w k).natAbs ≤ zB w ^ k
  | 0, _ => Nat.le_refl 1
  | k + 1, h => by
    have hJ := h k (Nat.lt_succ_self k)
    rw [Nat.pow_succ]
    exact zmul_le (zU_le hc k (fun i hi => h i (by omega))) (zN_le ⟨by decide, by decide⟩ (hc _ (by omega)) (hc _ (by omega)))
theorem zB_pow {w C k : Nat} (hC : C ≤ (if w = 2 then 2 else 4)) (hk : k ≤ C) : zB w ^ k ≤ (if w = 2 then 6503616025 else 21071715921) := by
  unfold zB
  by_cases hw : w = 2
  · rw [if_pos hw] at hC ⊢
    rw [if_pos hw]
    calc 80645 ^ k ≤ 80645 ^ 2 := Nat.pow_le_pow_right (by decide) (by omega)
      _ ≤ 6503616025 := by decide
  · rw [if_neg hw] at hC ⊢
    rw [if_neg hw]
    calc 381 ^ k ≤ 381 ^ 4 := Nat.pow_le_pow_right (by decide) (by omega)
      _ ≤ 21071715921 := by decide
theorem zOU_le {mc mo : Nat → Int32} {w C k : Nat} (hc : isC mc) (hC : C ≤ (if w = 2 then 2 else 4)) (hk : k ≤ C) (ho : ∀ i, i < C → gN (mo i) < 8) : (zO mc mo w k).natAbs ≤ (if w = 2 then 6503616025 else 21071715921) ∧ (zU mc mo w k).natAbs ≤ (if w = 2 then 6503616025 else 21071715921) :=
  ⟨Nat.le_trans (zO_le hc k (fun i hi => ho i (by omega))) (zB_pow hC hk), Nat.le_trans (zU_le hc k (fun i hi => ho i (by omega))) (zB_pow hC hk)⟩
/-- a section's part, as the code finds it -/
theorem gF2 {c0 c1 c2 : Int32} (h0 : -127 ≤ c0.toInt ∧ c0.toInt ≤ 127) (h1 : -127 ≤ c1.toInt ∧ c1.toInt ≤ 127) (h2 : -127 ≤ c2.toInt ∧ c2.toInt ≤ 127) : ((c0 - c2).toInt64 * (c0 - c2).toInt64 + c1.toInt64 * c1.toInt64).toInt = zN 2 c0.toInt c1.toInt c2.toInt := by
  have e1 := zsq (a := c0.toInt - c2.toInt) (n := 254) (by omega) (by omega) (by decide)
  have e2 := zsq (a := c1.toInt) (n := 127) (by omega) (by omega) (by decide)
  have hs : (c0 - c2).toInt64.toInt = c0.toInt - c2.toInt := by rw [i32L, fb_subI (by omega) (by omega)]
  have m1 : ((c0 - c2).toInt64 * (c0 - c2).toInt64).toInt = (c0.toInt - c2.toInt) * (c0.toInt - c2.toInt) := by rw [fb_mulL (by rw [hs]; omega) (by rw [hs]; omega), hs]
  have m2 : (c1.toInt64 * c1.toInt64).toInt = c1.toInt * c1.toInt := by rw [fb_mulL (by rw [i32L]; omega) (by rw [i32L]; omega), i32L]
  rw [fb_addL (by rw [m1, m2]; omega) (by rw [m1, m2]; omega), m1, m2]
  unfold zN
  rw [if_pos rfl]
theorem gF1 {w : Nat} {c0 c1 c2 : Int32} (hw : w ≠ 2) (h0 : -127 ≤ c0.toInt ∧ c0.toInt ≤ 127) (h1 : -127 ≤ c1.toInt ∧ c1.toInt ≤ 127) (h2 : -127 ≤ c2.toInt ∧ c2.toInt ≤ 127) : ((c0 + c2).toInt64 + (if w = 1 then (-1 : Int32) else 1).toInt64 * c1.toInt64).toInt = zN w c0.toInt c1.toInt c2.toInt := by
  have hs : (c0 + c2).toInt64.toInt = c0.toInt + c2.toInt := by rw [i32L, fb_addI (by omega) (by omega)]
  unfold zN
  rw [if_neg hw]
  by_cases h : w = 1
  · rw [if_pos h, if_pos h]
    have m2 : ((-1 : Int32).toInt64 * c1.toInt64).toInt = -1 * c1.toInt := by
      rw [fb_mulL (by rw [i32L, i32L]; show _ ≤ (-1 : Int) * _; omega) (by rw [i32L, i32L]; show (-1 : Int) * _ < _; omega), i32L, i32L]; rfl
    rw [fb_addL (by rw [hs, m2]; omega) (by rw [hs, m2]; omega), hs, m2]
  · rw [if_neg h, if_neg h]
    have m2 : ((1 : Int32).toInt64 * c1.toInt64).toInt = 1 * c1.toInt := by
      rw [fb_mulL (by rw [i32L, i32L]; show _ ≤ (1 : Int) * _; omega) (by rw [i32L, i32L]; show (1 : Int) * _ < _; omega), i32L, i32L]; rfl
    rw [fb_addL (by rw [hs, m2]; omega) (by rw [hs, m2]; omega), hs, m2]
/-- all of the first k of the row are stable -/
def stM (mc mo : Nat → Int32) : Nat → Int32
  | 0 => 1
  | k + 1 => if stM mc mo k = 0 then 0 else mStab mc (gN (mo k))
theorem stM_s {mc mo : Nat → Int32} {k : Nat} : stM mc mo (k + 1) = if stM mc mo k = 0 then 0 else mStab mc (gN (mo k)) := rfl
theorem stM_01 (mc mo : Nat → Int32) (k : Nat) : stM mc mo k = 0 ∨ stM mc mo k = 1 := by
  cases k with
  | zero => exact Or.inr rfl
  | succ k =>
    rw [stM_s]
    split
    · exact Or.inl rfl
    · exact mStab_01 mc _
/-- the gain as a fraction -/
def gnR (zo zu : Int) (dv : Int32) : Int := if zu = 0 then (if dv = 0 then 1 else 0) else (if dv = 0 then zo else zu).tdiv (if zu < 0 then -(Nat.gcd zo.natAbs zu.natAbs : Int) else (Nat.gcd zo.natAbs zu.natAbs : Int))
theorem isIn_nat2 {v : Int32} {L n : Nat} (hL : L < 2147483648) (hn : n < 2147483648) (h : ¬ isIn v (nI L) (nI n) = 0) : ∃ V : Nat, L ≤ V ∧ V ≤ n ∧ v = nI V := by
  obtain ⟨h1, h2⟩ := isIn_get h
  have h3 : ¬ v < 0 := fun h9 => by
    have e1 := Int32.le_iff_toInt_le.mp h1
    have e2 := Int32.lt_iff_toInt_lt.mp h9
    rw [nI_toInt hL] at e1
    have e3 : (0 : Int32).toInt = 0 := by decide
    omega
  obtain ⟨j, hj, rfl⟩ := nI_of h3
  exact ⟨j, (nI_leI hL hj).mp h1, (nI_leI hj hn).mp h2, rfl⟩
theorem fb_divL2 {x y : Int64} (h : x.toInt ≠ -9223372036854775808) : (x / y).toInt = x.toInt.tdiv y.toInt := by
  rw [Int64.toInt_div]
  have h1 := fb_rngL x
  have h2 : (x.toInt.tdiv y.toInt).natAbs ≤ x.toInt.natAbs := by
    rw [Int.natAbs_tdiv]; exact Nat.div_le_self _ _
  exact fb_bmodL (by omega) (by omega)
theorem hCw_of {C w : Nat} (hw : w ≤ 2) (h : C ≤ (if nI w = 2 then 2 else 4)) : C ≤ (if w = 2 then 2 else 4) := by
  by_cases h8 : w = 2
  · subst h8; exact h
  · rw [if_neg h8]
    rw [if_neg (show ¬ nI w = (2 : Int32) from fun h7 => h8 (g_eq (b := 2) h7 (by omega) (by decide)))] at h
    exact h
/-- whether the bounds are met -/
abbrev mtP (st : Int32) (zo zu : Int) (w L H : Nat) : Prop := ¬ st = 0 ∧ (if w = 2 then L * L else L) * zu.natAbs ≤ zo.natAbs * (if w = 2 then 1000000 else 1000) ∧ zo.natAbs * (if w = 2 then 1000000 else 1000) ≤ (if w = 2 then H * H else H) * zu.natAbs
theorem mt_bd {w L U : Nat} (hL : L ≤ 10000) (hU : U ≤ (if w = 2 then 6503616025 else 21071715921)) : (if w = 2 then L * L else L) * U < 9223372036854775808 ∧ U * (if w = 2 then 1000000 else 1000) < 9223372036854775808 := by
  by_cases h : w = 2
  · rw [if_pos h] at hU ⊢
    rw [if_pos h]
    have h1 : L * L ≤ 100000000 := Nat.mul_le_mul hL hL
    have h2 : L * L * U ≤ 100000000 * 6503616025 := Nat.mul_le_mul h1 hU
    omega
  · rw [if_neg h] at hU ⊢
    rw [if_neg h]
    have h2 : L * U ≤ 10000 * 21071715921 := Nat.mul_le_mul hL hU
    omega
