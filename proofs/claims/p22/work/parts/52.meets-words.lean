/-! a stable chain's divisor is above 0; a fraction that was made small meets the same bounds -/
theorem mStab_get {mc : Nat → Int32} {J : Nat} (hc : isC mc) (hJ : J < 8) (h : ¬ mStab mc J = 0) : -64 < (mc (5 * J + 4)).toInt ∧ (mc (5 * J + 4)).toInt < 64 ∧ (mc (5 * J + 3)).toInt < (mc (5 * J + 4)).toInt + 64 ∧ -(mc (5 * J + 3)).toInt < (mc (5 * J + 4)).toInt + 64 := by
  have r3 := hc (5 * J + 3) (by omega)
  have r4 := hc (5 * J + 4) (by omega)
  have k1 : (-64 : Int32).toInt = -64 := by decide
  have k2 : (64 : Int32).toInt = 64 := by decide
  have e0 : (0 : Int32).toInt = 0 := by decide
  unfold mStab at h
  by_cases h1 : -64 < mc (5 * J + 4)
  · rw [if_pos h1] at h
    by_cases h2 : mc (5 * J + 4) < 64
    · rw [if_pos h2] at h
      by_cases h3 : mSize (mc (5 * J + 3)) < mc (5 * J + 4) + 64
      · have s4 : (mc (5 * J + 4) + 64).toInt = (mc (5 * J + 4)).toInt + 64 := by rw [fb_addI (by omega) (by omega), k2]
        rw [Int32.lt_iff_toInt_lt] at h1 h2 h3
        rw [s4] at h3
        unfold mSize at h3
        by_cases hz : mc (5 * J + 3) < 0
        · rw [if_pos hz, fb_negI (by omega)] at h3
          rw [Int32.lt_iff_toInt_lt] at hz
          omega
        · rw [if_neg hz] at h3
          rw [Int32.lt_iff_toInt_lt] at hz
          omega
      · rw [if_neg h3] at h; exact absurd rfl h
    · rw [if_neg h2] at h; exact absurd rfl h
  · rw [if_neg h1] at h; exact absurd rfl h
theorem zN_pos {w : Nat} {a1 a2 : Int} (h1 : -64 < a2) (h2 : a2 < 64) (h3 : a1 < a2 + 64) (h4 : -a1 < a2 + 64) : 0 < zN w 64 a1 a2 := by
  unfold zN
  by_cases hw : w = 2
  · rw [if_pos hw]
    have e1 : 0 < (64 - a2) * (64 - a2) := Int.mul_pos (by omega) (by omega)
    have e2 : 0 ≤ a1 * a1 := by
      have : ((a1.natAbs * a1.natAbs : Nat) : Int) = a1 * a1 := Int.natAbs_mul_self
      omega
    omega
  · rw [if_neg hw]
    by_cases h : w = 1
    · rw [if_pos h]; omega
    · rw [if_neg h]; omega
theorem zU_pos {mc mo : Nat → Int32} {w C : Nat} (hc : isC mc) (hO : ∀ i, i < C → gN (mo i) < 8) : ∀ {k}, k ≤ C → ¬ stM mc mo k = 0 → 0 < zU mc mo w k
  | 0, _, _ => (by decide : (0 : Int) < 1)
  | k + 1, hk, h => by
    rw [stM_s] at h
    by_cases h0 : stM mc mo k = 0
    · rw [if_pos h0] at h; exact absurd rfl h
    · rw [if_neg h0] at h
      have ih := zU_pos (w := w) hc hO (k := k) (by omega) h0
      obtain ⟨a, b, c, d⟩ := mStab_get hc (hO k hk) h
      exact Int.mul_pos ih (zN_pos a b c d)
theorem red_iff {g a b L s : Nat} (hg : 0 < g) (ha : g ∣ a) (hb : g ∣ b) : (L * (b / g) ≤ a / g * s ↔ L * b ≤ a * s) ∧ (a / g * s ≤ L * (b / g) ↔ a * s ≤ L * b) := by
  obtain ⟨a', rfl⟩ := ha
  obtain ⟨b', rfl⟩ := hb
  rw [Nat.mul_div_cancel_left _ hg, Nat.mul_div_cancel_left _ hg]
  have e1 : L * (g * b') = g * (L * b') := by rw [← Nat.mul_assoc, Nat.mul_comm L g, Nat.mul_assoc]
  have e2 : g * a' * s = g * (a' * s) := Nat.mul_assoc _ _ _
  rw [e1, e2]
  exact ⟨(Nat.mul_le_mul_left_iff hg).symm, (Nat.mul_le_mul_left_iff hg).symm⟩
theorem gnR_abs {zo zu : Int} (h : 0 < zu) : (gnR zo zu 0).natAbs = zo.natAbs / Nat.gcd zo.natAbs zu.natAbs ∧ gnR zo zu 1 = ((zu.natAbs / Nat.gcd zo.natAbs zu.natAbs : Nat) : Int) := by
  unfold gnR
  have z0 : ¬ zu = 0 := by omega
  have z1 : ¬ zu < 0 := by omega
  simp only [if_neg z0, if_neg z1, if_pos (rfl : (0 : Int32) = 0), if_true, if_neg (show ¬ (1 : Int32) = 0 by decide)]
  refine ⟨by rw [Int.natAbs_tdiv, Int.natAbs_natCast]; rfl, ?_⟩
  have e : zu = (zu.natAbs : Int) := by omega
  conv => lhs; rw [e]
  rw [Int.natAbs_natCast]
  exact (Int.ofNat_tdiv _ _).symm
