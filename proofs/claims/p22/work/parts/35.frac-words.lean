/-! fractions -/
theorem euc_step {U V k : Nat} (hV : 0 < V) (hU : U < 34359738368) (hVb : V < 34359738368) (h : k = 0 ∨ (V < U ∧ U * V * 2 ^ k ≤ 4722366482869645213696)) : U % V < V ∧ V * (U % V) * 2 ^ (k + 1) ≤ 4722366482869645213696 := by
  have hm := Nat.mod_lt U hV
  refine ⟨hm, ?_⟩
  rcases h with rfl | ⟨h1, h2⟩
  · have h3 : V * (U % V) ≤ 34359738368 * 34359738368 := Nat.mul_le_mul (by omega) (by omega)
    rw [show 2 ^ (0 + 1) = 2 from rfl]; omega
  · have h4 : 2 * (U % V) ≤ U := by
      have h5 := Nat.div_add_mod U V
      have h6 : 1 ≤ U / V := Nat.div_pos (by omega) hV
      have h7 : V * 1 ≤ V * (U / V) := Nat.mul_le_mul_left V h6
      omega
    calc V * (U % V) * 2 ^ (k + 1) = V * (2 * (U % V)) * 2 ^ k := by rw [Nat.pow_succ, Nat.mul_comm (2 ^ k) 2, ← Nat.mul_assoc, Nat.mul_assoc V, Nat.mul_comm (U % V) 2]
      _ ≤ V * U * 2 ^ k := Nat.mul_le_mul_right _ (Nat.mul_le_mul_left _ h4)
      _ = U * V * 2 ^ k := by rw [Nat.mul_comm V U]
      _ ≤ _ := h2
theorem euc_end {U V : Nat} (h : (100 : Nat) = 0 ∨ (V < U ∧ U * V * 2 ^ 100 ≤ 4722366482869645213696)) : V = 0 := by
  rcases h with h | ⟨h1, h2⟩
  · exact absurd h (by decide)
  · refine Classical.byContradiction fun hV => ?_
    have h3 : 1 * 1 ≤ U * V := Nat.mul_le_mul (by omega) (by omega)
    have h4 := Nat.mul_le_mul_right (2 ^ 100) h3
    omega
theorem absL {x : Int64} (h : -9223372036854775808 < x.toInt) : (if 0 < x then x else -x) = lN x.toInt.natAbs := by
  have e0 : (0 : Int64).toInt = 0 := by decide
  by_cases hx : 0 < x
  · have := Int64.lt_iff_toInt_lt.mp hx
    rw [if_pos hx]; exact L_pos (by omega)
  · rw [if_neg hx]
    have h0 : ¬ 0 < x.toInt := fun h9 => hx (Int64.lt_iff_toInt_lt.mpr (by omega))
    by_cases h1 : x.toInt = 0
    · have : x = 0 := by rw [← Int64.toInt_inj, e0]; exact h1
      subst this; decide
    · exact L_neg (by omega) h
