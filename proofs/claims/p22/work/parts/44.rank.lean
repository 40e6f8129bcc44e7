/-! the order of the chain: by one key -/
def mKey (mc : Nat → Int32) (a : Nat) : Int := (mc (5 * a + 4)).toInt * 1024 + (mSize (mc (5 * a + 3))).toInt * 8 + a
theorem mAh_key {mc : Nat → Int32} {a b : Nat} (hc : isC mc) (ha : a < 8) (hb : b < 8) : mAh mc a b = if mKey mc a < mKey mc b then 1 else 0 := by
  have ra := hc (5 * a + 4) (by omega)
  have rb := hc (5 * b + 4) (by omega)
  have ma := mSize_bd (hc (5 * a + 3) (by omega))
  have mb := mSize_bd (hc (5 * b + 3) (by omega))
  have na := nI_toInt (n := a) (by omega)
  have nb := nI_toInt (n := b) (by omega)
  rw [← cAh_eq hc ha hb]
  unfold cAh mKey
  simp only [Int32.lt_iff_toInt_lt, ← Int32.toInt_inj, na, nb]
  (repeat' split) <;> first | rfl | (exfalso; omega)
abbrev kyM (mc mo : Nat → Int32) (i : Nat) : Int := mKey mc (gN (mo i))
theorem mKey_inj {mc : Nat → Int32} {a b : Nat} (hc : isC mc) (ha : a < 8) (hb : b < 8) (h : mKey mc a = mKey mc b) : a = b := by
  have ma := mSize_bd (hc (5 * a + 3) (by omega))
  have mb := mSize_bd (hc (5 * b + 3) (by omega))
  unfold mKey at h
  omega
section RK
variable {mc mo : Nat → Int32} {C : Nat}
theorem rk_s (hc : isC mc) (hO : ∀ i, i < C → gN (mo i) < 8) {k j : Nat} (hk : k < C) (hj : j < C) : rkM mc mo k (j + 1) = rkM mc mo k j + (if kyM mc mo j < kyM mc mo k then 1 else 0) := by
  rw [rkM_s, mAh_key hc (hO j hj) (hO k hk)]
  by_cases h : mKey mc (gN (mo j)) < mKey mc (gN (mo k))
  · rw [if_pos h, if_neg (by decide), if_pos h]
  · rw [if_neg h, if_pos rfl, if_neg h]
theorem rk_le (hc : isC mc) (hO : ∀ i, i < C → gN (mo i) < 8) {k k' : Nat} (hk : k < C) (hk' : k' < C) (h : kyM mc mo k ≤ kyM mc mo k') : ∀ {j}, j ≤ C → rkM mc mo k j ≤ rkM mc mo k' j
  | 0, _ => Nat.le_refl _
  | j + 1, hj => by
    have ih := rk_le hc hO hk hk' h (j := j) (by omega)
    rw [rk_s hc hO hk (by omega), rk_s hc hO hk' (by omega)]
    split <;> split <;> omega
theorem rk_lt (hc : isC mc) (hO : ∀ i, i < C → gN (mo i) < 8) {k k' : Nat} (hk : k < C) (hk' : k' < C) (h : kyM mc mo k < kyM mc mo k') : ∀ {j}, j ≤ C → k < j → rkM mc mo k j < rkM mc mo k' j
  | 0, _, h0 => absurd h0 (Nat.not_lt_zero k)
  | j + 1, hj, hkj => by
    rw [rk_s hc hO hk (by omega), rk_s hc hO hk' (by omega)]
    by_cases e : k = j
    · subst e
      have ih := rk_le hc hO hk hk' (Int.le_of_lt h) (j := k) (by omega)
      rw [if_neg (Int.lt_irrefl _), if_pos h]; omega
    · have ih := rk_lt hc hO hk hk' h (j := j) (by omega) (by omega)
      split <;> split <;> omega
theorem ky_ne (hc : isC mc) (hO : ∀ i, i < C → gN (mo i) < 8) (hiM : ∀ i j, i < C → j < C → gN (mo i) = gN (mo j) → i = j) {i j : Nat} (hi : i < C) (hj : j < C) (h : i ≠ j) : kyM mc mo i ≠ kyM mc mo j := fun e => h (hiM i j hi hj (mKey_inj hc (hO i hi) (hO j hj) e))
theorem rk_inj (hc : isC mc) (hO : ∀ i, i < C → gN (mo i) < 8) (hiM : ∀ i j, i < C → j < C → gN (mo i) = gN (mo j) → i = j) {k k' j : Nat} (hj : j ≤ C) (hk : k < j) (hk' : k' < j) (h : rkM mc mo k j = rkM mc mo k' j) : k = k' := by
  refine Classical.byContradiction fun hne => ?_
  have hky := ky_ne hc hO hiM (i := k) (j := k') (by omega) (by omega) hne
  rcases Int.lt_trichotomy (kyM mc mo k) (kyM mc mo k') with h1 | h1 | h1
  · have := rk_lt hc hO (k := k) (k' := k') (by omega) (by omega) h1 hj hk; omega
  · exact hky h1
  · have := rk_lt hc hO (k := k') (k' := k) (by omega) (by omega) h1 hj hk'; omega
/-- the row as far as i is in order: at t stands the one whose rank is t -/
def ordS (mc mo : Nat → Int32) (SA : Nat → Nat) (f : Nat → Option Nat) (sg : Nat → Nat) (i : Nat) : Prop := ∀ t, t < i → sg t < i ∧ rkM mc mo (sg t) i = t ∧ f t = some (SA (gN (mo (sg t))))
def sgS (sg : Nat → Nat) (p i : Nat) : Nat → Nat := fun t => if t < p then sg t else if t = p then i else sg (t - 1)
theorem ord_lt (hc : isC mc) (hO : ∀ i, i < C → gN (mo i) < 8) (hiM : ∀ i j, i < C → j < C → gN (mo i) = gN (mo j) → i = j) {SA : Nat → Nat} {f : Nat → Option Nat} {sg : Nat → Nat} {i t : Nat} (hi : i < C) (h : ordS mc mo SA f sg i) (ht : t < i) : t < rkM mc mo i i ↔ ¬ mAh mc (gN (mo (sg t))) (gN (mo i)) = 0 := by
  obtain ⟨h1, h2, h3⟩ := h t ht
  have hky := ky_ne hc hO hiM (i := sg t) (j := i) (by omega) hi (by omega)
  rw [mAh_key hc (hO _ (by omega)) (hO i hi)]
  by_cases e : mKey mc (gN (mo (sg t))) < mKey mc (gN (mo i))
  · rw [if_pos e]
    have := rk_lt hc hO (k := sg t) (k' := i) (by omega) hi e (j := i) (by omega) h1
    exact ⟨fun _ => by decide, fun _ => by omega⟩
  · rw [if_neg e]
    have := rk_le hc hO (k := i) (k' := sg t) hi (by omega) (Int.not_lt.mp e) (j := i) (by omega)
    exact ⟨fun h9 => by omega, fun h9 => absurd rfl h9⟩
theorem ord_s (hc : isC mc) (hO : ∀ i, i < C → gN (mo i) < 8) (hiM : ∀ i j, i < C → j < C → gN (mo i) = gN (mo j) → i = j) {SA : Nat → Nat} {f : Nat → Option Nat} {sg : Nat → Nat} {i : Nat} (hi : i < C) (h : ordS mc mo SA f sg i) : ordS mc mo SA (insF f (rkM mc mo i i) i (SA (gN (mo i)))) (sgS sg (rkM mc mo i i) i) (i + 1) := by
  have hp := rkM_le mc mo i i
  intro t ht
  unfold insF sgS
  by_cases h1 : t < rkM mc mo i i
  · rw [if_pos h1, if_pos h1]
    obtain ⟨a1, a2, a3⟩ := h t (by omega)
    refine ⟨by omega, ?_, a3⟩
    rw [rk_s hc hO (by omega) hi, a2, if_neg]
    · rfl
    · intro h9
      have := rk_le hc hO (k := i) (k' := sg t) hi (by omega) (Int.le_of_lt h9) (j := i) (by omega)
      omega
  · rw [if_neg h1, if_neg h1]
    by_cases h2 : t = rkM mc mo i i
    · rw [if_pos h2, if_pos h2]
      refine ⟨by omega, ?_, rfl⟩
      rw [rk_s hc hO hi hi, if_neg (Int.lt_irrefl _), h2]; rfl
    · rw [if_neg h2, if_neg h2, if_pos (by omega)]
      obtain ⟨a1, a2, a3⟩ := h (t - 1) (by omega)
      refine ⟨by omega, ?_, a3⟩
      have hky := ky_ne hc hO hiM (i := sg (t - 1)) (j := i) (by omega) hi (by omega)
      rw [rk_s hc hO (by omega) hi, a2, if_pos]
      · omega
      · refine Classical.byContradiction fun h9 => ?_
        have := rk_lt hc hO (k := sg (t - 1)) (k' := i) (by omega) hi (by omega) (j := i) (by omega) a1
        omega
theorem ord_1 {SA : Nat → Nat} : ordS mc mo SA (insF (fun _ => none) 0 0 (SA (gN (mo 0)))) (fun _ => 0) 1 := by
  intro t ht
  obtain rfl : t = 0 := by omega
  refine ⟨by omega, ?_, rfl⟩
  show 0 + (if mAh mc (gN (mo 0)) (gN (mo 0)) = 0 then 0 else 1) = 0
  rw [mAh_self, if_pos rfl]
theorem arO_at (hc : isC mc) (hO : ∀ i, i < C → gN (mo i) < 8) (hiM : ∀ i j, i < C → j < C → gN (mo i) = gN (mo j) → i = j) {k : Nat} : ∀ {j}, j ≤ C → k < j → arO mc mo C j (rkM mc mo k C) = mo k
  | 0, _, h => absurd h (Nat.not_lt_zero k)
  | j + 1, hj, hk => by
    unfold arO upd
    by_cases e : k = j
    · rw [e, if_pos rfl]
    · rw [if_neg (fun h9 => e (rk_inj hc hO hiM (Nat.le_refl C) (by omega) (by omega) h9))]
      exact arO_at hc hO hiM (by omega) (by omega)
theorem ord_end (hc : isC mc) (hO : ∀ i, i < C → gN (mo i) < 8) (hiM : ∀ i j, i < C → j < C → gN (mo i) = gN (mo j) → i = j) {SA : Nat → Nat} {f : Nat → Option Nat} {sg : Nat → Nat} (h : ordS mc mo SA f sg C) {t : Nat} (ht : t < C) : arO mc mo C C t = mo (sg t) ∧ f t = some (SA (gN (arO mc mo C C t))) ∧ (sg t = t ↔ rkM mc mo t C = t) := by
  obtain ⟨a1, a2, a3⟩ := h t ht
  have e := arO_at hc hO hiM (k := sg t) (j := C) (Nat.le_refl C) a1
  rw [a2] at e
  refine ⟨e, by rw [e]; exact a3, fun h9 => by rw [h9] at a2; exact a2, fun h9 => rk_inj hc hO hiM (Nat.le_refl C) a1 ht (a2.trans h9.symm)⟩
theorem ord_inj (hc : isC mc) (hO : ∀ i, i < C → gN (mo i) < 8) (hiM : ∀ i j, i < C → j < C → gN (mo i) = gN (mo j) → i = j) {SA : Nat → Nat} {f : Nat → Option Nat} {sg : Nat → Nat} (h : ordS mc mo SA f sg C) {i j : Nat} (hi : i < C) (hj : j < C) (e : sg i = sg j) : i = j := by
  have a := (h i hi).2.1
  have b := (h j hj).2.1
  rw [e] at a; omega
end RK
