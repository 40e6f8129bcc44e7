/-! the law's order of the chain: each goes ahead until none ahead of it has a greater key -/
section ORD
variable {mc mo : Nat → Int32} {C : Nat}
/-- the row as far as i is in order, the rest as it was -/
def ordL (mc mo f : Nat → Int32) (i : Nat) : Prop := ∃ sg : Nat → Nat, ordS mc mo (fun x => x) (fun t => some (gN (mo (sg t)))) sg i ∧ (∀ t, t < i → f t = mo (sg t)) ∧ ∀ t, i ≤ t → f t = mo t
theorem ordL_1 : ordL mc mo mo 1 := by
  refine ⟨fun _ => 0, fun t ht => ?_, fun t ht => ?_, fun t _ => rfl⟩
  · obtain rfl : t = 0 := by omega
    refine ⟨by omega, ?_, rfl⟩
    show 0 + (if mAh mc (gN (mo 0)) (gN (mo 0)) = 0 then 0 else 1) = 0
    rw [mAh_self, if_pos rfl]
  · obtain rfl : t = 0 := by omega
    rfl
theorem ordL_0 : ordL mc mo mo 0 := ⟨fun _ => 0, fun t ht => absurd ht (Nat.not_lt_zero t), fun t ht => absurd ht (Nat.not_lt_zero t), fun t _ => rfl⟩
/-- while room is made at u: what stood from u on stands one place behind -/
def shU (f : Nat → Int32) (i u : Nat) : Nat → Int32 := fun t => if u < t ∧ t ≤ i then f (t - 1) else f t
theorem shU_0 {f : Nat → Int32} {i : Nat} : f = shU f i i := by funext t; unfold shU; rw [if_neg (by omega)]
theorem shU_s {f : Nat → Int32} {i u : Nat} (h0 : 0 < u) (h : u ≤ i) : upd (shU f i u) u (shU f i u (u - 1)) = shU f i (u - 1) := by
  funext t
  unfold upd shU
  by_cases e : t = u
  · subst e; rw [if_pos rfl, if_neg (by omega), if_pos ⟨by omega, h⟩]
  · rw [if_neg e]
    by_cases h2 : u < t ∧ t ≤ i
    · rw [if_pos h2, if_pos ⟨by omega, h2.2⟩]
    · rw [if_neg h2, if_neg (by omega)]
theorem shU_at {f : Nat → Int32} {i u : Nat} (h0 : 0 < u) : shU f i u (u - 1) = f (u - 1) := by unfold shU; rw [if_neg (by omega)]
/-- the law's key -/
def lKey (mc : Nat → Int32) (a : Nat) : Int := ((mc (5 * a + 4)).toInt + 200) * 10000 + (mSize (mc (5 * a + 3))).toInt * 10 + a
theorem lKey_lt (hc : isC mc) {a b : Nat} (ha : a < 8) (hb : b < 8) : lKey mc a < lKey mc b ↔ mKey mc a < mKey mc b := by
  have ra := hc (5 * a + 4) (by omega)
  have rb := hc (5 * b + 4) (by omega)
  have ma := mSize_bd (hc (5 * a + 3) (by omega))
  have mb := mSize_bd (hc (5 * b + 3) (by omega))
  unfold lKey mKey
  omega
theorem lKey_bd (hc : isC mc) {a : Nat} (ha : a < 8) : 0 ≤ lKey mc a ∧ lKey mc a ≤ 3272000 := by
  have ra := hc (5 * a + 4) (by omega)
  have ma := mSize_bd (hc (5 * a + 3) (by omega))
  unfold lKey
  omega
theorem lKey_eq (hc : isC mc) {a : Nat} (ha : a < 8) : ((mc (5 * a + 4) + 200) * 10000 + mSize (mc (5 * a + 3)) * 10 + nI a).toInt = lKey mc a := by
  have ra := hc (5 * a + 4) (by omega)
  have ma := mSize_bd (hc (5 * a + 3) (by omega))
  have k1 : (200 : Int32).toInt = 200 := by decide
  have k2 : (10000 : Int32).toInt = 10000 := by decide
  have k3 : (10 : Int32).toInt = 10 := by decide
  have na := nI_toInt (n := a) (by omega)
  have e1 : (mc (5 * a + 4) + 200).toInt = (mc (5 * a + 4)).toInt + 200 := by rw [fb_addI (by omega) (by omega), k1]
  have e2 : ((mc (5 * a + 4) + 200) * 10000).toInt = ((mc (5 * a + 4)).toInt + 200) * 10000 := by rw [fb_mulI (by rw [e1, k2]; omega) (by rw [e1, k2]; omega), e1, k2]
  have e3 : (mSize (mc (5 * a + 3)) * 10).toInt = (mSize (mc (5 * a + 3))).toInt * 10 := by rw [fb_mulI (by rw [k3]; omega) (by rw [k3]; omega), k3]
  have e4 : ((mc (5 * a + 4) + 200) * 10000 + mSize (mc (5 * a + 3)) * 10).toInt = ((mc (5 * a + 4)).toInt + 200) * 10000 + (mSize (mc (5 * a + 3))).toInt * 10 := by rw [fb_addI (by rw [e2, e3]; omega) (by rw [e2, e3]; omega), e2, e3]
  rw [fb_addI (by rw [e4, na]; omega) (by rw [e4, na]; omega), e4, na]
  rfl
/-- whether the one ahead of u must give way -/
theorem ordL_gt (hc : isC mc) (hO : ∀ i, i < C → gN (mo i) < 8) (hiM : ∀ i j, i < C → j < C → gN (mo i) = gN (mo j) → i = j) {f : Nat → Int32} {i t : Nat} (hi : i < C) (h : ordL mc mo f i) (ht : t < i) : (lKey mc (gN (mo i)) < lKey mc (gN (f t)) ↔ rkM mc mo i i ≤ t) ∧ gN (f t) < 8 := by
  obtain ⟨sg, h1, h2, h3⟩ := h
  have a := ord_lt hc hO hiM hi h1 ht
  have hs := (h1 t ht).1
  rw [h2 t ht]
  have hky := ky_ne hc hO hiM (i := sg t) (j := i) (by omega) hi (by omega)
  rw [mAh_key hc (hO _ (by omega)) (hO i hi)] at a
  refine ⟨?_, hO _ (by omega)⟩
  rw [lKey_lt hc (hO i hi) (hO _ (by omega))]
  by_cases e : mKey mc (gN (mo (sg t))) < mKey mc (gN (mo i))
  · rw [if_pos e] at a
    have := a.mpr (by decide)
    exact ⟨fun h9 => by omega, fun h9 => by omega⟩
  · rw [if_neg e] at a
    have h9 : ¬ t < rkM mc mo i i := fun h8 => a.mp h8 rfl
    refine ⟨fun _ => by omega, fun _ => ?_⟩
    have hk : kyM mc mo (sg t) ≠ kyM mc mo i := hky
    unfold kyM at hk
    omega
/-- the next one is laid in its place -/
theorem ordL_s (hc : isC mc) (hO : ∀ i, i < C → gN (mo i) < 8) (hiM : ∀ i j, i < C → j < C → gN (mo i) = gN (mo j) → i = j) {f : Nat → Int32} {i u : Nat} (hi : i < C) (hu : u = rkM mc mo i i) (h : ordL mc mo f i) : ordL mc mo (upd (shU f i u) u (mo i)) (i + 1) := by
  obtain ⟨sg, h1, h2, h3⟩ := h
  have hp := rkM_le mc mo i i
  have hs := ord_s hc hO hiM hi h1
  refine ⟨sgS sg u i, fun t ht => ?_, fun t ht => ?_, fun t ht => ?_⟩
  · obtain ⟨a1, a2, -⟩ := hs t ht
    rw [← hu] at a1 a2
    exact ⟨a1, a2, rfl⟩
  · unfold upd shU sgS
    by_cases e : t = u
    · rw [if_pos e, if_neg (by omega), if_pos e]
    · rw [if_neg e]
      by_cases e2 : t < u
      · rw [if_neg (by omega), if_pos e2]; exact h2 t (by omega)
      · rw [if_pos ⟨by omega, by omega⟩, if_neg e2, if_neg e]; exact h2 (t - 1) (by omega)
  · unfold upd shU
    rw [if_neg (by omega), if_neg (by omega)]
    exact h3 t (by omega)
theorem arO_out {k j : Nat} : ∀ {n}, n ≤ C → C ≤ j → arO mc mo C n j = mo j
  | 0, _, _ => rfl
  | n + 1, hn, hj => by
    unfold arO upd
    have := rkM_lt (mc := mc) (mo := mo) (k := n) (j := C) (by omega)
    rw [if_neg (by omega)]
    exact arO_out (k := k) (by omega) hj
/-- the row in order is the class's -/
theorem ordL_end (hc : isC mc) (hO : ∀ i, i < C → gN (mo i) < 8) (hiM : ∀ i j, i < C → j < C → gN (mo i) = gN (mo j) → i = j) (hO2 : ∀ i, i < C → mo i = nI (gN (mo i))) {f : Nat → Int32} (h : ordL mc mo f C) : f = arO mc mo C C ∧ ∀ t, t < C → (mo t = f t ↔ rkM mc mo t C = t) := by
  obtain ⟨sg, h1, h2, h3⟩ := h
  constructor
  · funext t
    by_cases ht : t < C
    · rw [h2 t ht, (ord_end hc hO hiM h1 ht).1]
    · rw [h3 t (by omega), arO_out (k := 0) (Nat.le_refl C) (by omega)]
  · intro t ht
    rw [h2 t ht, ← (ord_end hc hO hiM h1 ht).2.2]
    have hs := (h1 t ht).1
    constructor
    · intro e; exact hiM _ _ hs ht (by rw [e])
    · intro e; rw [e]
end ORD
theorem ordL_val {mc mo : Nat → Int32} {C N : Nat} (hO : ∀ i, i < C → gN (mo i) < N ∧ mo i = nI (gN (mo i))) {f : Nat → Int32} {i : Nat} (h : ordL mc mo f i) (hi : i ≤ C) {t : Nat} (ht : t < C) : gN (f t) < N ∧ f t = nI (gN (f t)) := by
  obtain ⟨sg, h1, h2, h3⟩ := h
  by_cases e : t < i
  · rw [h2 t e]; exact hO _ (by have := (h1 t e).1; omega)
  · rw [h3 t (by omega)]; exact hO t ht
