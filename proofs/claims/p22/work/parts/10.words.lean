/-! the words in which both sides answer -/
abbrev mW (cI : ClassId) (M : Nat → Nat) (c s w : Nat → Int32) (n : Int32) (o : Nat → Int32) (ch : Int32) (u : Nat → Int32) (k : Int32) (t q p : Nat → Int32) (my : Int32) (fa pa : Nat → Int32) (cy lo gr : Int32) (ov un : Int64) (la : Int32) : va_W :=
  [(M 0, .inr (8, [.ref (M 1), .ref (M 2), .ref (M 3), .int n, .ref (M 4), .int ch, .ref (M 5), .int k, .ref (M 6), .ref (M 7), .ref (M 8), .int my, .ref (M 9), .ref (M 10), .int cy, .int lo, .int gr, .long ov, .long un, .int la])),
   (M 1, .inl (cI, 40, .inl c)), (M 2, .inl (cI, 32, .inl s)), (M 3, .inl (cI, 8, .inl w)), (M 4, .inl (cI, 8, .inl o)), (M 5, .inl (cI, 16, .inl u)), (M 6, .inl (cI, 32, .inl t)), (M 7, .inl (cI, 32, .inl q)), (M 8, .inl (cI, 64, .inl p)), (M 9, .inl (cI, 40401, .inl fa)), (M 10, .inl (cI, 40401, .inl pa))]
abbrev gN (x : Int32) : Nat := x.toNatClampNeg
theorem gN_nI {n : Nat} (h : n < 2147483648) : gN (nI n) = n := nI_clamp h
def isIn (v lo hi : Int32) : Int32 := if v < lo then 0 else if hi < v then 0 else 1
def rs97 (v : Int32) : Int32 := (v - v / 97 * 97 + 97) - (v - v / 97 * 97 + 97) / 97 * 97
def mClamp (x : Int32) : Int32 := if x < -32767 then -32767 else if 32767 < x then 32767 else x
def mDown (v b : Int32) : Int32 := if v < 0 then -((b - 1 - v) / b) else v / b
def mRnd (v way : Int32) : Int32 := mClamp (if way = 0 then v / 64 else if way = 1 then mDown v 64 else mDown (v + 32) 64)
def mSize (v : Int32) : Int32 := if v < 0 then -v else v
def gGo (f s t : Int32) : Int32 := if f = 0 then 1 else if s = 0 then 2 else if t = 0 then 3 else 0
/-- whether there is a section of this number, of N -/
def isSec (N : Nat) (j : Int32) : Int32 := if j < 0 then 0 else if nI N ≤ j then 0 else 1
theorem gGo_0 {f s t : Int32} (h : gGo f s t = 0) : ¬ f = 0 ∧ ¬ s = 0 ∧ ¬ t = 0 := by
  unfold gGo at h
  by_cases h1 : f = 0
  · rw [if_pos h1] at h; exact absurd h (by decide)
  · rw [if_neg h1] at h
    by_cases h2 : s = 0
    · rw [if_pos h2] at h; exact absurd h (by decide)
    · rw [if_neg h2] at h
      by_cases h3 : t = 0
      · rw [if_pos h3] at h; exact absurd h (by decide)
      · exact ⟨h1, h2, h3⟩
theorem isIn_01 (v lo hi : Int32) : isIn v lo hi = 0 ∨ isIn v lo hi = 1 := by
  unfold isIn
  split
  · exact Or.inl rfl
  · split
    · exact Or.inl rfl
    · exact Or.inr rfl
theorem isIn_get {v lo hi : Int32} (h : ¬ isIn v lo hi = 0) : lo ≤ v ∧ v ≤ hi := by
  unfold isIn at h
  by_cases h1 : v < lo
  · rw [if_pos h1] at h; exact absurd rfl h
  · rw [if_neg h1] at h
    by_cases h2 : hi < v
    · rw [if_pos h2] at h; exact absurd rfl h
    · exact ⟨Int32.not_lt.mp h1, Int32.not_lt.mp h2⟩
theorem isIn_nat {v : Int32} (n : Nat) (hn : n < 2147483648) (h : ¬ isIn v 0 (nI n) = 0) : ∃ V : Nat, V ≤ n ∧ v = nI V := by
  obtain ⟨h1, h2⟩ := isIn_get h
  obtain ⟨j, hj, rfl⟩ := nI_of (Int32.not_lt.mpr h1)
  exact ⟨j, (nI_leI hj hn).mp h2, rfl⟩
theorem isSec_eq {N : Nat} (h : N ≤ 8) (j : Int32) : isIn j 0 (nI N - 1) = isSec N j := by
  unfold isIn isSec
  by_cases h1 : j < 0
  · rw [if_pos h1, if_pos h1]
  · rw [if_neg h1, if_neg h1]
    obtain ⟨J, hJ, rfl⟩ := nI_of h1
    cases N with
    | zero => rw [if_pos (show nI 0 - 1 < nI J from by rw [Int32.lt_iff_toInt_lt, nI_toInt hJ]; exact Int.lt_of_lt_of_le (by decide : (nI 0 - 1).toInt < 0) (Int.natCast_nonneg J)), if_pos (nI_le (Nat.zero_le J) hJ)]
    | succ N =>
      rw [nI_pred]
      by_cases h2 : N < J
      · rw [if_pos (nI_lt h2 hJ), if_pos (nI_le h2 hJ)]
      · rw [if_neg (nI_nlt (by omega) (by omega)), if_neg (nI_ge (by omega) (by omega))]
theorem isSec_get {N : Nat} (hN : N ≤ 8) {j : Int32} (h : ¬ isSec N j = 0) : ∃ J : Nat, J < N ∧ j = nI J := by
  unfold isSec at h
  by_cases h1 : j < 0
  · rw [if_pos h1] at h; exact absurd rfl h
  · rw [if_neg h1] at h
    by_cases h2 : nI N ≤ j
    · rw [if_pos h2] at h; exact absurd rfl h
    · obtain ⟨J, hJ, rfl⟩ := nI_of h1
      exact ⟨J, g_nle h2 (by omega) hJ, rfl⟩
/-- the last of the first places where f is x, or -1 -/
def lastAt (f : Nat → Int32) (x : Int32) : Nat → Int32
  | 0 => -1
  | k + 1 => if f k = x then nI k else lastAt f x k
def shAt (n : Nat) (f : Nat → Int32) (K : Nat) : Nat → Int32 := fun i => if K < i ∧ i < n then f (i - 1) else f i
def shiftIn (n : Nat) (f : Nat → Int32) (x : Int32) : Nat → Int32 := fun i => if i = 0 then x else if i < n then f (i - 1) else f i
theorem shAt_0 {n : Nat} {f : Nat → Int32} : f = shAt n f (n - 1) := by
  funext i
  unfold shAt
  rw [if_neg (by omega)]
theorem shAt_step {n K : Nat} {f : Nat → Int32} (h0 : 0 < K) (h : K < n) : upd (shAt n f K) K (shAt n f K (K - 1)) = shAt n f (K - 1) := by
  funext i
  unfold upd shAt
  by_cases hi : i = K
  · subst hi
    rw [if_pos rfl, if_neg (by omega), if_pos ⟨by omega, h⟩]
  · rw [if_neg hi]
    by_cases h2 : K < i ∧ i < n
    · rw [if_pos h2, if_pos ⟨by omega, h2.2⟩]
    · rw [if_neg h2, if_neg (by omega)]
theorem shAt_end {n : Nat} {f : Nat → Int32} {x : Int32} : upd (shAt n f 0) 0 x = shiftIn n f x := by
  funext i
  unfold upd shAt shiftIn
  by_cases hi : i = 0
  · rw [if_pos hi, if_pos hi]
  · rw [if_neg hi, if_neg hi]
    by_cases h2 : i < n
    · rw [if_pos ⟨by omega, h2⟩, if_pos h2]
    · rw [if_neg (by omega), if_neg h2]
/-- a section's step: what it sums, its memory and its output -/
def fSum (mc ms : Nat → Int32) (J : Nat) (x : Int32) : Int32 := mc (5 * J) * x + mc (5 * J + 1) * ms (4 * J) + mc (5 * J + 2) * ms (4 * J + 1) - mc (5 * J + 3) * ms (4 * J + 2) - mc (5 * J + 4) * ms (4 * J + 3)
def goM (ms : Nat → Int32) (J : Nat) (x y : Int32) : Nat → Int32 := upd (upd (upd (upd ms (4 * J + 1) (ms (4 * J))) (4 * J) x) (4 * J + 3) (ms (4 * J + 2))) (4 * J + 2) y
def goY (mc mw ms : Nat → Int32) (J : Nat) (x : Int32) : Int32 := mRnd (fSum mc ms J x) (mw J)
def rnM (mc mw mo ms : Nat → Int32) (x : Int32) : Nat → (Nat → Int32) × Int32
  | 0 => (ms, x)
  | k + 1 => (goM (rnM mc mw mo ms x k).1 (gN (mo k)) (rnM mc mw mo ms x k).2 (goY mc mw (rnM mc mw mo ms x k).1 (gN (mo k)) (rnM mc mw mo ms x k).2), goY mc mw (rnM mc mw mo ms x k).1 (gN (mo k)) (rnM mc mw mo ms x k).2)
def zeroTo (f : Nat → Int32) (n : Nat) : Nat → Int32 := fun i => if i < n then 0 else f i
theorem zeroTo_0 {f : Nat → Int32} : f = zeroTo f 0 := by funext i; unfold zeroTo; rw [if_neg (Nat.not_lt_zero i)]
theorem zeroTo_s {f : Nat → Int32} {n : Nat} : upd (zeroTo f n) n 0 = zeroTo f (n + 1) := by
  funext i
  unfold upd zeroTo
  by_cases h : i = n
  · rw [if_pos h, if_pos (by omega)]
  · rw [if_neg h]
    by_cases h2 : i < n
    · rw [if_pos h2, if_pos (by omega)]
    · rw [if_neg h2, if_neg (by omega)]
def mStab (mc : Nat → Int32) (J : Nat) : Int32 := if -64 < mc (5 * J + 4) then if mc (5 * J + 4) < 64 then if mSize (mc (5 * J + 3)) < mc (5 * J + 4) + 64 then 1 else 0 else 0 else 0
/-- 28 by itself, so many times, by 97 -/
def pw : Nat → Nat
  | 0 => 1
  | k + 1 => pw k * 28 % 97
theorem pw_lt (k : Nat) : pw k < 97 := by
  cases k with
  | zero => exact (by decide : 1 < 97)
  | succ k => exact Nat.mod_lt _ (by decide)
/-- an array of remainders -/
def isR (f : Nat → Int32) (n : Nat) : Prop := ∀ i, i < n → f i = nI (gN (f i)) ∧ gN (f i) < 97
def asum (f : Nat → Int32) (T : Nat) : Nat → Nat
  | 0 => 0
  | k + 1 => (asum f T k + gN (f k) * pw ((T * k) % 32)) % 97
def dsum (f : Nat → Int32) (T : Nat) : Nat → Nat
  | 0 => 0
  | k + 1 => (dsum f T k + gN (f k) * pw ((k * (32 - T)) % 32)) % 97
def desT (f : Nat → Int32) (T : Nat) : Nat := dsum f T 32 * 94 % 97
def desA (f g : Nat → Int32) (n : Nat) : Nat → Int32 := fun i => if i < n then nI (desT f i) else g i
def desN (f g : Nat → Int32) : Nat → Nat
  | 0 => 0
  | k + 1 => desN f g k + (if g k = nI (desT f k) then 0 else 1)
def ssum (f g : Nat → Int32) (B Y : Nat) : Nat → Nat
  | 0 => 0
  | k + 1 => if B + k < Y then (ssum f g B Y k + gN (f k) * gN (g (B + k))) % 97 else ssum f g B Y k
theorem asum_lt (f : Nat → Int32) (T k : Nat) : asum f T k < 97 := by
  cases k with
  | zero => exact (by decide : 0 < 97)
  | succ k => exact Nat.mod_lt _ (by decide)
theorem dsum_lt (f : Nat → Int32) (T k : Nat) : dsum f T k < 97 := by
  cases k with
  | zero => exact (by decide : 0 < 97)
  | succ k => exact Nat.mod_lt _ (by decide)
theorem ssum_lt (f g : Nat → Int32) (B Y k : Nat) : ssum f g B Y k < 97 := by
  induction k with
  | zero => exact (by decide : 0 < 97)
  | succ k ih =>
    unfold ssum
    split
    · exact Nat.mod_lt _ (by decide)
    · exact ih
theorem ssum_stop {f g : Nat → Int32} {B Y i : Nat} (h : Y ≤ B + i) : ∀ k, ssum f g B Y (i + k) = ssum f g B Y i
  | 0 => rfl
  | k + 1 => by
    rw [← Nat.add_assoc, ssum, if_neg (by omega)]
    exact ssum_stop h k
theorem desA_0 {f g : Nat → Int32} : g = desA f g 0 := by funext i; unfold desA; rw [if_neg (Nat.not_lt_zero i)]
theorem desA_s {f g : Nat → Int32} {n : Nat} : upd (desA f g n) n (nI (desT f n)) = desA f g (n + 1) := by
  funext i
  unfold upd desA
  by_cases h : i = n
  · rw [if_pos h, if_pos (by omega), h]
  · rw [if_neg h]
    by_cases h2 : i < n
    · rw [if_pos h2, if_pos (by omega)]
    · rw [if_neg h2, if_neg (by omega)]
theorem desN_le (f g : Nat → Int32) : ∀ k, desN f g k ≤ k
  | 0 => Nat.le_refl 0
  | k + 1 => by
    have := desN_le f g k
    unfold desN
    split <;> omega
/-- a product of two remainders, a sum's step: no wrap-around -/
theorem mul97 {a b : Nat} (ha : a < 97) (hb : b < 97) : a * b ≤ 9216 := Nat.mul_le_mul (Nat.le_of_lt_succ ha) (Nat.le_of_lt_succ hb)
theorem mStab_01 (mc : Nat → Int32) (J : Nat) : mStab mc J = 0 ∨ mStab mc J = 1 := by
  unfold mStab
  split
  · split
    · split
      · exact Or.inr rfl
      · exact Or.inl rfl
    · exact Or.inl rfl
  · exact Or.inl rfl
theorem lastAt_get {f : Nat → Int32} {x : Int32} : ∀ {n : Nat}, n < 2147483648 → ¬ lastAt f x n = -1 → ∃ q : Nat, q < n ∧ lastAt f x n = nI q ∧ f q = x
  | 0, _, h => absurd rfl h
  | n + 1, hn, h => by
    unfold lastAt at h ⊢
    by_cases e : f n = x
    · rw [if_pos e]; exact ⟨n, Nat.lt_succ_self n, rfl, e⟩
    · rw [if_neg e] at h ⊢
      obtain ⟨q, h1, h2, h3⟩ := lastAt_get (by omega) h
      exact ⟨q, by omega, h2, h3⟩
theorem lastAt_no {f : Nat → Int32} {x : Int32} : ∀ {n : Nat}, n < 2147483648 → lastAt f x n = -1 → ∀ i, i < n → ¬ f i = x
  | 0, _, _, i, hi => absurd hi (Nat.not_lt_zero i)
  | n + 1, hn, h, i, hi => by
    unfold lastAt at h
    by_cases e : f n = x
    · rw [if_pos e] at h
      have h2 : (nI n).toInt = -1 := by rw [h]; decide
      rw [nI_toInt (by omega)] at h2
      omega
    · rw [if_neg e] at h
      by_cases hi2 : i = n
      · rw [hi2]; exact e
      · exact lastAt_no (by omega) h i (by omega)
/-- the row without its place Q, as it is moved up to n -/
def rmAt (f : Nat → Int32) (Q n : Nat) : Nat → Int32 := fun i => if Q ≤ i ∧ i < n then f (i + 1) else f i
theorem rmAt_0 {f : Nat → Int32} {Q : Nat} : f = rmAt f Q Q := by funext i; unfold rmAt; rw [if_neg (by omega)]
theorem rmAt_s {f : Nat → Int32} {Q n : Nat} (h : Q ≤ n) : upd (rmAt f Q n) n (rmAt f Q n (n + 1)) = rmAt f Q (n + 1) := by
  funext i
  unfold upd rmAt
  by_cases hi : i = n
  · subst hi
    rw [if_pos rfl, if_neg (by omega), if_pos ⟨h, by omega⟩]
  · rw [if_neg hi]
    by_cases h2 : Q ≤ i ∧ i < n
    · rw [if_pos h2, if_pos ⟨h2.1, by omega⟩]
    · rw [if_neg h2, if_neg (by omega)]
/-- by what a section differs from another in the order -/
def mBy (mc : Nat → Int32) (a b : Nat) : Int32 := if mc (5 * a + 4) - mc (5 * b + 4) = 0 then mSize (mc (5 * a + 3)) - mSize (mc (5 * b + 3)) else mc (5 * a + 4) - mc (5 * b + 4)
def mAh (mc : Nat → Int32) (a b : Nat) : Int32 := if mBy mc a b < 0 then 1 else if mBy mc a b = 0 then (if a < b then 1 else 0) else 0
theorem mAh_self (mc : Nat → Int32) (a : Nat) : mAh mc a a = 0 := by
  have h : mBy mc a a = 0 := by
    unfold mBy
    rw [Int32.sub_self, if_pos rfl, Int32.sub_self]
  unfold mAh
  rw [h, if_neg (by decide), if_pos rfl, if_neg (Nat.lt_irrefl a)]
theorem mAh_01 (mc : Nat → Int32) (a b : Nat) : mAh mc a b = 0 ∨ mAh mc a b = 1 := by
  unfold mAh
  split
  · exact Or.inr rfl
  · split
    · split
      · exact Or.inr rfl
      · exact Or.inl rfl
    · exact Or.inl rfl
/-- how many of the first j of the row are ahead of its k-th -/
def rkM (mc mo : Nat → Int32) (k : Nat) : Nat → Nat
  | 0 => 0
  | j + 1 => rkM mc mo k j + (if mAh mc (gN (mo j)) (gN (mo k)) = 0 then 0 else 1)
theorem rkM_le (mc mo : Nat → Int32) (k : Nat) : ∀ j, rkM mc mo k j ≤ j
  | 0 => Nat.le_refl 0
  | j + 1 => by
    have := rkM_le mc mo k j
    unfold rkM
    split <;> omega
theorem rkM_lt {mc mo : Nat → Int32} {k : Nat} : ∀ {j}, k < j → rkM mc mo k j < j
  | 0, h => absurd h (Nat.not_lt_zero k)
  | j + 1, h => by
    unfold rkM
    by_cases e : k = j
    · subst e
      rw [mAh_self, if_pos rfl]
      have := rkM_le mc mo k k
      omega
    · have := rkM_lt (mc := mc) (mo := mo) (k := k) (j := j) (by omega)
      split <;> omega
def cpTo (f g : Nat → Int32) (n : Nat) : Nat → Int32 := fun i => if i < n then f i else g i
theorem cpTo_0 {f g : Nat → Int32} : g = cpTo f g 0 := by funext i; unfold cpTo; rw [if_neg (Nat.not_lt_zero i)]
theorem cpTo_s {f g : Nat → Int32} {n : Nat} : upd (cpTo f g n) n (f n) = cpTo f g (n + 1) := by
  funext i
  unfold upd cpTo
  by_cases h : i = n
  · rw [if_pos h, if_pos (by omega), h]
  · rw [if_neg h]
    by_cases h2 : i < n
    · rw [if_pos h2, if_pos (by omega)]
    · rw [if_neg h2, if_neg (by omega)]
theorem cpTo_at {f g : Nat → Int32} {n i : Nat} (h : i < n) : cpTo f g n i = f i := if_pos h
/-- the row put in order, as far as the first k of the old one are laid; how many of them have another place -/
def arO (mc mo : Nat → Int32) (C : Nat) : Nat → Nat → Int32
  | 0 => mo
  | k + 1 => upd (arO mc mo C k) (rkM mc mo k C) (mo k)
def arN (mc mo : Nat → Int32) (C : Nat) : Nat → Nat
  | 0 => 0
  | k + 1 => arN mc mo C k + (if rkM mc mo k C = k then 0 else 1)
theorem arN_le (mc mo : Nat → Int32) (C : Nat) : ∀ k, arN mc mo C k ≤ k
  | 0 => Nat.le_refl 0
  | k + 1 => by
    have := arN_le mc mo C k
    unfold arN
    split <;> omega
theorem nI_ne_m1 {q : Nat} (h : q < 2147483648) (e : nI q = -1) : False := by
  have h2 : (nI q).toInt = -1 := by rw [e]; decide
  rw [nI_toInt h] at h2
  omega
theorem arN_s {mc mo : Nat → Int32} {C k : Nat} : arN mc mo C (k + 1) = arN mc mo C k + (if rkM mc mo k C = k then 0 else 1) := rfl
theorem rkM_s {mc mo : Nat → Int32} {k j : Nat} : rkM mc mo k (j + 1) = rkM mc mo k j + (if mAh mc (gN (mo j)) (gN (mo k)) = 0 then 0 else 1) := rfl
theorem desN_s {f g : Nat → Int32} {k : Nat} : desN f g (k + 1) = desN f g k + (if g k = nI (desT f k) then 0 else 1) := rfl
theorem asum_s {f : Nat → Int32} {T k : Nat} : asum f T (k + 1) = (asum f T k + gN (f k) * pw ((T * k) % 32)) % 97 := rfl
theorem dsum_s {f : Nat → Int32} {T k : Nat} : dsum f T (k + 1) = (dsum f T k + gN (f k) * pw ((k * (32 - T)) % 32)) % 97 := rfl
theorem ssum_s {f g : Nat → Int32} {B Y k : Nat} (h : B + k < Y) : ssum f g B Y (k + 1) = (ssum f g B Y k + gN (f k) * gN (g (B + k))) % 97 := if_pos h
