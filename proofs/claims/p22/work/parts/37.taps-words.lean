/-! rows of taps: the class's sums, and the model's -/
def pwZ (n : Nat) : Nat → Int32 := fun i => if i < n then nI (pw i) else 0
theorem pwZ_in {n i : Nat} (h : i < n) : pwZ n i = nI (pw i) := if_pos h
theorem pwZ_0 : (fun _ => 0 : Nat → Int32) = pwZ 0 := by funext i; exact (if_neg (Nat.not_lt_zero i)).symm
theorem pwZ_s {n : Nat} : upd (pwZ n) n (nI (pw n)) = pwZ (n + 1) := by
  funext i
  unfold upd pwZ
  by_cases h : i = n
  · rw [if_pos h, if_pos (by omega), h]
  · rw [if_neg h]
    by_cases h2 : i < n
    · rw [if_pos h2, if_pos (by omega)]
    · rw [if_neg h2, if_neg (by omega)]
theorem fMod_nI {a b : Nat} (ha : a < 2147483648) (hb0 : 0 < b) (hb : b < 2147483648) : fMod (nI a) (nI b) = nI (a % b) := by
  have hm := Nat.mod_lt a hb0
  rw [← Int32.toInt_inj, fMod_toInt (by rw [nI_toInt hb]; omega), nI_toInt ha, nI_toInt hb, nI_toInt (by omega)]
  omega
theorem i97 : (97 : Int32).toInt = 97 := by decide
theorem rs97_toInt (v : Int32) : (rs97 v).toInt = v.toInt % 97 := by
  have h1 := (qr_toInt (x := v) (y := 97) (by rw [i97]; decide)).2.2
  rw [i97] at h1
  have h2 : v.toInt.tmod 97 < 97 := Int.tmod_lt_of_pos _ (by decide)
  have h3 : -97 < v.toInt.tmod 97 := Int.lt_tmod_of_pos _ (by decide)
  have hm := Int.tmod_add_mul_tdiv v.toInt 97
  have h4 : (v - v / 97 * 97 + 97).toInt = v.toInt.tmod 97 + 97 := by
    rw [fb_addI (by rw [h1, i97]; omega) (by rw [h1, i97]; omega), h1, i97]
  have h5 := (qr_toInt (x := v - v / 97 * 97 + 97) (y := 97) (by rw [i97]; decide)).2.2
  unfold rs97
  rw [h5, h4, i97, Int.tmod_eq_emod_of_nonneg (by omega)]
  omega
theorem fMod_97 (v : Int32) : fMod v 97 = rs97 v := by
  rw [← Int32.toInt_inj, rs97_toInt, fMod_toInt (by rw [i97]; decide), i97]
theorem rs97_nI {d : Nat} (h : d < 97) : rs97 (nI d) = nI d := by
  rw [← Int32.toInt_inj, rs97_toInt, nI_toInt (by omega)]
  omega
theorem rs97_of {v : Int32} {d : Nat} (hd : d < 97) (h : v.toInt % 97 = d) : rs97 v = nI d := by
  rw [← Int32.toInt_inj, rs97_toInt, nI_toInt (by omega), h]
/-- a sum of products, not yet by 97 -/
def csum (f : Nat → Int32) (g : Nat → Nat) : Nat → Nat
  | 0 => 0
  | k + 1 => csum f g k + gN (f k) * g k
theorem csum_s {f : Nat → Int32} {g : Nat → Nat} {k : Nat} : csum f g (k + 1) = csum f g k + gN (f k) * g k := rfl
theorem csum_le {f : Nat → Int32} {g : Nat → Nat} {n : Nat} (hf : isR f n) (hg : ∀ i, i < n → g i < 97) : ∀ {k}, k ≤ n → csum f g k ≤ 9216 * k
  | 0, _ => Nat.le_refl 0
  | k + 1, h => by
    have h1 := csum_le hf hg (k := k) (by omega)
    have h2 := mul97 (hf k (by omega)).2 (hg k (by omega))
    rw [csum_s]; omega
theorem csum_asum (f : Nat → Int32) (T : Nat) : ∀ k, csum f (fun i => pw (T * i % 32)) k % 97 = asum f T k
  | 0 => rfl
  | k + 1 => by rw [csum_s, asum_s, ← csum_asum f T k]; omega
theorem csum_dsum (f : Nat → Int32) (T : Nat) : ∀ k, csum f (fun i => pw (i * (32 - T) % 32)) k % 97 = dsum f T k
  | 0 => rfl
  | k + 1 => by rw [csum_s, dsum_s, ← csum_dsum f T k]; omega
theorem desT_eq {f : Nat → Int32} {T : Nat} : csum f (fun i => pw (i * (32 - T) % 32)) 32 % 97 * 94 % 97 = desT f T := by rw [csum_dsum]; rfl
theorem desT_lt (f : Nat → Int32) (T : Nat) : desT f T < 97 := Nat.mod_lt _ (by decide)
/-! powers -/
theorem mmr (x y : Nat) : x * (y % 97) % 97 = x * y % 97 := by rw [Nat.mul_mod, Nat.mod_mod, ← Nat.mul_mod]
theorem pw_add (a : Nat) : ∀ b, pw (a + b) = pw a * pw b % 97
  | 0 => by rw [Nat.add_zero]; show pw a = pw a * 1 % 97; rw [Nat.mul_one, Nat.mod_eq_of_lt (pw_lt a)]
  | b + 1 => by
    show pw (a + b) * 28 % 97 = pw a * (pw b * 28 % 97) % 97
    rw [pw_add a b, mmr, ← Nat.mul_assoc]
    omega
theorem pw_32 (n : Nat) : pw (n + 32) = pw n := by
  rw [pw_add, show pw 32 = 1 by decide, Nat.mul_one, Nat.mod_eq_of_lt (pw_lt n)]
theorem pw_mul32 (n : Nat) : ∀ q, pw (n + 32 * q) = pw n
  | 0 => rfl
  | q + 1 => by rw [show n + 32 * (q + 1) = n + 32 * q + 32 by omega, pw_32, pw_mul32 n q]
theorem pw_mod (n : Nat) : pw (n % 32) = pw n := by
  have h := pw_mul32 (n % 32) (n / 32)
  rw [Nat.mod_add_div] at h
  exact h.symm
/-- from the last tap on, each time by the root -/
def hsum (f : Nat → Int32) (w : Nat) : Nat → Nat
  | 0 => 0
  | u + 1 => (gN (f (31 - u)) + w * hsum f w u) % 97
theorem hsum_s {f : Nat → Int32} {w u : Nat} : hsum f w (u + 1) = (gN (f (31 - u)) + w * hsum f w u) % 97 := rfl
theorem hsum_asum (f : Nat → Int32) (T : Nat) : ∀ u, u ≤ 32 → (asum f T (32 - u) + pw (T * (32 - u)) * hsum f (pw T) u) % 97 = asum f T 32
  | 0, _ => by show (asum f T 32 + _ * 0) % 97 = _; rw [Nat.mul_zero, Nat.add_zero, Nat.mod_eq_of_lt (asum_lt f T 32)]
  | u + 1, hu => by
    rw [← hsum_asum f T u (by omega)]
    have e : 32 - u = (32 - (u + 1)) + 1 := by omega
    have e2 : 31 - u = 32 - (u + 1) := by omega
    rw [e, asum_s, hsum_s, pw_mod, e2]
    generalize 32 - (u + 1) = k
    rw [Nat.mul_add, Nat.mul_one, pw_add]
    generalize asum f T k = S
    generalize gN (f k) = F
    generalize pw (T * k) = W
    generalize pw T = w
    generalize hsum f w u = Hh
    have h1 : (W * ((F + w * Hh) % 97)) % 97 = (W * (F + w * Hh)) % 97 := by rw [Nat.mul_mod, Nat.mod_mod, ← Nat.mul_mod]
    have h2 : ((W * w % 97) * Hh) % 97 = (W * w * Hh) % 97 := by rw [Nat.mul_mod, Nat.mod_mod, ← Nat.mul_mod]
    have h3 : W * (F + w * Hh) = F * W + W * w * Hh := by rw [Nat.mul_add, Nat.mul_comm W F, Nat.mul_assoc]
    omega
theorem hsum_end (f : Nat → Int32) (T : Nat) : hsum f (pw T) 32 % 97 = asum f T 32 := by
  have h := hsum_asum f T 32 (Nat.le_refl _)
  have e : (asum f T (32 - 32) + pw (T * (32 - 32)) * hsum f (pw T) 32) = hsum f (pw T) 32 := by
    show 0 + pw (T * 0) * _ = _
    rw [Nat.mul_zero]; show 0 + 1 * _ = _; omega
  rw [e] at h; exact h
/-- the two numbers that go from tap to tap -/
theorem goe_step {F w v L A H L2 : Int} (hw : w * v % 97 = 1) (h : (L - A * v - H) % 97 = 0) (h2 : (L2 - (F + (w + v) * L - A)) % 97 = 0) : (L2 - L * v - (F + w * H)) % 97 = 0 := by
  obtain ⟨a, ha⟩ : ∃ a, w * v = 1 + 97 * a := ⟨w * v / 97, by omega⟩
  obtain ⟨b, hb⟩ : ∃ b, L - A * v - H = 97 * b := ⟨(L - A * v - H) / 97, by omega⟩
  obtain ⟨d, hd⟩ : ∃ d, L2 - (F + (w + v) * L - A) = 97 * d := ⟨(L2 - (F + (w + v) * L - A)) / 97, by omega⟩
  have : L2 - L * v - (F + w * H) = 97 * (d + w * b + A * a) := by grind
  omega
/-- the samples' part of a sum -/
def siS (f rw0 : Nat → Int32) (B Y : Nat) : Nat → Int
  | 0 => 0
  | k + 1 => siS f rw0 B Y k + (gN (f k) : Int) * (if B + k < Y then rw0 (B + k) else 0).toInt
theorem siS_term {f rw0 : Nat → Int32} {B Y : Nat} (hf : isR f 32) (hr : ∀ i, i < Y → -96 ≤ (rw0 i).toInt ∧ (rw0 i).toInt ≤ 96) {k : Nat} (hk : k < 32) : -9216 ≤ (gN (f k) : Int) * (if B + k < Y then rw0 (B + k) else 0).toInt ∧ (gN (f k) : Int) * (if B + k < Y then rw0 (B + k) else 0).toInt ≤ 9216 := by
  have h2 := (hf k hk).2
  generalize hz : (if B + k < Y then rw0 (B + k) else 0).toInt = z
  have hz2 : -96 ≤ z ∧ z ≤ 96 := by
    rw [← hz]
    split
    · exact hr _ (by assumption)
    · exact ⟨by decide, by decide⟩
  have h3 : ((gN (f k) : Int) * z).natAbs ≤ 96 * 96 := by
    rw [Int.natAbs_mul]
    exact Nat.mul_le_mul (by omega) (by omega)
  omega
theorem siS_bd {f rw0 : Nat → Int32} {B Y : Nat} (hf : isR f 32) (hr : ∀ i, i < Y → -96 ≤ (rw0 i).toInt ∧ (rw0 i).toInt ≤ 96) : ∀ {k : Nat}, k ≤ 32 → -9216 * (k : Int) ≤ siS f rw0 B Y k ∧ siS f rw0 B Y k ≤ 9216 * (k : Int)
  | 0, _ => by unfold siS; omega
  | k + 1, h => by
    have h1 := siS_bd (B := B) hf hr (k := k) (by omega)
    have hb := siS_term (B := B) hf hr (k := k) (by omega)
    unfold siS
    omega
theorem siS_ssum {f rw0 mp : Nat → Int32} {B Y : Nat} (hm : ∀ i, i < Y → mp i = rs97 (rw0 i)) : ∀ k, siS f rw0 B Y k % 97 = (ssum f mp B Y k : Int)
  | 0 => rfl
  | k + 1 => by
    have ih := siS_ssum (f := f) (B := B) hm k
    have hlt := ssum_lt f mp B Y k
    unfold siS
    by_cases h : B + k < Y
    · rw [ssum_s h, if_pos h, hm _ h]
      have h1 := rs97_toInt (rw0 (B + k))
      have h2 : ((gN (rs97 (rw0 (B + k))) : Nat) : Int) = (rw0 (B + k)).toInt % 97 := by
        rw [← h1]
        have h3 : 0 ≤ (rs97 (rw0 (B + k))).toInt := by rw [h1]; omega
        unfold gN
        rw [Int32.toNatClampNeg]
        exact Int.toNat_of_nonneg h3
      have h4 : ((gN (f k) : Int) * (rw0 (B + k)).toInt) % 97 = ((gN (f k) : Int) * ((rw0 (B + k)).toInt % 97)) % 97 := by
        rw [Int.mul_emod, Int.mul_emod (gN (f k) : Int) ((rw0 (B + k)).toInt % 97), Int.emod_emod_of_dvd _ (Int.dvd_refl 97)]
      have h5 : (((ssum f mp B Y k + gN (f k) * gN (rs97 (rw0 (B + k)))) % 97 : Nat) : Int) = ((ssum f mp B Y k : Int) + (gN (f k) : Int) * ((rw0 (B + k)).toInt % 97)) % 97 := by
        rw [Int.natCast_emod, Int.natCast_add, Int.natCast_mul, h2]; rfl
      rw [h5]
      omega
    · rw [if_neg h]
      show (siS f rw0 B Y k + (gN (f k) : Int) * 0) % 97 = _
      rw [Int.mul_zero, Int.add_zero, ih, ssum, if_neg h]
theorem dn_s {u : Nat} (h : u ≤ 31) : nI (31 - u) + (-1) = nI 31 - nI (u + 1) := by
  have e1 : (-1 : Int32).toInt = -1 := by decide
  have k1 := nI_toInt (n := 31 - u) (by omega)
  have k2 := nI_toInt (n := 31) (by omega)
  have k3 := nI_toInt (n := u + 1) (by omega)
  rw [← Int32.toInt_inj, fb_addI (by omega) (by omega), fb_subI (by omega) (by omega)]
  omega
theorem dn_lt {u : Nat} (h : u ≤ 32) : nI 31 - nI u < 0 ↔ 31 < u := by
  have e0 : (0 : Int32).toInt = 0 := by decide
  have k2 := nI_toInt (n := 31) (by omega)
  have k3 := nI_toInt (n := u) (by omega)
  rw [Int32.lt_iff_toInt_lt, fb_subI (by omega) (by omega)]
  omega
theorem goe_m {a b : Nat} (ha : a < 1000000) (hb : b ≤ 97) : fMod (nI a - nI b) 97 = nI ((a + 97 - b) % 97) := by
  have k2 := nI_toInt (n := a) (by omega)
  have k3 := nI_toInt (n := b) (by omega)
  rw [fMod_97]
  refine rs97_of (Nat.mod_lt _ (by decide)) ?_
  rw [fb_subI (by omega) (by omega)]
  omega
theorem pw_inv (T : Nat) : pw (T * 1 % 32) * pw (T * 31 % 32) % 97 = 1 := by
  rw [pw_mod, pw_mod, ← pw_add, ← Nat.mul_add, ← pw_mod, Nat.mul_mod_left]; rfl
theorem goe_stepN {F w v L A H : Nat} (hw : w * v % 97 = 1) (hA : A < 97) (h : ((L : Int) - A * v - H) % 97 = 0) : ((((F + (w + v) * L + 97 - A) % 97 : Nat) : Int) - L * v - ((F + w * H) % 97 : Nat)) % 97 = 0 := by
  have h1 : ((w : Int) * v) % 97 = 1 := by
    have := congrArg (Nat.cast (R := Int)) hw
    rw [Int.natCast_emod, Int.natCast_mul] at this; exact this
  have h2 : ((((F + (w + v) * L + 97 - A) % 97 : Nat) : Int) - (F + ((w : Int) + v) * L - A)) % 97 = 0 := by
    have e1 : (((w + v) * L : Nat) : Int) = ((w : Int) + v) * L := by rw [Int.natCast_mul, Int.natCast_add]
    omega
  have h3 := goe_step h1 h h2
  have e2 : ((w * H : Nat) : Int) = (w : Int) * H := Int.natCast_mul _ _
  omega
theorem goe_end {f : Nat → Int32} {T L A : Nat} (hL : L < 97) (hA : A < 97) (h : ((L : Int) - A * (pw (T * 31 % 32) : Nat) - hsum f (pw (T * 1 % 32)) 32) % 97 = 0) : fMod (nI L - nI (A * pw (T * 31 % 32))) 97 = nI (asum f T 32) := by
  have h1 := hsum_end f T
  rw [show pw (T * 1 % 32) = pw T from by rw [Nat.mul_one, pw_mod]] at h
  have hm := mul97 hA (pw_lt (T * 31 % 32))
  have k2 := nI_toInt (n := L) (by omega)
  have k3 := nI_toInt (n := A * pw (T * 31 % 32)) (by omega)
  have e1 : ((A * pw (T * 31 % 32) : Nat) : Int) = (A : Int) * (pw (T * 31 % 32) : Nat) := Int.natCast_mul _ _
  rw [fMod_97]
  refine rs97_of (asum_lt _ _ _) ?_
  rw [fb_subI (by omega) (by omega)]
  omega
