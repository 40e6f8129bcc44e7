/-! two bits a state -/
def mgt (x : Int64) (s : Int32) : Int32 := ((x.toUInt64 >>> (s.toInt64.toUInt64 &&& Int64.toUInt64 63)).toInt64).toInt32 &&& 3
def mst (x : Int64) (s d : Int32) : Int64 := (x &&& ((3 <<< (s.toInt64 &&& 63)) ^^^ (-1))) ||| (d.toInt64 <<< (s.toInt64 &&& 63))
theorem msh1 : ∀ r : Fin 32, ((nI (r.val * 2)).toInt64 &&& 63).toBitVec.smod 64 = BitVec.ofNat 64 (r.val * 2) := by decide
theorem msh2 : ∀ r : Fin 32, ((nI (r.val * 2)).toInt64.toUInt64 &&& Int64.toUInt64 63).toBitVec % 64 = BitVec.ofNat 64 (r.val * 2) := by decide
theorem msh3 : ∀ d : Fin 4, (nI d.val).toInt64.toBitVec = BitVec.ofNat 64 d.val := by decide
theorem msh4 : ∀ d : Fin 4, (nI d.val).toBitVec = BitVec.ofNat 32 d.val := by decide
theorem mbit (d : Fin 4) (i : Nat) (h : 2 ≤ i) : (BitVec.ofNat 64 d.val).getLsbD i = false := by
  rw [BitVec.getLsbD_ofNat]
  have : d.val.testBit i = false := Nat.testBit_lt_two_pow (Nat.lt_of_lt_of_le d.isLt (Nat.pow_le_pow_right (n := 2) (by decide) h))
  rw [this, Bool.and_false]
theorem dbit (d : Fin 4) {i : Nat} (h : 2 ≤ i) : d.val.testBit i = false := Nat.testBit_lt_two_pow (Nat.lt_of_lt_of_le d.isLt (Nat.pow_le_pow_right (n := 2) (by decide) h))
theorem mbit3 : (3#64).getLsbD 0 = true ∧ (3#64).getLsbD 1 = true := by decide
theorem mgt_bv {x : Int64} (r : Fin 32) : (mgt x (nI (r.val * 2))).toBitVec = (x.toBitVec >>> (r.val * 2)).setWidth 32 &&& 3#32 := by
  unfold mgt
  rw [Int32.toBitVec_and]
  congr 1
  rw [show (((x.toUInt64 >>> ((nI (r.val * 2)).toInt64.toUInt64 &&& Int64.toUInt64 63)).toInt64).toInt32).toBitVec = ((x.toUInt64 >>> ((nI (r.val * 2)).toInt64.toUInt64 &&& Int64.toUInt64 63)).toBitVec).signExtend 32 from rfl]
  rw [UInt64.toBitVec_shiftRight, msh2 r]
  rw [BitVec.signExtend_eq_setWidth_of_le _ (by decide)]
  congr 1
  show x.toBitVec >>> (BitVec.ofNat 64 (r.val * 2)).toNat = _
  rw [BitVec.toNat_ofNat, Nat.mod_eq_of_lt (by have := r.isLt; omega)]
theorem mst_bv {x : Int64} (r : Fin 32) (d : Fin 4) : (mst x (nI (r.val * 2)) (nI d.val)).toBitVec = (x.toBitVec &&& ((3#64 <<< (r.val * 2)) ^^^ BitVec.allOnes 64)) ||| (BitVec.ofNat 64 d.val <<< (r.val * 2)) := by
  unfold mst
  rw [Int64.toBitVec_or, Int64.toBitVec_and, Int64.toBitVec_xor, Int64.toBitVec_shiftLeft, Int64.toBitVec_shiftLeft, msh1 r, msh3 d]
  have e : (BitVec.ofNat 64 (r.val * 2)).toNat = r.val * 2 := by rw [BitVec.toNat_ofNat, Nat.mod_eq_of_lt (by have := r.isLt; omega)]
  show (x.toBitVec &&& ((3#64 <<< (BitVec.ofNat 64 (r.val * 2)).toNat) ^^^ (-1 : Int64).toBitVec)) ||| (BitVec.ofNat 64 d.val <<< (BitVec.ofNat 64 (r.val * 2)).toNat) = _
  rw [e]; rfl
theorem mgt_same {x : Int64} (r : Fin 32) (d : Fin 4) : mgt (mst x (nI (r.val * 2)) (nI d.val)) (nI (r.val * 2)) = nI d.val := by
  apply Int32.toBitVec_inj.mp
  rw [mgt_bv, mst_bv, msh4]
  have hr := r.isLt
  apply BitVec.eq_of_getLsbD_eq
  intro i hi
  have h3 : (3#32).getLsbD i = decide (i < 2) := by
    match i with
    | 0 => rfl
    | 1 => rfl
    | i + 2 => rw [BitVec.getLsbD_ofNat, Nat.testBit_lt_two_pow (Nat.lt_of_lt_of_le (by decide : 3 < 2 ^ 2) (Nat.pow_le_pow_right (by decide) (by omega)))]; simp
  have hd : (BitVec.ofNat 32 d.val).getLsbD i = (decide (i < 32) && d.val.testBit i) := BitVec.getLsbD_ofNat ..
  by_cases h2 : i < 2
  · have hb : (3#64).getLsbD i = true := by
      match i, h2 with
      | 0, _ => rfl
      | 1, _ => rfl
    simp only [BitVec.getLsbD_and, BitVec.getLsbD_or, BitVec.getLsbD_xor, BitVec.getLsbD_setWidth, BitVec.getLsbD_ushiftRight, BitVec.getLsbD_shiftLeft, BitVec.getLsbD_allOnes, h3, hd, BitVec.getLsbD_ofNat]
    have e1 : r.val * 2 + i < 64 := by omega
    have e2 : ¬ r.val * 2 + i < r.val * 2 := by omega
    have e3 : r.val * 2 + i - r.val * 2 = i := by omega
    have e4 : (3 : Nat).testBit i = true := by
      match i, h2 with
      | 0, _ => rfl
      | 1, _ => rfl
    simp only [e1, e2, e3, h2, hi, e4, show i < 64 by omega]
    simp
  · have h5 : d.val.testBit i = false := dbit d (by omega)
    rw [BitVec.getLsbD_and, h3, hd, h5]
    simp [h2]
theorem mgt_ne {x : Int64} (r t : Fin 32) (d : Fin 4) (h : t ≠ r) : mgt (mst x (nI (r.val * 2)) (nI d.val)) (nI (t.val * 2)) = mgt x (nI (t.val * 2)) := by
  apply Int32.toBitVec_inj.mp
  rw [mgt_bv, mgt_bv, mst_bv]
  have hr := r.isLt
  have ht := t.isLt
  have hne : t.val ≠ r.val := fun e => h (Fin.ext e)
  apply BitVec.eq_of_getLsbD_eq
  intro i hi
  have h3 : (3#32).getLsbD i = decide (i < 2) := by
    match i with
    | 0 => rfl
    | 1 => rfl
    | i + 2 => rw [BitVec.getLsbD_ofNat, Nat.testBit_lt_two_pow (Nat.lt_of_lt_of_le (by decide : 3 < 2 ^ 2) (Nat.pow_le_pow_right (by decide) (by omega)))]; simp
  by_cases h2 : i < 2
  · simp only [BitVec.getLsbD_and, BitVec.getLsbD_or, BitVec.getLsbD_xor, BitVec.getLsbD_setWidth, BitVec.getLsbD_ushiftRight, BitVec.getLsbD_shiftLeft, BitVec.getLsbD_allOnes, h3, BitVec.getLsbD_ofNat]
    have e1 : t.val * 2 + i < 64 := by omega
    by_cases e2 : t.val * 2 + i < r.val * 2
    · simp [e1, e2, h2]
    · have e4 : (3 : Nat).testBit (t.val * 2 + i - r.val * 2) = false := Nat.testBit_lt_two_pow (Nat.lt_of_lt_of_le (by decide : 3 < 2 ^ 2) (Nat.pow_le_pow_right (by decide) (by omega)))
      have e5 : d.val.testBit (t.val * 2 + i - r.val * 2) = false := dbit d (by omega)
      simp only [e4, e5, e1, e2, h2]
      simp
  · rw [BitVec.getLsbD_and, BitVec.getLsbD_and, h3]
    simp [h2]
/-- the marks of all states -/
def mkR (g : Nat → Int64) (A : Nat → Nat) : Prop := ∀ q, q < 40401 → mgt (g (q / 32)) (nI (q % 32 * 2)) = nI (A q) ∧ A q < 4
theorem mkR_set {g : Nat → Int64} {A : Nat → Nat} {q d : Nat} (h : mkR g A) (hd : d < 4) : mkR (vp_updL g (q / 32) (mst (g (q / 32)) (nI (q % 32 * 2)) (nI d))) (fun z => if z = q then d else A z) := by
  intro z hz
  have hrz : z % 32 < 32 := Nat.mod_lt _ (by decide)
  have hrq : q % 32 < 32 := Nat.mod_lt _ (by decide)
  by_cases e : z = q
  · subst e
    dsimp only
    rw [if_pos rfl]
    unfold vp_updL
    rw [if_pos rfl]
    exact ⟨mgt_same ⟨z % 32, hrz⟩ ⟨d, hd⟩, hd⟩
  · dsimp only
    rw [if_neg e]
    unfold vp_updL
    by_cases e2 : z / 32 = q / 32
    · rw [if_pos e2]
      have := h z hz
      refine ⟨?_, this.2⟩
      rw [mgt_ne ⟨q % 32, hrq⟩ ⟨z % 32, hrz⟩ ⟨d, hd⟩ (fun h9 => e (by have := congrArg Fin.val h9; simp only at this; omega)), ← e2]
      exact this.1
    · rw [if_neg e2]; exact h z hz
theorem mgt0 : ∀ r : Fin 32, mgt 0 (nI (r.val * 2)) = 0 := by decide
theorem mkR_0 {g : Nat → Int64} : mkR (fun i => if i < 1263 then 0 else g i) (fun _ => 0) := by
  intro q hq
  dsimp only
  rw [if_pos (by omega)]
  exact ⟨mgt0 ⟨q % 32, Nat.mod_lt _ (by decide)⟩, by decide⟩
theorem mkR_congr {g : Nat → Int64} {A B : Nat → Nat} (h : mkR g A) (e : ∀ q, q < 40401 → A q = B q) : mkR g B := fun q hq => by rw [← e q hq]; exact h q hq
/-! the class's way from state to state -/
def stC (a b : Int32) : Int32 := if 100 < mSize a then -1 else if 100 < mSize b then -1 else (a + 100) * 201 + b + 100
theorem sm_mul {a x : Int32} (ha : -127 ≤ a.toInt ∧ a.toInt ≤ 127) (hx : -100 ≤ x.toInt ∧ x.toInt ≤ 100) : -12700 ≤ (a * x).toInt ∧ (a * x).toInt ≤ 12700 := by
  have h1 : (a.toInt * x.toInt).natAbs ≤ 127 * 100 := by
    rw [Int.natAbs_mul]
    exact Nat.mul_le_mul (by omega) (by omega)
  rw [fb_mulI (by omega) (by omega)]
  omega
theorem sub100 {q : Nat} (h : q ≤ 200) : (nI q - 100 : Int32).toInt = (q : Int) - 100 := pk_sub_toInt (a := q) (b := 100) (by omega) (by decide)
theorem nyC_eq {mc mw : Nat → Int32} {J q : Nat} (hJ : J < 8) (hc : isC mc) (hw : isW (mw J)) (hq : q < 40401) : mClamp (cRnd (0 - mc (5 * J + 3) * (nI (q / 201) - 100) - mc (5 * J + 4) * (nI (q % 201) - 100)) (mw J)) = nyI mc mw J q := by
  have s1 := sub100 (q := q / 201) (by omega)
  have s2 := sub100 (q := q % 201) (by omega)
  have m1 := sm_mul (x := nI (q / 201) - 100) (hc (5 * J + 3) (by omega)) (by omega)
  have m2 := sm_mul (x := nI (q % 201) - 100) (hc (5 * J + 4) (by omega)) (by omega)
  have n1 := fb_negI (x := mc (5 * J + 3) * (nI (q / 201) - 100)) (by omega)
  have d1 := fb_subI (x := -(mc (5 * J + 3) * (nI (q / 201) - 100))) (y := mc (5 * J + 4) * (nI (q % 201) - 100)) (by omega) (by omega)
  rw [Int32.zero_sub]
  unfold nyI
  rw [Int32.neg_mul]
  exact cRnd_eq hw (by omega) (by omega)
theorem mClamp_rng (y : Int32) : -32767 ≤ (mClamp y).toInt ∧ (mClamp y).toInt ≤ 32767 := by
  have k1 : (32767 : Int32).toInt = 32767 := by decide
  have k2 : (-32767 : Int32).toInt = -32767 := by decide
  unfold mClamp
  by_cases h1 : y < -32767
  · rw [if_pos h1, k2]; omega
  · rw [if_neg h1]
    by_cases h2 : 32767 < y
    · rw [if_pos h2, k1]; omega
    · rw [if_neg h2]
      rw [Int32.lt_iff_toInt_lt] at h1 h2
      omega
theorem mSize_gt {y : Int32} (h : -32767 ≤ y.toInt ∧ y.toInt ≤ 32767) : 100 < mSize y ↔ isIn y (-100) 100 = 0 := by
  have e0 : (0 : Int32).toInt = 0 := by decide
  have k1 : (100 : Int32).toInt = 100 := by decide
  have k2 : (-100 : Int32).toInt = -100 := by decide
  unfold mSize isIn
  simp only [Int32.lt_iff_toInt_lt, e0, k1, k2]
  by_cases h0 : y.toInt < 0
  · rw [if_pos h0, fb_negI (by omega)]
    by_cases h1 : y.toInt < -100
    · rw [if_pos h1]; exact ⟨fun _ => rfl, fun _ => by omega⟩
    · rw [if_neg h1, if_neg (show ¬ 100 < y.toInt by omega)]; exact ⟨fun h9 => by omega, fun h9 => absurd h9 (by decide)⟩
  · rw [if_neg h0, if_neg (show ¬ y.toInt < -100 by omega)]
    by_cases h1 : 100 < y.toInt
    · rw [if_pos h1]; exact ⟨fun _ => rfl, fun _ => h1⟩
    · rw [if_neg h1]; exact ⟨fun h9 => absurd h9 h1, fun h9 => absurd h9 (by decide)⟩
theorem mSize_le100 {q : Nat} (h : q ≤ 200) : ¬ 100 < mSize (nI q - 100) := by
  have := ayq_le h
  rw [mSize_100 h]
  exact nI_nlt (a := 100) (b := ayq q) (by omega) (by decide)
theorem stC_next {mc mw : Nat → Int32} {J q : Nat} (hq : q < 40401) : stC (nyI mc mw J q) (nI (q / 201) - 100) = oI (nxO mc mw J q) := by
  unfold stC nxO
  have hr : -32767 ≤ (nyI mc mw J q).toInt ∧ (nyI mc mw J q).toInt ≤ 32767 := mClamp_rng _
  by_cases h1 : isIn (nyI mc mw J q) (-100) 100 = 0
  · rw [if_pos ((mSize_gt hr).mpr h1), if_pos h1]; rfl
  · rw [if_neg (fun h9 => h1 ((mSize_gt hr).mp h9)), if_neg h1, if_neg (mSize_le100 (by omega))]
    obtain ⟨z, hz, e⟩ := isIn_100 h1
    rw [e, gN_nI (by omega), Int32.add_assoc, Int32.sub_add_cancel]
    show nI z * nI 201 + nI (q / 201) = nI _
    rw [pk_mul, nI_add, Nat.mul_comm]
theorem stC_sI {R u v : Nat} (hR : R ≤ 12) (hu : u ≤ 2 * R) (hv : v ≤ 2 * R) : stC (nI u - nI R) (nI v - nI R) = nI (sI R u v) := by
  have hz : ∀ w : Nat, w ≤ 2 * R → ¬ 100 < mSize (nI w - nI R) := by
    intro w hw
    have e : nI w - nI R = nI (w + (100 - R)) - 100 := by
      rw [← off_100 (by omega), Int32.add_sub_cancel]
    rw [e]
    exact mSize_le100 (by omega)
  unfold stC
  rw [if_neg (hz u hu), if_neg (hz v hv), off_100 (by omega)]
  rw [Int32.add_assoc, off_100 (by omega)]
  show nI _ * nI 201 + _ = _
  rw [pk_mul, nI_add, Nat.mul_comm]; rfl
theorem nI_max {x y : Nat} (hx : x < 2147483648) (hy : y < 2147483648) : (if nI x < nI y then nI y else nI x) = nI (max x y) := by
  by_cases h : x < y
  · rw [if_pos (nI_lt h hy)]; congr 1; omega
  · rw [if_neg (nI_nlt (by omega) hx)]; congr 1; omega
section AM
variable {nx : Nat → Option Nat} {A : Nat → Nat} {st n k a d : Nat}
theorem amk1_ne (h : amk nx st A 1 k a ≠ 0) : A a ≠ 0 ∨ ∃ i, i < k ∧ tv nx st i = a := by
  by_cases e : ∃ i, i < k ∧ tv nx st i = a
  · exact Or.inr e
  · rw [amk_out (fun i hi h9 => e ⟨i, hi, h9⟩)] at h; exact Or.inl h
theorem amk1_0 (h : amk nx st A 1 k a = 0) : (∀ i, i < k → tv nx st i ≠ a) ∧ A a = 0 := by
  by_cases e : ∃ i, i < k ∧ tv nx st i = a
  · rw [amk_in e] at h; exact absurd h (by decide)
  · rw [amk_out (fun i hi h9 => e ⟨i, hi, h9⟩)] at h; exact ⟨fun i hi h9 => e ⟨i, hi, h9⟩, h⟩
theorem amk2_lt (hw : wayN nx A st n) (hk : k < n) : amk nx st (amk nx st A 1 n) d k (tv nx st k) = 1 := by
  rw [amk_out (fun i hi h9 => hw.2 i k hi hk h9)]
  exact amk_in ⟨k, hk, rfl⟩
theorem amk2_end (hno : ∀ q, A q ≠ 1) (hd : d ≠ 1) : amk nx st (amk nx st A 1 n) d n a ≠ 1 := by
  by_cases e : ∃ i, i < n ∧ tv nx st i = a
  · rw [amk_in e]; exact hd
  · rw [amk_out (fun i hi h9 => e ⟨i, hi, h9⟩), amk_out (fun i hi h9 => e ⟨i, hi, h9⟩)]; exact hno a
theorem amk2_all : amk nx st (amk nx st A 1 n) d n = amk nx st A d n := by
  funext q
  by_cases e : ∃ i, i < n ∧ tv nx st i = q
  · rw [amk_in e, amk_in e]
  · rw [amk_out (fun i hi h9 => e ⟨i, hi, h9⟩), amk_out (fun i hi h9 => e ⟨i, hi, h9⟩), amk_out (fun i hi h9 => e ⟨i, hi, h9⟩)]
theorem amk_st (h : n = 0 → A st = d) : amk nx st A d n st = d := by
  cases n with
  | zero => exact h rfl
  | succ n => exact amk_in ⟨0, Nat.succ_pos n, rfl⟩
theorem amk_023 (hA : ∀ q, A q = 0 ∨ A q = 2 ∨ A q = 3) (hd : d = 2 ∨ d = 3) : ∀ q, amk nx st A d n q = 0 ∨ amk nx st A d n q = 2 ∨ amk nx st A d n q = 3 := by
  intro q
  by_cases e : ∃ i, i < n ∧ tv nx st i = q
  · rw [amk_in e]; exact Or.inr hd
  · rw [amk_out (fun i hi h9 => e ⟨i, hi, h9⟩)]; exact hA q
end AM
