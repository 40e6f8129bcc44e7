/-! two bits a state -/
def mgt (x : Int64) (s : Int32) : Int32 := ((x.toUInt64 >>> (s.toInt64.toUInt64 &&& Int64.toUInt64 63)).toInt64).toInt32 &&& 3
def mst (x : Int64) (s d : Int32) : Int64 := (x &&& ((3 <<< (s.toInt64 &&& 63)) ^^^ (-1))) ||| (d.toInt64 <<< (s.toInt64 &&& 63))
theorem msh1 : ∀ r : Fin 32, ((nI (r.val * 2)).toInt64 &&& 63).toBitVec.smod 64 = BitVec.ofNat 64 (r.val * 2) := by decide
theorem msh2 : ∀ r : Fin 32, ((nI (r.val * 2)).toInt64.toUInt64 &&& Int64.toUInt64 63).toBitVec % 64 = BitVec.ofNat 64 (r.val * 2) := by decide
theorem msh3 : ∀ d : Fin 4, (nI d.val).toInt64.toBitVec = BitVec.ofNat 64 d.val := by decide
theorem msh4 : ∀ d : Fin 4, (nI d.val).toBitVec = BitVec.ofNat 32 d.val := by decide
theorem mbit (d : Fin 4) (i : Nat) (h : 2 ≤ i) : (BitVec.ofNat 64 d.val).getLsbD i = false := by
  rw [BitVec.getLsbD_ofNat]
  have : d.val.testBit i = false := Nat.testBit_lt_two_pow (Nat.lt_of_lt_of_le d.isLt (Nat.pow_le_pow_right (n := 2) (by decide) h))
  rw [this, Bool.and_false]
theorem dbit (d : Fin 4) {i : Nat} (h : 2 ≤ i) : d.val.testBit i = false := Nat.testBit_lt_two_pow (Nat.lt_of_lt_of_le d.isLt (Nat.pow_le_pow_right (n := 2) (by decide) h))
theorem mbit3 : (3#64).getLsbD 0 = true ∧ (3#64).getLsbD 1 = true := by decide
theorem mgt_bv {x : Int64} (r : Fin 32) : (mgt x (nI (r.val * 2))).toBitVec = (x.toBitVec >>> (r.val * 2)).setWidth 32 &&& 3#32 := by
  unfold mgt
  rw [Int32.toBitVec_and]
  congr 1
  rw [show (((x.toUInt64 >>> ((nI (r.val * 2)).toInt64.toUInt64 &&& Int64.toUInt64 63)).toInt64).toInt32).toBitVec = ((x.toUInt64 >>> ((nI (r.val * 2)).toInt64.toUInt64 &&& Int64.toUInt64 63)).toBitVec).signExtend 32 from rfl]
  rw [UInt64.toBitVec_shiftRight, msh2 r]
  rw [BitVec.signExtend_eq_setWidth_of_le _ (by decide)]
  congr 1
  show x.toBitVec >>> (BitVec.ofNat 64 (r.val * 2)).toNat = _
  rw [BitVec.toNat_ofNat, Nat.mod_eq_of_lt (by have := r.isLt; omega)]
theorem mst_bv {x : Int64} (r : Fin 32) (d : Fin 4) : (mst x (nI (r.val * 2)) (nI d.val)).toBitVec = (x.toBitVec &&& ((3#64 <<< (r.val * 2)) ^^^ BitVec.allOnes 64)) ||| (BitVec.ofNat 64 d.val <<< (r.val * 2)) := by
  unfold mst
  rw [Int64.toBitVec_or, Int64.toBitVec_and, Int64.toBitVec_xor, Int64.toBitVec_shiftLeft, Int64.toBitVec_shiftLeft, msh1 r, msh3 d]
  have e : (BitVec.ofNat 64 (r.val * 2)).toNat = r.val * 2 := by rw [BitVec.toNat_ofNat, Nat.mod_eq_of_lt (by have := r.isLt; omega)]
  show (x.toBitVec &&& ((3#64 <<< (BitVec.ofNat 64 (r.val * 2)).toNat) ^^^ (-1 : Int64).toBitVec)) ||| (BitVec.ofNat 64 d.val <<< (BitVec.ofNat 64 (r.val * 2)).toNat) = _
  rw [e]; rfl
theorem mgt_same {x : Int64} (r : Fin 32) (d : Fin 4) : mgt (mst x (nI (r.val * 2)) (nI d.val)) (nI (r.val * 2)) = nI d.val := by
  apply Int32.toBitVec_inj.mp
  rw [mgt_bv, mst_bv, msh4]
  have hr := r.isLt
  apply BitVec.eq_of_getLsbD_eq
  intro i hi
  have h3 : (3#32).getLsbD i = decide (i < 2) := by
    match i with
    | 0 => rfl
    | 1 => rfl
    | i + 2 => rw [BitVec.getLsbD_ofNat, Nat.testBit_lt_two_pow (Nat.lt_of_lt_of_le (by decide : 3 < 2 ^ 2) (Nat.pow_le_pow_right (by decide) (by omega)))]; simp
  have hd : (BitVec.ofNat 32 d.val).getLsbD i = (decide (i < 32) && d.val.testBit i) := BitVec.getLsbD_ofNat ..
  by_cases h2 : i < 2
  · have hb : (3#64).getLsbD i = true := by
      match i, h2 with
      | 0, _ => rfl
      | 1, _ => rfl
    simp only [BitVec.getLsbD_and, BitVec.getLsbD_or, BitVec.getLsbD_xor, BitVec.getLsbD_setWidth, BitVec.getLsbD_ushiftRight, BitVec.getLsbD_shiftLeft, BitVec.getLsbD_allOnes, h3, hd, BitVec.getLsbD_ofNat]
    have e1 : r.val * 2 + i < 64 := by omega
    have e2 : ¬ r.val * 2 + i < r.val * 2 := by omega
    have e3 : r.val * 2 + i - r.val * 2 = i := by omega
    have e4 : (3 : Nat).testBit i = true := by
      match i, h2 with
      | 0, _ => rfl
      | 1, _ => rfl
    simp only [e1, e2, e3, h2, hi, e4, show i < 64 by omega]
    simp
  · have h5 : d.val.testBit i = false := dbit d (by omega)
    rw [BitVec.getLsbD_and, h3, hd, h5]
    simp [h2]
theorem mgt_ne {x : Int64} (r t : Fin 32) (d : Fin 4) (h : t ≠ r) : mgt (mst x (nI (r.val * 2)) (nI d.val)) (nI (t.val * 2)) = mgt x (nI (t.val * 2)) := by
  apply Int32.toBitVec_inj.mp
  rw [mgt_bv, mgt_bv, mst_bv]
  have hr := r.isLt
  have ht := t.isLt
  have hne : t.val ≠ r.val := fun e => h (Fin.ext e)
  apply BitVec.eq_of_getLsbD_eq
  intro i hi
  have h3 : (3#32).getLsbD i = decide (i < 2) := by
    match i with
    | 0 => rfl
    | 1 => rfl
    | i + 2 => rw [BitVec.getLsbD_ofNat, Nat.testBit_lt_two_pow (Nat.lt_of_lt_of_le (by decide : 3 < 2 ^ 2) (Nat.pow_le_pow_right (by decide) (by omega)))]; simp
  by_cases h2 : i < 2
  · simp only [BitVec.getLsbD_and, BitVec.getLsbD_or, BitVec.getLsbD_xor, BitVec.getLsbD_setWidth, BitVec.getLsbD_ushiftRight, BitVec.getLsbD_shiftLeft, BitVec.getLsbD_allOnes, h3, BitVec.getLsbD_ofNat]
    have e1 : t.val * 2 + i < 64 := by omega
    by_cases e2 : t.val * 2 + i < r.val * 2
    · simp [e1, e2, h2]
    · have e4 : (3 : Nat).testBit (t.val * 2 + i - r.val * 2) = false := Nat.testBit_lt_two_pow (Nat.lt_of_lt_of_le (by decide : 3 < 2 ^ 2) (Nat.pow_le_pow_right (by decide) (by omega)))
      have e5 : d.val.testBit (t.val * 2 + i - r.val * 2) = false := dbit d (by omega)
      simp only [e4, e5, e1, e2, h2]
      simp
  · rw [BitVec.getLsbD_and, BitVec.getLsbD_and, h3]
    simp [h2]
/-- the marks of all states -/
def mkR (g : Nat → Int64) (A : Nat → Nat) : Prop := ∀ q, q < 40401 → mgt (g (q / 32)) (nI (q % 32 * 2)) = nI (A q) ∧ A q < 4
theorem mkR_set {g : Nat → Int64} {A : Nat → Nat} {q d : Nat} (h : mkR g A) (hd : d < 4) : mkR (vp_updL g (q / 32) (mst (g (q / 32)) (nI (q % 32 * 2)) (nI d))) (fun z => if z = q then d else A z) := by
  intro z hz
  have hrz : z % 32 < 32 := Nat.mod_lt _ (by decide)
  have hrq : q % 32 < 32 := Nat.mod_lt _ (by decide)
  by_cases e : z = q
  · subst e
    dsimp only
    rw [if_pos rfl]
    unfold vp_updL
    rw [if_pos rfl]
    exact ⟨mgt_same ⟨z % 32, hrz⟩ ⟨d, hd⟩, hd⟩
  · dsimp only
    rw [if_neg e]
    unfold vp_updL
    by_cases e2 : z / 32 = q / 32
    · rw [if_pos e2]
      have := h z hz
      refine ⟨?_, this.2⟩
      rw [mgt_ne ⟨q % 32, hrq⟩ ⟨z % 32, hrz⟩ ⟨d, hd⟩ (fun h9 => e (by have := congrArg Fin.val h9; simp only at this; omega)), ← e2]
      exact this.1
    · rw [if_neg e2]; exact h z hz
theorem mgt0 : ∀ r : Fin 32, mgt 0 (nI (r.val * 2)) = 0 := by decide
theorem mkR_0 {g : Nat → Int64} : mkR (fun i => if i < 1263 then 0 else g i) (fun _ => 0) := by
  intro q hq
  dsimp only
  rw [if_pos (by omega)]
  exact ⟨mgt0 ⟨q % 32, Nat.mod_lt _ (by decide)⟩, by decide⟩
theorem mkR_congr {g : Nat → Int64} {A B : Nat → Nat} (h : mkR g A) (e : ∀ q, q < 40401 → A q = B q) : mkR g B := fun q hq => by rw [← e q hq]; exact h q hq
