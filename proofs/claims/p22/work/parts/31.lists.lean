/-! rows of references: an insertion, a removal; the floor functions -/
def insF (f : Nat → Option Nat) (i n v : Nat) : Nat → Option Nat := fun k => if k < i then f k else if k = i then some v else if k ≤ n then f (k - 1) else f k
theorem insF_eq {f : Nat → Option Nat} {i n v : Nat} (h : i ≤ n) : va_up (va_cpy f f i (i + 1) (n - i)) i (some v) = insF f i n v := by
  funext k
  unfold va_up insF
  by_cases h1 : k < i
  · rw [if_neg (by omega), if_pos h1, pk_cpy_out (Or.inl (by omega))]
  · by_cases h2 : k = i
    · rw [if_pos h2, if_neg h1, if_pos h2]
    · rw [if_neg h2, if_neg h1, if_neg h2]
      by_cases h3 : k ≤ n
      · rw [if_pos h3, pk_cpy_in (by omega) (by omega)]
        congr 1; omega
      · rw [if_neg h3, pk_cpy_out (Or.inr (by omega))]
def rmF (f : Nat → Option Nat) (i n : Nat) : Nat → Option Nat := fun k => if k = n - 1 then none else if i ≤ k ∧ k < n - 1 then f (k + 1) else f k
theorem rmF_eq {f : Nat → Option Nat} {i n : Nat} (h : i < n - 1) : va_up (va_cpy f f (i + 1) i (n - 1 - i)) (n - 1) none = rmF f i n := by
  funext k
  unfold va_up rmF
  by_cases h1 : k = n - 1
  · rw [if_pos h1, if_pos h1]
  · rw [if_neg h1, if_neg h1]
    by_cases h2 : i ≤ k ∧ k < n - 1
    · rw [if_pos h2, pk_cpy_in h2.1 (by omega)]
      congr 1; omega
    · rw [if_neg h2, pk_cpy_out (by omega)]
theorem rmF_last {f : Nat → Option Nat} {i n : Nat} (h : ¬ i < n - 1) : va_up f (n - 1) none = rmF f i n := by
  funext k
  unfold va_up rmF
  by_cases h1 : k = n - 1
  · rw [if_pos h1, if_pos h1]
  · rw [if_neg h1, if_neg h1, if_neg (by omega)]
def fDiv (x y : Int32) : Int32 := if x ^^^ y < 0 then (if x / y * y = x then x / y else x / y - 1) else x / y
def fMod (x y : Int32) : Int32 := if x ^^^ y < 0 then (if x - x / y * y = 0 then x - x / y * y else x - x / y * y + y) else x - x / y * y
theorem xor_neg {x y : Int32} (hy : 0 ≤ y.toInt) : x ^^^ y < 0 ↔ x.toInt < 0 := by
  have e0 : (0 : Int32).toInt = 0 := by decide
  have hmsb : ∀ z : Int32, z < 0 ↔ z.toBitVec.msb = true := by
    intro z
    rw [Int32.lt_iff_toInt_lt, e0]
    show z.toBitVec.toInt < 0 ↔ _
    rw [BitVec.toInt_neg_iff]
    rw [BitVec.msb_eq_decide, decide_eq_true_iff]
    omega
  have h1 : y.toBitVec.msb = false := by
    have h2 := hmsb y
    rw [Int32.lt_iff_toInt_lt, e0] at h2
    cases hb : y.toBitVec.msb with
    | false => rfl
    | true => have := h2.mpr hb; omega
  rw [hmsb, Int32.toBitVec_xor, BitVec.msb_xor, h1, Bool.xor_false, ← hmsb, Int32.lt_iff_toInt_lt, e0]
theorem fb_divI {x y : Int32} (h : y.toInt ≠ -1) : (x / y).toInt = x.toInt.tdiv y.toInt := by
  rw [Int32.toInt_div]
  have h1 := fb_rng x
  have h2 : (x.toInt.tdiv y.toInt).natAbs ≤ x.toInt.natAbs := by
    rw [Int.natAbs_tdiv]; exact Nat.div_le_self _ _
  by_cases hx : x.toInt = -2147483648
  · by_cases hy : y.toInt = 1
    · rw [hy, Int.tdiv_one]; exact fb_bmod (by omega) (by omega)
    · have h3 : (x.toInt.tdiv y.toInt).natAbs ≤ 1073741824 := by
        by_cases h0 : y.toInt = 0
        · rw [h0, Int.tdiv_zero]; decide
        · have h4 : 2 ≤ y.toInt.natAbs := by omega
          rw [Int.natAbs_tdiv, hx]
          calc (-2147483648 : Int).natAbs / y.toInt.natAbs ≤ (-2147483648 : Int).natAbs / 2 := Nat.div_le_div_left h4 (by decide)
            _ = 1073741824 := by decide
      exact fb_bmod (by omega) (by omega)
  · exact fb_bmod (by omega) (by omega)
/-- of a divisor above 0: quotient, remainder, in numbers -/
theorem qr_toInt {x y : Int32} (hy : 0 < y.toInt) : (x / y).toInt = x.toInt.tdiv y.toInt ∧ (x / y * y).toInt = x.toInt.tdiv y.toInt * y.toInt ∧ (x - x / y * y).toInt = x.toInt.tmod y.toInt := by
  have h1 := fb_rng x
  have hd : (x / y).toInt = x.toInt.tdiv y.toInt := fb_divI (by omega)
  have hm := Int.tmod_add_mul_tdiv x.toInt y.toInt
  have hc : y.toInt * x.toInt.tdiv y.toInt = x.toInt.tdiv y.toInt * y.toInt := Int.mul_comm _ _
  have hb : (x.toInt.tmod y.toInt).natAbs ≤ x.toInt.natAbs := by rw [Int.natAbs_tmod]; exact Nat.mod_le _ _
  have hs : (x.toInt.tdiv y.toInt * y.toInt).natAbs ≤ x.toInt.natAbs := by
    rw [Int.natAbs_mul, Int.natAbs_tdiv]; exact Nat.div_mul_le_self _ _
  have hq : (x / y * y).toInt = x.toInt.tdiv y.toInt * y.toInt := by
    rw [fb_mulI (by rw [hd]; omega) (by rw [hd]; omega), hd]
  refine ⟨hd, hq, ?_⟩
  rw [fb_subI (by rw [hq]; omega) (by rw [hq]; omega), hq]
  omega
theorem fDiv_toInt {x y : Int32} (hy : 0 < y.toInt) : (fDiv x y).toInt = x.toInt / y.toInt := by
  obtain ⟨h1, h2, h3⟩ := qr_toInt (x := x) hy
  have hr := fb_rng x
  have hm := Int.tmod_add_mul_tdiv x.toInt y.toInt
  have hc : y.toInt * x.toInt.tdiv y.toInt = x.toInt.tdiv y.toInt * y.toInt := Int.mul_comm _ _
  have e1 : (1 : Int32).toInt = 1 := by decide
  unfold fDiv
  by_cases hx : x.toInt < 0
  · rw [if_pos ((xor_neg (by omega)).mpr hx)]
    have hlt : -y.toInt < x.toInt.tmod y.toInt := Int.lt_tmod_of_pos _ hy
    have hle : x.toInt.tmod y.toInt ≤ 0 := by
      have h8 := Int.tmod_nonneg (a := -x.toInt) y.toInt (by omega)
      rw [Int.neg_tmod] at h8
      omega
    by_cases he : x / y * y = x
    · rw [if_pos he, h1]
      have he2 : x.toInt.tdiv y.toInt * y.toInt = x.toInt := by rw [← h2, he]
      have : x.toInt / y.toInt = x.toInt.tdiv y.toInt := by
        conv => lhs; rw [← he2]
        exact Int.mul_ediv_cancel _ (by omega)
      exact this.symm
    · rw [if_neg he]
      have he2 : x.toInt.tdiv y.toInt * y.toInt ≠ x.toInt := fun h9 => he (by rw [← Int32.toInt_inj, h2]; exact h9)
      have hq1 : (x.toInt.tdiv y.toInt).natAbs ≤ x.toInt.natAbs := by rw [Int.natAbs_tdiv]; exact Nat.div_le_self _ _
      have hq0 : x.toInt.tdiv y.toInt ≤ 0 := by
        have h8 := Int.tdiv_nonneg (a := -x.toInt) (b := y.toInt) (by omega) (by omega)
        rw [Int.neg_tdiv] at h8
        omega
      have hq2 : -2147483648 ≤ x.toInt.tdiv y.toInt - 1 := by
        by_cases hy1 : y.toInt = 1
        · rw [hy1] at he2; rw [Int.tdiv_one] at he2; omega
        · have h9 : (x.toInt.tdiv y.toInt).natAbs ≤ x.toInt.natAbs / 2 := by rw [Int.natAbs_tdiv]; exact Nat.div_le_div_left (by omega) (by decide)
          omega
      rw [fb_subI (by rw [h1, e1]; omega) (by rw [h1, e1]; omega), h1, e1]
      have key : x.toInt = (x.toInt.tmod y.toInt + y.toInt) + (x.toInt.tdiv y.toInt - 1) * y.toInt := by
        rw [Int.sub_mul, Int.one_mul]; omega
      have k2 : x.toInt / y.toInt = (x.toInt.tmod y.toInt + y.toInt) / y.toInt + (x.toInt.tdiv y.toInt - 1) := by
        conv => lhs; rw [key]
        exact Int.add_mul_ediv_right _ _ (by omega)
      rw [k2, Int.ediv_eq_zero_of_lt (by omega) (by omega)]
      omega
  · rw [if_neg (fun h9 => hx ((xor_neg (by omega)).mp h9)), h1]
    exact Int.tdiv_eq_ediv_of_nonneg (by omega)
theorem fMod_toInt {x y : Int32} (hy : 0 < y.toInt) : (fMod x y).toInt = x.toInt % y.toInt := by
  obtain ⟨h1, h2, h3⟩ := qr_toInt (x := x) hy
  have hr := fb_rng y
  have hm := Int.tmod_add_mul_tdiv x.toInt y.toInt
  have e0 : (0 : Int32).toInt = 0 := by decide
  unfold fMod
  by_cases hx : x.toInt < 0
  · rw [if_pos ((xor_neg (by omega)).mpr hx)]
    have hlt : -y.toInt < x.toInt.tmod y.toInt := Int.lt_tmod_of_pos _ hy
    have hle : x.toInt.tmod y.toInt ≤ 0 := by
      have h8 := Int.tmod_nonneg (a := -x.toInt) y.toInt (by omega)
      rw [Int.neg_tmod] at h8
      omega
    by_cases he : x - x / y * y = 0
    · rw [if_pos he, h3]
      have he2 : x.toInt.tmod y.toInt = 0 := by rw [← h3, he, e0]
      rw [he2]
      exact (Int.emod_eq_zero_of_dvd (Int.dvd_of_tmod_eq_zero he2)).symm
    · rw [if_neg he]
      have he2 : x.toInt.tmod y.toInt ≠ 0 := fun h9 => he (by rw [← Int32.toInt_inj, h3, e0]; exact h9)
      rw [fb_addI (by rw [h3]; omega) (by rw [h3]; omega), h3]
      have key : x.toInt = (x.toInt.tmod y.toInt + y.toInt) + y.toInt * (x.toInt.tdiv y.toInt - 1) := by
        rw [Int.mul_sub, Int.mul_one]; omega
      have k2 : x.toInt % y.toInt = (x.toInt.tmod y.toInt + y.toInt) % y.toInt := by
        conv => lhs; rw [key]
        exact Int.add_mul_emod_self_left _ _ _
      rw [k2, Int.emod_eq_of_lt (by omega) (by omega)]
  · rw [if_neg (fun h9 => hx ((xor_neg (by omega)).mp h9)), h3]
    exact Int.tmod_eq_emod_of_nonneg (by omega)
theorem fillS {g : Nat → Int64} {x : Int64} {i : Nat} : vp_updL (fun k => if k < i then x else g k) i x = fun k => if k < i + 1 then x else g k := by
  funext k
  unfold vp_updL
  by_cases h : k = i
  · rw [if_pos h, if_pos (by omega)]
  · rw [if_neg h]
    dsimp only
    by_cases h2 : k < i
    · rw [if_pos h2, if_pos (by omega)]
    · rw [if_neg h2, if_neg (by omega)]
theorem g_ofF {l : Launch} {y : MethodName} {ws ws' : List Cond} {rm : Room} {cc : ByteArray} {nL : Nat} {ret : Option FieldType} {D : va_G} {TY : List (ClassId × FieldType)} {df : Nat} {Ws : va_W} {sz : Nat} {av : List Value} {Qc : (Nat → Prop) → Array Value → State → Outcome → State → Prop}
    (hy : plainFor y = true) (hw : ws = Cond.code y cc nL ret :: ws') (hav : (lg_sl av).length ≤ nL)
    (body : ∀ p e s m below meth c ls A, s.heap.size = sz → gAt p s m av.toArray meth c y ws cc nL ret D TY df Ws A → (y.name = "<init>" → meth.name = "<init>") → lv_has ls nL (lv_args 0 av) →
      W p l e rm s m av.toArray below meth c s.heap [] 0 0 (MQ below (Qc A) av.toArray s rm.cells rm.slots A) (F0 m 0 ls [])) : Met l y ws rm (va_Pc av (gPre D TY df Ws sz)) (Qc (va_A Ws sz)) rm.cells rm.slots (va_A Ws sz) := by
  refine va_MetF (cc := cc) (maxL := nL) (ret := ret) hy hw ?_
  intro p e s m args below meth c s₁ B hml hv
  obtain ⟨rfl, hsz, hP, hK, hD0, hV, hH⟩ := hv
  subst hsz
  have hl := lv_entry av (n := nL) hav
  rw [lg_entry_eq]
  have hts := atoms_spec (ws := ws) B.pre
  exact body p e s m below meth c _ _ rfl ⟨⟨B.exec, B.bytes, hml, findClass_of_methodNamed B.named, hts⟩, B.returns, B.notSynchronized, fun q h => Or.inr h, va_S.rf, hP, hK, hD0.self (sz := s.heap.size), hV, hH⟩ (fun h => by rw [← h]; exact (name_of_methodNamed B.named B.method).1) hl
