/-! the law's own numbers: its rows beside the class's, its states, its rounding -/
/-- the law's row of sections beside the class's numbers -/
def RC (fc mc ms mw : Nat → Int32) (N : Nat) : Prop := ∀ j, j < 4 → (∀ i, i < 5 → fc (10 * j + i) = mc (5 * j + i)) ∧ (∀ i, i < 4 → fc (10 * j + 6 + i) = ms (4 * j + i)) ∧ (j < N → fc (10 * j + 5) = mw j)
/-- the law's four numbers -/
def mF (N C K Y : Nat) : Nat → Int32 := fun i => if i = 0 then nI N else if i = 1 then nI C else if i = 2 then nI K else if i = 3 then nI Y else 0
theorem mF_0 {N C K Y : Nat} {x : Int32} {N' : Nat} (h : x = nI N') : upd (mF N C K Y) 0 x = mF N' C K Y := by
  funext i; unfold upd mF; by_cases e : i = 0
  · rw [if_pos e, if_pos e, h]
  · rw [if_neg e, if_neg e, if_neg e]
theorem mF_1 {N C K Y : Nat} {x : Int32} {C' : Nat} (h : x = nI C') : upd (mF N C K Y) 1 x = mF N C' K Y := by
  funext i; unfold upd mF; by_cases e : i = 1
  · subst e; rw [if_pos rfl, if_neg (by decide), if_pos rfl, h]
  · rw [if_neg e, if_neg e, if_neg e]
theorem mF_2 {N C K Y : Nat} {x : Int32} {K' : Nat} (h : x = nI K') : upd (mF N C K Y) 2 x = mF N C K' Y := by
  funext i; unfold upd mF; by_cases e : i = 2
  · subst e; rw [if_pos rfl, if_neg (by decide), if_neg (by decide), if_pos rfl, h]
  · rw [if_neg e, if_neg e, if_neg e]
theorem mF_3 {N C K Y : Nat} {x : Int32} {Y' : Nat} (h : x = nI Y') : upd (mF N C K Y) 3 x = mF N C K Y' := by
  funext i; unfold upd mF; by_cases e : i = 3
  · subst e; rw [if_pos rfl, if_neg (by decide), if_neg (by decide), if_neg (by decide), if_pos rfl, h]
  · rw [if_neg e, if_neg e, if_neg e]
theorem mF_n : (fun _ => 0 : Nat → Int32) = mF 0 0 0 0 := by
  funext i; unfold mF
  (repeat' split) <;> rfl
/-! rounding -/
def lPl (v wy : Int32) : Int32 := if wy = 2 then v + 32 else v
def lDn (p wy : Int32) : Int32 := if 0 < wy then (if p - p / 64 * 64 < 0 then p / 64 - 1 else p / 64) else p / 64
theorem lDn_toInt {p wy : Int32} (h1 : -1073741824 ≤ p.toInt) (h2 : p.toInt ≤ 1073741824) (hw : 0 < wy) : (lDn p wy).toInt = p.toInt / 64 := by
  have e0 : (0 : Int32).toInt = 0 := by decide
  have e1 : (1 : Int32).toInt = 1 := by decide
  have hq := (qr_toInt (x := p) (y := 64) (by rw [i64]; decide)).1
  have hr := (qr_toInt (x := p) (y := 64) (by rw [i64]; decide)).2.2
  rw [i64] at hq hr
  have t1 := Int.tmod_add_mul_tdiv p.toInt 64
  have hbd := fb_rng (p / 64)
  have hlt : p - p / 64 * 64 < 0 ↔ p.toInt.tmod 64 < 0 := by rw [Int32.lt_iff_toInt_lt, hr, e0]
  unfold lDn
  rw [if_pos hw]
  by_cases hp : 0 ≤ p.toInt
  · have a1 : p.toInt.tmod 64 = p.toInt % 64 := Int.tmod_eq_emod_of_nonneg hp
    have a2 : p.toInt.tdiv 64 = p.toInt / 64 := Int.tdiv_eq_ediv_of_nonneg hp
    rw [if_neg (fun h9 => by have := hlt.mp h9; omega), hq, a2]
  · have b1 : p.toInt.tdiv 64 = -((-p.toInt) / 64) := by
      rw [← Int.tdiv_eq_ediv_of_nonneg (by omega), Int.neg_tdiv, Int.neg_neg]
    by_cases hm : p.toInt.tmod 64 < 0
    · rw [if_pos (hlt.mpr hm), fb_subI (by rw [hq, e1]; omega) (by rw [hq, e1]; omega), hq, e1]
      omega
    · rw [if_neg (fun h9 => hm (hlt.mp h9)), hq]
      omega
theorem lDn_eq {v wy : Int32} (hw : isW wy) (h1 : -1073741000 ≤ v.toInt) (h2 : v.toInt ≤ 1073741000) : mClamp (lDn (lPl v wy) wy) = mRnd v wy := by
  have h32 : (v + 32).toInt = v.toInt + 32 := by
    rw [fb_addI (by rw [show (32 : Int32).toInt = 32 by decide]; omega) (by rw [show (32 : Int32).toInt = 32 by decide]; omega)]; rfl
  unfold mRnd lPl
  rcases hw with h | h | h
  · rw [h, if_neg (by decide), if_pos rfl]
    unfold lDn
    rw [if_neg (by decide)]
  · rw [h, if_neg (by decide), if_neg (by decide), if_pos rfl]
    congr 1
    rw [← Int32.toInt_inj, lDn_toInt (by omega) (by omega) (by decide), mDown_toInt (by omega)]
  · rw [h, if_pos rfl, if_neg (by decide), if_neg (by decide)]
    congr 1
    rw [← Int32.toInt_inj, lDn_toInt (by omega) (by omega) (by decide), mDown_toInt (by omega)]
theorem mRnd_bd {v wy : Int32} (h1 : -25500 ≤ v.toInt) (h2 : v.toInt ≤ 25500) (hw : isW wy) : mRnd v wy = lDn (lPl v wy) wy := by
  rw [← lDn_eq hw (by omega) (by omega)]
  have h32 : (v + 32).toInt = v.toInt + 32 := by
    rw [fb_addI (by rw [show (32 : Int32).toInt = 32 by decide]; omega) (by rw [show (32 : Int32).toInt = 32 by decide]; omega)]; rfl
  have k1 : (32767 : Int32).toInt = 32767 := by decide
  have k2 : (-32767 : Int32).toInt = -32767 := by decide
  have hb : -1000 ≤ (lDn (lPl v wy) wy).toInt ∧ (lDn (lPl v wy) wy).toInt ≤ 1000 := by
    rcases hw with h | h | h
    · rw [h]; unfold lPl lDn
      rw [if_neg (by decide), if_neg (by decide), (qr_toInt (x := v) (y := 64) (by rw [i64]; decide)).1, i64]
      have t1 := Int.tmod_add_mul_tdiv v.toInt 64
      have t2 : v.toInt.tmod 64 < 64 := Int.tmod_lt_of_pos _ (by decide)
      have t3 : -64 < v.toInt.tmod 64 := Int.lt_tmod_of_pos _ (by decide)
      omega
    · rw [h]; unfold lPl
      rw [if_neg (by decide), lDn_toInt (by omega) (by omega) (by decide)]; omega
    · rw [h]; unfold lPl
      rw [if_pos rfl, lDn_toInt (by omega) (by omega) (by decide)]; omega
  unfold mClamp
  rw [if_neg (fun h9 => by have := Int32.lt_iff_toInt_lt.mp h9; omega), if_neg (fun h9 => by have := Int32.lt_iff_toInt_lt.mp h9; omega)]
/-- the law's clamp -/
theorem lClamp (y : Int32) : (if y ≤ 32767 then (if -32767 ≤ y then y else -32767) else 32767) = mClamp y := by
  have k1 : (32767 : Int32).toInt = 32767 := by decide
  have k2 : (-32767 : Int32).toInt = -32767 := by decide
  unfold mClamp
  simp only [Int32.lt_iff_toInt_lt, Int32.le_iff_toInt_le, k1, k2]
  by_cases h1 : y.toInt ≤ 32767
  · rw [if_pos h1]
    by_cases h2 : -32767 ≤ y.toInt
    · rw [if_pos h2, if_neg (by omega), if_neg (by omega)]
    · rw [if_neg h2, if_pos (by omega)]
  · rw [if_neg h1, if_neg (by omega), if_pos (by omega)]
theorem lAbs (v : Int32) : (if 0 < v then v else -v) = mSize v := by
  unfold mSize
  have e0 : (0 : Int32).toInt = 0 := by decide
  by_cases h : 0 < v
  · rw [if_pos h, if_neg (fun h9 => by have a := Int32.lt_iff_toInt_lt.mp h9; have b := Int32.lt_iff_toInt_lt.mp h; omega)]
  · rw [if_neg h]
    by_cases h2 : v < 0
    · rw [if_pos h2]
    · rw [if_neg h2]
      have : v = 0 := by
        rw [← Int32.toInt_inj, e0]
        have a : ¬ (0 : Int32).toInt < v.toInt := fun h9 => h (Int32.lt_iff_toInt_lt.mpr h9)
        have b : ¬ v.toInt < (0 : Int32).toInt := fun h9 => h2 (Int32.lt_iff_toInt_lt.mpr h9)
        omega
      rw [this]; rfl
/-- stable, as the law asks it -/
theorem lStab {mc : Nat → Int32} {J : Nat} (hc : isC mc) (hJ : J < 8) : mStab mc J = if -63 ≤ (mc (5 * J + 4)).toInt ∧ (mc (5 * J + 4)).toInt ≤ 63 ∧ (mSize (mc (5 * J + 3))).toInt ≤ (mc (5 * J + 4)).toInt + 63 then 1 else 0 := by
  have r4 := hc (5 * J + 4) (by omega)
  have m3 := mSize_bd (hc (5 * J + 3) (by omega))
  have k1 : (-64 : Int32).toInt = -64 := by decide
  have s4 : (mc (5 * J + 4) + 64).toInt = (mc (5 * J + 4)).toInt + 64 := by rw [fb_addI (by rw [i64]; omega) (by rw [i64]; omega), i64]
  unfold mStab
  simp only [Int32.lt_iff_toInt_lt, k1, i64, s4]
  (repeat' split) <;> first | rfl | (exfalso; omega)
/-! the law's states: y1 + 500, by 1000, and y2 + 500 -/
def lE (q : Nat) : Nat := 1000 * (q / 201 + 400) + (q % 201 + 400)
def oE : Option Nat → Int32
  | none => -1
  | some n => nI (lE n)
theorem lE_le {q : Nat} (h : q < 40401) : lE q ≤ 600600 := by unfold lE; omega
theorem lE_div {q : Nat} : lE q / 1000 = q / 201 + 400 := by unfold lE; omega
theorem lE_mod {q : Nat} : lE q % 1000 = q % 201 + 400 := by unfold lE; omega
theorem lE_lt {a b : Nat} : lE a < lE b ↔ a < b := by unfold lE; omega
theorem lE_inj {a b : Nat} (h : lE a = lE b) : a = b := by unfold lE at h; omega
theorem lE_still {q : Nat} : lE q = 500500 ↔ q = 20200 := by unfold lE; omega
theorem off4 {q : Nat} (h : q ≤ 200) : nI (q + 400) - 500 = nI q - 100 := by
  have a1 := pk_sub_toInt (a := q + 400) (b := 500) (by omega) (by decide)
  have a2 := pk_sub_toInt (a := q) (b := 100) (by omega) (by decide)
  rw [← Int32.toInt_inj]
  show (nI (q + 400) - nI 500).toInt = (nI q - nI 100).toInt
  rw [a1, a2]
  omega
/-- what a step of the law comes to -/
theorem nyI_bd {mc mw : Nat → Int32} {J q : Nat} (hc : isC mc) (hJ : J < 8) (hq : q < 40401) : -25400 ≤ (-mc (5 * J + 3) * (nI (q / 201) - 100) - mc (5 * J + 4) * (nI (q % 201) - 100)).toInt ∧ (-mc (5 * J + 3) * (nI (q / 201) - 100) - mc (5 * J + 4) * (nI (q % 201) - 100)).toInt ≤ 25400 := by
  have r3 := hc (5 * J + 3) (by omega)
  have r4 := hc (5 * J + 4) (by omega)
  have e1 : (nI (q / 201) - 100 : Int32).toInt = ((q / 201 : Nat) : Int) - 100 := pk_sub_toInt (a := q / 201) (b := 100) (by omega) (by decide)
  have e2 : (nI (q % 201) - 100 : Int32).toInt = ((q % 201 : Nat) : Int) - 100 := pk_sub_toInt (a := q % 201) (b := 100) (by omega) (by decide)
  have n3 : (-mc (5 * J + 3)).toInt = -(mc (5 * J + 3)).toInt := fb_negI (by omega)
  have p1 : (-(mc (5 * J + 3)).toInt * (((q / 201 : Nat) : Int) - 100)).natAbs ≤ 127 * 100 := by
    rw [Int.natAbs_mul]; exact Nat.mul_le_mul (by omega) (by omega)
  have p2 : ((mc (5 * J + 4)).toInt * (((q % 201 : Nat) : Int) - 100)).natAbs ≤ 127 * 100 := by
    rw [Int.natAbs_mul]; exact Nat.mul_le_mul (by omega) (by omega)
  have m1 : (-mc (5 * J + 3) * (nI (q / 201) - 100)).toInt = -(mc (5 * J + 3)).toInt * (((q / 201 : Nat) : Int) - 100) := by
    rw [fb_mulI (by rw [n3, e1]; omega) (by rw [n3, e1]; omega), n3, e1]
  have m2 : (mc (5 * J + 4) * (nI (q % 201) - 100)).toInt = (mc (5 * J + 4)).toInt * (((q % 201 : Nat) : Int) - 100) := by
    rw [fb_mulI (by rw [e2]; omega) (by rw [e2]; omega), e2]
  rw [fb_subI (by rw [m1, m2]; omega) (by rw [m1, m2]; omega), m1, m2]
  omega
theorem fSum_bd {mc ms : Nat → Int32} {J : Nat} {x : Int32} (hc : isC mc) (hs : isS ms) (hJ : J < 8) (hx : -32767 ≤ x.toInt ∧ x.toInt ≤ 32767) : -20807045 ≤ (fSum mc ms J x).toInt ∧ (fSum mc ms J x).toInt ≤ 20807045 := by
  have key : ∀ a b : Int32, -127 ≤ a.toInt ∧ a.toInt ≤ 127 → -32767 ≤ b.toInt ∧ b.toInt ≤ 32767 → -4161409 ≤ (a * b).toInt ∧ (a * b).toInt ≤ 4161409 := by
    intro a b ha hb
    have p : (a.toInt * b.toInt).natAbs ≤ 127 * 32767 := by
      rw [Int.natAbs_mul]; exact Nat.mul_le_mul (by omega) (by omega)
    rw [fb_mulI (by omega) (by omega)]; omega
  have a0 := key _ _ (hc (5 * J) (by omega)) hx
  have a1 := key _ _ (hc (5 * J + 1) (by omega)) (hs (4 * J) (by omega))
  have a2 := key _ _ (hc (5 * J + 2) (by omega)) (hs (4 * J + 1) (by omega))
  have a3 := key _ _ (hc (5 * J + 3) (by omega)) (hs (4 * J + 2) (by omega))
  have a4 := key _ _ (hc (5 * J + 4) (by omega)) (hs (4 * J + 3) (by omega))
  unfold fSum
  have b1 : (mc (5 * J) * x + mc (5 * J + 1) * ms (4 * J)).toInt = (mc (5 * J) * x).toInt + (mc (5 * J + 1) * ms (4 * J)).toInt := fb_addI (by omega) (by omega)
  have b2 := fb_addI (x := mc (5 * J) * x + mc (5 * J + 1) * ms (4 * J)) (y := mc (5 * J + 2) * ms (4 * J + 1)) (by omega) (by omega)
  have b3 := fb_subI (x := mc (5 * J) * x + mc (5 * J + 1) * ms (4 * J) + mc (5 * J + 2) * ms (4 * J + 1)) (y := mc (5 * J + 3) * ms (4 * J + 2)) (by omega) (by omega)
  have b4 := fb_subI (x := mc (5 * J) * x + mc (5 * J + 1) * ms (4 * J) + mc (5 * J + 2) * ms (4 * J + 1) - mc (5 * J + 3) * ms (4 * J + 2)) (y := mc (5 * J + 4) * ms (4 * J + 3)) (by omega) (by omega)
  omega
/-- a step's end, as the law tells it -/
theorem nxO_in {mc mw : Nat → Int32} {J q : Nat} (hq : q < 40401) (h : ¬ 100 < (nyI mc mw J q).toInt) (h2 : ¬ (nyI mc mw J q).toInt < -100) : oE (nxO mc mw J q) = nI (1000 * (((nyI mc mw J q).toInt + 500).toNat) + (q / 201 + 400)) := by
  have k1 : (-100 : Int32).toInt = -100 := by decide
  have k2 : (100 : Int32).toInt = 100 := by decide
  have hi : ¬ isIn (nyI mc mw J q) (-100) 100 = 0 := by
    unfold isIn
    rw [if_neg (fun h9 => by have := Int32.lt_iff_toInt_lt.mp h9; omega), if_neg (fun h9 => by have := Int32.lt_iff_toInt_lt.mp h9; omega)]
    decide
  obtain ⟨z, hz, e⟩ := isIn_100 hi
  have e3 : (nyI mc mw J q + 100).toInt = (nyI mc mw J q).toInt + 100 := by rw [fb_addI (by rw [k2]; omega) (by rw [k2]; omega), k2]
  rw [e, nI_toInt (by omega)] at e3
  unfold nxO
  rw [if_neg hi, e, gN_nI (by omega)]
  show nI (lE (201 * z + q / 201)) = _
  exact congrArg nI (by unfold lE; omega)
theorem nxO_out {mc mw : Nat → Int32} {J q : Nat} (h : 100 < (nyI mc mw J q).toInt ∨ (nyI mc mw J q).toInt < -100) : nxO mc mw J q = none := by
  have k1 : (-100 : Int32).toInt = -100 := by decide
  have k2 : (100 : Int32).toInt = 100 := by decide
  unfold nxO isIn
  rcases h with h | h
  · rw [if_neg (show ¬ nyI mc mw J q < -100 from fun h9 => by have := Int32.lt_iff_toInt_lt.mp h9; omega), if_pos (show 100 < nyI mc mw J q from Int32.lt_iff_toInt_lt.mpr (by omega)), if_pos rfl]
  · rw [if_pos (show nyI mc mw J q < -100 from Int32.lt_iff_toInt_lt.mpr (by omega)), if_pos rfl]
theorem wf_CN {N : Nat} {mc ms mw : Nat → Int32} {C : Nat} {mo : Nat → Int32} {K Y : Nat} {rw0 mp tf qf : Nat → Int32} (h : WF N mc ms mw C mo K Y rw0 mp tf qf) : C ≤ N := by
  obtain ⟨hN, hC8, hmz, hsz9, hc, hs, hw, hO, hiM, hr⟩ := h
  exact fb_holes N C (fun i => gN (mo i)) (fun i hi => (hO i hi).1) (fun i j hij hj e => absurd (hiM i j (by omega) hj e) (by omega))
theorem wf_add {N : Nat} {mc ms mw : Nat → Int32} {C : Nat} {mo : Nat → Int32} {K Y : Nat} {rw0 mp tf qf : Nat → Int32} (h : WF N mc ms mw C mo K Y rw0 mp tf qf) {J : Nat} (hJ : J < N) (hno : ∀ i, i < C → ¬ mo i = nI J) : C < N := by
  obtain ⟨hN, hC8, hmz, hsz9, hc, hs, hw, hO, hiM, hr⟩ := h
  have hno : ∀ i, i < C → gN (mo i) ≠ J := fun i hi h9 => hno i hi (by rw [(hO i hi).2, h9])
  have := fb_holes N (C + 1) (fun i => if i < C then gN (mo i) else J) (fun i hi => by
    show (if i < C then gN (mo i) else J) < N
    by_cases e : i < C
    · rw [if_pos e]; exact (hO i e).1
    · rw [if_neg e]; exact hJ) (fun a b hab hb => by
    show (if a < C then gN (mo a) else J) ≠ (if b < C then gN (mo b) else J)
    rw [if_pos (show a < C by omega)]
    by_cases e : b < C
    · rw [if_pos e]; exact fun h9 => absurd (hiM a b (by omega) e h9) (by omega)
    · rw [if_neg e]; exact hno a (by omega))
  omega
theorem rc_all {fc mc ms mw : Nat → Int32} {N J : Nat} (h : RC fc mc ms mw N) (hJ : J < 4) : fc (10 * J) = mc (5 * J) ∧ fc (10 * J + 1) = mc (5 * J + 1) ∧ fc (10 * J + 2) = mc (5 * J + 2) ∧ fc (10 * J + 3) = mc (5 * J + 3) ∧ fc (10 * J + 4) = mc (5 * J + 4) ∧ fc (10 * J + 6) = ms (4 * J) ∧ fc (10 * J + 7) = ms (4 * J + 1) ∧ fc (10 * J + 8) = ms (4 * J + 2) ∧ fc (10 * J + 9) = ms (4 * J + 3) := by
  obtain ⟨h1, h2, -⟩ := h J hJ
  exact ⟨h1 0 (by decide), h1 1 (by decide), h1 2 (by decide), h1 3 (by decide), h1 4 (by decide), h2 0 (by decide), h2 1 (by decide), h2 2 (by decide), h2 3 (by decide)⟩
/-- a section's four latest numbers in the law's row -/
def rcG (f : Nat → Int32) (J : Nat) (x y : Int32) : Nat → Int32 := upd (upd (upd (upd f (10 * J + 7) (f (10 * J + 6))) (10 * J + 6) x) (10 * J + 9) (f (10 * J + 8))) (10 * J + 8) y
theorem rc_go {fc mc ms mw : Nat → Int32} {N J : Nat} {x y : Int32} (h : RC fc mc ms mw N) (hJ : J < 4) : RC (rcG fc J x y) mc (goM ms J x y) mw N := by
  obtain ⟨-, -, -, -, -, g0, g1, g2, g3⟩ := rc_all h hJ
  intro j hj
  obtain ⟨h1, h2, h3⟩ := h j hj
  refine ⟨fun i hi => ?_, fun i hi => ?_, fun hn => ?_⟩
  · rw [← h1 i hi]; unfold rcG upd
    rw [if_neg (by omega), if_neg (by omega), if_neg (by omega), if_neg (by omega)]
  · by_cases e : j = J
    · subst e
      unfold rcG goM upd
      rcases (show i = 0 ∨ i = 1 ∨ i = 2 ∨ i = 3 by omega) with rfl | rfl | rfl | rfl
      · rw [if_neg (by omega), if_neg (by omega), if_pos (by omega), if_neg (by omega), if_neg (by omega), if_pos (by omega)]
      · rw [if_neg (by omega), if_neg (by omega), if_neg (by omega), if_pos (by omega), if_neg (by omega), if_neg (by omega), if_neg (by omega), if_pos (by omega), g0]
      · rw [if_pos (by omega), if_pos (by omega)]
      · rw [if_neg (by omega), if_pos (by omega), if_neg (by omega), if_pos (by omega), g2]
    · have h4 := h2 i hi
      unfold rcG goM upd
      rw [if_neg (by omega), if_neg (by omega), if_neg (by omega), if_neg (by omega), if_neg (by omega), if_neg (by omega), if_neg (by omega), if_neg (by omega)]
      exact h4
  · rw [← h3 hn]; unfold rcG upd
    rw [if_neg (by omega), if_neg (by omega), if_neg (by omega), if_neg (by omega)]
theorem remL_toInt {x y : Int64} (hx : x.toInt ≠ -9223372036854775808) : (x - x / y * y).toInt = x.toInt.tmod y.toInt := by
  have h1 := fb_rngL x
  have hm := Int.tmod_add_mul_tdiv x.toInt y.toInt
  have hb : (x.toInt.tmod y.toInt).natAbs ≤ x.toInt.natAbs := by rw [Int.natAbs_tmod]; exact Nat.mod_le _ _
  have hs : (x.toInt.tmod y.toInt < 0 → x.toInt < 0) ∧ (0 < x.toInt.tmod y.toInt → 0 < x.toInt) := by
    constructor
    · intro h; refine Classical.byContradiction fun h9 => ?_
      have := Int.tmod_nonneg y.toInt (show 0 ≤ x.toInt by omega); omega
    · intro h; refine Classical.byContradiction fun h9 => ?_
      have := Int.tmod_nonneg y.toInt (show 0 ≤ -x.toInt by omega)
      rw [Int.neg_tmod] at this; omega
  have hd : (x / y).toInt = x.toInt.tdiv y.toInt := fb_divL2 hx
  have hp : (x / y * y).toInt = x.toInt.tdiv y.toInt * y.toInt := by
    rw [Int.mul_comm] at hm
    rw [fb_mulL (by rw [hd]; omega) (by rw [hd]; omega), hd]
  rw [Int.mul_comm] at hm
  rw [fb_subL (by rw [hp]; omega) (by rw [hp]; omega), hp]
  omega
/-! arguments that are in their range -/
theorem k_in {V n : Nat} (h : V ≤ n) (hn : n < 2147483648) : ¬ isIn (nI V) 0 (nI n) = 0 := by
  unfold isIn
  rw [if_neg (show ¬ nI V < 0 from nI_nlt (a := V) (b := 0) (Nat.zero_le V) (by omega)), if_neg (nI_nlt (by omega) (by omega))]
  decide
theorem k_in2 {L V n : Nat} (h0 : L ≤ V) (h : V ≤ n) (hn : n < 2147483648) : ¬ isIn (nI V) (nI L) (nI n) = 0 := by
  unfold isIn
  rw [if_neg (nI_nlt (by omega) (by omega)), if_neg (nI_nlt (by omega) (by omega))]
  decide
theorem k_int {v lo hi : Int32} (h1 : lo.toInt ≤ v.toInt) (h2 : v.toInt ≤ hi.toInt) : ¬ isIn v lo hi = 0 := by
  unfold isIn
  rw [if_neg (fun h9 => by have := Int32.lt_iff_toInt_lt.mp h9; omega), if_neg (fun h9 => by have := Int32.lt_iff_toInt_lt.mp h9; omega)]
  decide
theorem k_sec {N J : Nat} (hJ : J < N) (hN : N ≤ 8) : ¬ isSec N (nI J) = 0 := by
  unfold isSec
  rw [if_neg (show ¬ nI J < 0 from nI_nlt (a := J) (b := 0) (Nat.zero_le J) (by omega)), if_neg (nI_ge (by omega) (by omega))]
  decide
theorem k_bk {B : Nat} (hB : B < 2147483648) : gGo (if nI B < 0 then 0 else 1) 1 1 = 0 := by
  rw [if_neg (show ¬ nI B < 0 from nI_nlt (a := B) (b := 0) (Nat.zero_le B) (by omega))]
  decide
theorem k_one {f : Int32} (h : ¬ f = 0) : gGo f 1 1 = 0 := gGoOk h (by decide) (by decide)
theorem k_two {f g : Int32} (h : ¬ f = 0) (h2 : ¬ g = 0) : gGo f g 1 = 0 := gGoOk h h2 (by decide)
theorem k_iif {a b : Int32} (h : ¬ a = 0) (h2 : ¬ b = 0) : ¬ (if a = 0 then 0 else b) = 0 := by rw [if_neg h]; exact h2
theorem k_short {C w : Nat} (hw : w ≤ 2) (h : C ≤ (if w = 2 then 2 else 4)) : ¬ (if C ≤ (if nI w = 2 then 2 else 4) then (1 : Int32) else 0) = 0 := by
  have e : (if nI w = 2 then 2 else 4) = (if w = 2 then 2 else 4) := by
    by_cases h8 : w = 2
    · subst h8; rfl
    · rw [if_neg h8, if_neg (show ¬ nI w = (2 : Int32) from fun h7 => h8 (g_eq (b := 2) h7 (by omega) (by decide)))]
  rw [e, if_pos h]; decide
/-! the tried starts, one after the other -/
theorem off_500 {u R : Nat} (hR : R ≤ 100) (hu : u ≤ 1000) : nI u - nI R + 500 = nI (u + (500 - R)) := by
  have k : (500 : Int32).toInt = 500 := by decide
  have e := pk_sub_toInt (a := u) (b := R) (by omega) (by omega)
  rw [← Int32.toInt_inj, fb_addI (by rw [e, k]; omega) (by rw [e, k]; omega), e, k, nI_toInt (by omega)]
  omega
theorem lE_sI {R u v : Nat} (hR : R ≤ 12) (hu : u ≤ 2 * R) (hv : v ≤ 2 * R) : nI (1000 * (u + (500 - R)) + v) - nI R + 500 = nI (lE (sI R u v)) := by
  have k : (500 : Int32).toInt = 500 := by decide
  have e := pk_sub_toInt (a := 1000 * (u + (500 - R)) + v) (b := R) (by omega) (by omega)
  have h1 : sI R u v / 201 = u + (100 - R) := by unfold sI; omega
  have h2 : sI R u v % 201 = v + (100 - R) := by unfold sI; omega
  have hle : lE (sI R u v) = 1000 * (u + (500 - R)) + v + (500 - R) := by unfold lE; rw [h1, h2]; omega
  rw [← Int32.toInt_inj, fb_addI (by rw [e, k]; omega) (by rw [e, k]; omega), e, k, nI_toInt (by omega), hle]
  omega
def stl (R : Nat) : Nat → List Nat
  | 0 => []
  | i + 1 => sI R (i / (2 * R + 1)) (i % (2 * R + 1)) :: stl R i
theorem stl_end {R : Nat} (h1 : 1 ≤ R) (h2 : R ≤ 2) : stl R ((2 * R + 1) * (2 * R + 1)) = otn R (2 * R + 1) := by
  rcases (show R = 1 ∨ R = 2 by omega) with rfl | rfl <;> decide
/-- whether a number is among the first n of a row -/
def hsn (f : Nat → Int32) (x : Int32) : Nat → Int32
  | 0 => 0
  | t + 1 => if hsn f x t = 0 then (if f t = x then 1 else 0) else 1
theorem hsn_s {f : Nat → Int32} {x : Int32} {t : Nat} : hsn f x (t + 1) = if hsn f x t = 0 then (if f t = x then 1 else 0) else 1 := rfl
theorem hsn_iff {f : Nat → Int32} {x : Int32} : ∀ {n}, ¬ hsn f x n = 0 ↔ ∃ t, t < n ∧ f t = x
  | 0 => ⟨fun h => absurd rfl h, fun ⟨t, h, _⟩ => absurd h (Nat.not_lt_zero t)⟩
  | n + 1 => by
    rw [hsn_s]
    by_cases h : hsn f x n = 0
    · rw [if_pos h]
      by_cases e : f n = x
      · rw [if_pos e]; exact ⟨fun _ => ⟨n, Nat.lt_succ_self n, e⟩, fun _ => by decide⟩
      · rw [if_neg e]
        refine ⟨fun h9 => absurd rfl h9, fun ⟨t, h1, h2⟩ => ?_⟩
        by_cases e2 : t = n
        · subst e2; exact absurd h2 e
        · exact absurd h (hsn_iff.mpr ⟨t, by omega, h2⟩)
    · rw [if_neg h]
      obtain ⟨t, h1, h2⟩ := hsn_iff.mp h
      exact ⟨fun _ => ⟨t, by omega, h2⟩, fun _ => by decide⟩
theorem hsn_01 {f : Nat → Int32} {x : Int32} : ∀ n, hsn f x n = 0 ∨ hsn f x n = 1
  | 0 => Or.inl rfl
  | n + 1 => by
    rw [hsn_s]
    split
    · split
      · exact Or.inr rfl
      · exact Or.inl rfl
    · exact Or.inr rfl
def nFl (P : Prop) [Decidable P] : Int32 := if P then 1 else 0
theorem nFl_1 {P : Prop} [Decidable P] (h : ¬ nFl P = 0) : P := g_b1 h
theorem nFl_0 {P : Prop} [Decidable P] (h : nFl P = 0) : ¬ P := g_b0 h
/-! the law's cycles beside the class's -/
def lwI (nx : Nat → Option Nat) (R i n e l g : Nat) (sf : Nat → Int32) : Prop := ∀ (A : Nat → Nat) (c l' g' e' : Nat), crun nx (stl R i) A c l' g' e' → n = c ∧ l = l' ∧ g = g' ∧ e = e' ∧ mkO nx A (fun L => L < 40401 ∧ ∃ k, k < n ∧ sf k = nI (lE L))
theorem lwI_0 {nx : Nat → Option Nat} {R : Nat} {sf : Nat → Int32} : lwI nx R 0 0 0 0 0 sf := by
  intro A c l' g' e' h
  obtain ⟨rfl, rfl, rfl, rfl, rfl⟩ := h
  exact ⟨rfl, rfl, rfl, rfl, mkO_00 (fun L h => absurd h.2.choose_spec.1 (Nat.not_lt_zero _))⟩
section LWI
variable {nx : Nat → Option Nat} {R i n e l g L p : Nat} {sf : Nat → Int32}
theorem lwI_lv (hx : nx 20200 = some 20200) (h : lwI nx R i n e l g sf) (hl : lvS nx (sI R (i / (2 * R + 1)) (i % (2 * R + 1)))) : lwI nx R (i + 1) n (e + 1) l g sf := by
  rintro A' c' l' g' e' ⟨A, c, l1, g1, e1, h1, hw, he⟩
  obtain ⟨rfl, rfl, rfl, rfl, hmk⟩ := h A c l1 g1 e1 h1
  obtain ⟨a1, a2, a3, a4, a5⟩ := stp_lv hx hmk hw hl
  rw [if_pos a1] at he
  exact ⟨a3.symm, a4.symm, a5.symm, he.symm, a2⟩
theorem lwI_old (hx : nx 20200 = some 20200) (h : lwI nx R i n e l g sf) (hL : cyL nx (sI R (i / (2 * R + 1)) (i % (2 * R + 1))) L) (hS : L = 20200 ∨ (L < 40401 ∧ ∃ k, k < n ∧ sf k = nI (lE L))) : lwI nx R (i + 1) n e l g sf := by
  rintro A' c' l' g' e' ⟨A, c, l1, g1, e1, h1, hw, he⟩
  obtain ⟨rfl, rfl, rfl, rfl, hmk⟩ := h A c l1 g1 e1 h1
  obtain ⟨a1, a2, a3, a4, a5⟩ := stp_old hx hmk hw hL hS
  rw [if_neg a1] at he
  exact ⟨a3.symm, a4.symm, a5.symm, he.symm, a2⟩
theorem lwI_new (hx : nx 20200 = some 20200) (h : lwI nx R i n e l g sf) (hL : cyL nx (sI R (i / (2 * R + 1)) (i % (2 * R + 1))) L) (hL4 : L < 40401) (hn : L ≠ 20200) (hS : ¬ ∃ k, k < n ∧ sf k = nI (lE L)) (hp : perM nx L p) : lwI nx R (i + 1) (n + 1) e (max l p) (gmx nx L g 0 p) (upd sf n (nI (lE L))) := by
  rintro A' c' l' g' e' ⟨A, c, l1, g1, e1, h1, hw, he⟩
  obtain ⟨rfl, rfl, rfl, rfl, hmk⟩ := h A c l1 g1 e1 h1
  obtain ⟨a1, a2, a3, a4, a5⟩ := stp_new hx hmk hw hL hn (fun h9 => hS h9.2) hp
  rw [if_neg a1] at he
  refine ⟨a3.symm, a4.symm, a5.symm, he.symm, mkO_congr a2 (fun z => ?_)⟩
  constructor
  · rintro (rfl | ⟨h2, k, h3, h4⟩)
    · exact ⟨hL4, n, Nat.lt_succ_self n, if_pos rfl⟩
    · exact ⟨h2, k, by omega, by unfold upd; rw [if_neg (by omega)]; exact h4⟩
  · rintro ⟨h2, k, h3, h4⟩
    unfold upd at h4
    by_cases e9 : k = n
    · rw [if_pos e9] at h4
      have b1 := lE_le hL4
      have b2 := lE_le h2
      exact Or.inl (lE_inj (g_eq h4 (by omega) (by omega))).symm
    · rw [if_neg e9] at h4
      exact Or.inr ⟨h2, k, by omega, h4⟩
end LWI
/-! what acts do to the law's row -/
theorem rc_section {fc mc ms mw : Nat → Int32} {N : Nat} {wy : Int32} (h : RC fc mc ms mw N) (hN : N < 4) : RC (upd (upd fc (10 * N) 64) (10 * N + 5) wy) (upd mc (5 * N) 64) ms (upd mw N wy) (N + 1) := by
  intro j hj
  obtain ⟨h1, h2, h3⟩ := h j hj
  refine ⟨fun i hi => ?_, fun i hi => ?_, fun hn => ?_⟩
  · have h4 := h1 i hi
    unfold upd
    rw [if_neg (by omega)]
    by_cases e : j = N ∧ i = 0
    · rw [if_pos (by omega), if_pos (by omega)]
    · rw [if_neg (by omega), if_neg (by omega)]; exact h4
  · unfold upd
    rw [if_neg (by omega), if_neg (by omega)]; exact h2 i hi
  · unfold upd
    by_cases e : j = N
    · rw [if_pos (by omega), if_pos e]
    · rw [if_neg (by omega), if_neg (by omega), if_neg e]; exact h3 (by omega)
theorem rc_set {fc mc ms mw : Nat → Int32} {N J W : Nat} {v : Int32} (h : RC fc mc ms mw N) (hJ : J < 4) (hW : W < 5) : RC (upd fc (10 * J + W) v) (upd mc (5 * J + W) v) ms mw N := by
  intro j hj
  obtain ⟨h1, h2, h3⟩ := h j hj
  refine ⟨fun i hi => ?_, fun i hi => ?_, fun hn => ?_⟩
  · have h4 := h1 i hi
    unfold upd
    by_cases e : j = J ∧ i = W
    · rw [if_pos (by omega), if_pos (by omega)]
    · rw [if_neg (by omega), if_neg (by omega)]; exact h4
  · unfold upd
    rw [if_neg (by omega)]; exact h2 i hi
  · unfold upd
    rw [if_neg (by omega)]; exact h3 hn
theorem rc_zero {fc mc ms mw : Nat → Int32} {N i : Nat} (h : RC fc mc (zeroTo ms (4 * i)) mw N) (hi : i < 4) : RC (upd (upd (upd (upd fc (10 * i + 6) 0) (10 * i + 7) 0) (10 * i + 8) 0) (10 * i + 9) 0) mc (zeroTo ms (4 * (i + 1))) mw N := by
  intro j hj
  obtain ⟨h1, h2, h3⟩ := h j hj
  refine ⟨fun k hk => ?_, fun k hk => ?_, fun hn => ?_⟩
  · unfold upd
    rw [if_neg (by omega), if_neg (by omega), if_neg (by omega), if_neg (by omega)]; exact h1 k hk
  · have h4 := h2 k hk
    unfold zeroTo at h4 ⊢
    unfold upd
    by_cases e : j = i
    · rw [if_pos (show 4 * j + k < 4 * (i + 1) by omega)]
      rcases (show k = 0 ∨ k = 1 ∨ k = 2 ∨ k = 3 by omega) with rfl | rfl | rfl | rfl
      · rw [if_neg (by omega), if_neg (by omega), if_neg (by omega), if_pos (by omega)]
      · rw [if_neg (by omega), if_neg (by omega), if_pos (by omega)]
      · rw [if_neg (by omega), if_pos (by omega)]
      · rw [if_pos (by omega)]
    · rw [if_neg (by omega), if_neg (by omega), if_neg (by omega), if_neg (by omega), h4]
      by_cases e2 : 4 * j + k < 4 * i
      · rw [if_pos e2, if_pos (by omega)]
      · rw [if_neg e2, if_neg (by omega)]
  · unfold upd
    rw [if_neg (by omega), if_neg (by omega), if_neg (by omega), if_neg (by omega)]; exact h3 hn
theorem rc_0 : RC (fun _ => 0) (fun _ => 0) (fun _ => 0) (fun _ => 0) 0 := fun j _ => ⟨fun _ _ => rfl, fun _ _ => rfl, fun h => absurd h (Nat.not_lt_zero j)⟩
theorem and_nn (x : Int32) : ∃ M : Nat, M < 2147483648 ∧ x &&& 2147483647 = nI M := by
  have h : ¬ (x &&& 2147483647) < 0 := by
    intro h9
    have h1 := Int32.lt_iff_toInt_lt.mp h9
    have e0 : (0 : Int32).toInt = 0 := by decide
    rw [e0] at h1
    have h2 : (x &&& 2147483647).toBitVec.msb = true := by
      rw [BitVec.msb_eq_toInt]; exact decide_eq_true h1
    rw [Int32.toBitVec_and, BitVec.msb_and, show (2147483647 : Int32).toBitVec.msb = false by decide, Bool.and_false] at h2
    cases h2
  obtain ⟨M, hM, e⟩ := nI_of h
  exact ⟨M, hM, e⟩
theorem mnx_s9 {nx : Nat → Option Nat} {a j : Nat} : mnx nx a (j + 1) = if tv nx a (j + 1) < mnx nx a j then tv nx a (j + 1) else mnx nx a j := rfl
