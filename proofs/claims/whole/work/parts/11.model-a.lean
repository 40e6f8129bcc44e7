set_option maxHeartbeats 4000000 in
set_option maxRecDepth 100000 in
theorem c_X7_in (l : Launch) (D : va_G) (cI cJ cO : ClassId) (df sz : Nat) (v : Int32) (lo : Int32) (hi : Int32)  : MetI l yX7_in wsX7_in ({ frames := 0, cells := 0, slots := 0, locals := 0 } : Room) D (gTY cI cJ cO) df [] sz [.int v, .int lo, .int hi] (fun (r : Int32) (w : va_W) => w = [] ∧ r = isIn v lo hi) := by
  refine g_of (cc := cX7_in) (nL := 3) (ret := (some .boolean)) (D := D) (TY := (gTY cI cJ cO)) (df := df) (Qc := fun A => va_Qi (fun (r : Int32) (w : va_W) => w = [] ∧ r = isIn v lo hi) (gB D (gTY cI cJ cO) A) A) (by decide +kernel) rfl (Nat.le_of_ble_eq_true rfl) ?_
  intro p e s m below meth c ls A hsz C0 hin hl
  obtain ⟨CF, hr, hlk, hA, hS, hP, hK, hD, hV, hH⟩ := C0
  have CF : CallFix p m c cX7_in 3 s _ wsX7_in RX7 := CF
  obtain ⟨hx, hb, hml, hown, hts⟩ := id CF
  subst hsz
  have hP : va_P D ccl [] s.heap := hP
  have hl : lv_has ls 3 [(0, .int v), (1, .int lo), (2, .int hi)] := hl
  refine lv_iload_n hx hb dX7_in_0 rfl (lv_at hl 0 rfl) ?_
  refine lv_iload_n hx hb dX7_in_1 rfl (lv_at hl 1 rfl) ?_
  refine lv_icmp_lt (tgt := 14) hx hb dX7_in_2 (by decide) (fun c_2 => ?_) (fun c_2 => ?_)
  · refine lv_iconst (v := 0) hx hb dX7_in_14 (by decide) ?_
    refine g_zret (v := 0) hx hb hr hlk hP hK hD hS (Nat.le_of_ble_eq_true rfl) (Nat.le_of_ble_eq_true rfl) dX7_in_15 (by decide +kernel) ?_
    exact ⟨rfl, (by first | rfl | (simp [isIn, c_2]; done))⟩
  · refine lv_iload_n hx hb dX7_in_5 rfl (lv_at hl 0 rfl) ?_
    refine lv_iload_n hx hb dX7_in_6 rfl (lv_at hl 2 rfl) ?_
    refine lv_icmp_gt (tgt := 14) hx hb dX7_in_7 (by decide) (fun c_7 => ?_) (fun c_7 => ?_)
    · refine lv_iconst (v := 0) hx hb dX7_in_14 (by decide) ?_
      refine g_zret (v := 0) hx hb hr hlk hP hK hD hS (Nat.le_of_ble_eq_true rfl) (Nat.le_of_ble_eq_true rfl) dX7_in_15 (by decide +kernel) ?_
      exact ⟨rfl, (by first | rfl | (simp [isIn, c_2, c_7]; done))⟩
    · refine lv_iconst (v := 1) hx hb dX7_in_10 (by decide) ?_
      refine lv_goto (tgt := 15) hx hb dX7_in_11 (by decide) ?_
      refine g_zret (v := 1) hx hb hr hlk hP hK hD hS (Nat.le_of_ble_eq_true rfl) (Nat.le_of_ble_eq_true rfl) dX7_in_15 (by decide +kernel) ?_
      exact ⟨rfl, (by first | rfl | (simp [isIn, c_2, c_7]; done))⟩

set_option maxHeartbeats 4000000 in
set_option maxRecDepth 100000 in
theorem c_X7_down (l : Launch) (D : va_G) (cI cJ cO : ClassId) (df sz : Nat) (v : Int32) (b : Int32) (hb0 : ¬ b = 0) : MetI l yX7_down wsX7_down ({ frames := 0, cells := 0, slots := 0, locals := 0 } : Room) D (gTY cI cJ cO) df [] sz [.int v, .int b] (fun (r : Int32) (w : va_W) => w = [] ∧ r = mDown v b) := by
  refine g_of (cc := cX7_down) (nL := 2) (ret := (some .int)) (D := D) (TY := (gTY cI cJ cO)) (df := df) (Qc := fun A => va_Qi (fun (r : Int32) (w : va_W) => w = [] ∧ r = mDown v b) (gB D (gTY cI cJ cO) A) A) (by decide +kernel) rfl (Nat.le_of_ble_eq_true rfl) ?_
  intro p e s m below meth c ls A hsz C0 hin hl
  obtain ⟨CF, hr, hlk, hA, hS, hP, hK, hD, hV, hH⟩ := C0
  have CF : CallFix p m c cX7_down 2 s _ wsX7_down RX7 := CF
  obtain ⟨hx, hb, hml, hown, hts⟩ := id CF
  subst hsz
  have hP : va_P D ccl [] s.heap := hP
  have hl : lv_has ls 2 [(0, .int v), (1, .int b)] := hl
  refine lv_iload_n hx hb dX7_down_0 rfl (lv_at hl 0 rfl) ?_
  refine lv_if_lt (tgt := 10) hx hb dX7_down_1 (by decide) (fun c_1 => ?_) (fun c_1 => ?_)
  · refine lv_iload_n hx hb dX7_down_10 rfl (lv_at hl 1 rfl) ?_
    refine lv_iconst (v := 1) hx hb dX7_down_11 (by decide) ?_
    refine lv_isub hx hb dX7_down_12 ?_
    refine lv_iload_n hx hb dX7_down_13 rfl (lv_at hl 0 rfl) ?_
    refine lv_isub hx hb dX7_down_14 ?_
    refine lv_iload_n hx hb dX7_down_15 rfl (lv_at hl 1 rfl) ?_
    refine lv_idiv hx hb dX7_down_16 hb0 ?_
    refine lv_ineg hx hb dX7_down_17 ?_
    refine g_iret (v := -(((b - 1) - v) / b)) hx hb hr hlk hP hK hD hS (Nat.le_of_ble_eq_true rfl) (Nat.le_of_ble_eq_true rfl) dX7_down_18 ?_
    exact ⟨rfl, (by first | rfl | (simp [mDown, c_1]; done))⟩
  · refine lv_iload_n hx hb dX7_down_4 rfl (lv_at hl 0 rfl) ?_
    refine lv_iload_n hx hb dX7_down_5 rfl (lv_at hl 1 rfl) ?_
    refine lv_idiv hx hb dX7_down_6 hb0 ?_
    refine lv_goto (tgt := 18) hx hb dX7_down_7 (by decide) ?_
    refine g_iret (v := v / b) hx hb hr hlk hP hK hD hS (Nat.le_of_ble_eq_true rfl) (Nat.le_of_ble_eq_true rfl) dX7_down_18 ?_
    exact ⟨rfl, (by first | rfl | (simp [mDown, c_1]; done))⟩

set_option maxHeartbeats 4000000 in
set_option maxRecDepth 100000 in
theorem c_X7_size (l : Launch) (D : va_G) (cI cJ cO : ClassId) (df sz : Nat) (v : Int32)  : MetI l yX7_size wsX7_size ({ frames := 0, cells := 0, slots := 0, locals := 0 } : Room) D (gTY cI cJ cO) df [] sz [.int v] (fun (r : Int32) (w : va_W) => w = [] ∧ r = mSize v) := by
  refine g_of (cc := cX7_size) (nL := 1) (ret := (some .int)) (D := D) (TY := (gTY cI cJ cO)) (df := df) (Qc := fun A => va_Qi (fun (r : Int32) (w : va_W) => w = [] ∧ r = mSize v) (gB D (gTY cI cJ cO) A) A) (by decide +kernel) rfl (Nat.le_of_ble_eq_true rfl) ?_
  intro p e s m below meth c ls A hsz C0 hin hl
  obtain ⟨CF, hr, hlk, hA, hS, hP, hK, hD, hV, hH⟩ := C0
  have CF : CallFix p m c cX7_size 1 s _ wsX7_size RX7 := CF
  obtain ⟨hx, hb, hml, hown, hts⟩ := id CF
  subst hsz
  have hP : va_P D ccl [] s.heap := hP
  have hl : lv_has ls 1 [(0, .int v)] := hl
  refine lv_iload_n hx hb dX7_size_0 rfl (lv_at hl 0 rfl) ?_
  refine lv_if_ge (tgt := 9) hx hb dX7_size_1 (by decide) (fun c_1 => ?_) (fun c_1 => ?_)
  · have c_1 : ¬ v < 0 := Int32.not_lt.mpr c_1
    refine lv_iload_n hx hb dX7_size_9 rfl (lv_at hl 0 rfl) ?_
    refine g_iret (v := v) hx hb hr hlk hP hK hD hS (Nat.le_of_ble_eq_true rfl) (Nat.le_of_ble_eq_true rfl) dX7_size_10 ?_
    exact ⟨rfl, (by first | rfl | (simp [mSize, c_1]; done))⟩
  · have c_1 : v < 0 := Int32.not_le.mp c_1
    refine lv_iload_n hx hb dX7_size_4 rfl (lv_at hl 0 rfl) ?_
    refine lv_ineg hx hb dX7_size_5 ?_
    refine lv_goto (tgt := 10) hx hb dX7_size_6 (by decide) ?_
    refine g_iret (v := -v) hx hb hr hlk hP hK hD hS (Nat.le_of_ble_eq_true rfl) (Nat.le_of_ble_eq_true rfl) dX7_size_10 ?_
    exact ⟨rfl, (by first | rfl | (simp [mSize, c_1]; done))⟩

set_option maxHeartbeats 4000000 in
set_option maxRecDepth 100000 in
theorem c_X7_rest (l : Launch) (D : va_G) (cI cJ cO : ClassId) (df sz : Nat) (v : Int32)  : MetI l yX7_rest wsX7_rest ({ frames := 0, cells := 0, slots := 0, locals := 0 } : Room) D (gTY cI cJ cO) df [] sz [.int v] (fun (r : Int32) (w : va_W) => w = [] ∧ r = rs97 v) := by
  refine g_of (cc := cX7_rest) (nL := 1) (ret := (some .int)) (D := D) (TY := (gTY cI cJ cO)) (df := df) (Qc := fun A => va_Qi (fun (r : Int32) (w : va_W) => w = [] ∧ r = rs97 v) (gB D (gTY cI cJ cO) A) A) (by decide +kernel) rfl (Nat.le_of_ble_eq_true rfl) ?_
  intro p e s m below meth c ls A hsz C0 hin hl
  obtain ⟨CF, hr, hlk, hA, hS, hP, hK, hD, hV, hH⟩ := C0
  have CF : CallFix p m c cX7_rest 1 s _ wsX7_rest RX7 := CF
  obtain ⟨hx, hb, hml, hown, hts⟩ := id CF
  subst hsz
  have hP : va_P D ccl [] s.heap := hP
  have hl : lv_has ls 1 [(0, .int v)] := hl
  refine lv_iload_n hx hb dX7_rest_0 rfl (lv_at hl 0 rfl) ?_
  refine lv_bipush (v := 97) hx hb dX7_rest_1 (by decide) ?_
  refine lv_irem hx hb dX7_rest_3 (by decide) ?_
  refine lv_bipush (v := 97) hx hb dX7_rest_4 (by decide) ?_
  refine lv_iadd hx hb dX7_rest_6 ?_
  refine lv_bipush (v := 97) hx hb dX7_rest_7 (by decide) ?_
  refine lv_irem hx hb dX7_rest_9 (by decide) ?_
  refine g_iret (v := ((v - v / 97 * 97) + 97) - ((v - v / 97 * 97) + 97) / 97 * 97) hx hb hr hlk hP hK hD hS (Nat.le_of_ble_eq_true rfl) (Nat.le_of_ble_eq_true rfl) dX7_rest_10 ?_
  exact ⟨rfl, (by first | rfl | (simp [rs97]; done))⟩

set_option maxHeartbeats 4000000 in
set_option maxRecDepth 100000 in
theorem c_X7_rounded (l : Launch) (D : va_G) (cI cJ cO : ClassId) (df sz : Nat) (h : Nat) (v : Int32) (way : Int32)  : MetI l yX7_rounded wsX7_rounded ({ frames := 1, cells := 0, slots := 0, locals := 21 } : Room) D (gTY cI cJ cO) df [] sz [.ref h, .int v, .int way] (fun (r : Int32) (w : va_W) => w = [] ∧ r = mRnd v way) := by
  refine g_of (cc := cX7_rounded) (nL := 4) (ret := (some .int)) (D := D) (TY := (gTY cI cJ cO)) (df := df) (Qc := fun A => va_Qi (fun (r : Int32) (w : va_W) => w = [] ∧ r = mRnd v way) (gB D (gTY cI cJ cO) A) A) (by decide +kernel) rfl (Nat.le_of_ble_eq_true rfl) ?_
  intro p e s m below meth c ls A hsz C0 hin hl
  obtain ⟨CF, hr, hlk, hA, hS, hP, hK, hD, hV, hH⟩ := C0
  have CF : CallFix p m c cX7_rounded 4 s _ wsX7_rounded RX7 := CF
  obtain ⟨hx, hb, hml, hown, hts⟩ := id CF
  subst hsz
  have hmethodLink_RX7_74 : (Cond.methodLink RX7 74 yX7_down).before _ s = true := hts _ (List.mem_of_getElem? (i := 1) rfl)
  have hP : va_P D ccl [] s.heap := hP
  have hl : lv_has ls 4 [(0, .ref h), (1, .int v), (2, .int way)] := hl
  refine lv_iload_n hx hb dX7_rounded_0 rfl (lv_at hl 2 rfl) ?_
  refine g_phiHi (ls := ls) (J := 34) (st1 := []) (REL := fun x => x = if way = 0 then v / 64 else if way = 1 then mDown v 64 else mDown (v + 32) 64) (D := D) (A := A) (H0 := s.heap) (Ws := []) (fun x H locs hb_34 hP hD hS => ?_) (fun hJ_34 => ?_)
  · refine lv_istore_n (lv' := [(3, .int x), (0, .ref h), (1, .int v), (2, .int way)]) hx hb dX7_rounded_34 rfl hl (by decide) rfl (fun ls hl => ?_)
    refine lv_iload_n hx hb dX7_rounded_35 rfl (lv_at hl 0 rfl) ?_
    refine lv_sipush (v := (-32767)) hx hb dX7_rounded_36 (by decide) ?_
    refine lv_icmp_ge (tgt := 48) hx hb dX7_rounded_39 (by decide) (fun c_39 => ?_) (fun c_39 => ?_)
    · have c_39 : ¬ x < (-32767) := Int32.not_lt.mpr c_39
      refine lv_iload_n hx hb dX7_rounded_48 rfl (lv_at hl 0 rfl) ?_
      refine lv_sipush (v := 32767) hx hb dX7_rounded_49 (by decide) ?_
      refine lv_icmp_le (tgt := 61) hx hb dX7_rounded_52 (by decide) (fun c_52 => ?_) (fun c_52 => ?_)
      · have c_52 : ¬ 32767 < x := Int32.not_lt.mpr c_52
        refine lv_iload_n hx hb dX7_rounded_61 rfl (lv_at hl 0 rfl) ?_
        refine g_iret (v := x) hx hb hr hlk hP hK hD hS (Nat.le_of_ble_eq_true rfl) (Nat.le_of_ble_eq_true rfl) dX7_rounded_62 ?_
        exact ⟨rfl, by unfold mRnd; rw [← hb_34]; simp [mClamp, c_39, c_52]⟩
      · have c_52 : 32767 < x := Int32.not_le.mp c_52
        refine lv_sipush (v := 32767) hx hb dX7_rounded_55 (by decide) ?_
        refine lv_goto (tgt := 62) hx hb dX7_rounded_58 (by decide) ?_
        refine g_iret (v := 32767) hx hb hr hlk hP hK hD hS (Nat.le_of_ble_eq_true rfl) (Nat.le_of_ble_eq_true rfl) dX7_rounded_62 ?_
        exact ⟨rfl, by unfold mRnd; rw [← hb_34]; simp [mClamp, c_39, c_52]⟩
    · have c_39 : x < (-32767) := Int32.not_le.mp c_39
      refine lv_sipush (v := (-32767)) hx hb dX7_rounded_42 (by decide) ?_
      refine lv_goto (tgt := 62) hx hb dX7_rounded_45 (by decide) ?_
      refine g_iret (v := (-32767)) hx hb hr hlk hP hK hD hS (Nat.le_of_ble_eq_true rfl) (Nat.le_of_ble_eq_true rfl) dX7_rounded_62 ?_
      exact ⟨rfl, by unfold mRnd; rw [← hb_34]; simp [mClamp, c_39]⟩
  · refine lv_if_ne (tgt := 11) hx hb dX7_rounded_1 (by decide) (fun c_1 => ?_) (fun c_1 => ?_)
    · refine lv_iload_n hx hb dX7_rounded_11 rfl (lv_at hl 2 rfl) ?_
      refine lv_iconst (v := 1) hx hb dX7_rounded_12 (by decide) ?_
      refine lv_icmp_ne (tgt := 25) hx hb dX7_rounded_13 (by decide) (fun c_13 => ?_) (fun c_13 => ?_)
      · refine lv_iload_n hx hb dX7_rounded_25 rfl (lv_at hl 1 rfl) ?_
        refine lv_bipush (v := 32) hx hb dX7_rounded_26 (by decide) ?_
        refine lv_iadd hx hb dX7_rounded_28 ?_
        refine lv_bipush (v := 64) hx hb dX7_rounded_29 (by decide) ?_
        have hPc : va_P D ccl [] s.heap := fun k q h => by simp at h
        have hDc : va_D A [] := ⟨fun i j p q h => by simp at h, fun k q h => by simp at h⟩
        have hFc := va_free (wc := []) hD hS hA [] rfl
        refine g_Si (As := [.int (v + 32), .int 64]) (rest := []) CF (c_X7_down l D cI cJ cO df s.heap.size (v + 32) 64 (by decide)) (va_cwS 2 hts gX7_rounded_X7_down rfl rfl rfl (by decide +kernel) ⟨Nat.le_of_ble_eq_true rfl, Nat.le_of_ble_eq_true rfl⟩)  hPc hK hDc hV hH hS hFc rfl hl.1 rfl (Nat.le_of_ble_eq_true rfl) dX7_rounded_31 ⟨Nat.le_of_ble_eq_true rfl, Nat.le_of_ble_eq_true rfl⟩ (fun r_31 w1 H1 locs1 hq hP1 hD1 hk hS hz => ?_)
        obtain ⟨rfl, hr_31⟩ := hq
        have hP := g_keep0 hP hk
        clear hPc hDc hFc hP1 hD1 hk hz
        generalize H1 = H at hP hS ⊢
        have hP : va_P D ccl [] H := hP
        have hD : va_D A [] := hD
        subst hr_31
        exact hJ_34 _ _ _ (by simp [mRnd, mClamp, mDown, c_1, c_13]) hP hD hS
      · refine lv_iload_n hx hb dX7_rounded_16 rfl (lv_at hl 1 rfl) ?_
        refine lv_bipush (v := 64) hx hb dX7_rounded_17 (by decide) ?_
        have hPc : va_P D ccl [] s.heap := fun k q h => by simp at h
        have hDc : va_D A [] := ⟨fun i j p q h => by simp at h, fun k q h => by simp at h⟩
        have hFc := va_free (wc := []) hD hS hA [] rfl
        refine g_Si (As := [.int v, .int 64]) (rest := []) CF (c_X7_down l D cI cJ cO df s.heap.size v 64 (by decide)) (va_cwS 2 hts gX7_rounded_X7_down rfl rfl rfl (by decide +kernel) ⟨Nat.le_of_ble_eq_true rfl, Nat.le_of_ble_eq_true rfl⟩)  hPc hK hDc hV hH hS hFc rfl hl.1 rfl (Nat.le_of_ble_eq_true rfl) dX7_rounded_19 ⟨Nat.le_of_ble_eq_true rfl, Nat.le_of_ble_eq_true rfl⟩ (fun r_19 w1 H1 locs1 hq hP1 hD1 hk hS hz => ?_)
        obtain ⟨rfl, hr_19⟩ := hq
        have hP := g_keep0 hP hk
        clear hPc hDc hFc hP1 hD1 hk hz
        generalize H1 = H at hP hS ⊢
        have hP : va_P D ccl [] H := hP
        have hD : va_D A [] := hD
        subst hr_19
        refine lv_goto (tgt := 34) hx hb dX7_rounded_22 (by decide) ?_
        exact hJ_34 _ _ _ (by simp [mRnd, mClamp, mDown, c_1, c_13]) hP hD hS
    · refine lv_iload_n hx hb dX7_rounded_4 rfl (lv_at hl 1 rfl) ?_
      refine lv_bipush (v := 64) hx hb dX7_rounded_5 (by decide) ?_
      refine lv_idiv hx hb dX7_rounded_7 (by decide) ?_
      refine lv_goto (tgt := 34) hx hb dX7_rounded_8 (by decide) ?_
      exact hJ_34 _ _ _ (by simp [mRnd, mClamp, mDown, c_1]) hP hD hS

set_option maxHeartbeats 4000000 in
set_option maxRecDepth 100000 in
theorem c_X7_thrown (l : Launch) (D : va_G) (cI cJ cO : ClassId) (df sz : Nat) (M : Nat → Nat) (mc : Nat → Int32) (ms : Nat → Int32) (mw : Nat → Int32) (mn : Int32) (mo : Nat → Int32) (mh : Int32) (mu : Nat → Int32) (mk : Int32) (mt : Nat → Int32) (mq : Nat → Int32) (mp : Nat → Int32) (my : Int32) (mf : Nat → Int32) (ma : Nat → Int32) (cy : Int32) (lo : Int32) (gr : Int32) (ov : Int64) (un : Int64) (la : Int32)  : MetI l yX7_thrown wsX7_thrown ({ frames := 0, cells := 0, slots := 0, locals := 0 } : Room) D (gTY cI cJ cO) df (mW cI M mc ms mw mn mo mh mu mk mt mq mp my mf ma cy lo gr ov un la) sz [.ref (M 0)] (fun (r : Int32) (w : va_W) => w = mW cI M mc ms mw mn mo mh mu mk mt mq mp my mf ma cy lo gr ov un la ∧ r = la) := by
  refine g_of (cc := cX7_thrown) (nL := 1) (ret := (some .int)) (D := D) (TY := (gTY cI cJ cO)) (df := df) (Qc := fun A => va_Qi (fun (r : Int32) (w : va_W) => w = mW cI M mc ms mw mn mo mh mu mk mt mq mp my mf ma cy lo gr ov un la ∧ r = la) (gB D (gTY cI cJ cO) A) A) (by decide +kernel) rfl (Nat.le_of_ble_eq_true rfl) ?_
  intro p e s m below meth c ls A hsz C0 hin hl
  obtain ⟨CF, hr, hlk, hA, hS, hP, hK, hD, hV, hH⟩ := C0
  have CF : CallFix p m c cX7_thrown 1 s _ wsX7_thrown RX7 := CF
  obtain ⟨hx, hb, hml, hown, hts⟩ := id CF
  subst hsz
  have hfieldLink_RX7_41 : (Cond.fieldLink RX7 41 "TapLoomModel" "last" "I").before _ s = true := hts _ (List.mem_of_getElem? (i := 1) rfl)
  have inX7 : ∀ w ∈ u_ws RX7 TX7 20, w ∈ wsX7_thrown := fun w h => (List.mem_cons_of_mem _ (List.mem_append_right _ h))
  have hP : va_P D ccl (mW cI M mc ms mw mn mo mh mu mk mt mq mp my mf ma cy lo gr ov un la) s.heap := hP
  have hl : lv_has ls 1 [(0, .ref (M 0))] := hl
  refine lv_aload_n hx hb dX7_thrown_0 rfl (lv_at hl 0 rfl) ?_
  refine va_get (D := D) (ci := 8) (v := .int la) (C := RX7) (T := TX7) (N := 20) hx hb hts inX7 hown hK hP 0 rfl rfl 19 (by decide) hfieldLink_RX7_41 (fun _ h9 => h9) rfl dX7_thrown_1 ?_
  refine g_iret (v := la) hx hb hr hlk hP hK hD hS (Nat.le_of_ble_eq_true rfl) (Nat.le_of_ble_eq_true rfl) dX7_thrown_4 ?_
  exact ⟨rfl, rfl⟩

set_option maxHeartbeats 4000000 in
set_option maxRecDepth 100000 in
theorem c_X7_goes (l : Launch) (D : va_G) (cI cJ cO : ClassId) (df sz : Nat) (M : Nat → Nat) (mc : Nat → Int32) (ms : Nat → Int32) (mw : Nat → Int32) (mn : Int32) (mo : Nat → Int32) (mh : Int32) (mu : Nat → Int32) (mk : Int32) (mt : Nat → Int32) (mq : Nat → Int32) (mp : Nat → Int32) (my : Int32) (mf : Nat → Int32) (ma : Nat → Int32) (cy : Int32) (lo : Int32) (gr : Int32) (ov : Int64) (un : Int64) (la : Int32) (f1 : Int32) (f2 : Int32) (f3 : Int32)  : MetI l yX7_goes wsX7_goes ({ frames := 0, cells := 0, slots := 0, locals := 0 } : Room) D (gTY cI cJ cO) df (mW cI M mc ms mw mn mo mh mu mk mt mq mp my mf ma cy lo gr ov un la) sz [.ref (M 0), .int f1, .int f2, .int f3] (fun (r : Int32) (w : va_W) => w = mW cI M mc ms mw mn mo mh mu mk mt mq mp my mf ma cy lo gr ov un (gGo f1 f2 f3) ∧ r = if gGo f1 f2 f3 = 0 then 1 else 0) := by
  refine g_of (cc := cX7_goes) (nL := 4) (ret := (some .boolean)) (D := D) (TY := (gTY cI cJ cO)) (df := df) (Qc := fun A => va_Qi (fun (r : Int32) (w : va_W) => w = mW cI M mc ms mw mn mo mh mu mk mt mq mp my mf ma cy lo gr ov un (gGo f1 f2 f3) ∧ r = if gGo f1 f2 f3 = 0 then 1 else 0) (gB D (gTY cI cJ cO) A) A) (by decide +kernel) rfl (Nat.le_of_ble_eq_true rfl) ?_
  intro p e s m below meth c ls A hsz C0 hin hl
  obtain ⟨CF, hr, hlk, hA, hS, hP, hK, hD, hV, hH⟩ := C0
  have CF : CallFix p m c cX7_goes 4 s _ wsX7_goes RX7 := CF
  obtain ⟨hx, hb, hml, hown, hts⟩ := id CF
  subst hsz
  have hfieldLink_RX7_41 : (Cond.fieldLink RX7 41 "TapLoomModel" "last" "I").before _ s = true := hts _ (List.mem_of_getElem? (i := 1) rfl)
  have inX7 : ∀ w ∈ u_ws RX7 TX7 20, w ∈ wsX7_goes := fun w h => (List.mem_cons_of_mem _ (List.mem_append_right _ h))
  have hP : va_P D ccl (mW cI M mc ms mw mn mo mh mu mk mt mq mp my mf ma cy lo gr ov un la) s.heap := hP
  have hl : lv_has ls 4 [(0, .ref (M 0)), (1, .int f1), (2, .int f2), (3, .int f3)] := hl
  refine lv_aload_n hx hb dX7_goes_0 rfl (lv_at hl 0 rfl) ?_
  refine lv_iload_n hx hb dX7_goes_1 rfl (lv_at hl 1 rfl) ?_
  refine lv_if_ne (tgt := 9) hx hb dX7_goes_2 (by decide) (fun c_2 => ?_) (fun c_2 => ?_)
  · refine lv_iload_n hx hb dX7_goes_9 rfl (lv_at hl 2 rfl) ?_
    refine lv_if_ne (tgt := 17) hx hb dX7_goes_10 (by decide) (fun c_10 => ?_) (fun c_10 => ?_)
    · refine lv_iload_n hx hb dX7_goes_17 rfl (lv_at hl 3 rfl) ?_
      refine lv_if_eq (tgt := 25) hx hb dX7_goes_18 (by decide) (fun c_18 => ?_) (fun c_18 => ?_)
      · refine lv_iconst (v := 3) hx hb dX7_goes_25 (by decide) ?_
        refine va_put (D := D) (ci := 8) (v := .int 3) (ty := .int) (C := RX7) (T := TX7) (N := 20) hx hb hts inX7 tyX7 tyX7_ok nmX7 hown hK hP hD hS 0 rfl rfl 19 (by decide) hfieldLink_RX7_41 (fun _ h9 => h9) rfl (by decide +kernel) rfl rfl (Nat.le_of_ble_eq_true rfl) dX7_goes_26 (fun H locs hP hD hS => ?_)
        have hP : va_P D ccl (mW cI M mc ms mw mn mo mh mu mk mt mq mp my mf ma cy lo gr ov un 3) H := hP
        have hD : va_D A (mW cI M mc ms mw mn mo mh mu mk mt mq mp my mf ma cy lo gr ov un 3) := hD
        refine lv_aload_n hx hb dX7_goes_29 rfl (lv_at hl 0 rfl) ?_
        refine va_get (D := D) (ci := 8) (v := .int 3) (C := RX7) (T := TX7) (N := 20) hx hb hts inX7 hown hK hP 0 rfl rfl 19 (by decide) hfieldLink_RX7_41 (fun _ h9 => h9) rfl dX7_goes_30 ?_
        refine lv_if_ne (tgt := 40) hx hb dX7_goes_33 (by decide) (fun c_33 => ?_) (fun c_33 => ?_)
        · refine lv_iconst (v := 0) hx hb dX7_goes_40 (by decide) ?_
          refine g_zret (v := 0) hx hb hr hlk hP hK hD hS (Nat.le_of_ble_eq_true rfl) (Nat.le_of_ble_eq_true rfl) dX7_goes_41 (by decide +kernel) ?_
          have hg : gGo f1 f2 f3 = 3 := by simp [gGo, c_2, c_10, c_18]
          rw [hg]; exact ⟨rfl, by decide⟩
        · exact absurd c_33 (by decide)
      · refine lv_iconst (v := 0) hx hb dX7_goes_21 (by decide) ?_
        refine lv_goto (tgt := 26) hx hb dX7_goes_22 (by decide) ?_
        refine va_put (D := D) (ci := 8) (v := .int 0) (ty := .int) (C := RX7) (T := TX7) (N := 20) hx hb hts inX7 tyX7 tyX7_ok nmX7 hown hK hP hD hS 0 rfl rfl 19 (by decide) hfieldLink_RX7_41 (fun _ h9 => h9) rfl (by decide +kernel) rfl rfl (Nat.le_of_ble_eq_true rfl) dX7_goes_26 (fun H locs hP hD hS => ?_)
        have hP : va_P D ccl (mW cI M mc ms mw mn mo mh mu mk mt mq mp my mf ma cy lo gr ov un 0) H := hP
        have hD : va_D A (mW cI M mc ms mw mn mo mh mu mk mt mq mp my mf ma cy lo gr ov un 0) := hD
        refine lv_aload_n hx hb dX7_goes_29 rfl (lv_at hl 0 rfl) ?_
        refine va_get (D := D) (ci := 8) (v := .int 0) (C := RX7) (T := TX7) (N := 20) hx hb hts inX7 hown hK hP 0 rfl rfl 19 (by decide) hfieldLink_RX7_41 (fun _ h9 => h9) rfl dX7_goes_30 ?_
        refine lv_if_ne (tgt := 40) hx hb dX7_goes_33 (by decide) (fun c_33 => ?_) (fun c_33 => ?_)
        · exact absurd c_33 (by decide)
        · refine lv_iconst (v := 1) hx hb dX7_goes_36 (by decide) ?_
          refine lv_goto (tgt := 41) hx hb dX7_goes_37 (by decide) ?_
          refine g_zret (v := 1) hx hb hr hlk hP hK hD hS (Nat.le_of_ble_eq_true rfl) (Nat.le_of_ble_eq_true rfl) dX7_goes_41 (by decide +kernel) ?_
          have hg : gGo f1 f2 f3 = 0 := by simp [gGo, c_2, c_10, c_18]
          rw [hg]; exact ⟨rfl, by decide⟩
    · refine lv_iconst (v := 2) hx hb dX7_goes_13 (by decide) ?_
      refine lv_goto (tgt := 26) hx hb dX7_goes_14 (by decide) ?_
      refine va_put (D := D) (ci := 8) (v := .int 2) (ty := .int) (C := RX7) (T := TX7) (N := 20) hx hb hts inX7 tyX7 tyX7_ok nmX7 hown hK hP hD hS 0 rfl rfl 19 (by decide) hfieldLink_RX7_41 (fun _ h9 => h9) rfl (by decide +kernel) rfl rfl (Nat.le_of_ble_eq_true rfl) dX7_goes_26 (fun H locs hP hD hS => ?_)
      have hP : va_P D ccl (mW cI M mc ms mw mn mo mh mu mk mt mq mp my mf ma cy lo gr ov un 2) H := hP
      have hD : va_D A (mW cI M mc ms mw mn mo mh mu mk mt mq mp my mf ma cy lo gr ov un 2) := hD
      refine lv_aload_n hx hb dX7_goes_29 rfl (lv_at hl 0 rfl) ?_
      refine va_get (D := D) (ci := 8) (v := .int 2) (C := RX7) (T := TX7) (N := 20) hx hb hts inX7 hown hK hP 0 rfl rfl 19 (by decide) hfieldLink_RX7_41 (fun _ h9 => h9) rfl dX7_goes_30 ?_
      refine lv_if_ne (tgt := 40) hx hb dX7_goes_33 (by decide) (fun c_33 => ?_) (fun c_33 => ?_)
      · refine lv_iconst (v := 0) hx hb dX7_goes_40 (by decide) ?_
        refine g_zret (v := 0) hx hb hr hlk hP hK hD hS (Nat.le_of_ble_eq_true rfl) (Nat.le_of_ble_eq_true rfl) dX7_goes_41 (by decide +kernel) ?_
        have hg : gGo f1 f2 f3 = 2 := by simp [gGo, c_2, c_10]
        rw [hg]; exact ⟨rfl, by decide⟩
      · exact absurd c_33 (by decide)
  · refine lv_iconst (v := 1) hx hb dX7_goes_5 (by decide) ?_
    refine lv_goto (tgt := 26) hx hb dX7_goes_6 (by decide) ?_
    refine va_put (D := D) (ci := 8) (v := .int 1) (ty := .int) (C := RX7) (T := TX7) (N := 20) hx hb hts inX7 tyX7 tyX7_ok nmX7 hown hK hP hD hS 0 rfl rfl 19 (by decide) hfieldLink_RX7_41 (fun _ h9 => h9) rfl (by decide +kernel) rfl rfl (Nat.le_of_ble_eq_true rfl) dX7_goes_26 (fun H locs hP hD hS => ?_)
    have hP : va_P D ccl (mW cI M mc ms mw mn mo mh mu mk mt mq mp my mf ma cy lo gr ov un 1) H := hP
    have hD : va_D A (mW cI M mc ms mw mn mo mh mu mk mt mq mp my mf ma cy lo gr ov un 1) := hD
    refine lv_aload_n hx hb dX7_goes_29 rfl (lv_at hl 0 rfl) ?_
    refine va_get (D := D) (ci := 8) (v := .int 1) (C := RX7) (T := TX7) (N := 20) hx hb hts inX7 hown hK hP 0 rfl rfl 19 (by decide) hfieldLink_RX7_41 (fun _ h9 => h9) rfl dX7_goes_30 ?_
    refine lv_if_ne (tgt := 40) hx hb dX7_goes_33 (by decide) (fun c_33 => ?_) (fun c_33 => ?_)
    · refine lv_iconst (v := 0) hx hb dX7_goes_40 (by decide) ?_
      refine g_zret (v := 0) hx hb hr hlk hP hK hD hS (Nat.le_of_ble_eq_true rfl) (Nat.le_of_ble_eq_true rfl) dX7_goes_41 (by decide +kernel) ?_
      have hg : gGo f1 f2 f3 = 1 := by simp [gGo, c_2]
      rw [hg]; exact ⟨rfl, by decide⟩
    · exact absurd c_33 (by decide)
