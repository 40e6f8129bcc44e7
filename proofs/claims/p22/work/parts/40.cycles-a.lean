set_option maxHeartbeats 4000000 in
set_option maxRecDepth 100000 in
theorem c_X1_init (l : Launch) (D : va_G) (cI cJ cO : ClassId) (df sz : Nat) (h0 : Nat)  : MetV l yX1_init wsX1_init ({ frames := 1, cells := 1, slots := 1263, locals := 30 } : Room) D (gTY cI cJ cO) df [(h0, .inr (2, [.null, .int 0, .int 0, .int 0, .int 0]))] sz [.ref h0] (fun (wZ : va_W) => ∃ (mk : Nat), wZ = [(h0, .inr (2, [.ref mk, .int 0, .int 0, .int 0, .int 0])), (mk, .inl (cJ, 1263, .inr (.inl (fun _ => 0))))]) := by
  refine g_of (cc := cX1_init) (nL := 1) (ret := none) (D := D) (TY := (gTY cI cJ cO)) (df := df) (Qc := fun A => va_Qv (fun (wZ : va_W) => ∃ (mk : Nat), wZ = [(h0, .inr (2, [.ref mk, .int 0, .int 0, .int 0, .int 0])), (mk, .inl (cJ, 1263, .inr (.inl (fun _ => 0))))]) (gB D (gTY cI cJ cO) A) A) (by decide +kernel) rfl (Nat.le_of_ble_eq_true rfl) ?_
  intro p e s m below meth c ls A hsz C0 hin hl
  obtain ⟨CF, hr, hlk, hA, hS, hP, hK, hD, hV, hH⟩ := C0
  have CF : CallFix p m c cX1_init 1 s _ wsX1_init RX1 := CF
  obtain ⟨hx, hb, hml, hown, hts⟩ := id CF
  subst hsz
  have hmethodLink_RX1_3 : (Cond.methodLink RX1 3 objectInit).before _ s = true := hts _ (List.mem_of_getElem? (i := 1) rfl)
  have hinstanceMethod_objectInit : (Cond.instanceMethod objectInit).before _ s = true := hts _ (List.mem_of_getElem? (i := 2) rfl)
  have hcode_objectInit : (Cond.code objectInit ⟨#[0xb1]⟩ 1 none).before _ s = true := hts _ (List.mem_of_getElem? (i := 3) rfl)
  have hArrJ : (Cond.arrayClass .long).before _ s = true := hts _ (List.mem_of_getElem? (i := 4) rfl)
  have hfieldLink_RX1_9 : (Cond.fieldLink RX1 9 "TapLoom$CycleSearch" "marks" "[J").before _ s = true := hts _ (List.mem_of_getElem? (i := 5) rfl)
  have inX1 : ∀ w ∈ u_ws RX1 TX1 5, w ∈ wsX1_init := fun w h => (List.mem_cons_of_mem _ (List.mem_append_right _ h))
  have hP : va_P D ccl [(h0, .inr (2, [.null, .int 0, .int 0, .int 0, .int 0]))] s.heap := hP
  have hl : lv_has ls 1 [(0, .ref h0)] := hl
  refine lv_aload_n hx hb dX1_init_0 rfl (lv_at hl 0 rfl) ?_
  refine W.objInit hx hb hown hmethodLink_RX1_3 hinstanceMethod_objectInit hcode_objectInit rfl (by rw [hml]; exact hl.1) rfl dX1_init_1 (Nat.le_of_ble_eq_true rfl) (Nat.le_of_ble_eq_true rfl) ?_
  refine W.eq (g2 := F0 m 4 ls []) rfl ?_
  refine lv_aload_n hx hb dX1_init_4 rfl (lv_at hl 0 rfl) ?_
  refine lv_sipush (v := 1263) hx hb dX1_init_5 (by decide) ?_
  refine g_newaJ (N := 1263) hx hb hArrJ hK hP hD hS hA (by decide) (by decide) (Nat.le_of_ble_eq_true rfl) (Nat.le_of_ble_eq_true rfl) (Nat.le_of_ble_eq_true rfl) dX1_init_8 (fun q1 H hP hD hS => ?_)
  have hP : va_P D ccl [(h0, .inr (2, [.null, .int 0, .int 0, .int 0, .int 0])), (q1, .inl (cJ, 1263, .inr (.inl (fun _ => 0))))] H := hP
  have hD : va_D A [(h0, .inr (2, [.null, .int 0, .int 0, .int 0, .int 0])), (q1, .inl (cJ, 1263, .inr (.inl (fun _ => 0))))] := hD
  refine va_putF (D := D) (ci := 2) (v := .ref q1) (ty := .array (.long)) (C := RX1) (T := TX1) (N := 5) hx hb hts inX1 tyX1 tyX1_ok nmX1 hown hK hP hD hS 0 rfl rfl 0 (by decide) hfieldLink_RX1_9 (fun _ h9 => h9) rfl (hin rfl) rfl (by decide +kernel) rfl rfl (Nat.le_of_ble_eq_true rfl) dX1_init_10 (fun H locs hP hD hS => ?_)
  have hP : va_P D ccl [(h0, .inr (2, [.ref q1, .int 0, .int 0, .int 0, .int 0])), (q1, .inl (cJ, 1263, .inr (.inl (fun _ => 0))))] H := hP
  have hD : va_D A [(h0, .inr (2, [.ref q1, .int 0, .int 0, .int 0, .int 0])), (q1, .inl (cJ, 1263, .inr (.inl (fun _ => 0))))] := hD
  refine g_vret hx hb hr hlk hP hK hD hS (Nat.le_of_ble_eq_true rfl) (Nat.le_of_ble_eq_true rfl) dX1_init_13 ?_
  exact ⟨_, rfl⟩

set_option maxHeartbeats 4000000 in
set_option maxRecDepth 100000 in
theorem c_X1_shiftOf (l : Launch) (D : va_G) (cI cJ cO : ClassId) (df sz : Nat) (q : Nat) (hq9 : q < 40401) : MetI l yX1_shiftOf wsX1_shiftOf ({ frames := 0, cells := 0, slots := 0, locals := 0 } : Room) D (gTY cI cJ cO) df [] sz [.int (nI q)] (fun (r : Int32) (wZ : va_W) => wZ = [] ∧ r = nI (q % 32 * 2)) := by
  refine g_of (cc := cX1_shiftOf) (nL := 1) (ret := (some .int)) (D := D) (TY := (gTY cI cJ cO)) (df := df) (Qc := fun A => va_Qi (fun (r : Int32) (wZ : va_W) => wZ = [] ∧ r = nI (q % 32 * 2)) (gB D (gTY cI cJ cO) A) A) (by decide +kernel) rfl (Nat.le_of_ble_eq_true rfl) ?_
  intro p e s m below meth c ls A hsz C0 hin hl
  obtain ⟨CF, hr, hlk, hA, hS, hP, hK, hD, hV, hH⟩ := C0
  have CF : CallFix p m c cX1_shiftOf 1 s _ wsX1_shiftOf RX1 := CF
  obtain ⟨hx, hb, hml, hown, hts⟩ := id CF
  subst hsz
  have hP : va_P D ccl [] s.heap := hP
  have hl : lv_has ls 1 [(0, .int (nI q))] := hl
  refine lv_iload_n hx hb dX1_shiftOf_0 rfl (lv_at hl 0 rfl) ?_
  refine lv_bipush (v := 32) hx hb dX1_shiftOf_1 (by decide) ?_
  refine lv_irem hx hb dX1_shiftOf_3 (by decide) ?_
  refine lv_topi (fun f ef => ?_)
  obtain rfl : f = nI (q % 32) := ef.trans (pk_rem (a := q) (d := 32) (by omega) (by omega) (by omega))
  refine lv_iconst (v := 2) hx hb dX1_shiftOf_4 (by decide) ?_
  refine lv_imul hx hb dX1_shiftOf_5 ?_
  refine lv_topi (fun f ef => ?_)
  obtain rfl : f = nI ((q % 32) * 2) := ef.trans (pk_mul _ _)
  refine g_iret (v := nI ((q % 32) * 2)) hx hb hr hlk hP hK hD hS (Nat.le_of_ble_eq_true rfl) (Nat.le_of_ble_eq_true rfl) dX1_shiftOf_6 ?_
  exact ⟨rfl, rfl⟩

set_option maxHeartbeats 4000000 in
set_option maxRecDepth 100000 in
theorem c_X1_lastOf (l : Launch) (D : va_G) (cI cJ cO : ClassId) (df sz : Nat) (q : Nat) (hq9 : q < 40401) : MetI l yX1_lastOf wsX1_lastOf ({ frames := 0, cells := 0, slots := 0, locals := 0 } : Room) D (gTY cI cJ cO) df [] sz [.int (nI q)] (fun (r : Int32) (wZ : va_W) => wZ = [] ∧ r = nI (q / 201) - 100) := by
  refine g_of (cc := cX1_lastOf) (nL := 1) (ret := (some .int)) (D := D) (TY := (gTY cI cJ cO)) (df := df) (Qc := fun A => va_Qi (fun (r : Int32) (wZ : va_W) => wZ = [] ∧ r = nI (q / 201) - 100) (gB D (gTY cI cJ cO) A) A) (by decide +kernel) rfl (Nat.le_of_ble_eq_true rfl) ?_
  intro p e s m below meth c ls A hsz C0 hin hl
  obtain ⟨CF, hr, hlk, hA, hS, hP, hK, hD, hV, hH⟩ := C0
  have CF : CallFix p m c cX1_lastOf 1 s _ wsX1_lastOf RX1 := CF
  obtain ⟨hx, hb, hml, hown, hts⟩ := id CF
  subst hsz
  have hP : va_P D ccl [] s.heap := hP
  have hl : lv_has ls 1 [(0, .int (nI q))] := hl
  refine lv_iload_n hx hb dX1_lastOf_0 rfl (lv_at hl 0 rfl) ?_
  refine lv_sipush (v := 201) hx hb dX1_lastOf_1 (by decide) ?_
  refine lv_idiv hx hb dX1_lastOf_4 (by decide) ?_
  refine lv_topi (fun f ef => ?_)
  obtain rfl : f = nI (q / 201) := ef.trans (pk_div (a := q) (d := 201) (by omega) (by omega) (by omega))
  refine lv_bipush (v := 100) hx hb dX1_lastOf_5 (by decide) ?_
  refine lv_isub hx hb dX1_lastOf_7 ?_
  refine g_iret (v := (nI (q / 201)) - 100) hx hb hr hlk hP hK hD hS (Nat.le_of_ble_eq_true rfl) (Nat.le_of_ble_eq_true rfl) dX1_lastOf_8 ?_
  exact ⟨rfl, rfl⟩

set_option maxHeartbeats 4000000 in
set_option maxRecDepth 100000 in
theorem c_X1_aheadOf (l : Launch) (D : va_G) (cI cJ cO : ClassId) (df sz : Nat) (q : Nat) (hq9 : q < 40401) : MetI l yX1_aheadOf wsX1_aheadOf ({ frames := 0, cells := 0, slots := 0, locals := 0 } : Room) D (gTY cI cJ cO) df [] sz [.int (nI q)] (fun (r : Int32) (wZ : va_W) => wZ = [] ∧ r = nI (q % 201) - 100) := by
  refine g_of (cc := cX1_aheadOf) (nL := 1) (ret := (some .int)) (D := D) (TY := (gTY cI cJ cO)) (df := df) (Qc := fun A => va_Qi (fun (r : Int32) (wZ : va_W) => wZ = [] ∧ r = nI (q % 201) - 100) (gB D (gTY cI cJ cO) A) A) (by decide +kernel) rfl (Nat.le_of_ble_eq_true rfl) ?_
  intro p e s m below meth c ls A hsz C0 hin hl
  obtain ⟨CF, hr, hlk, hA, hS, hP, hK, hD, hV, hH⟩ := C0
  have CF : CallFix p m c cX1_aheadOf 1 s _ wsX1_aheadOf RX1 := CF
  obtain ⟨hx, hb, hml, hown, hts⟩ := id CF
  subst hsz
  have hP : va_P D ccl [] s.heap := hP
  have hl : lv_has ls 1 [(0, .int (nI q))] := hl
  refine lv_iload_n hx hb dX1_aheadOf_0 rfl (lv_at hl 0 rfl) ?_
  refine lv_sipush (v := 201) hx hb dX1_aheadOf_1 (by decide) ?_
  refine lv_irem hx hb dX1_aheadOf_4 (by decide) ?_
  refine lv_topi (fun f ef => ?_)
  obtain rfl : f = nI (q % 201) := ef.trans (pk_rem (a := q) (d := 201) (by omega) (by omega) (by omega))
  refine lv_bipush (v := 100) hx hb dX1_aheadOf_5 (by decide) ?_
  refine lv_isub hx hb dX1_aheadOf_7 ?_
  refine g_iret (v := (nI (q % 201)) - 100) hx hb hr hlk hP hK hD hS (Nat.le_of_ble_eq_true rfl) (Nat.le_of_ble_eq_true rfl) dX1_aheadOf_8 ?_
  exact ⟨rfl, rfl⟩

set_option maxHeartbeats 4000000 in
set_option maxRecDepth 100000 in
theorem c_X1_stateOf (l : Launch) (D : va_G) (cI cJ cO : ClassId) (df sz : Nat) (a : Int32) (b : Int32)  : MetI l yX1_stateOf wsX1_stateOf ({ frames := 1, cells := 0, slots := 0, locals := 30 } : Room) D (gTY cI cJ cO) df [] sz [.int a, .int b] (fun (r : Int32) (wZ : va_W) => wZ = [] ∧ r = stC a b) := by
  refine g_of (cc := cX1_stateOf) (nL := 2) (ret := (some .int)) (D := D) (TY := (gTY cI cJ cO)) (df := df) (Qc := fun A => va_Qi (fun (r : Int32) (wZ : va_W) => wZ = [] ∧ r = stC a b) (gB D (gTY cI cJ cO) A) A) (by decide +kernel) rfl (Nat.le_of_ble_eq_true rfl) ?_
  intro p e s m below meth c ls A hsz C0 hin hl
  obtain ⟨CF, hr, hlk, hA, hS, hP, hK, hD, hV, hH⟩ := C0
  have CF : CallFix p m c cX1_stateOf 2 s _ wsX1_stateOf RX1 := CF
  obtain ⟨hx, hb, hml, hown, hts⟩ := id CF
  subst hsz
  have hmethodLink_RX1_63 : (Cond.methodLink RX1 63 Lib.Math.abs.name).before _ s = true := hts _ (List.mem_of_getElem? (i := 1) rfl)
  have hinitialized_java_lang_Math : (Cond.initialized "java/lang/Math").before _ s = true := hts _ (List.mem_of_getElem? (i := 3) rfl)
  have hstatic_Lib_Math_abs_name : (Cond.static Lib.Math.abs.name).before _ s = true := hts _ (List.mem_of_getElem? (i := 2) rfl)
  have hcode_Lib_Math_abs_name : (Cond.code Lib.Math.abs.name Lib.Math.abs.code 1 (some .int)).before _ s = true := hts _ (List.mem_of_getElem? (i := 4) rfl)
  have hP : va_P D ccl [] s.heap := hP
  have hl : lv_has ls 2 [(0, .int a), (1, .int b)] := hl
  refine lv_iload_n hx hb dX1_stateOf_0 rfl (lv_at hl 0 rfl) ?_
  refine va_mabs hx hb (by rw [hml]; exact hl.1.symm) hown hmethodLink_RX1_63 hstatic_Lib_Math_abs_name hinitialized_java_lang_Math hcode_Lib_Math_abs_name (Nat.le_of_ble_eq_true rfl) (Nat.le_of_ble_eq_true rfl) (Nat.le_of_ble_eq_true rfl) (Nat.le_of_ble_eq_true rfl) dX1_stateOf_1 ?_
  refine lv_topi (fun f ef => ?_)
  obtain rfl : f = mSize a := ef.trans (abs_mSize _)
  refine lv_bipush (v := 100) hx hb dX1_stateOf_4 (by decide) ?_
  refine lv_icmp_gt (tgt := 18) hx hb dX1_stateOf_6 (by decide) (fun c_6 => ?_) (fun c_6 => ?_)
  · refine lv_iconst (v := (-1)) hx hb dX1_stateOf_18 (by decide) ?_
    refine g_iret (v := (-1)) hx hb hr hlk hP hK hD hS (Nat.le_of_ble_eq_true rfl) (Nat.le_of_ble_eq_true rfl) dX1_stateOf_19 ?_
    exact ⟨rfl, by unfold stC; first | rw [if_pos c_6] | (rw [if_neg c_6, if_pos c_15])⟩
  · refine lv_iload_n hx hb dX1_stateOf_9 rfl (lv_at hl 1 rfl) ?_
    refine va_mabs hx hb (by rw [hml]; exact hl.1.symm) hown hmethodLink_RX1_63 hstatic_Lib_Math_abs_name hinitialized_java_lang_Math hcode_Lib_Math_abs_name (Nat.le_of_ble_eq_true rfl) (Nat.le_of_ble_eq_true rfl) (Nat.le_of_ble_eq_true rfl) (Nat.le_of_ble_eq_true rfl) dX1_stateOf_10 ?_
    refine lv_topi (fun f ef => ?_)
    obtain rfl : f = mSize b := ef.trans (abs_mSize _)
    refine lv_bipush (v := 100) hx hb dX1_stateOf_13 (by decide) ?_
    refine lv_icmp_le (tgt := 20) hx hb dX1_stateOf_15 (by decide) (fun c_15 => ?_) (fun c_15 => ?_)
    · have c_15 : ¬ 100 < (mSize b) := Int32.not_lt.mpr c_15
      refine lv_iload_n hx hb dX1_stateOf_20 rfl (lv_at hl 0 rfl) ?_
      refine lv_bipush (v := 100) hx hb dX1_stateOf_21 (by decide) ?_
      refine lv_iadd hx hb dX1_stateOf_23 ?_
      refine lv_sipush (v := 201) hx hb dX1_stateOf_24 (by decide) ?_
      refine lv_imul hx hb dX1_stateOf_27 ?_
      refine lv_iload_n hx hb dX1_stateOf_28 rfl (lv_at hl 1 rfl) ?_
      refine lv_iadd hx hb dX1_stateOf_29 ?_
      refine lv_bipush (v := 100) hx hb dX1_stateOf_30 (by decide) ?_
      refine lv_iadd hx hb dX1_stateOf_32 ?_
      refine g_iret (v := (((a + 100) * 201) + b) + 100) hx hb hr hlk hP hK hD hS (Nat.le_of_ble_eq_true rfl) (Nat.le_of_ble_eq_true rfl) dX1_stateOf_33 ?_
      exact ⟨rfl, by unfold stC; rw [if_neg c_6, if_neg c_15]⟩
    · have c_15 : 100 < (mSize b) := Int32.not_le.mp c_15
      refine lv_iconst (v := (-1)) hx hb dX1_stateOf_18 (by decide) ?_
      refine g_iret (v := (-1)) hx hb hr hlk hP hK hD hS (Nat.le_of_ble_eq_true rfl) (Nat.le_of_ble_eq_true rfl) dX1_stateOf_19 ?_
      exact ⟨rfl, by unfold stC; first | rw [if_pos c_6] | (rw [if_neg c_6, if_pos c_15])⟩

set_option maxHeartbeats 4000000 in
set_option maxRecDepth 100000 in
theorem c_X1_markOf (l : Launch) (D : va_G) (cI cJ cO : ClassId) (df sz : Nat) (h0 : Nat) (mk : Nat) (g : Nat → Int64) (fc : Int32) (fl : Int32) (fg : Int32) (fe : Int32) (q : Nat) (A0 : Nat → Nat) (hq9 : q < 40401) (hM : mkR g A0) : MetI l yX1_markOf wsX1_markOf ({ frames := 1, cells := 0, slots := 0, locals := 20 } : Room) D (gTY cI cJ cO) df [(h0, .inr (2, [.ref mk, .int fc, .int fl, .int fg, .int fe])), (mk, .inl (cJ, 1263, .inr (.inl g)))] sz [.ref h0, .int (nI q)] (fun (r : Int32) (wZ : va_W) => wZ = [(h0, .inr (2, [.ref mk, .int fc, .int fl, .int fg, .int fe])), (mk, .inl (cJ, 1263, .inr (.inl g)))] ∧ r = nI (A0 q)) := by
  refine g_of (cc := cX1_markOf) (nL := 2) (ret := (some .int)) (D := D) (TY := (gTY cI cJ cO)) (df := df) (Qc := fun A => va_Qi (fun (r : Int32) (wZ : va_W) => wZ = [(h0, .inr (2, [.ref mk, .int fc, .int fl, .int fg, .int fe])), (mk, .inl (cJ, 1263, .inr (.inl g)))] ∧ r = nI (A0 q)) (gB D (gTY cI cJ cO) A) A) (by decide +kernel) rfl (Nat.le_of_ble_eq_true rfl) ?_
  intro p e s m below meth c ls A hsz C0 hin hl
  obtain ⟨CF, hr, hlk, hA, hS, hP, hK, hD, hV, hH⟩ := C0
  have CF : CallFix p m c cX1_markOf 2 s _ wsX1_markOf RX1 := CF
  obtain ⟨hx, hb, hml, hown, hts⟩ := id CF
  subst hsz
  have hconstant_RX1_51 : (Cond.constant RX1 51 (40401)).before _ s = true := hts _ (List.mem_of_getElem? (i := 1) rfl)
  have hfieldLink_RX1_9 : (Cond.fieldLink RX1 9 "TapLoom$CycleSearch" "marks" "[J").before _ s = true := hts _ (List.mem_of_getElem? (i := 2) rfl)
  have hmethodLink_RX1_80 : (Cond.methodLink RX1 80 yX1_shiftOf).before _ s = true := hts _ (List.mem_of_getElem? (i := 3) rfl)
  have inX1 : ∀ w ∈ u_ws RX1 TX1 5, w ∈ wsX1_markOf := fun w h => (List.mem_cons_of_mem _ (List.mem_append_right _ h))
  have hP : va_P D ccl [(h0, .inr (2, [.ref mk, .int fc, .int fl, .int fg, .int fe])), (mk, .inl (cJ, 1263, .inr (.inl g)))] s.heap := hP
  have hl : lv_has ls 2 [(0, .ref h0), (1, .int (nI q))] := hl
  refine lv_iload_n hx hb dX1_markOf_0 rfl (lv_at hl 1 rfl) ?_
  refine lv_if_lt (tgt := 10) hx hb dX1_markOf_1 (by decide) (fun c_1 => ?_) (fun c_1 => ?_)
  · have c_1 : q < 0 := g_lt (a := q) (b := 0) c_1 (by omega) (by omega)
    omega
  · have c_1 : 0 ≤ q := g_nlt (a := q) (b := 0) c_1 (by omega) (by omega)
    refine lv_iload_n hx hb dX1_markOf_4 rfl (lv_at hl 1 rfl) ?_
    refine lv_ldc (v := 40401) hx hb hown hconstant_RX1_51 dX1_markOf_5 ?_
    refine lv_icmp_lt (tgt := 12) hx hb dX1_markOf_7 (by decide) (fun c_7 => ?_) (fun c_7 => ?_)
    · have c_7 : q < 40401 := g_lt (a := q) (b := 40401) c_7 (by omega) (by omega)
      refine lv_aload_n hx hb dX1_markOf_12 rfl (lv_at hl 0 rfl) ?_
      refine va_get (D := D) (ci := 2) (v := .ref mk) (C := RX1) (T := TX1) (N := 5) hx hb hts inX1 hown hK hP 0 rfl rfl 0 (by decide) hfieldLink_RX1_9 (fun _ h9 => h9) rfl dX1_markOf_13 ?_
      refine lv_iload_n hx hb dX1_markOf_16 rfl (lv_at hl 1 rfl) ?_
      refine lv_bipush (v := 32) hx hb dX1_markOf_17 (by decide) ?_
      refine lv_idiv hx hb dX1_markOf_19 (by decide) ?_
      refine lv_topi (fun f ef => ?_)
      obtain rfl : f = nI (q / 32) := ef.trans (pk_div (a := q) (d := 32) (by omega) (by omega) (by omega))
      refine va_lald hx hb hK hP 1 1 rfl rfl (vp_in_nI (by omega) (by omega)) dX1_markOf_20 ?_
      refine lv_topl (fun f ef => ?_)
      obtain rfl : f = g (q / 32) := ef.trans (congrArg g (nI_clamp (n := q / 32) (by omega)))
      refine lv_iload_n hx hb dX1_markOf_21 rfl (lv_at hl 1 rfl) ?_
      have hPc : va_P D ccl [] s.heap := fun k q h => by simp at h
      have hDc : va_D A [] := ⟨fun i j p q h => by simp at h, fun k q h => by simp at h⟩
      have hFc := va_free (wc := []) hD hS hA [] rfl
      refine g_Si (As := [.int (nI q)]) (rest := [.long (g (q / 32))]) CF (c_X1_shiftOf l D cI cJ cO df s.heap.size q hq9) (va_cwS 1 hts gX1_markOf_X1_shiftOf rfl rfl rfl (by decide +kernel) ⟨Nat.le_of_ble_eq_true rfl, Nat.le_of_ble_eq_true rfl⟩)  hPc hK hDc hV hH hS hFc rfl hl.1 rfl (Nat.le_of_ble_eq_true rfl) dX1_markOf_22 ⟨Nat.le_of_ble_eq_true rfl, Nat.le_of_ble_eq_true rfl⟩ (fun r_22 w1 H1 locs1 hq hP1 hD1 hk hS hz => ?_)
      obtain ⟨rfl, hr_22⟩ := hq
      have hP := g_keep0 hP hk
      clear hPc hDc hFc hP1 hD1 hk hz
      generalize H1 = H at hP hS ⊢
      have hP : va_P D ccl [(h0, .inr (2, [.ref mk, .int fc, .int fl, .int fg, .int fe])), (mk, .inl (cJ, 1263, .inr (.inl g)))] H := hP
      have hD : va_D A [(h0, .inr (2, [.ref mk, .int fc, .int fl, .int fg, .int fe])), (mk, .inl (cJ, 1263, .inr (.inl g)))] := hD
      subst hr_22
      refine lv_lushr (v := ((g (q / 32)).toUInt64 >>> ((nI (q % 32 * 2)).toInt64.toUInt64 &&& Int64.toUInt64 63)).toInt64) hx hb dX1_markOf_25 rfl ?_
      refine lv_l2i (v := (((g (q / 32)).toUInt64 >>> ((nI (q % 32 * 2)).toInt64.toUInt64 &&& Int64.toUInt64 63)).toInt64).toInt32) hx hb dX1_markOf_26 rfl ?_
      refine lv_iconst (v := 3) hx hb dX1_markOf_27 (by decide) ?_
      refine lv_iand hx hb dX1_markOf_28 ?_
      refine lv_topi (fun f ef => ?_)
      obtain rfl : f = nI (A0 q) := ef.trans ((hM q hq9).1)
      refine g_iret (v := nI (A0 q)) hx hb hr hlk hP hK hD hS (Nat.le_of_ble_eq_true rfl) (Nat.le_of_ble_eq_true rfl) dX1_markOf_29 ?_
      exact ⟨rfl, (by first | rfl | (simp [c_1, c_7]; done))⟩
    · have c_7 : 40401 ≤ q := g_nlt (a := q) (b := 40401) c_7 (by omega) (by omega)
      omega

set_option maxHeartbeats 4000000 in
set_option maxRecDepth 100000 in
theorem c_X1_markOf_n (l : Launch) (D : va_G) (cI cJ cO : ClassId) (df sz : Nat) (h0 : Nat) (mk : Nat) (g : Nat → Int64) (fc : Int32) (fl : Int32) (fg : Int32) (fe : Int32)  : MetI l yX1_markOf wsX1_markOf ({ frames := 0, cells := 0, slots := 0, locals := 0 } : Room) D (gTY cI cJ cO) df [(h0, .inr (2, [.ref mk, .int fc, .int fl, .int fg, .int fe])), (mk, .inl (cJ, 1263, .inr (.inl g)))] sz [.ref h0, .int (-1)] (fun (r : Int32) (wZ : va_W) => wZ = [(h0, .inr (2, [.ref mk, .int fc, .int fl, .int fg, .int fe])), (mk, .inl (cJ, 1263, .inr (.inl g)))] ∧ r = 3) := by
  refine g_of (cc := cX1_markOf) (nL := 2) (ret := (some .int)) (D := D) (TY := (gTY cI cJ cO)) (df := df) (Qc := fun A => va_Qi (fun (r : Int32) (wZ : va_W) => wZ = [(h0, .inr (2, [.ref mk, .int fc, .int fl, .int fg, .int fe])), (mk, .inl (cJ, 1263, .inr (.inl g)))] ∧ r = 3) (gB D (gTY cI cJ cO) A) A) (by decide +kernel) rfl (Nat.le_of_ble_eq_true rfl) ?_
  intro p e s m below meth c ls A hsz C0 hin hl
  obtain ⟨CF, hr, hlk, hA, hS, hP, hK, hD, hV, hH⟩ := C0
  have CF : CallFix p m c cX1_markOf 2 s _ wsX1_markOf RX1 := CF
  obtain ⟨hx, hb, hml, hown, hts⟩ := id CF
  subst hsz
  have hP : va_P D ccl [(h0, .inr (2, [.ref mk, .int fc, .int fl, .int fg, .int fe])), (mk, .inl (cJ, 1263, .inr (.inl g)))] s.heap := hP
  have hl : lv_has ls 2 [(0, .ref h0), (1, .int (-1))] := hl
  refine lv_iload_n hx hb dX1_markOf_0 rfl (lv_at hl 1 rfl) ?_
  refine lv_if_lt (tgt := 10) hx hb dX1_markOf_1 (by decide) (fun c_1 => ?_) (fun c_1 => ?_)
  · refine lv_iconst (v := 3) hx hb dX1_markOf_10 (by decide) ?_
    refine g_iret (v := 3) hx hb hr hlk hP hK hD hS (Nat.le_of_ble_eq_true rfl) (Nat.le_of_ble_eq_true rfl) dX1_markOf_11 ?_
    exact ⟨rfl, rfl⟩
  · exact absurd c_1 (by decide)

set_option maxHeartbeats 4000000 in
set_option maxRecDepth 100000 in
theorem c_X1_mark (l : Launch) (D : va_G) (cI cJ cO : ClassId) (df sz : Nat) (h0 : Nat) (mk : Nat) (g : Nat → Int64) (fc : Int32) (fl : Int32) (fg : Int32) (fe : Int32) (q : Nat) (d : Nat) (A0 : Nat → Nat) (hq9 : q < 40401) (hd : d < 4) (hM : mkR g A0) : MetV l yX1_mark wsX1_mark ({ frames := 1, cells := 0, slots := 0, locals := 20 } : Room) D (gTY cI cJ cO) df [(h0, .inr (2, [.ref mk, .int fc, .int fl, .int fg, .int fe])), (mk, .inl (cJ, 1263, .inr (.inl g)))] sz [.ref h0, .int (nI q), .int (nI d)] (fun (wZ : va_W) => ∃ (g1 : Nat → Int64), wZ = [(h0, .inr (2, [.ref mk, .int fc, .int fl, .int fg, .int fe])), (mk, .inl (cJ, 1263, .inr (.inl g1)))] ∧ mkR g1 (fun z => if z = q then d else A0 z)) := by
  refine g_of (cc := cX1_mark) (nL := 5) (ret := none) (D := D) (TY := (gTY cI cJ cO)) (df := df) (Qc := fun A => va_Qv (fun (wZ : va_W) => ∃ (g1 : Nat → Int64), wZ = [(h0, .inr (2, [.ref mk, .int fc, .int fl, .int fg, .int fe])), (mk, .inl (cJ, 1263, .inr (.inl g1)))] ∧ mkR g1 (fun z => if z = q then d else A0 z)) (gB D (gTY cI cJ cO) A) A) (by decide +kernel) rfl (Nat.le_of_ble_eq_true rfl) ?_
  intro p e s m below meth c ls A hsz C0 hin hl
  obtain ⟨CF, hr, hlk, hA, hS, hP, hK, hD, hV, hH⟩ := C0
  have CF : CallFix p m c cX1_mark 5 s _ wsX1_mark RX1 := CF
  obtain ⟨hx, hb, hml, hown, hts⟩ := id CF
  subst hsz
  have hconstant_RX1_51 : (Cond.constant RX1 51 (40401)).before _ s = true := hts _ (List.mem_of_getElem? (i := 1) rfl)
  have hfieldLink_RX1_9 : (Cond.fieldLink RX1 9 "TapLoom$CycleSearch" "marks" "[J").before _ s = true := hts _ (List.mem_of_getElem? (i := 2) rfl)
  have hconstantLong_RX1_83 : (Cond.constantLong RX1 83 (3)).before _ s = true := hts _ (List.mem_of_getElem? (i := 3) rfl)
  have hmethodLink_RX1_80 : (Cond.methodLink RX1 80 yX1_shiftOf).before _ s = true := hts _ (List.mem_of_getElem? (i := 5) rfl)
  have hconstantLong_RX1_85 : (Cond.constantLong RX1 85 (-1)).before _ s = true := hts _ (List.mem_of_getElem? (i := 4) rfl)
  have inX1 : ∀ w ∈ u_ws RX1 TX1 5, w ∈ wsX1_mark := fun w h => (List.mem_cons_of_mem _ (List.mem_append_right _ h))
  have hP : va_P D ccl [(h0, .inr (2, [.ref mk, .int fc, .int fl, .int fg, .int fe])), (mk, .inl (cJ, 1263, .inr (.inl g)))] s.heap := hP
  have hl : lv_has ls 5 [(0, .ref h0), (1, .int (nI q)), (2, .int (nI d))] := hl
  refine lv_iload_n hx hb dX1_mark_0 rfl (lv_at hl 1 rfl) ?_
  refine lv_if_lt (tgt := 10) hx hb dX1_mark_1 (by decide) (fun c_1 => ?_) (fun c_1 => ?_)
  · have c_1 : q < 0 := g_lt (a := q) (b := 0) c_1 (by omega) (by omega)
    omega
  · have c_1 : 0 ≤ q := g_nlt (a := q) (b := 0) c_1 (by omega) (by omega)
    refine lv_iload_n hx hb dX1_mark_4 rfl (lv_at hl 1 rfl) ?_
    refine lv_ldc (v := 40401) hx hb hown hconstant_RX1_51 dX1_mark_5 ?_
    refine lv_icmp_lt (tgt := 11) hx hb dX1_mark_7 (by decide) (fun c_7 => ?_) (fun c_7 => ?_)
    · have c_7 : q < 40401 := g_lt (a := q) (b := 40401) c_7 (by omega) (by omega)
      refine lv_aload_n hx hb dX1_mark_11 rfl (lv_at hl 0 rfl) ?_
      refine va_get (D := D) (ci := 2) (v := .ref mk) (C := RX1) (T := TX1) (N := 5) hx hb hts inX1 hown hK hP 0 rfl rfl 0 (by decide) hfieldLink_RX1_9 (fun _ h9 => h9) rfl dX1_mark_12 ?_
      refine lv_iload_n hx hb dX1_mark_15 rfl (lv_at hl 1 rfl) ?_
      refine lv_bipush (v := 32) hx hb dX1_mark_16 (by decide) ?_
      refine lv_idiv hx hb dX1_mark_18 (by decide) ?_
      refine lv_topi (fun f ef => ?_)
      obtain rfl : f = nI (q / 32) := ef.trans (pk_div (a := q) (d := 32) (by omega) (by omega) (by omega))
      refine va_lald hx hb hK hP 1 1 rfl rfl (vp_in_nI (by omega) (by omega)) dX1_mark_19 ?_
      refine lv_topl (fun f ef => ?_)
      obtain rfl : f = g (q / 32) := ef.trans (congrArg g (nI_clamp (n := q / 32) (by omega)))
      refine lv_ldc2 (v := 3) hx hb hown hconstantLong_RX1_83 dX1_mark_20 ?_
      refine lv_iload_n hx hb dX1_mark_23 rfl (lv_at hl 1 rfl) ?_
      have hPc : va_P D ccl [] s.heap := fun k q h => by simp at h
      have hDc : va_D A [] := ⟨fun i j p q h => by simp at h, fun k q h => by simp at h⟩
      have hFc := va_free (wc := []) hD hS hA [] rfl
      refine g_Si (As := [.int (nI q)]) (rest := [.long 3, .long (g (q / 32))]) CF (c_X1_shiftOf l D cI cJ cO df s.heap.size q hq9) (va_cwS 1 hts gX1_mark_X1_shiftOf rfl rfl rfl (by decide +kernel) ⟨Nat.le_of_ble_eq_true rfl, Nat.le_of_ble_eq_true rfl⟩)  hPc hK hDc hV hH hS hFc rfl hl.1 rfl (Nat.le_of_ble_eq_true rfl) dX1_mark_24 ⟨Nat.le_of_ble_eq_true rfl, Nat.le_of_ble_eq_true rfl⟩ (fun r_24 w1 H1 locs1 hq hP1 hD1 hk hS hz => ?_)
      obtain ⟨rfl, hr_24⟩ := hq
      have hP := g_keep0 hP hk
      clear hPc hDc hFc hP1 hD1 hk hz
      generalize H1 = H at hP hS ⊢
      have hP : va_P D ccl [(h0, .inr (2, [.ref mk, .int fc, .int fl, .int fg, .int fe])), (mk, .inl (cJ, 1263, .inr (.inl g)))] H := hP
      have hD : va_D A [(h0, .inr (2, [.ref mk, .int fc, .int fl, .int fg, .int fe])), (mk, .inl (cJ, 1263, .inr (.inl g)))] := hD
      subst hr_24
      refine lv_lshl (v := 3 <<< ((nI (q % 32 * 2)).toInt64 &&& 63)) hx hb dX1_mark_27 rfl ?_
      refine lv_ldc2 (v := (-1)) hx hb hown hconstantLong_RX1_85 dX1_mark_28 ?_
      refine lv_lxor hx hb dX1_mark_31 ?_
      refine lv_land hx hb dX1_mark_32 ?_
      refine lv_lstore_n (lv' := [(3, .long ((g (q / 32)) &&& ((3 <<< ((nI (q % 32 * 2)).toInt64 &&& 63)) ^^^ (-1)))), (0, .ref h0), (1, .int (nI q)), (2, .int (nI d))]) hx hb dX1_mark_33 rfl hl (by decide) rfl (fun ls hl => ?_)
      refine lv_aload_n hx hb dX1_mark_34 rfl (lv_at hl 1 rfl) ?_
      refine va_get (D := D) (ci := 2) (v := .ref mk) (C := RX1) (T := TX1) (N := 5) hx hb hts inX1 hown hK hP 0 rfl rfl 0 (by decide) hfieldLink_RX1_9 (fun _ h9 => h9) rfl dX1_mark_35 ?_
      refine lv_iload_n hx hb dX1_mark_38 rfl (lv_at hl 2 rfl) ?_
      refine lv_bipush (v := 32) hx hb dX1_mark_39 (by decide) ?_
      refine lv_idiv hx hb dX1_mark_41 (by decide) ?_
      refine lv_topi (fun f ef => ?_)
      obtain rfl : f = nI (q / 32) := ef.trans (pk_div (a := q) (d := 32) (by omega) (by omega) (by omega))
      refine lv_lload_n hx hb dX1_mark_42 rfl (lv_at hl 0 rfl) ?_
      refine lv_iload_n hx hb dX1_mark_43 rfl (lv_at hl 3 rfl) ?_
      refine lv_i2l (v := (nI d).toInt64) hx hb dX1_mark_44 rfl ?_
      refine lv_iload_n hx hb dX1_mark_45 rfl (lv_at hl 2 rfl) ?_
      have hPc : va_P D ccl [] H := fun k q h => by simp at h
      have hDc : va_D A [] := ⟨fun i j p q h => by simp at h, fun k q h => by simp at h⟩
      have hFc := va_free (wc := []) hD hS hA [] rfl
      refine g_Si (As := [.int (nI q)]) (rest := [.long ((nI d).toInt64), .long ((g (q / 32)) &&& ((3 <<< ((nI (q % 32 * 2)).toInt64 &&& 63)) ^^^ (-1))), .int (nI (q / 32)), .ref mk]) CF (c_X1_shiftOf l D cI cJ cO df H.size q hq9) (va_cwS 1 hts gX1_mark_X1_shiftOf rfl rfl rfl (by decide +kernel) ⟨Nat.le_of_ble_eq_true rfl, Nat.le_of_ble_eq_true rfl⟩)  hPc hK hDc hV hH hS hFc rfl hl.1 rfl (Nat.le_of_ble_eq_true rfl) dX1_mark_46 ⟨Nat.le_of_ble_eq_true rfl, Nat.le_of_ble_eq_true rfl⟩ (fun r_46 w1 H1 locs1 hq hP1 hD1 hk hS hz => ?_)
      obtain ⟨rfl, hr_46⟩ := hq
      have hP := g_keep0 hP hk
      clear hPc hDc hFc hP1 hD1 hk hz
      generalize H1 = H at hP hS ⊢
      have hP : va_P D ccl [(h0, .inr (2, [.ref mk, .int fc, .int fl, .int fg, .int fe])), (mk, .inl (cJ, 1263, .inr (.inl g)))] H := hP
      have hD : va_D A [(h0, .inr (2, [.ref mk, .int fc, .int fl, .int fg, .int fe])), (mk, .inl (cJ, 1263, .inr (.inl g)))] := hD
      subst hr_46
      refine lv_lshl (v := ((nI d).toInt64) <<< ((nI (q % 32 * 2)).toInt64 &&& 63)) hx hb dX1_mark_49 rfl ?_
      refine lv_lor hx hb dX1_mark_50 ?_
      refine va_last hx hb hK hP hD hS 1 1 rfl rfl (vp_in_nI (by omega) (by omega)) dX1_mark_51 (fun H locs hP hD hS => ?_)
      rw [show (nI (q / 32)).toNatClampNeg = q / 32 from (nI_clamp (by omega))] at hP hD
      rw [show vp_updL g (q / 32) (((g (q / 32)) &&& ((3 <<< ((nI (q % 32 * 2)).toInt64 &&& 63)) ^^^ (-1))) ||| (((nI d).toInt64) <<< ((nI (q % 32 * 2)).toInt64 &&& 63))) = vp_updL g (q / 32) (mst (g (q / 32)) (nI (q % 32 * 2)) (nI d)) from rfl] at hP hD
      have hP : va_P D ccl [(h0, .inr (2, [.ref mk, .int fc, .int fl, .int fg, .int fe])), (mk, .inl (cJ, 1263, .inr (.inl (vp_updL g (q / 32) (mst (g (q / 32)) (nI (q % 32 * 2)) (nI d))))))] H := hP
      have hD : va_D A [(h0, .inr (2, [.ref mk, .int fc, .int fl, .int fg, .int fe])), (mk, .inl (cJ, 1263, .inr (.inl (vp_updL g (q / 32) (mst (g (q / 32)) (nI (q % 32 * 2)) (nI d))))))] := hD
      refine g_vret hx hb hr hlk hP hK hD hS (Nat.le_of_ble_eq_true rfl) (Nat.le_of_ble_eq_true rfl) dX1_mark_52 ?_
      exact ⟨_, rfl, mkR_set hM hd⟩
    · have c_7 : 40401 ≤ q := g_nlt (a := q) (b := 40401) c_7 (by omega) (by omega)
      omega

set_option maxHeartbeats 4000000 in
set_option maxRecDepth 100000 in
theorem c_X1_next (l : Launch) (D : va_G) (cI cJ cO : ClassId) (df sz : Nat) (hs : Nat) (sb : Nat) (nu : Int32) (x1 : Int32) (x2 : Int32) (y1 : Int32) (y2 : Int32) (mc : Nat → Int32) (mw : Nat → Int32) (J : Nat) (q : Nat) (hJ : J < 8) (hc : isC mc) (hw : isW (mw J)) (hq9 : q < 40401) : MetI l yX1_next wsX1_next ({ frames := 3, cells := 0, slots := 0, locals := 67 } : Room) D (gTY cI cJ cO) df [(hs, .inr (5, [.int nu, .int (mw J), .ref sb, .int x1, .int x2, .int y1, .int y2])), (sb, .inl (cI, 5, .inl (fun z9 => if z9 < 5 then mc (5 * J + z9) else 0)))] sz [.ref hs, .int (nI q)] (fun (r : Int32) (wZ : va_W) => wZ = [(hs, .inr (5, [.int nu, .int (mw J), .ref sb, .int x1, .int x2, .int y1, .int y2])), (sb, .inl (cI, 5, .inl (fun z9 => if z9 < 5 then mc (5 * J + z9) else 0)))] ∧ r = oI (nxO mc mw J q)) := by
  refine g_of (cc := cX1_next) (nL := 3) (ret := (some .int)) (D := D) (TY := (gTY cI cJ cO)) (df := df) (Qc := fun A => va_Qi (fun (r : Int32) (wZ : va_W) => wZ = [(hs, .inr (5, [.int nu, .int (mw J), .ref sb, .int x1, .int x2, .int y1, .int y2])), (sb, .inl (cI, 5, .inl (fun z9 => if z9 < 5 then mc (5 * J + z9) else 0)))] ∧ r = oI (nxO mc mw J q)) (gB D (gTY cI cJ cO) A) A) (by decide +kernel) rfl (Nat.le_of_ble_eq_true rfl) ?_
  intro p e s m below meth c ls A hsz C0 hin hl
  obtain ⟨CF, hr, hlk, hA, hS, hP, hK, hD, hV, hH⟩ := C0
  have CF : CallFix p m c cX1_next 3 s _ wsX1_next RX1 := CF
  obtain ⟨hx, hb, hml, hown, hts⟩ := id CF
  subst hsz
  have hmethodLink_RX1_60 : (Cond.methodLink RX1 60 yX1_lastOf).before _ s = true := hts _ (List.mem_of_getElem? (i := 1) rfl)
  have hmethodLink_RX1_71 : (Cond.methodLink RX1 71 yX1_aheadOf).before _ s = true := hts _ (List.mem_of_getElem? (i := 5) rfl)
  have hmethodLink_RX1_74 : (Cond.methodLink RX1 74 yX4_outputFrom).before _ s = true := hts _ (List.mem_of_getElem? (i := 8) rfl)
  have hmethodLink_RX1_32 : (Cond.methodLink RX1 32 yX1_stateOf).before _ s = true := hts _ (List.mem_of_getElem? (i := 30) rfl)
  have hP : va_P D ccl [(hs, .inr (5, [.int nu, .int (mw J), .ref sb, .int x1, .int x2, .int y1, .int y2])), (sb, .inl (cI, 5, .inl (fun z9 => if z9 < 5 then mc (5 * J + z9) else 0)))] s.heap := hP
  have hl : lv_has ls 3 [(0, .ref hs), (1, .int (nI q))] := hl
  refine lv_iload_n hx hb dX1_next_0 rfl (lv_at hl 1 rfl) ?_
  have hPc : va_P D ccl [] s.heap := fun k q h => by simp at h
  have hDc : va_D A [] := ⟨fun i j p q h => by simp at h, fun k q h => by simp at h⟩
  have hFc := va_free (wc := []) hD hS hA [] rfl
  refine g_Si (As := [.int (nI q)]) (rest := []) CF (c_X1_lastOf l D cI cJ cO df s.heap.size q hq9) (va_cwS 1 hts gX1_next_X1_lastOf rfl rfl rfl (by decide +kernel) ⟨Nat.le_of_ble_eq_true rfl, Nat.le_of_ble_eq_true rfl⟩)  hPc hK hDc hV hH hS hFc rfl hl.1 rfl (Nat.le_of_ble_eq_true rfl) dX1_next_1 ⟨Nat.le_of_ble_eq_true rfl, Nat.le_of_ble_eq_true rfl⟩ (fun r_1 w1 H1 locs1 hq hP1 hD1 hk hS hz => ?_)
  obtain ⟨rfl, hr_1⟩ := hq
  have hP := g_keep0 hP hk
  clear hPc hDc hFc hP1 hD1 hk hz
  generalize H1 = H at hP hS ⊢
  have hP : va_P D ccl [(hs, .inr (5, [.int nu, .int (mw J), .ref sb, .int x1, .int x2, .int y1, .int y2])), (sb, .inl (cI, 5, .inl (fun z9 => if z9 < 5 then mc (5 * J + z9) else 0)))] H := hP
  have hD : va_D A [(hs, .inr (5, [.int nu, .int (mw J), .ref sb, .int x1, .int x2, .int y1, .int y2])), (sb, .inl (cI, 5, .inl (fun z9 => if z9 < 5 then mc (5 * J + z9) else 0)))] := hD
  subst hr_1
  refine lv_istore_n (lv' := [(2, .int (nI (q / 201) - 100)), (0, .ref hs), (1, .int (nI q))]) hx hb dX1_next_4 rfl hl (by decide) rfl (fun ls hl => ?_)
  refine lv_aload_n hx hb dX1_next_5 rfl (lv_at hl 1 rfl) ?_
  refine lv_iconst (v := 0) hx hb dX1_next_6 (by decide) ?_
  refine lv_iload_n hx hb dX1_next_7 rfl (lv_at hl 0 rfl) ?_
  refine lv_iload_n hx hb dX1_next_8 rfl (lv_at hl 2 rfl) ?_
  have hPc : va_P D ccl [] H := fun k q h => by simp at h
  have hDc : va_D A [] := ⟨fun i j p q h => by simp at h, fun k q h => by simp at h⟩
  have hFc := va_free (wc := []) hD hS hA [] rfl
  refine g_Si (As := [.int (nI q)]) (rest := [.int (nI (q / 201) - 100), .int 0, .ref hs]) CF (c_X1_aheadOf l D cI cJ cO df H.size q hq9) (va_cwS 1 hts gX1_next_X1_aheadOf rfl rfl rfl (by decide +kernel) ⟨Nat.le_of_ble_eq_true rfl, Nat.le_of_ble_eq_true rfl⟩)  hPc hK hDc hV hH hS hFc rfl hl.1 rfl (Nat.le_of_ble_eq_true rfl) dX1_next_9 ⟨Nat.le_of_ble_eq_true rfl, Nat.le_of_ble_eq_true rfl⟩ (fun r_9 w1 H1 locs1 hq hP1 hD1 hk hS hz => ?_)
  obtain ⟨rfl, hr_9⟩ := hq
  have hP := g_keep0 hP hk
  clear hPc hDc hFc hP1 hD1 hk hz
  generalize H1 = H at hP hS ⊢
  have hP : va_P D ccl [(hs, .inr (5, [.int nu, .int (mw J), .ref sb, .int x1, .int x2, .int y1, .int y2])), (sb, .inl (cI, 5, .inl (fun z9 => if z9 < 5 then mc (5 * J + z9) else 0)))] H := hP
  have hD : va_D A [(hs, .inr (5, [.int nu, .int (mw J), .ref sb, .int x1, .int x2, .int y1, .int y2])), (sb, .inl (cI, 5, .inl (fun z9 => if z9 < 5 then mc (5 * J + z9) else 0)))] := hD
  subst hr_9
  have hPc := hP.sub (ws' := [(hs, .inr (5, [.int nu, .int (mw J), .ref sb, .int x1, .int x2, .int y1, .int y2])), (sb, .inl (cI, 5, .inl (fun z9 => if z9 < 5 then mc (5 * J + z9) else 0)))]) [0, 1] rfl
  have hDc := hD.sub (ws' := [(hs, .inr (5, [.int nu, .int (mw J), .ref sb, .int x1, .int x2, .int y1, .int y2])), (sb, .inl (cI, 5, .inl (fun z9 => if z9 < 5 then mc (5 * J + z9) else 0)))]) [0, 1] (by decide) rfl
  have hFc := va_free (wc := [(hs, .inr (5, [.int nu, .int (mw J), .ref sb, .int x1, .int x2, .int y1, .int y2])), (sb, .inl (cI, 5, .inl (fun z9 => if z9 < 5 then mc (5 * J + z9) else 0)))]) hD hS hA [0, 1] rfl
  refine g_Vi (As := [.int 0, .int (nI (q / 201) - 100), .int (nI (q % 201) - 100)]) (rest := []) CF (c_X4_outputFrom l D cI cJ cO df H.size hs sb nu (mw J) x1 x2 y1 y2 (fun z9 => if z9 < 5 then mc (5 * J + z9) else 0) 0 (nI (q / 201) - 100) (nI (q % 201) - 100) ) (cwV 3 hts gX1_next_X4_outputFrom rfl rfl rfl (by decide +kernel) ⟨Nat.le_of_ble_eq_true rfl, Nat.le_of_ble_eq_true rfl⟩) (va_recv hK hP (ci := 5) (q0 := 0) rfl rfl) hPc hK hDc hV hH hS hFc rfl hl.1 rfl (Nat.le_of_ble_eq_true rfl) dX1_next_12 ⟨Nat.le_of_ble_eq_true rfl, Nat.le_of_ble_eq_true rfl⟩ (fun r_12 w1 H1 locs1 hq hP1 hD1 hk hS hz => ?_)
  obtain ⟨rfl, hr_12⟩ := hq
  have hP := g_keepR hP hD [0, 1] rfl hk hP1
  clear hPc hDc hFc hP1 hD1 hk hz
  generalize H1 = H at hP hS ⊢
  have hP : va_P D ccl [(hs, .inr (5, [.int nu, .int (mw J), .ref sb, .int x1, .int x2, .int y1, .int y2])), (sb, .inl (cI, 5, .inl (fun z9 => if z9 < 5 then mc (5 * J + z9) else 0)))] H := hP
  have hD : va_D A [(hs, .inr (5, [.int nu, .int (mw J), .ref sb, .int x1, .int x2, .int y1, .int y2])), (sb, .inl (cI, 5, .inl (fun z9 => if z9 < 5 then mc (5 * J + z9) else 0)))] := hD
  subst hr_12
  refine lv_topi (fun f ef => ?_)
  obtain rfl : f = nyI mc mw J q := ef.trans (nyC_eq hJ hc hw hq9)
  refine lv_iload_n hx hb dX1_next_15 rfl (lv_at hl 0 rfl) ?_
  have hPc : va_P D ccl [] H := fun k q h => by simp at h
  have hDc : va_D A [] := ⟨fun i j p q h => by simp at h, fun k q h => by simp at h⟩
  have hFc := va_free (wc := []) hD hS hA [] rfl
  refine g_Si (As := [.int (nyI mc mw J q), .int (nI (q / 201) - 100)]) (rest := []) CF (c_X1_stateOf l D cI cJ cO df H.size (nyI mc mw J q) (nI (q / 201) - 100) ) (va_cwS 2 hts gX1_next_X1_stateOf rfl rfl rfl (by decide +kernel) ⟨Nat.le_of_ble_eq_true rfl, Nat.le_of_ble_eq_true rfl⟩)  hPc hK hDc hV hH hS hFc rfl hl.1 rfl (Nat.le_of_ble_eq_true rfl) dX1_next_16 ⟨Nat.le_of_ble_eq_true rfl, Nat.le_of_ble_eq_true rfl⟩ (fun r_16 w1 H1 locs1 hq hP1 hD1 hk hS hz => ?_)
  obtain ⟨rfl, hr_16⟩ := hq
  have hP := g_keep0 hP hk
  clear hPc hDc hFc hP1 hD1 hk hz
  generalize H1 = H at hP hS ⊢
  have hP : va_P D ccl [(hs, .inr (5, [.int nu, .int (mw J), .ref sb, .int x1, .int x2, .int y1, .int y2])), (sb, .inl (cI, 5, .inl (fun z9 => if z9 < 5 then mc (5 * J + z9) else 0)))] H := hP
  have hD : va_D A [(hs, .inr (5, [.int nu, .int (mw J), .ref sb, .int x1, .int x2, .int y1, .int y2])), (sb, .inl (cI, 5, .inl (fun z9 => if z9 < 5 then mc (5 * J + z9) else 0)))] := hD
  subst hr_16
  refine lv_topi (fun f ef => ?_)
  obtain rfl : f = oI (nxO mc mw J q) := ef.trans (stC_next hq9)
  refine g_iret (v := oI (nxO mc mw J q)) hx hb hr hlk hP hK hD hS (Nat.le_of_ble_eq_true rfl) (Nat.le_of_ble_eq_true rfl) dX1_next_19 ?_
  exact ⟨rfl, rfl⟩

set_option maxHeartbeats 4000000 in
set_option maxRecDepth 100000 in
theorem c_X1_walk (l : Launch) (D : va_G) (cI cJ cO : ClassId) (df sz : Nat) (h0 : Nat) (mk : Nat) (g : Nat → Int64) (fc : Int32) (fl : Int32) (fg : Int32) (fe : Int32) (hs : Nat) (sb : Nat) (nu : Int32) (x1 : Int32) (x2 : Int32) (y1 : Int32) (y2 : Int32) (mc : Nat → Int32) (mw : Nat → Int32) (J : Nat) (st : Nat) (A1 : Nat → Nat) (hJ : J < 8) (hc : isC mc) (hw : isW (mw J)) (hst : st < 40401) (hM0 : mkR g A1) : MetI l yX1_walk wsX1_walk ({ frames := 4, cells := 0, slots := 0, locals := 89 } : Room) D (gTY cI cJ cO) df [(h0, .inr (2, [.ref mk, .int fc, .int fl, .int fg, .int fe])), (mk, .inl (cJ, 1263, .inr (.inl g))), (hs, .inr (5, [.int nu, .int (mw J), .ref sb, .int x1, .int x2, .int y1, .int y2])), (sb, .inl (cI, 5, .inl (fun z9 => if z9 < 5 then mc (5 * J + z9) else 0)))] sz [.ref h0, .ref hs, .int (nI st), .int 0, .int 1] (fun (r : Int32) (wZ : va_W) => ∃ (g1 : Nat → Int64), wZ = [(h0, .inr (2, [.ref mk, .int fc, .int fl, .int fg, .int fe])), (mk, .inl (cJ, 1263, .inr (.inl g1))), (hs, .inr (5, [.int nu, .int (mw J), .ref sb, .int x1, .int x2, .int y1, .int y2])), (sb, .inl (cI, 5, .inl (fun z9 => if z9 < 5 then mc (5 * J + z9) else 0)))] ∧ ∃ n, stp (nxO mc mw J) A1 st n ∧ r = oI (tr (nxO mc mw J) st n) ∧ mkR g1 (amk (nxO mc mw J) st A1 1 n)) := by
  refine g_of (cc := cX1_walk) (nL := 7) (ret := (some .int)) (D := D) (TY := (gTY cI cJ cO)) (df := df) (Qc := fun A => va_Qi (fun (r : Int32) (wZ : va_W) => ∃ (g1 : Nat → Int64), wZ = [(h0, .inr (2, [.ref mk, .int fc, .int fl, .int fg, .int fe])), (mk, .inl (cJ, 1263, .inr (.inl g1))), (hs, .inr (5, [.int nu, .int (mw J), .ref sb, .int x1, .int x2, .int y1, .int y2])), (sb, .inl (cI, 5, .inl (fun z9 => if z9 < 5 then mc (5 * J + z9) else 0)))] ∧ ∃ n, stp (nxO mc mw J) A1 st n ∧ r = oI (tr (nxO mc mw J) st n) ∧ mkR g1 (amk (nxO mc mw J) st A1 1 n)) (gB D (gTY cI cJ cO) A) A) (by decide +kernel) rfl (Nat.le_of_ble_eq_true rfl) ?_
  intro p e s m below meth c ls A hsz C0 hin hl
  obtain ⟨CF, hr, hlk, hA, hS, hP, hK, hD, hV, hH⟩ := C0
  have CF : CallFix p m c cX1_walk 7 s _ wsX1_walk RX1 := CF
  obtain ⟨hx, hb, hml, hown, hts⟩ := id CF
  subst hsz
  have hconstant_RX1_51 : (Cond.constant RX1 51 (40401)).before _ s = true := hts _ (List.mem_of_getElem? (i := 1) rfl)
  have hmethodLink_RX1_44 : (Cond.methodLink RX1 44 yX1_markOf).before _ s = true := hts _ (List.mem_of_getElem? (i := 2) rfl)
  have hmethodLink_RX1_52 : (Cond.methodLink RX1 52 yX1_mark).before _ s = true := hts _ (List.mem_of_getElem? (i := 11) rfl)
  have hmethodLink_RX1_56 : (Cond.methodLink RX1 56 yX1_next).before _ s = true := hts _ (List.mem_of_getElem? (i := 17) rfl)
  have hP : va_P D ccl [(h0, .inr (2, [.ref mk, .int fc, .int fl, .int fg, .int fe])), (mk, .inl (cJ, 1263, .inr (.inl g))), (hs, .inr (5, [.int nu, .int (mw J), .ref sb, .int x1, .int x2, .int y1, .int y2])), (sb, .inl (cI, 5, .inl (fun z9 => if z9 < 5 then mc (5 * J + z9) else 0)))] s.heap := hP
  have hl : lv_has ls 7 [(0, .ref h0), (1, .ref hs), (2, .int (nI st)), (3, .int 0), (4, .int 1)] := hl
  have hX : ∀ q t, q < 40401 → nxO mc mw J q = some t → t < 40401 := fun q t h1 h2 => nxO_lt h1 h2
  refine lv_iload_n hx hb dX1_walk_0 rfl (lv_at hl 2 rfl) ?_
  refine lv_istore (lv' := [(5, .int (nI st)), (0, .ref h0), (1, .ref hs), (2, .int (nI st)), (3, .int 0), (4, .int 1)]) hx hb dX1_walk_1 hl (by decide) rfl (fun ls hl => ?_)
  refine lv_iconst (v := 0) hx hb dX1_walk_3 (by decide) ?_
  refine lv_istore (lv' := [(6, .int 0), (5, .int (nI st)), (0, .ref h0), (1, .ref hs), (2, .int (nI st)), (3, .int 0), (4, .int 1)]) hx hb dX1_walk_4 hl (by decide) rfl (fun ls hl => ?_)
  refine W.widen (k := 0) (n := 0) (Nat.le_refl _) (Nat.le_refl _) ?_
  refine g_while (σ := Nat × (Nat → Int64)) (st := []) (nL := 7) (fun z => match z with | (k, g2) => [(h0, .inr (2, [.ref mk, .int fc, .int fl, .int fg, .int fe])), (mk, .inl (cJ, 1263, .inr (.inl g2))), (hs, .inr (5, [.int nu, .int (mw J), .ref sb, .int x1, .int x2, .int y1, .int y2])), (sb, .inl (cI, 5, .inl (fun z9 => if z9 < 5 then mc (5 * J + z9) else 0)))])
    (fun z => match z with | (k, g2) => [(0, .ref h0), (1, .ref hs), (2, .int (nI st)), (3, .int 0), (4, .int 1), (5, .int (oI (tr (nxO mc mw J) st k))), (6, .int (nI k))])
    (fun z => match z with | (k, g2) => wayN (nxO mc mw J) A1 st k ∧ mkR g2 (amk (nxO mc mw J) st A1 1 k))
    (fun z => match z with | (k, g2) => 40402 - k) (fun z => match z with | (k, g2) => 0) (fun z => match z with | (k, g2) => 0)
    ?_ (0, g) ⟨wayN_0, hM0⟩ hP hD hS (lv_sub hl [2, 3, 4, 5, 6, 1, 0] rfl)
  rintro ⟨k, g2⟩ hI H locs ls hP hD hS hl ih
  have hI : wayN (nxO mc mw J) A1 st k ∧ mkR g2 (amk (nxO mc mw J) st A1 1 k) := hI
  have hP : va_P D ccl [(h0, .inr (2, [.ref mk, .int fc, .int fl, .int fg, .int fe])), (mk, .inl (cJ, 1263, .inr (.inl g2))), (hs, .inr (5, [.int nu, .int (mw J), .ref sb, .int x1, .int x2, .int y1, .int y2])), (sb, .inl (cI, 5, .inl (fun z9 => if z9 < 5 then mc (5 * J + z9) else 0)))] H := hP
  have hD : va_D A [(h0, .inr (2, [.ref mk, .int fc, .int fl, .int fg, .int fe])), (mk, .inl (cJ, 1263, .inr (.inl g2))), (hs, .inr (5, [.int nu, .int (mw J), .ref sb, .int x1, .int x2, .int y1, .int y2])), (sb, .inl (cI, 5, .inl (fun z9 => if z9 < 5 then mc (5 * J + z9) else 0)))] := hD
  have hl : lv_has ls 7 [(0, .ref h0), (1, .ref hs), (2, .int (nI st)), (3, .int 0), (4, .int 1), (5, .int (oI (tr (nxO mc mw J) st k))), (6, .int (nI k))] := hl
  change W p l e _ s m _ below meth c H locs 0 0 _ (F0 m 6 ls [])
  have ih_6 := ih
  clear ih
  obtain ⟨hw9, hM⟩ := hI
  have hn9 := wayN_le hX hst hw9
  refine lv_iload hx hb dX1_walk_6 (lv_at hl 6 rfl) ?_
  refine lv_ldc (v := 40401) hx hb hown hconstant_RX1_51 dX1_walk_8 ?_
  refine lv_icmp_gt (tgt := 45) hx hb dX1_walk_10 (by decide) (fun c_10 => ?_) (fun c_10 => ?_)
  · have c_10 : 40401 < k := g_lt (a := 40401) (b := k) c_10 (by omega) (by omega)
    omega
  · have c_10 : k ≤ 40401 := g_nlt (a := 40401) (b := k) c_10 (by omega) (by omega)
    by_cases hnone : tr (nxO mc mw J) st k = none
    · have hl : lv_has ls 7 [(0, .ref h0), (1, .ref hs), (2, .int (nI st)), (3, .int 0), (4, .int 1), (5, .int (-1)), (6, .int (nI k))] := by rw [hnone] at hl; exact hl
      refine lv_aload_n hx hb dX1_walk_13 rfl (lv_at hl 0 rfl) ?_
      refine lv_iload hx hb dX1_walk_14 (lv_at hl 5 rfl) ?_
      have hPc := hP.sub (ws' := [(h0, .inr (2, [.ref mk, .int fc, .int fl, .int fg, .int fe])), (mk, .inl (cJ, 1263, .inr (.inl g2)))]) [0, 1] rfl
      have hDc := hD.sub (ws' := [(h0, .inr (2, [.ref mk, .int fc, .int fl, .int fg, .int fe])), (mk, .inl (cJ, 1263, .inr (.inl g2)))]) [0, 1] (by decide) rfl
      have hFc := va_free (wc := [(h0, .inr (2, [.ref mk, .int fc, .int fl, .int fg, .int fe])), (mk, .inl (cJ, 1263, .inr (.inl g2)))]) hD hS hA [0, 1] rfl
      refine g_Vi (As := [.int (-1)]) (rest := []) CF (c_X1_markOf_n l D cI cJ cO df H.size h0 mk g2 fc fl fg fe ) (cwV 1 hts gX1_walk_X1_markOf rfl rfl rfl (by decide +kernel) ⟨Nat.le_of_ble_eq_true rfl, Nat.le_of_ble_eq_true rfl⟩) (va_recv hK hP (ci := 2) (q0 := 0) rfl rfl) hPc hK hDc hV hH hS hFc rfl hl.1 rfl (Nat.le_of_ble_eq_true rfl) dX1_walk_16 ⟨Nat.le_of_ble_eq_true rfl, Nat.le_of_ble_eq_true rfl⟩ (fun r_16 w1 H1 locs1 hq hP1 hD1 hk hS hz => ?_)
      obtain ⟨rfl, hr_16⟩ := hq
      have hP := g_keepR hP hD [0, 1] rfl hk hP1
      clear hPc hDc hFc hP1 hD1 hk hz
      generalize H1 = H at hP hS ⊢
      have hP : va_P D ccl [(h0, .inr (2, [.ref mk, .int fc, .int fl, .int fg, .int fe])), (mk, .inl (cJ, 1263, .inr (.inl g2))), (hs, .inr (5, [.int nu, .int (mw J), .ref sb, .int x1, .int x2, .int y1, .int y2])), (sb, .inl (cI, 5, .inl (fun z9 => if z9 < 5 then mc (5 * J + z9) else 0)))] H := hP
      have hD : va_D A [(h0, .inr (2, [.ref mk, .int fc, .int fl, .int fg, .int fe])), (mk, .inl (cJ, 1263, .inr (.inl g2))), (hs, .inr (5, [.int nu, .int (mw J), .ref sb, .int x1, .int x2, .int y1, .int y2])), (sb, .inl (cI, 5, .inl (fun z9 => if z9 < 5 then mc (5 * J + z9) else 0)))] := hD
      subst hr_16
      refine lv_iload_n hx hb dX1_walk_19 rfl (lv_at hl 3 rfl) ?_
      refine lv_icmp_ne (tgt := 45) hx hb dX1_walk_20 (by decide) (fun c_20 => ?_) (fun c_20 => ?_)
      · refine lv_iload hx hb dX1_walk_45 (lv_at hl 5 rfl) ?_
        refine g_iret (v := (-1)) hx hb hr hlk hP hK hD hS (Nat.le_of_ble_eq_true rfl) (Nat.le_of_ble_eq_true rfl) dX1_walk_47 ?_
        exact ⟨_, rfl, k, ⟨hw9, fun a9 h9 => by rw [hnone] at h9; cases h9⟩, by rw [hnone]; rfl, hM⟩
      · exact absurd c_20 (by decide)
    · obtain ⟨a, ha⟩ := Option.ne_none_iff_exists'.mp hnone
      have hal : a < 40401 := tr_lt hX hst k a ha
      have hl : lv_has ls 7 [(0, .ref h0), (1, .ref hs), (2, .int (nI st)), (3, .int 0), (4, .int 1), (5, .int (nI a)), (6, .int (nI k))] := by rw [ha] at hl; exact hl
      refine lv_aload_n hx hb dX1_walk_13 rfl (lv_at hl 0 rfl) ?_
      refine lv_iload hx hb dX1_walk_14 (lv_at hl 5 rfl) ?_
      have hPc := hP.sub (ws' := [(h0, .inr (2, [.ref mk, .int fc, .int fl, .int fg, .int fe])), (mk, .inl (cJ, 1263, .inr (.inl g2)))]) [0, 1] rfl
      have hDc := hD.sub (ws' := [(h0, .inr (2, [.ref mk, .int fc, .int fl, .int fg, .int fe])), (mk, .inl (cJ, 1263, .inr (.inl g2)))]) [0, 1] (by decide) rfl
      have hFc := va_free (wc := [(h0, .inr (2, [.ref mk, .int fc, .int fl, .int fg, .int fe])), (mk, .inl (cJ, 1263, .inr (.inl g2)))]) hD hS hA [0, 1] rfl
      refine g_Vi (As := [.int (nI a)]) (rest := []) CF (c_X1_markOf l D cI cJ cO df H.size h0 mk g2 fc fl fg fe a (amk (nxO mc mw J) st A1 1 k) hal hM) (cwV 1 hts gX1_walk_X1_markOf rfl rfl rfl (by decide +kernel) ⟨Nat.le_of_ble_eq_true rfl, Nat.le_of_ble_eq_true rfl⟩) (va_recv hK hP (ci := 2) (q0 := 0) rfl rfl) hPc hK hDc hV hH hS hFc rfl hl.1 rfl (Nat.le_of_ble_eq_true rfl) dX1_walk_16 ⟨Nat.le_of_ble_eq_true rfl, Nat.le_of_ble_eq_true rfl⟩ (fun r_16 w1 H1 locs1 hq hP1 hD1 hk hS hz => ?_)
      obtain ⟨rfl, hr_16⟩ := hq
      have hP := g_keepR hP hD [0, 1] rfl hk hP1
      clear hPc hDc hFc hP1 hD1 hk hz
      generalize H1 = H at hP hS ⊢
      have hP : va_P D ccl [(h0, .inr (2, [.ref mk, .int fc, .int fl, .int fg, .int fe])), (mk, .inl (cJ, 1263, .inr (.inl g2))), (hs, .inr (5, [.int nu, .int (mw J), .ref sb, .int x1, .int x2, .int y1, .int y2])), (sb, .inl (cI, 5, .inl (fun z9 => if z9 < 5 then mc (5 * J + z9) else 0)))] H := hP
      have hD : va_D A [(h0, .inr (2, [.ref mk, .int fc, .int fl, .int fg, .int fe])), (mk, .inl (cJ, 1263, .inr (.inl g2))), (hs, .inr (5, [.int nu, .int (mw J), .ref sb, .int x1, .int x2, .int y1, .int y2])), (sb, .inl (cI, 5, .inl (fun z9 => if z9 < 5 then mc (5 * J + z9) else 0)))] := hD
      subst hr_16
      have hb4 := (hM a hal).2
      refine lv_iload_n hx hb dX1_walk_19 rfl (lv_at hl 3 rfl) ?_
      refine lv_icmp_ne (tgt := 45) hx hb dX1_walk_20 (by decide) (fun c_20 => ?_) (fun c_20 => ?_)
      · have c_20 : (amk (nxO mc mw J) st A1 1 k) a ≠ 0 := g_ne (a := (amk (nxO mc mw J) st A1 1 k) a) (b := 0) c_20 (by omega) (by omega)
        refine lv_iload hx hb dX1_walk_45 (lv_at hl 5 rfl) ?_
        refine g_iret (v := nI a) hx hb hr hlk hP hK hD hS (Nat.le_of_ble_eq_true rfl) (Nat.le_of_ble_eq_true rfl) dX1_walk_47 ?_
        exact ⟨_, rfl, k, ⟨hw9, fun a9 h9 => by rw [ha] at h9; cases h9; exact amk1_ne c_20⟩, by rw [ha]; rfl, hM⟩
      · have c_20 : (amk (nxO mc mw J) st A1 1 k) a = 0 := g_eq (a := (amk (nxO mc mw J) st A1 1 k) a) (b := 0) c_20 (by omega) (by omega)
        have hw8 := wayN_s hw9 ha (amk1_0 c_20).2 (amk1_0 c_20).1
        have hn8 := wayN_le hX hst hw8
        refine lv_aload_n hx hb dX1_walk_23 rfl (lv_at hl 0 rfl) ?_
        refine lv_iload hx hb dX1_walk_24 (lv_at hl 5 rfl) ?_
        refine lv_iload hx hb dX1_walk_26 (lv_at hl 4 rfl) ?_
        have hPc := hP.sub (ws' := [(h0, .inr (2, [.ref mk, .int fc, .int fl, .int fg, .int fe])), (mk, .inl (cJ, 1263, .inr (.inl g2)))]) [0, 1] rfl
        have hDc := hD.sub (ws' := [(h0, .inr (2, [.ref mk, .int fc, .int fl, .int fg, .int fe])), (mk, .inl (cJ, 1263, .inr (.inl g2)))]) [0, 1] (by decide) rfl
        have hFc := va_free (wc := [(h0, .inr (2, [.ref mk, .int fc, .int fl, .int fg, .int fe])), (mk, .inl (cJ, 1263, .inr (.inl g2)))]) hD hS hA [0, 1] rfl
        refine g_Vv (As := [.int (nI a), .int 1]) (rest := []) CF (c_X1_mark l D cI cJ cO df H.size h0 mk g2 fc fl fg fe a 1 (amk (nxO mc mw J) st A1 1 k) hal (by decide) hM) (cwV 2 hts gX1_walk_X1_mark rfl rfl rfl (by decide +kernel) ⟨Nat.le_of_ble_eq_true rfl, Nat.le_of_ble_eq_true rfl⟩) (va_recv hK hP (ci := 2) (q0 := 0) rfl rfl) hPc hK hDc hV hH hS hFc rfl hl.1 rfl (Nat.le_of_ble_eq_true rfl) dX1_walk_28 ⟨Nat.le_of_ble_eq_true rfl, Nat.le_of_ble_eq_true rfl⟩ (fun w1 H1 locs1 hq hP1 hD1 hk hS hz => ?_)
        obtain ⟨g3, rfl, hq_28⟩ := hq
        obtain ⟨hP, hD⟩ := g_join (ws' := [(h0, .inr (2, [.ref mk, .int fc, .int fl, .int fg, .int fe])), (mk, .inl (cJ, 1263, .inr (.inl g3))), (hs, .inr (5, [.int nu, .int (mw J), .ref sb, .int x1, .int x2, .int y1, .int y2])), (sb, .inl (cI, 5, .inl (fun z9 => if z9 < 5 then mc (5 * J + z9) else 0)))]) hP hD hk hFc hP1 hD1 [0, 1] [2, 3] [2, 3, 0, 1] rfl rfl (by decide) (by decide) (by decide) rfl
        clear hPc hDc hFc hP1 hD1 hk hz
        generalize H1 = H at hP hS ⊢
        have hP : va_P D ccl [(h0, .inr (2, [.ref mk, .int fc, .int fl, .int fg, .int fe])), (mk, .inl (cJ, 1263, .inr (.inl g3))), (hs, .inr (5, [.int nu, .int (mw J), .ref sb, .int x1, .int x2, .int y1, .int y2])), (sb, .inl (cI, 5, .inl (fun z9 => if z9 < 5 then mc (5 * J + z9) else 0)))] H := hP
        have hD : va_D A [(h0, .inr (2, [.ref mk, .int fc, .int fl, .int fg, .int fe])), (mk, .inl (cJ, 1263, .inr (.inl g3))), (hs, .inr (5, [.int nu, .int (mw J), .ref sb, .int x1, .int x2, .int y1, .int y2])), (sb, .inl (cI, 5, .inl (fun z9 => if z9 < 5 then mc (5 * J + z9) else 0)))] := hD
        have hM3 : mkR g3 (amk (nxO mc mw J) st A1 1 (k + 1)) := by
          show mkR g3 (fun z => if z = tv (nxO mc mw J) st k then 1 else amk (nxO mc mw J) st A1 1 k z)
          rw [tv_of ha]
          exact hq_28
        refine lv_aload_n hx hb dX1_walk_31 rfl (lv_at hl 1 rfl) ?_
        refine lv_iload hx hb dX1_walk_32 (lv_at hl 5 rfl) ?_
        have hPc := hP.sub (ws' := [(hs, .inr (5, [.int nu, .int (mw J), .ref sb, .int x1, .int x2, .int y1, .int y2])), (sb, .inl (cI, 5, .inl (fun z9 => if z9 < 5 then mc (5 * J + z9) else 0)))]) [2, 3] rfl
        have hDc := hD.sub (ws' := [(hs, .inr (5, [.int nu, .int (mw J), .ref sb, .int x1, .int x2, .int y1, .int y2])), (sb, .inl (cI, 5, .inl (fun z9 => if z9 < 5 then mc (5 * J + z9) else 0)))]) [2, 3] (by decide) rfl
        have hFc := va_free (wc := [(hs, .inr (5, [.int nu, .int (mw J), .ref sb, .int x1, .int x2, .int y1, .int y2])), (sb, .inl (cI, 5, .inl (fun z9 => if z9 < 5 then mc (5 * J + z9) else 0)))]) hD hS hA [2, 3] rfl
        refine g_Si (As := [.ref hs, .int (nI a)]) (rest := []) CF (c_X1_next l D cI cJ cO df H.size hs sb nu x1 x2 y1 y2 mc mw J a hJ hc hw hal) (va_cwS 2 hts gX1_walk_X1_next rfl rfl rfl (by decide +kernel) ⟨Nat.le_of_ble_eq_true rfl, Nat.le_of_ble_eq_true rfl⟩)  hPc hK hDc hV hH hS hFc rfl hl.1 rfl (Nat.le_of_ble_eq_true rfl) dX1_walk_34 ⟨Nat.le_of_ble_eq_true rfl, Nat.le_of_ble_eq_true rfl⟩ (fun r_34 w1 H1 locs1 hq hP1 hD1 hk hS hz => ?_)
        obtain ⟨rfl, hr_34⟩ := hq
        have hP := g_keepR hP hD [2, 3] rfl hk hP1
        clear hPc hDc hFc hP1 hD1 hk hz
        generalize H1 = H at hP hS ⊢
        have hP : va_P D ccl [(h0, .inr (2, [.ref mk, .int fc, .int fl, .int fg, .int fe])), (mk, .inl (cJ, 1263, .inr (.inl g3))), (hs, .inr (5, [.int nu, .int (mw J), .ref sb, .int x1, .int x2, .int y1, .int y2])), (sb, .inl (cI, 5, .inl (fun z9 => if z9 < 5 then mc (5 * J + z9) else 0)))] H := hP
        have hD : va_D A [(h0, .inr (2, [.ref mk, .int fc, .int fl, .int fg, .int fe])), (mk, .inl (cJ, 1263, .inr (.inl g3))), (hs, .inr (5, [.int nu, .int (mw J), .ref sb, .int x1, .int x2, .int y1, .int y2])), (sb, .inl (cI, 5, .inl (fun z9 => if z9 < 5 then mc (5 * J + z9) else 0)))] := hD
        subst hr_34
        refine lv_topi (fun f ef => ?_)
        obtain rfl : f = oI (tr (nxO mc mw J) st (k + 1)) := ef.trans (by rw [tr_s ha])
        refine lv_istore (lv' := [(5, .int (oI (tr (nxO mc mw J) st (k + 1)))), (0, .ref h0), (1, .ref hs), (2, .int (nI st)), (3, .int 0), (4, .int 1), (6, .int (nI k))]) hx hb dX1_walk_37 hl (by decide) rfl (fun ls hl => ?_)
        refine lv_iinc (v := nI (k + 1)) (lv' := [(6, .int (nI (k + 1))), (5, .int (oI (tr (nxO mc mw J) st (k + 1)))), (0, .ref h0), (1, .ref hs), (2, .int (nI st)), (3, .int 0), (4, .int 1)]) hx hb dX1_walk_39 hl (k := 6) rfl (by exact nI_1 _) (by decide) rfl (fun ls hl => ?_)
        refine lv_goto (tgt := 6) hx hb dX1_walk_42 (by decide) ?_
        refine W.widen (k := 0) (n := 0) (Nat.le_refl _) (Nat.le_refl _) ?_
        exact ih_6 (k + 1, g3) _ _ _ (show wayN (nxO mc mw J) A1 st (k + 1) ∧ mkR g3 (amk (nxO mc mw J) st A1 1 (k + 1)) from (by exact ⟨hw8, hM3⟩)) (show 40402 - (k + 1) < 40402 - k by omega) hP hD hS (lv_sub hl [2, 3, 4, 5, 6, 1, 0] rfl)

set_option maxHeartbeats 4000000 in
set_option maxRecDepth 100000 in
theorem c_X1_walk_d (l : Launch) (D : va_G) (cI cJ cO : ClassId) (df sz : Nat) (h0 : Nat) (mk : Nat) (g : Nat → Int64) (fc : Int32) (fl : Int32) (fg : Int32) (fe : Int32) (hs : Nat) (sb : Nat) (nu : Int32) (x1 : Int32) (x2 : Int32) (y1 : Int32) (y2 : Int32) (mc : Nat → Int32) (mw : Nat → Int32) (J : Nat) (st : Nat) (A1 : Nat → Nat) (n : Nat) (d : Nat) (hJ : J < 8) (hc : isC mc) (hw : isW (mw J)) (hst : st < 40401) (hstp : stp (nxO mc mw J) A1 st n) (hno1 : ∀ q, A1 q ≠ 1) (hd : d = 2 ∨ d = 3) (hM0 : mkR g (amk (nxO mc mw J) st A1 1 n)) : MetI l yX1_walk wsX1_walk ({ frames := 4, cells := 0, slots := 0, locals := 89 } : Room) D (gTY cI cJ cO) df [(h0, .inr (2, [.ref mk, .int fc, .int fl, .int fg, .int fe])), (mk, .inl (cJ, 1263, .inr (.inl g))), (hs, .inr (5, [.int nu, .int (mw J), .ref sb, .int x1, .int x2, .int y1, .int y2])), (sb, .inl (cI, 5, .inl (fun z9 => if z9 < 5 then mc (5 * J + z9) else 0)))] sz [.ref h0, .ref hs, .int (nI st), .int 1, .int (nI d)] (fun (r : Int32) (wZ : va_W) => ∃ (g1 : Nat → Int64), wZ = [(h0, .inr (2, [.ref mk, .int fc, .int fl, .int fg, .int fe])), (mk, .inl (cJ, 1263, .inr (.inl g1))), (hs, .inr (5, [.int nu, .int (mw J), .ref sb, .int x1, .int x2, .int y1, .int y2])), (sb, .inl (cI, 5, .inl (fun z9 => if z9 < 5 then mc (5 * J + z9) else 0)))] ∧ mkR g1 (amk (nxO mc mw J) st A1 d n)) := by
  refine g_of (cc := cX1_walk) (nL := 7) (ret := (some .int)) (D := D) (TY := (gTY cI cJ cO)) (df := df) (Qc := fun A => va_Qi (fun (r : Int32) (wZ : va_W) => ∃ (g1 : Nat → Int64), wZ = [(h0, .inr (2, [.ref mk, .int fc, .int fl, .int fg, .int fe])), (mk, .inl (cJ, 1263, .inr (.inl g1))), (hs, .inr (5, [.int nu, .int (mw J), .ref sb, .int x1, .int x2, .int y1, .int y2])), (sb, .inl (cI, 5, .inl (fun z9 => if z9 < 5 then mc (5 * J + z9) else 0)))] ∧ mkR g1 (amk (nxO mc mw J) st A1 d n)) (gB D (gTY cI cJ cO) A) A) (by decide +kernel) rfl (Nat.le_of_ble_eq_true rfl) ?_
  intro p e s m below meth c ls A hsz C0 hin hl
  obtain ⟨CF, hr, hlk, hA, hS, hP, hK, hD, hV, hH⟩ := C0
  have CF : CallFix p m c cX1_walk 7 s _ wsX1_walk RX1 := CF
  obtain ⟨hx, hb, hml, hown, hts⟩ := id CF
  subst hsz
  have hconstant_RX1_51 : (Cond.constant RX1 51 (40401)).before _ s = true := hts _ (List.mem_of_getElem? (i := 1) rfl)
  have hmethodLink_RX1_44 : (Cond.methodLink RX1 44 yX1_markOf).before _ s = true := hts _ (List.mem_of_getElem? (i := 2) rfl)
  have hmethodLink_RX1_52 : (Cond.methodLink RX1 52 yX1_mark).before _ s = true := hts _ (List.mem_of_getElem? (i := 11) rfl)
  have hmethodLink_RX1_56 : (Cond.methodLink RX1 56 yX1_next).before _ s = true := hts _ (List.mem_of_getElem? (i := 17) rfl)
  have hP : va_P D ccl [(h0, .inr (2, [.ref mk, .int fc, .int fl, .int fg, .int fe])), (mk, .inl (cJ, 1263, .inr (.inl g))), (hs, .inr (5, [.int nu, .int (mw J), .ref sb, .int x1, .int x2, .int y1, .int y2])), (sb, .inl (cI, 5, .inl (fun z9 => if z9 < 5 then mc (5 * J + z9) else 0)))] s.heap := hP
  have hl : lv_has ls 7 [(0, .ref h0), (1, .ref hs), (2, .int (nI st)), (3, .int 1), (4, .int (nI d))] := hl
  have hX : ∀ q t, q < 40401 → nxO mc mw J q = some t → t < 40401 := fun q t h1 h2 => nxO_lt h1 h2
  have hn9 := wayN_le hX hst hstp.1
  have hdl : d < 4 := by omega
  refine lv_iload_n hx hb dX1_walk_0 rfl (lv_at hl 2 rfl) ?_
  refine lv_istore (lv' := [(5, .int (nI st)), (0, .ref h0), (1, .ref hs), (2, .int (nI st)), (3, .int 1), (4, .int (nI d))]) hx hb dX1_walk_1 hl (by decide) rfl (fun ls hl => ?_)
  refine lv_iconst (v := 0) hx hb dX1_walk_3 (by decide) ?_
  refine lv_istore (lv' := [(6, .int 0), (5, .int (nI st)), (0, .ref h0), (1, .ref hs), (2, .int (nI st)), (3, .int 1), (4, .int (nI d))]) hx hb dX1_walk_4 hl (by decide) rfl (fun ls hl => ?_)
  refine W.widen (k := 0) (n := 0) (Nat.le_refl _) (Nat.le_refl _) ?_
  refine g_while (σ := Nat × (Nat → Int64)) (st := []) (nL := 7) (fun z => match z with | (k, g2) => [(h0, .inr (2, [.ref mk, .int fc, .int fl, .int fg, .int fe])), (mk, .inl (cJ, 1263, .inr (.inl g2))), (hs, .inr (5, [.int nu, .int (mw J), .ref sb, .int x1, .int x2, .int y1, .int y2])), (sb, .inl (cI, 5, .inl (fun z9 => if z9 < 5 then mc (5 * J + z9) else 0)))])
    (fun z => match z with | (k, g2) => [(0, .ref h0), (1, .ref hs), (2, .int (nI st)), (3, .int 1), (4, .int (nI d)), (5, .int (oI (tr (nxO mc mw J) st k))), (6, .int (nI k))])
    (fun z => match z with | (k, g2) => k ≤ n ∧ mkR g2 (amk (nxO mc mw J) st (amk (nxO mc mw J) st A1 1 n) d k))
    (fun z => match z with | (k, g2) => n - k) (fun z => match z with | (k, g2) => 0) (fun z => match z with | (k, g2) => 0)
    ?_ (0, g) ⟨Nat.zero_le n, hM0⟩ hP hD hS (lv_sub hl [2, 3, 4, 5, 6, 1, 0] rfl)
  rintro ⟨k, g2⟩ hI H locs ls hP hD hS hl ih
  have hI : k ≤ n ∧ mkR g2 (amk (nxO mc mw J) st (amk (nxO mc mw J) st A1 1 n) d k) := hI
  have hP : va_P D ccl [(h0, .inr (2, [.ref mk, .int fc, .int fl, .int fg, .int fe])), (mk, .inl (cJ, 1263, .inr (.inl g2))), (hs, .inr (5, [.int nu, .int (mw J), .ref sb, .int x1, .int x2, .int y1, .int y2])), (sb, .inl (cI, 5, .inl (fun z9 => if z9 < 5 then mc (5 * J + z9) else 0)))] H := hP
  have hD : va_D A [(h0, .inr (2, [.ref mk, .int fc, .int fl, .int fg, .int fe])), (mk, .inl (cJ, 1263, .inr (.inl g2))), (hs, .inr (5, [.int nu, .int (mw J), .ref sb, .int x1, .int x2, .int y1, .int y2])), (sb, .inl (cI, 5, .inl (fun z9 => if z9 < 5 then mc (5 * J + z9) else 0)))] := hD
  have hl : lv_has ls 7 [(0, .ref h0), (1, .ref hs), (2, .int (nI st)), (3, .int 1), (4, .int (nI d)), (5, .int (oI (tr (nxO mc mw J) st k))), (6, .int (nI k))] := hl
  change W p l e _ s m _ below meth c H locs 0 0 _ (F0 m 6 ls [])
  have ih_6 := ih
  clear ih
  obtain ⟨hkn0, hM⟩ := hI
  refine lv_iload hx hb dX1_walk_6 (lv_at hl 6 rfl) ?_
  refine lv_ldc (v := 40401) hx hb hown hconstant_RX1_51 dX1_walk_8 ?_
  refine lv_icmp_gt (tgt := 45) hx hb dX1_walk_10 (by decide) (fun c_10 => ?_) (fun c_10 => ?_)
  · have c_10 : 40401 < k := g_lt (a := 40401) (b := k) c_10 (by omega) (by omega)
    omega
  · have c_10 : k ≤ 40401 := g_nlt (a := 40401) (b := k) c_10 (by omega) (by omega)
    by_cases hnone : tr (nxO mc mw J) st k = none
    · obtain rfl : n = k := by
        rcases Nat.lt_or_ge k n with h9 | h9
        · have h8 := (hstp.1.1 k h9).1
          rw [hnone] at h8; cases h8
        · omega
      have hl : lv_has ls 7 [(0, .ref h0), (1, .ref hs), (2, .int (nI st)), (3, .int 1), (4, .int (nI d)), (5, .int (-1)), (6, .int (nI n))] := by rw [hnone] at hl; exact hl
      refine lv_aload_n hx hb dX1_walk_13 rfl (lv_at hl 0 rfl) ?_
      refine lv_iload hx hb dX1_walk_14 (lv_at hl 5 rfl) ?_
      have hPc := hP.sub (ws' := [(h0, .inr (2, [.ref mk, .int fc, .int fl, .int fg, .int fe])), (mk, .inl (cJ, 1263, .inr (.inl g2)))]) [0, 1] rfl
      have hDc := hD.sub (ws' := [(h0, .inr (2, [.ref mk, .int fc, .int fl, .int fg, .int fe])), (mk, .inl (cJ, 1263, .inr (.inl g2)))]) [0, 1] (by decide) rfl
      have hFc := va_free (wc := [(h0, .inr (2, [.ref mk, .int fc, .int fl, .int fg, .int fe])), (mk, .inl (cJ, 1263, .inr (.inl g2)))]) hD hS hA [0, 1] rfl
      refine g_Vi (As := [.int (-1)]) (rest := []) CF (c_X1_markOf_n l D cI cJ cO df H.size h0 mk g2 fc fl fg fe ) (cwV 1 hts gX1_walk_X1_markOf rfl rfl rfl (by decide +kernel) ⟨Nat.le_of_ble_eq_true rfl, Nat.le_of_ble_eq_true rfl⟩) (va_recv hK hP (ci := 2) (q0 := 0) rfl rfl) hPc hK hDc hV hH hS hFc rfl hl.1 rfl (Nat.le_of_ble_eq_true rfl) dX1_walk_16 ⟨Nat.le_of_ble_eq_true rfl, Nat.le_of_ble_eq_true rfl⟩ (fun r_16 w1 H1 locs1 hq hP1 hD1 hk hS hz => ?_)
      obtain ⟨rfl, hr_16⟩ := hq
      have hP := g_keepR hP hD [0, 1] rfl hk hP1
      clear hPc hDc hFc hP1 hD1 hk hz
      generalize H1 = H at hP hS ⊢
      have hP : va_P D ccl [(h0, .inr (2, [.ref mk, .int fc, .int fl, .int fg, .int fe])), (mk, .inl (cJ, 1263, .inr (.inl g2))), (hs, .inr (5, [.int nu, .int (mw J), .ref sb, .int x1, .int x2, .int y1, .int y2])), (sb, .inl (cI, 5, .inl (fun z9 => if z9 < 5 then mc (5 * J + z9) else 0)))] H := hP
      have hD : va_D A [(h0, .inr (2, [.ref mk, .int fc, .int fl, .int fg, .int fe])), (mk, .inl (cJ, 1263, .inr (.inl g2))), (hs, .inr (5, [.int nu, .int (mw J), .ref sb, .int x1, .int x2, .int y1, .int y2])), (sb, .inl (cI, 5, .inl (fun z9 => if z9 < 5 then mc (5 * J + z9) else 0)))] := hD
      subst hr_16
      refine lv_iload_n hx hb dX1_walk_19 rfl (lv_at hl 3 rfl) ?_
      refine lv_icmp_ne (tgt := 45) hx hb dX1_walk_20 (by decide) (fun c_20 => ?_) (fun c_20 => ?_)
      · refine lv_iload hx hb dX1_walk_45 (lv_at hl 5 rfl) ?_
        refine g_iret (v := (-1)) hx hb hr hlk hP hK hD hS (Nat.le_of_ble_eq_true rfl) (Nat.le_of_ble_eq_true rfl) dX1_walk_47 ?_
        exact ⟨_, rfl, by first | (rw [← amk2_all (nx := (nxO mc mw J)) (A := A1) (d := d)]; exact hM) | (obtain rfl : k = n := (by omega); rw [← amk2_all (nx := (nxO mc mw J)) (A := A1) (d := d)]; exact hM)⟩
      · exact absurd c_20 (by decide)
    · obtain ⟨a, ha⟩ := Option.ne_none_iff_exists'.mp hnone
      have hal : a < 40401 := tr_lt hX hst k a ha
      have hl : lv_has ls 7 [(0, .ref h0), (1, .ref hs), (2, .int (nI st)), (3, .int 1), (4, .int (nI d)), (5, .int (nI a)), (6, .int (nI k))] := by rw [ha] at hl; exact hl
      refine lv_aload_n hx hb dX1_walk_13 rfl (lv_at hl 0 rfl) ?_
      by_cases hkn : k < n
      · refine lv_iload hx hb dX1_walk_14 (lv_at hl 5 rfl) ?_
        have hPc := hP.sub (ws' := [(h0, .inr (2, [.ref mk, .int fc, .int fl, .int fg, .int fe])), (mk, .inl (cJ, 1263, .inr (.inl g2)))]) [0, 1] rfl
        have hDc := hD.sub (ws' := [(h0, .inr (2, [.ref mk, .int fc, .int fl, .int fg, .int fe])), (mk, .inl (cJ, 1263, .inr (.inl g2)))]) [0, 1] (by decide) rfl
        have hFc := va_free (wc := [(h0, .inr (2, [.ref mk, .int fc, .int fl, .int fg, .int fe])), (mk, .inl (cJ, 1263, .inr (.inl g2)))]) hD hS hA [0, 1] rfl
        refine g_Vi (As := [.int (nI a)]) (rest := []) CF (c_X1_markOf l D cI cJ cO df H.size h0 mk g2 fc fl fg fe a (amk (nxO mc mw J) st (amk (nxO mc mw J) st A1 1 n) d k) hal hM) (cwV 1 hts gX1_walk_X1_markOf rfl rfl rfl (by decide +kernel) ⟨Nat.le_of_ble_eq_true rfl, Nat.le_of_ble_eq_true rfl⟩) (va_recv hK hP (ci := 2) (q0 := 0) rfl rfl) hPc hK hDc hV hH hS hFc rfl hl.1 rfl (Nat.le_of_ble_eq_true rfl) dX1_walk_16 ⟨Nat.le_of_ble_eq_true rfl, Nat.le_of_ble_eq_true rfl⟩ (fun r_16 w1 H1 locs1 hq hP1 hD1 hk hS hz => ?_)
        obtain ⟨rfl, hr_16⟩ := hq
        have hP := g_keepR hP hD [0, 1] rfl hk hP1
        clear hPc hDc hFc hP1 hD1 hk hz
        generalize H1 = H at hP hS ⊢
        have hP : va_P D ccl [(h0, .inr (2, [.ref mk, .int fc, .int fl, .int fg, .int fe])), (mk, .inl (cJ, 1263, .inr (.inl g2))), (hs, .inr (5, [.int nu, .int (mw J), .ref sb, .int x1, .int x2, .int y1, .int y2])), (sb, .inl (cI, 5, .inl (fun z9 => if z9 < 5 then mc (5 * J + z9) else 0)))] H := hP
        have hD : va_D A [(h0, .inr (2, [.ref mk, .int fc, .int fl, .int fg, .int fe])), (mk, .inl (cJ, 1263, .inr (.inl g2))), (hs, .inr (5, [.int nu, .int (mw J), .ref sb, .int x1, .int x2, .int y1, .int y2])), (sb, .inl (cI, 5, .inl (fun z9 => if z9 < 5 then mc (5 * J + z9) else 0)))] := hD
        subst hr_16
        refine lv_topi (fun f ef => ?_)
        obtain rfl : f = 1 := ef.trans (show _ = (nI 1) from congrArg nI (by have h9 := tv_of ha; rw [← h9]; exact amk2_lt hstp.1 hkn))
        refine lv_iload_n hx hb dX1_walk_19 rfl (lv_at hl 3 rfl) ?_
        refine lv_icmp_ne (tgt := 45) hx hb dX1_walk_20 (by decide) (fun c_20 => ?_) (fun c_20 => ?_)
        · exact absurd c_20 (by decide)
        · refine lv_aload_n hx hb dX1_walk_23 rfl (lv_at hl 0 rfl) ?_
          refine lv_iload hx hb dX1_walk_24 (lv_at hl 5 rfl) ?_
          refine lv_iload hx hb dX1_walk_26 (lv_at hl 4 rfl) ?_
          have hPc := hP.sub (ws' := [(h0, .inr (2, [.ref mk, .int fc, .int fl, .int fg, .int fe])), (mk, .inl (cJ, 1263, .inr (.inl g2)))]) [0, 1] rfl
          have hDc := hD.sub (ws' := [(h0, .inr (2, [.ref mk, .int fc, .int fl, .int fg, .int fe])), (mk, .inl (cJ, 1263, .inr (.inl g2)))]) [0, 1] (by decide) rfl
          have hFc := va_free (wc := [(h0, .inr (2, [.ref mk, .int fc, .int fl, .int fg, .int fe])), (mk, .inl (cJ, 1263, .inr (.inl g2)))]) hD hS hA [0, 1] rfl
          refine g_Vv (As := [.int (nI a), .int (nI d)]) (rest := []) CF (c_X1_mark l D cI cJ cO df H.size h0 mk g2 fc fl fg fe a d (amk (nxO mc mw J) st (amk (nxO mc mw J) st A1 1 n) d k) hal hdl hM) (cwV 2 hts gX1_walk_X1_mark rfl rfl rfl (by decide +kernel) ⟨Nat.le_of_ble_eq_true rfl, Nat.le_of_ble_eq_true rfl⟩) (va_recv hK hP (ci := 2) (q0 := 0) rfl rfl) hPc hK hDc hV hH hS hFc rfl hl.1 rfl (Nat.le_of_ble_eq_true rfl) dX1_walk_28 ⟨Nat.le_of_ble_eq_true rfl, Nat.le_of_ble_eq_true rfl⟩ (fun w1 H1 locs1 hq hP1 hD1 hk hS hz => ?_)
          obtain ⟨g3, rfl, hq_28⟩ := hq
          obtain ⟨hP, hD⟩ := g_join (ws' := [(h0, .inr (2, [.ref mk, .int fc, .int fl, .int fg, .int fe])), (mk, .inl (cJ, 1263, .inr (.inl g3))), (hs, .inr (5, [.int nu, .int (mw J), .ref sb, .int x1, .int x2, .int y1, .int y2])), (sb, .inl (cI, 5, .inl (fun z9 => if z9 < 5 then mc (5 * J + z9) else 0)))]) hP hD hk hFc hP1 hD1 [0, 1] [2, 3] [2, 3, 0, 1] rfl rfl (by decide) (by decide) (by decide) rfl
          clear hPc hDc hFc hP1 hD1 hk hz
          generalize H1 = H at hP hS ⊢
          have hP : va_P D ccl [(h0, .inr (2, [.ref mk, .int fc, .int fl, .int fg, .int fe])), (mk, .inl (cJ, 1263, .inr (.inl g3))), (hs, .inr (5, [.int nu, .int (mw J), .ref sb, .int x1, .int x2, .int y1, .int y2])), (sb, .inl (cI, 5, .inl (fun z9 => if z9 < 5 then mc (5 * J + z9) else 0)))] H := hP
          have hD : va_D A [(h0, .inr (2, [.ref mk, .int fc, .int fl, .int fg, .int fe])), (mk, .inl (cJ, 1263, .inr (.inl g3))), (hs, .inr (5, [.int nu, .int (mw J), .ref sb, .int x1, .int x2, .int y1, .int y2])), (sb, .inl (cI, 5, .inl (fun z9 => if z9 < 5 then mc (5 * J + z9) else 0)))] := hD
          have hM3 : mkR g3 (amk (nxO mc mw J) st (amk (nxO mc mw J) st A1 1 n) d (k + 1)) := by
            show mkR g3 (fun z => if z = tv (nxO mc mw J) st k then d else amk (nxO mc mw J) st (amk (nxO mc mw J) st A1 1 n) d k z)
            rw [tv_of ha]
            exact hq_28
          refine lv_aload_n hx hb dX1_walk_31 rfl (lv_at hl 1 rfl) ?_
          refine lv_iload hx hb dX1_walk_32 (lv_at hl 5 rfl) ?_
          have hPc := hP.sub (ws' := [(hs, .inr (5, [.int nu, .int (mw J), .ref sb, .int x1, .int x2, .int y1, .int y2])), (sb, .inl (cI, 5, .inl (fun z9 => if z9 < 5 then mc (5 * J + z9) else 0)))]) [2, 3] rfl
          have hDc := hD.sub (ws' := [(hs, .inr (5, [.int nu, .int (mw J), .ref sb, .int x1, .int x2, .int y1, .int y2])), (sb, .inl (cI, 5, .inl (fun z9 => if z9 < 5 then mc (5 * J + z9) else 0)))]) [2, 3] (by decide) rfl
          have hFc := va_free (wc := [(hs, .inr (5, [.int nu, .int (mw J), .ref sb, .int x1, .int x2, .int y1, .int y2])), (sb, .inl (cI, 5, .inl (fun z9 => if z9 < 5 then mc (5 * J + z9) else 0)))]) hD hS hA [2, 3] rfl
          refine g_Si (As := [.ref hs, .int (nI a)]) (rest := []) CF (c_X1_next l D cI cJ cO df H.size hs sb nu x1 x2 y1 y2 mc mw J a hJ hc hw hal) (va_cwS 2 hts gX1_walk_X1_next rfl rfl rfl (by decide +kernel) ⟨Nat.le_of_ble_eq_true rfl, Nat.le_of_ble_eq_true rfl⟩)  hPc hK hDc hV hH hS hFc rfl hl.1 rfl (Nat.le_of_ble_eq_true rfl) dX1_walk_34 ⟨Nat.le_of_ble_eq_true rfl, Nat.le_of_ble_eq_true rfl⟩ (fun r_34 w1 H1 locs1 hq hP1 hD1 hk hS hz => ?_)
          obtain ⟨rfl, hr_34⟩ := hq
          have hP := g_keepR hP hD [2, 3] rfl hk hP1
          clear hPc hDc hFc hP1 hD1 hk hz
          generalize H1 = H at hP hS ⊢
          have hP : va_P D ccl [(h0, .inr (2, [.ref mk, .int fc, .int fl, .int fg, .int fe])), (mk, .inl (cJ, 1263, .inr (.inl g3))), (hs, .inr (5, [.int nu, .int (mw J), .ref sb, .int x1, .int x2, .int y1, .int y2])), (sb, .inl (cI, 5, .inl (fun z9 => if z9 < 5 then mc (5 * J + z9) else 0)))] H := hP
          have hD : va_D A [(h0, .inr (2, [.ref mk, .int fc, .int fl, .int fg, .int fe])), (mk, .inl (cJ, 1263, .inr (.inl g3))), (hs, .inr (5, [.int nu, .int (mw J), .ref sb, .int x1, .int x2, .int y1, .int y2])), (sb, .inl (cI, 5, .inl (fun z9 => if z9 < 5 then mc (5 * J + z9) else 0)))] := hD
          subst hr_34
          refine lv_topi (fun f ef => ?_)
          obtain rfl : f = oI (tr (nxO mc mw J) st (k + 1)) := ef.trans (by rw [tr_s ha])
          refine lv_istore (lv' := [(5, .int (oI (tr (nxO mc mw J) st (k + 1)))), (0, .ref h0), (1, .ref hs), (2, .int (nI st)), (3, .int 1), (4, .int (nI d)), (6, .int (nI k))]) hx hb dX1_walk_37 hl (by decide) rfl (fun ls hl => ?_)
          refine lv_iinc (v := nI (k + 1)) (lv' := [(6, .int (nI (k + 1))), (5, .int (oI (tr (nxO mc mw J) st (k + 1)))), (0, .ref h0), (1, .ref hs), (2, .int (nI st)), (3, .int 1), (4, .int (nI d))]) hx hb dX1_walk_39 hl (k := 6) rfl (by exact nI_1 _) (by decide) rfl (fun ls hl => ?_)
          refine lv_goto (tgt := 6) hx hb dX1_walk_42 (by decide) ?_
          refine W.widen (k := 0) (n := 0) (Nat.le_refl _) (Nat.le_refl _) ?_
          exact ih_6 (k + 1, g3) _ _ _ (show (k + 1) ≤ n ∧ mkR g3 (amk (nxO mc mw J) st (amk (nxO mc mw J) st A1 1 n) d (k + 1)) from (by exact ⟨hkn, hM3⟩)) (show n - (k + 1) < n - k by omega) hP hD hS (lv_sub hl [2, 3, 4, 5, 6, 1, 0] rfl)
      · refine lv_iload hx hb dX1_walk_14 (lv_at hl 5 rfl) ?_
        have hPc := hP.sub (ws' := [(h0, .inr (2, [.ref mk, .int fc, .int fl, .int fg, .int fe])), (mk, .inl (cJ, 1263, .inr (.inl g2)))]) [0, 1] rfl
        have hDc := hD.sub (ws' := [(h0, .inr (2, [.ref mk, .int fc, .int fl, .int fg, .int fe])), (mk, .inl (cJ, 1263, .inr (.inl g2)))]) [0, 1] (by decide) rfl
        have hFc := va_free (wc := [(h0, .inr (2, [.ref mk, .int fc, .int fl, .int fg, .int fe])), (mk, .inl (cJ, 1263, .inr (.inl g2)))]) hD hS hA [0, 1] rfl
        refine g_Vi (As := [.int (nI a)]) (rest := []) CF (c_X1_markOf l D cI cJ cO df H.size h0 mk g2 fc fl fg fe a (amk (nxO mc mw J) st (amk (nxO mc mw J) st A1 1 n) d k) hal hM) (cwV 1 hts gX1_walk_X1_markOf rfl rfl rfl (by decide +kernel) ⟨Nat.le_of_ble_eq_true rfl, Nat.le_of_ble_eq_true rfl⟩) (va_recv hK hP (ci := 2) (q0 := 0) rfl rfl) hPc hK hDc hV hH hS hFc rfl hl.1 rfl (Nat.le_of_ble_eq_true rfl) dX1_walk_16 ⟨Nat.le_of_ble_eq_true rfl, Nat.le_of_ble_eq_true rfl⟩ (fun r_16 w1 H1 locs1 hq hP1 hD1 hk hS hz => ?_)
        obtain ⟨rfl, hr_16⟩ := hq
        have hP := g_keepR hP hD [0, 1] rfl hk hP1
        clear hPc hDc hFc hP1 hD1 hk hz
        generalize H1 = H at hP hS ⊢
        have hP : va_P D ccl [(h0, .inr (2, [.ref mk, .int fc, .int fl, .int fg, .int fe])), (mk, .inl (cJ, 1263, .inr (.inl g2))), (hs, .inr (5, [.int nu, .int (mw J), .ref sb, .int x1, .int x2, .int y1, .int y2])), (sb, .inl (cI, 5, .inl (fun z9 => if z9 < 5 then mc (5 * J + z9) else 0)))] H := hP
        have hD : va_D A [(h0, .inr (2, [.ref mk, .int fc, .int fl, .int fg, .int fe])), (mk, .inl (cJ, 1263, .inr (.inl g2))), (hs, .inr (5, [.int nu, .int (mw J), .ref sb, .int x1, .int x2, .int y1, .int y2])), (sb, .inl (cI, 5, .inl (fun z9 => if z9 < 5 then mc (5 * J + z9) else 0)))] := hD
        subst hr_16
        have hb4 := (hM a hal).2
        refine lv_iload_n hx hb dX1_walk_19 rfl (lv_at hl 3 rfl) ?_
        refine lv_icmp_ne (tgt := 45) hx hb dX1_walk_20 (by decide) (fun c_20 => ?_) (fun c_20 => ?_)
        · have c_20 : (amk (nxO mc mw J) st (amk (nxO mc mw J) st A1 1 n) d k) a ≠ 1 := g_ne (a := (amk (nxO mc mw J) st (amk (nxO mc mw J) st A1 1 n) d k) a) (b := 1) c_20 (by omega) (by omega)
          refine lv_iload hx hb dX1_walk_45 (lv_at hl 5 rfl) ?_
          refine g_iret (v := nI a) hx hb hr hlk hP hK hD hS (Nat.le_of_ble_eq_true rfl) (Nat.le_of_ble_eq_true rfl) dX1_walk_47 ?_
          exact ⟨_, rfl, by first | (rw [← amk2_all (nx := (nxO mc mw J)) (A := A1) (d := d)]; exact hM) | (obtain rfl : k = n := (by omega); rw [← amk2_all (nx := (nxO mc mw J)) (A := A1) (d := d)]; exact hM)⟩
        · have c_20 : (amk (nxO mc mw J) st (amk (nxO mc mw J) st A1 1 n) d k) a = 1 := g_eq (a := (amk (nxO mc mw J) st (amk (nxO mc mw J) st A1 1 n) d k) a) (b := 1) c_20 (by omega) (by omega)
          exact absurd c_20 (by have h9 : k = n := (by omega); subst h9; exact amk2_end hno1 (by omega))

set_option maxHeartbeats 4000000 in
set_option maxRecDepth 100000 in
theorem c_X1_countCycle (l : Launch) (D : va_G) (cI cJ cO : ClassId) (df sz : Nat) (h0 : Nat) (mk : Nat) (g : Nat → Int64) (kc : Nat) (kl : Nat) (kg : Nat) (fe : Int32) (hs : Nat) (sb : Nat) (nu : Int32) (x1 : Int32) (x2 : Int32) (y1 : Int32) (y2 : Int32) (mc : Nat → Int32) (mw : Nat → Int32) (J : Nat) (st : Nat) (A1 : Nat → Nat) (n : Nat) (i : Nat) (a : Nat) (hJ : J < 8) (hc : isC mc) (hw : isW (mw J)) (hkc : kc < 10000) (hkl : kl ≤ 40401) (hkg : kg ≤ 200) (hst : st < 40401) (hwn : wayN (nxO mc mw J) A1 st n) (hi : i < n) (hia : tv (nxO mc mw J) st i = a) (hti : tr (nxO mc mw J) st n = some (tv (nxO mc mw J) st i)) : MetV l yX1_countCycle wsX1_countCycle ({ frames := 4, cells := 0, slots := 0, locals := 89 } : Room) D (gTY cI cJ cO) df [(h0, .inr (2, [.ref mk, .int (nI kc), .int (nI kl), .int (nI kg), .int fe])), (mk, .inl (cJ, 1263, .inr (.inl g))), (hs, .inr (5, [.int nu, .int (mw J), .ref sb, .int x1, .int x2, .int y1, .int y2])), (sb, .inl (cI, 5, .inl (fun z9 => if z9 < 5 then mc (5 * J + z9) else 0)))] sz [.ref h0, .ref hs, .int (nI a)] (fun (wZ : va_W) => wZ = [(h0, .inr (2, [.ref mk, .int (nI (kc + 1)), .int (nI (max kl (n - i))), .int (nI (gmx (nxO mc mw J) st kg i (n - i))), .int fe])), (mk, .inl (cJ, 1263, .inr (.inl g))), (hs, .inr (5, [.int nu, .int (mw J), .ref sb, .int x1, .int x2, .int y1, .int y2])), (sb, .inl (cI, 5, .inl (fun z9 => if z9 < 5 then mc (5 * J + z9) else 0)))]) := by
  refine g_of (cc := cX1_countCycle) (nL := 5) (ret := none) (D := D) (TY := (gTY cI cJ cO)) (df := df) (Qc := fun A => va_Qv (fun (wZ : va_W) => wZ = [(h0, .inr (2, [.ref mk, .int (nI (kc + 1)), .int (nI (max kl (n - i))), .int (nI (gmx (nxO mc mw J) st kg i (n - i))), .int fe])), (mk, .inl (cJ, 1263, .inr (.inl g))), (hs, .inr (5, [.int nu, .int (mw J), .ref sb, .int x1, .int x2, .int y1, .int y2])), (sb, .inl (cI, 5, .inl (fun z9 => if z9 < 5 then mc (5 * J + z9) else 0)))]) (gB D (gTY cI cJ cO) A) A) (by decide +kernel) rfl (Nat.le_of_ble_eq_true rfl) ?_
  intro p e s m below meth c ls A hsz C0 hin hl
  obtain ⟨CF, hr, hlk, hA, hS, hP, hK, hD, hV, hH⟩ := C0
  have CF : CallFix p m c cX1_countCycle 5 s _ wsX1_countCycle RX1 := CF
  obtain ⟨hx, hb, hml, hown, hts⟩ := id CF
  subst hsz
  have hfieldLink_RX1_26 : (Cond.fieldLink RX1 26 "TapLoom$CycleSearch" "greatest" "I").before _ s = true := hts _ (List.mem_of_getElem? (i := 1) rfl)
  have hmethodLink_RX1_60 : (Cond.methodLink RX1 60 yX1_lastOf).before _ s = true := hts _ (List.mem_of_getElem? (i := 12) rfl)
  have hmethodLink_RX1_63 : (Cond.methodLink RX1 63 Lib.Math.abs.name).before _ s = true := hts _ (List.mem_of_getElem? (i := 2) rfl)
  have hinitialized_java_lang_Math : (Cond.initialized "java/lang/Math").before _ s = true := hts _ (List.mem_of_getElem? (i := 4) rfl)
  have hstatic_Lib_Math_abs_name : (Cond.static Lib.Math.abs.name).before _ s = true := hts _ (List.mem_of_getElem? (i := 3) rfl)
  have hcode_Lib_Math_abs_name : (Cond.code Lib.Math.abs.name Lib.Math.abs.code 1 (some .int)).before _ s = true := hts _ (List.mem_of_getElem? (i := 5) rfl)
  have hmethodLink_RX1_68 : (Cond.methodLink RX1 68 Lib.Math.max.name).before _ s = true := hts _ (List.mem_of_getElem? (i := 6) rfl)
  have hstatic_Lib_Math_max_name : (Cond.static Lib.Math.max.name).before _ s = true := hts _ (List.mem_of_getElem? (i := 7) rfl)
  have hcode_Lib_Math_max_name : (Cond.code Lib.Math.max.name Lib.Math.max.code 2 (some .int)).before _ s = true := hts _ (List.mem_of_getElem? (i := 8) rfl)
  have hmethodLink_RX1_56 : (Cond.methodLink RX1 56 yX1_next).before _ s = true := hts _ (List.mem_of_getElem? (i := 16) rfl)
  have hfieldLink_RX1_19 : (Cond.fieldLink RX1 19 "TapLoom$CycleSearch" "count" "I").before _ s = true := hts _ (List.mem_of_getElem? (i := 10) rfl)
  have hfieldLink_RX1_23 : (Cond.fieldLink RX1 23 "TapLoom$CycleSearch" "longest" "I").before _ s = true := hts _ (List.mem_of_getElem? (i := 11) rfl)
  have hconstant_RX1_51 : (Cond.constant RX1 51 (40401)).before _ s = true := hts _ (List.mem_of_getElem? (i := 9) rfl)
  have inX1 : ∀ w ∈ u_ws RX1 TX1 5, w ∈ wsX1_countCycle := fun w h => (List.mem_cons_of_mem _ (List.mem_append_left _ (List.mem_append_right _ h)))
  have hP : va_P D ccl [(h0, .inr (2, [.ref mk, .int (nI kc), .int (nI kl), .int (nI kg), .int fe])), (mk, .inl (cJ, 1263, .inr (.inl g))), (hs, .inr (5, [.int nu, .int (mw J), .ref sb, .int x1, .int x2, .int y1, .int y2])), (sb, .inl (cI, 5, .inl (fun z9 => if z9 < 5 then mc (5 * J + z9) else 0)))] s.heap := hP
  have hl : lv_has ls 5 [(0, .ref h0), (1, .ref hs), (2, .int (nI a))] := hl
  have hX : ∀ q t, q < 40401 → nxO mc mw J q = some t → t < 40401 := fun q t h1 h2 => nxO_lt h1 h2
  have hn9 := wayN_le hX hst hwn
  have hT : ∀ k, k < n → tv (nxO mc mw J) st k < 40401 := fun k hk => way_lt hX hst hwn hk
  subst hia
  have hqi := hT i hi
  refine lv_iconst (v := 0) hx hb dX1_countCycle_0 (by decide) ?_
  refine lv_istore_n (lv' := [(3, .int 0), (0, .ref h0), (1, .ref hs), (2, .int (nI (tv (nxO mc mw J) st i)))]) hx hb dX1_countCycle_1 rfl hl (by decide) rfl (fun ls hl => ?_)
  refine lv_iload_n hx hb dX1_countCycle_2 rfl (lv_at hl 3 rfl) ?_
  refine lv_istore (lv' := [(4, .int (nI (tv (nxO mc mw J) st i))), (3, .int 0), (0, .ref h0), (1, .ref hs), (2, .int (nI (tv (nxO mc mw J) st i)))]) hx hb dX1_countCycle_3 hl (by decide) rfl (fun ls hl => ?_)
  refine W.widen (k := 0) (n := 0) (Nat.le_refl _) (Nat.le_refl _) ?_
  refine g_while (σ := Nat) (st := []) (nL := 5) (fun t9 => [(h0, .inr (2, [.ref mk, .int (nI kc), .int (nI kl), .int (nI (gmx (nxO mc mw J) st kg i t9)), .int fe])), (mk, .inl (cJ, 1263, .inr (.inl g))), (hs, .inr (5, [.int nu, .int (mw J), .ref sb, .int x1, .int x2, .int y1, .int y2])), (sb, .inl (cI, 5, .inl (fun z9 => if z9 < 5 then mc (5 * J + z9) else 0)))])
    (fun t9 => [(0, .ref h0), (1, .ref hs), (2, .int (nI (tv (nxO mc mw J) st i))), (3, .int (nI t9)), (4, .int (nI (tv (nxO mc mw J) st (i + t9))))])
    (fun t9 => t9 < n - i)
    (fun t9 => n - i - t9) (fun t9 => 0) (fun t9 => 0)
    ?_ 0 (by omega) hP hD hS (lv_sub hl [2, 3, 4, 1, 0] rfl)
  intro t9 hI H locs ls hP hD hS hl ih
  have hI : t9 < n - i := hI
  have hP : va_P D ccl [(h0, .inr (2, [.ref mk, .int (nI kc), .int (nI kl), .int (nI (gmx (nxO mc mw J) st kg i t9)), .int fe])), (mk, .inl (cJ, 1263, .inr (.inl g))), (hs, .inr (5, [.int nu, .int (mw J), .ref sb, .int x1, .int x2, .int y1, .int y2])), (sb, .inl (cI, 5, .inl (fun z9 => if z9 < 5 then mc (5 * J + z9) else 0)))] H := hP
  have hD : va_D A [(h0, .inr (2, [.ref mk, .int (nI kc), .int (nI kl), .int (nI (gmx (nxO mc mw J) st kg i t9)), .int fe])), (mk, .inl (cJ, 1263, .inr (.inl g))), (hs, .inr (5, [.int nu, .int (mw J), .ref sb, .int x1, .int x2, .int y1, .int y2])), (sb, .inl (cI, 5, .inl (fun z9 => if z9 < 5 then mc (5 * J + z9) else 0)))] := hD
  have hl : lv_has ls 5 [(0, .ref h0), (1, .ref hs), (2, .int (nI (tv (nxO mc mw J) st i))), (3, .int (nI t9)), (4, .int (nI (tv (nxO mc mw J) st (i + t9))))] := hl
  change W p l e _ s m _ below meth c H locs 0 0 _ (F0 m 5 ls [])
  have ih_5 := ih
  clear ih
  have hT7 := hT (i + t9) (by omega)
  have hg7 : gmx (nxO mc mw J) st kg i t9 ≤ 200 := gmx_le hkg (fun j9 hj9 => hT (i + j9) (by omega))
  have hay7 := ayq_le (q := tv (nxO mc mw J) st (i + t9) / 201) (by omega)
  refine lv_iinc (v := nI (t9 + 1)) (lv' := [(3, .int (nI (t9 + 1))), (0, .ref h0), (1, .ref hs), (2, .int (nI (tv (nxO mc mw J) st i))), (4, .int (nI (tv (nxO mc mw J) st (i + t9))))]) hx hb dX1_countCycle_5 hl (k := 3) rfl (by exact nI_1 _) (by decide) rfl (fun ls hl => ?_)
  refine lv_aload_n hx hb dX1_countCycle_8 rfl (lv_at hl 1 rfl) ?_
  refine lv_aload_n hx hb dX1_countCycle_9 rfl (lv_at hl 1 rfl) ?_
  refine va_get (D := D) (ci := 2) (v := .int (nI (gmx (nxO mc mw J) st kg i t9))) (C := RX1) (T := TX1) (N := 5) hx hb hts inX1 hown hK hP 0 rfl rfl 3 (by decide) hfieldLink_RX1_26 (fun _ h9 => h9) rfl dX1_countCycle_10 ?_
  refine lv_iload hx hb dX1_countCycle_13 (lv_at hl 4 rfl) ?_
  have hPc : va_P D ccl [] H := fun k q h => by simp at h
  have hDc : va_D A [] := ⟨fun i j p q h => by simp at h, fun k q h => by simp at h⟩
  have hFc := va_free (wc := []) hD hS hA [] rfl
  refine g_Si (As := [.int (nI (tv (nxO mc mw J) st (i + t9)))]) (rest := [.int (nI (gmx (nxO mc mw J) st kg i t9)), .ref h0]) CF (c_X1_lastOf l D cI cJ cO df H.size (tv (nxO mc mw J) st (i + t9)) hT7) (va_cwS 1 hts gX1_countCycle_X1_lastOf rfl rfl rfl (by decide +kernel) ⟨Nat.le_of_ble_eq_true rfl, Nat.le_of_ble_eq_true rfl⟩)  hPc hK hDc hV hH hS hFc rfl hl.1 rfl (Nat.le_of_ble_eq_true rfl) dX1_countCycle_15 ⟨Nat.le_of_ble_eq_true rfl, Nat.le_of_ble_eq_true rfl⟩ (fun r_15 w1 H1 locs1 hq hP1 hD1 hk hS hz => ?_)
  obtain ⟨rfl, hr_15⟩ := hq
  have hP := g_keep0 hP hk
  clear hPc hDc hFc hP1 hD1 hk hz
  generalize H1 = H at hP hS ⊢
  have hP : va_P D ccl [(h0, .inr (2, [.ref mk, .int (nI kc), .int (nI kl), .int (nI (gmx (nxO mc mw J) st kg i t9)), .int fe])), (mk, .inl (cJ, 1263, .inr (.inl g))), (hs, .inr (5, [.int nu, .int (mw J), .ref sb, .int x1, .int x2, .int y1, .int y2])), (sb, .inl (cI, 5, .inl (fun z9 => if z9 < 5 then mc (5 * J + z9) else 0)))] H := hP
  have hD : va_D A [(h0, .inr (2, [.ref mk, .int (nI kc), .int (nI kl), .int (nI (gmx (nxO mc mw J) st kg i t9)), .int fe])), (mk, .inl (cJ, 1263, .inr (.inl g))), (hs, .inr (5, [.int nu, .int (mw J), .ref sb, .int x1, .int x2, .int y1, .int y2])), (sb, .inl (cI, 5, .inl (fun z9 => if z9 < 5 then mc (5 * J + z9) else 0)))] := hD
  subst hr_15
  refine va_mabs hx hb (by rw [hml]; exact hl.1.symm) hown hmethodLink_RX1_63 hstatic_Lib_Math_abs_name hinitialized_java_lang_Math hcode_Lib_Math_abs_name (Nat.le_of_ble_eq_true rfl) (Nat.le_of_ble_eq_true rfl) (Nat.le_of_ble_eq_true rfl) (Nat.le_of_ble_eq_true rfl) dX1_countCycle_18 ?_
  refine lv_topi (fun f ef => ?_)
  obtain rfl : f = nI (ayq (tv (nxO mc mw J) st (i + t9) / 201)) := ef.trans ((abs_mSize _).trans (mSize_100 (by omega)))
  refine va_mmax hx hb (by rw [hml]; exact hl.1.symm) hown hmethodLink_RX1_68 hstatic_Lib_Math_max_name hinitialized_java_lang_Math hcode_Lib_Math_max_name (Nat.le_of_ble_eq_true rfl) (Nat.le_of_ble_eq_true rfl) (Nat.le_of_ble_eq_true rfl) (Nat.le_of_ble_eq_true rfl) dX1_countCycle_21 ?_
  refine lv_topi (fun f ef => ?_)
  obtain rfl : f = nI (gmx (nxO mc mw J) st kg i (t9 + 1)) := ef.trans (nI_max (by omega) (by omega))
  refine va_put (D := D) (ci := 2) (v := .int (nI (gmx (nxO mc mw J) st kg i (t9 + 1)))) (ty := .int) (C := RX1) (T := TX1) (N := 5) hx hb hts inX1 tyX1 tyX1_ok nmX1 hown hK hP hD hS 0 rfl rfl 3 (by decide) hfieldLink_RX1_26 (fun _ h9 => h9) rfl (by decide +kernel) rfl rfl (Nat.le_of_ble_eq_true rfl) dX1_countCycle_24 (fun H locs hP hD hS => ?_)
  have hP : va_P D ccl [(h0, .inr (2, [.ref mk, .int (nI kc), .int (nI kl), .int (nI (gmx (nxO mc mw J) st kg i (t9 + 1))), .int fe])), (mk, .inl (cJ, 1263, .inr (.inl g))), (hs, .inr (5, [.int nu, .int (mw J), .ref sb, .int x1, .int x2, .int y1, .int y2])), (sb, .inl (cI, 5, .inl (fun z9 => if z9 < 5 then mc (5 * J + z9) else 0)))] H := hP
  have hD : va_D A [(h0, .inr (2, [.ref mk, .int (nI kc), .int (nI kl), .int (nI (gmx (nxO mc mw J) st kg i (t9 + 1))), .int fe])), (mk, .inl (cJ, 1263, .inr (.inl g))), (hs, .inr (5, [.int nu, .int (mw J), .ref sb, .int x1, .int x2, .int y1, .int y2])), (sb, .inl (cI, 5, .inl (fun z9 => if z9 < 5 then mc (5 * J + z9) else 0)))] := hD
  refine lv_aload_n hx hb dX1_countCycle_27 rfl (lv_at hl 2 rfl) ?_
  refine lv_iload hx hb dX1_countCycle_28 (lv_at hl 4 rfl) ?_
  have hPc := hP.sub (ws' := [(hs, .inr (5, [.int nu, .int (mw J), .ref sb, .int x1, .int x2, .int y1, .int y2])), (sb, .inl (cI, 5, .inl (fun z9 => if z9 < 5 then mc (5 * J + z9) else 0)))]) [2, 3] rfl
  have hDc := hD.sub (ws' := [(hs, .inr (5, [.int nu, .int (mw J), .ref sb, .int x1, .int x2, .int y1, .int y2])), (sb, .inl (cI, 5, .inl (fun z9 => if z9 < 5 then mc (5 * J + z9) else 0)))]) [2, 3] (by decide) rfl
  have hFc := va_free (wc := [(hs, .inr (5, [.int nu, .int (mw J), .ref sb, .int x1, .int x2, .int y1, .int y2])), (sb, .inl (cI, 5, .inl (fun z9 => if z9 < 5 then mc (5 * J + z9) else 0)))]) hD hS hA [2, 3] rfl
  refine g_Si (As := [.ref hs, .int (nI (tv (nxO mc mw J) st (i + t9)))]) (rest := []) CF (c_X1_next l D cI cJ cO df H.size hs sb nu x1 x2 y1 y2 mc mw J (tv (nxO mc mw J) st (i + t9)) hJ hc hw hT7) (va_cwS 2 hts gX1_countCycle_X1_next rfl rfl rfl (by decide +kernel) ⟨Nat.le_of_ble_eq_true rfl, Nat.le_of_ble_eq_true rfl⟩)  hPc hK hDc hV hH hS hFc rfl hl.1 rfl (Nat.le_of_ble_eq_true rfl) dX1_countCycle_30 ⟨Nat.le_of_ble_eq_true rfl, Nat.le_of_ble_eq_true rfl⟩ (fun r_30 w1 H1 locs1 hq hP1 hD1 hk hS hz => ?_)
  obtain ⟨rfl, hr_30⟩ := hq
  have hP := g_keepR hP hD [2, 3] rfl hk hP1
  clear hPc hDc hFc hP1 hD1 hk hz
  generalize H1 = H at hP hS ⊢
  have hP : va_P D ccl [(h0, .inr (2, [.ref mk, .int (nI kc), .int (nI kl), .int (nI (gmx (nxO mc mw J) st kg i (t9 + 1))), .int fe])), (mk, .inl (cJ, 1263, .inr (.inl g))), (hs, .inr (5, [.int nu, .int (mw J), .ref sb, .int x1, .int x2, .int y1, .int y2])), (sb, .inl (cI, 5, .inl (fun z9 => if z9 < 5 then mc (5 * J + z9) else 0)))] H := hP
  have hD : va_D A [(h0, .inr (2, [.ref mk, .int (nI kc), .int (nI kl), .int (nI (gmx (nxO mc mw J) st kg i (t9 + 1))), .int fe])), (mk, .inl (cJ, 1263, .inr (.inl g))), (hs, .inr (5, [.int nu, .int (mw J), .ref sb, .int x1, .int x2, .int y1, .int y2])), (sb, .inl (cI, 5, .inl (fun z9 => if z9 < 5 then mc (5 * J + z9) else 0)))] := hD
  subst hr_30
  refine lv_topi (fun f ef => ?_)
  obtain rfl : f = oI (tr (nxO mc mw J) st (i + t9 + 1)) := ef.trans (by rw [tr_s (hwn.1 (i + t9) (by omega)).1])
  refine lv_istore (lv' := [(4, .int (oI (tr (nxO mc mw J) st (i + t9 + 1)))), (3, .int (nI (t9 + 1))), (0, .ref h0), (1, .ref hs), (2, .int (nI (tv (nxO mc mw J) st i)))]) hx hb dX1_countCycle_33 hl (by decide) rfl (fun ls hl => ?_)
  by_cases hend : t9 + 1 = n - i
  · have e9 : tr (nxO mc mw J) st (i + t9 + 1) = some (tv (nxO mc mw J) st i) := by rw [show i + t9 + 1 = n by omega]; exact hti
    have hl : lv_has ls 5 [(4, .int (nI (tv (nxO mc mw J) st i))), (3, .int (nI (t9 + 1))), (0, .ref h0), (1, .ref hs), (2, .int (nI (tv (nxO mc mw J) st i)))] := by rw [e9] at hl; exact hl
    refine lv_iload hx hb dX1_countCycle_35 (lv_at hl 0 rfl) ?_
    refine lv_iload_n hx hb dX1_countCycle_37 rfl (lv_at hl 4 rfl) ?_
    refine lv_icmp_eq (tgt := 47) hx hb dX1_countCycle_38 (by decide) (fun c_38 => ?_) (fun c_38 => ?_)
    · have c_38 : tv (nxO mc mw J) st i = tv (nxO mc mw J) st i := g_eq (a := tv (nxO mc mw J) st i) (b := tv (nxO mc mw J) st i) c_38 (by omega) (by omega)
      refine lv_aload_n hx hb dX1_countCycle_47 rfl (lv_at hl 2 rfl) ?_
      refine lv_dup hx hb dX1_countCycle_48 rfl ?_
      refine va_get (D := D) (ci := 2) (v := .int (nI kc)) (C := RX1) (T := TX1) (N := 5) hx hb hts inX1 hown hK hP 0 rfl rfl 1 (by decide) hfieldLink_RX1_19 (fun _ h9 => h9) rfl dX1_countCycle_49 ?_
      refine lv_iconst (v := 1) hx hb dX1_countCycle_52 (by decide) ?_
      refine lv_iadd hx hb dX1_countCycle_53 ?_
      refine lv_topi (fun f ef => ?_)
      obtain rfl : f = nI (kc + 1) := ef.trans (nI_add _ _)
      refine va_put (D := D) (ci := 2) (v := .int (nI (kc + 1))) (ty := .int) (C := RX1) (T := TX1) (N := 5) hx hb hts inX1 tyX1 tyX1_ok nmX1 hown hK hP hD hS 0 rfl rfl 1 (by decide) hfieldLink_RX1_19 (fun _ h9 => h9) rfl (by decide +kernel) rfl rfl (Nat.le_of_ble_eq_true rfl) dX1_countCycle_54 (fun H locs hP hD hS => ?_)
      have hP : va_P D ccl [(h0, .inr (2, [.ref mk, .int (nI (kc + 1)), .int (nI kl), .int (nI (gmx (nxO mc mw J) st kg i (t9 + 1))), .int fe])), (mk, .inl (cJ, 1263, .inr (.inl g))), (hs, .inr (5, [.int nu, .int (mw J), .ref sb, .int x1, .int x2, .int y1, .int y2])), (sb, .inl (cI, 5, .inl (fun z9 => if z9 < 5 then mc (5 * J + z9) else 0)))] H := hP
      have hD : va_D A [(h0, .inr (2, [.ref mk, .int (nI (kc + 1)), .int (nI kl), .int (nI (gmx (nxO mc mw J) st kg i (t9 + 1))), .int fe])), (mk, .inl (cJ, 1263, .inr (.inl g))), (hs, .inr (5, [.int nu, .int (mw J), .ref sb, .int x1, .int x2, .int y1, .int y2])), (sb, .inl (cI, 5, .inl (fun z9 => if z9 < 5 then mc (5 * J + z9) else 0)))] := hD
      refine lv_aload_n hx hb dX1_countCycle_57 rfl (lv_at hl 2 rfl) ?_
      refine lv_aload_n hx hb dX1_countCycle_58 rfl (lv_at hl 2 rfl) ?_
      refine va_get (D := D) (ci := 2) (v := .int (nI kl)) (C := RX1) (T := TX1) (N := 5) hx hb hts inX1 hown hK hP 0 rfl rfl 2 (by decide) hfieldLink_RX1_23 (fun _ h9 => h9) rfl dX1_countCycle_59 ?_
      refine lv_iload_n hx hb dX1_countCycle_62 rfl (lv_at hl 1 rfl) ?_
      refine va_mmax hx hb (by rw [hml]; exact hl.1.symm) hown hmethodLink_RX1_68 hstatic_Lib_Math_max_name hinitialized_java_lang_Math hcode_Lib_Math_max_name (Nat.le_of_ble_eq_true rfl) (Nat.le_of_ble_eq_true rfl) (Nat.le_of_ble_eq_true rfl) (Nat.le_of_ble_eq_true rfl) dX1_countCycle_63 ?_
      refine lv_topi (fun f ef => ?_)
      obtain rfl : f = nI (max kl (t9 + 1)) := ef.trans (nI_max (by omega) (by omega))
      refine va_put (D := D) (ci := 2) (v := .int (nI (max kl (t9 + 1)))) (ty := .int) (C := RX1) (T := TX1) (N := 5) hx hb hts inX1 tyX1 tyX1_ok nmX1 hown hK hP hD hS 0 rfl rfl 2 (by decide) hfieldLink_RX1_23 (fun _ h9 => h9) rfl (by decide +kernel) rfl rfl (Nat.le_of_ble_eq_true rfl) dX1_countCycle_66 (fun H locs hP hD hS => ?_)
      have hP : va_P D ccl [(h0, .inr (2, [.ref mk, .int (nI (kc + 1)), .int (nI (max kl (t9 + 1))), .int (nI (gmx (nxO mc mw J) st kg i (t9 + 1))), .int fe])), (mk, .inl (cJ, 1263, .inr (.inl g))), (hs, .inr (5, [.int nu, .int (mw J), .ref sb, .int x1, .int x2, .int y1, .int y2])), (sb, .inl (cI, 5, .inl (fun z9 => if z9 < 5 then mc (5 * J + z9) else 0)))] H := hP
      have hD : va_D A [(h0, .inr (2, [.ref mk, .int (nI (kc + 1)), .int (nI (max kl (t9 + 1))), .int (nI (gmx (nxO mc mw J) st kg i (t9 + 1))), .int fe])), (mk, .inl (cJ, 1263, .inr (.inl g))), (hs, .inr (5, [.int nu, .int (mw J), .ref sb, .int x1, .int x2, .int y1, .int y2])), (sb, .inl (cI, 5, .inl (fun z9 => if z9 < 5 then mc (5 * J + z9) else 0)))] := hD
      refine g_vret hx hb hr hlk hP hK hD hS (Nat.le_of_ble_eq_true rfl) (Nat.le_of_ble_eq_true rfl) dX1_countCycle_69 ?_
      show _ = _
      rw [← hend]
    · have c_38 : tv (nxO mc mw J) st i ≠ tv (nxO mc mw J) st i := g_ne (a := tv (nxO mc mw J) st i) (b := tv (nxO mc mw J) st i) c_38 (by omega) (by omega)
      exact absurd rfl c_38
  · have e9 : tr (nxO mc mw J) st (i + t9 + 1) = some (tv (nxO mc mw J) st (i + (t9 + 1))) := (hwn.1 (i + (t9 + 1)) (by omega)).1
    have hT8 := hT (i + (t9 + 1)) (by omega)
    have hl : lv_has ls 5 [(4, .int (nI (tv (nxO mc mw J) st (i + (t9 + 1))))), (3, .int (nI (t9 + 1))), (0, .ref h0), (1, .ref hs), (2, .int (nI (tv (nxO mc mw J) st i)))] := by rw [e9] at hl; exact hl
    refine lv_iload hx hb dX1_countCycle_35 (lv_at hl 0 rfl) ?_
    refine lv_iload_n hx hb dX1_countCycle_37 rfl (lv_at hl 4 rfl) ?_
    refine lv_icmp_eq (tgt := 47) hx hb dX1_countCycle_38 (by decide) (fun c_38 => ?_) (fun c_38 => ?_)
    · have c_38 : tv (nxO mc mw J) st (i + (t9 + 1)) = tv (nxO mc mw J) st i := g_eq (a := tv (nxO mc mw J) st (i + (t9 + 1))) (b := tv (nxO mc mw J) st i) c_38 (by omega) (by omega)
      exact absurd c_38 (Ne.symm (hwn.2 i (i + (t9 + 1)) (by omega) (by omega)))
    · have c_38 : tv (nxO mc mw J) st (i + (t9 + 1)) ≠ tv (nxO mc mw J) st i := g_ne (a := tv (nxO mc mw J) st (i + (t9 + 1))) (b := tv (nxO mc mw J) st i) c_38 (by omega) (by omega)
      refine lv_iload_n hx hb dX1_countCycle_41 rfl (lv_at hl 1 rfl) ?_
      refine lv_ldc (v := 40401) hx hb hown hconstant_RX1_51 dX1_countCycle_42 ?_
      refine lv_icmp_lt (tgt := 5) hx hb dX1_countCycle_44 (by decide) (fun c_44 => ?_) (fun c_44 => ?_)
      · have c_44 : t9 + 1 < 40401 := g_lt (a := t9 + 1) (b := 40401) c_44 (by omega) (by omega)
        refine W.widen (k := 0) (n := 0) (Nat.le_refl _) (Nat.le_refl _) ?_
        exact ih_5 (t9 + 1) _ _ _ (show (t9 + 1) < n - i from (by omega)) (show n - i - (t9 + 1) < n - i - t9 by omega) hP hD hS (lv_sub hl [2, 3, 4, 1, 0] rfl)
      · have c_44 : 40401 ≤ t9 + 1 := g_nlt (a := t9 + 1) (b := 40401) c_44 (by omega) (by omega)
        omega
