set_option maxHeartbeats 4000000 in
set_option maxRecDepth 100000 in
theorem c_X4_init (l : Launch) (D : va_G) (cI cJ cO : ClassId) (df sz : Nat) (h0 : Nat) (nu : Int32) (wy : Int32)  : MetV l yX4_init wsX4_init ({ frames := 1, cells := 1, slots := 5, locals := 30 } : Room) D (gTY cI cJ cO) df [(h0, .inr (5, [.int 0, .int 0, .null, .int 0, .int 0, .int 0, .int 0]))] sz [.ref h0, .int nu, .int wy] (fun (wZ : va_W) => ∃ (b1 : Nat), wZ = [(h0, .inr (5, [.int nu, .int wy, .ref b1, .int 0, .int 0, .int 0, .int 0])), (b1, .inl (cI, 5, .inl (upd (fun _ => 0) 0 64)))]) := by
  refine g_of (cc := cX4_init) (nL := 3) (ret := none) (D := D) (TY := (gTY cI cJ cO)) (df := df) (Qc := fun A => va_Qv (fun (wZ : va_W) => ∃ (b1 : Nat), wZ = [(h0, .inr (5, [.int nu, .int wy, .ref b1, .int 0, .int 0, .int 0, .int 0])), (b1, .inl (cI, 5, .inl (upd (fun _ => 0) 0 64)))]) (gB D (gTY cI cJ cO) A) A) (by decide +kernel) rfl (Nat.le_of_ble_eq_true rfl) ?_
  intro p e s m below meth c ls A hsz C0 hin hl
  obtain ⟨CF, hr, hlk, hA, hS, hP, hK, hD, hV, hH⟩ := C0
  have CF : CallFix p m c cX4_init 3 s _ wsX4_init RX4 := CF
  obtain ⟨hx, hb, hml, hown, hts⟩ := id CF
  subst hsz
  have hmethodLink_RX4_3 : (Cond.methodLink RX4 3 objectInit).before _ s = true := hts _ (List.mem_of_getElem? (i := 1) rfl)
  have hinstanceMethod_objectInit : (Cond.instanceMethod objectInit).before _ s = true := hts _ (List.mem_of_getElem? (i := 2) rfl)
  have hcode_objectInit : (Cond.code objectInit ⟨#[0xb1]⟩ 1 none).before _ s = true := hts _ (List.mem_of_getElem? (i := 3) rfl)
  have hfieldLink_RX4_9 : (Cond.fieldLink RX4 9 "TapLoom$Section" "number" "I").before _ s = true := hts _ (List.mem_of_getElem? (i := 4) rfl)
  have hfieldLink_RX4_15 : (Cond.fieldLink RX4 15 "TapLoom$Section" "way" "I").before _ s = true := hts _ (List.mem_of_getElem? (i := 5) rfl)
  have hArrI : (Cond.arrayClass .int).before _ s = true := hts _ (List.mem_of_getElem? (i := 6) rfl)
  have hfieldLink_RX4_18 : (Cond.fieldLink RX4 18 "TapLoom$Section" "coefficients" "[I").before _ s = true := hts _ (List.mem_of_getElem? (i := 7) rfl)
  have inX4 : ∀ w ∈ u_ws RX4 TX4 7, w ∈ wsX4_init := fun w h => (List.mem_cons_of_mem _ (List.mem_append_right _ h))
  have hP : va_P D ccl [(h0, .inr (5, [.int 0, .int 0, .null, .int 0, .int 0, .int 0, .int 0]))] s.heap := hP
  have hl : lv_has ls 3 [(0, .ref h0), (1, .int nu), (2, .int wy)] := hl
  refine lv_aload_n hx hb dX4_init_0 rfl (lv_at hl 0 rfl) ?_
  refine W.objInit hx hb hown hmethodLink_RX4_3 hinstanceMethod_objectInit hcode_objectInit rfl (by rw [hml]; exact hl.1) rfl dX4_init_1 (Nat.le_of_ble_eq_true rfl) (Nat.le_of_ble_eq_true rfl) ?_
  refine W.eq (g2 := F0 m 4 ls []) rfl ?_
  refine lv_aload_n hx hb dX4_init_4 rfl (lv_at hl 0 rfl) ?_
  refine lv_iload_n hx hb dX4_init_5 rfl (lv_at hl 1 rfl) ?_
  refine va_putF (D := D) (ci := 5) (v := .int nu) (ty := .int) (C := RX4) (T := TX4) (N := 7) hx hb hts inX4 tyX4 tyX4_ok nmX4 hown hK hP hD hS 0 rfl rfl 0 (by decide) hfieldLink_RX4_9 (fun _ h9 => h9) rfl (hin rfl) rfl (by decide +kernel) rfl rfl (Nat.le_of_ble_eq_true rfl) dX4_init_6 (fun H locs hP hD hS => ?_)
  have hP : va_P D ccl [(h0, .inr (5, [.int nu, .int 0, .null, .int 0, .int 0, .int 0, .int 0]))] H := hP
  have hD : va_D A [(h0, .inr (5, [.int nu, .int 0, .null, .int 0, .int 0, .int 0, .int 0]))] := hD
  refine lv_aload_n hx hb dX4_init_9 rfl (lv_at hl 0 rfl) ?_
  refine lv_iload_n hx hb dX4_init_10 rfl (lv_at hl 2 rfl) ?_
  refine va_putF (D := D) (ci := 5) (v := .int wy) (ty := .int) (C := RX4) (T := TX4) (N := 7) hx hb hts inX4 tyX4 tyX4_ok nmX4 hown hK hP hD hS 0 rfl rfl 1 (by decide) hfieldLink_RX4_15 (fun _ h9 => h9) rfl (hin rfl) rfl (by decide +kernel) rfl rfl (Nat.le_of_ble_eq_true rfl) dX4_init_11 (fun H locs hP hD hS => ?_)
  have hP : va_P D ccl [(h0, .inr (5, [.int nu, .int wy, .null, .int 0, .int 0, .int 0, .int 0]))] H := hP
  have hD : va_D A [(h0, .inr (5, [.int nu, .int wy, .null, .int 0, .int 0, .int 0, .int 0]))] := hD
  refine lv_aload_n hx hb dX4_init_14 rfl (lv_at hl 0 rfl) ?_
  refine lv_iconst (v := 5) hx hb dX4_init_15 (by decide) ?_
  refine g_newaI (N := 5) hx hb hArrI hK hP hD hS hA (by decide) (by decide) (Nat.le_of_ble_eq_true rfl) (Nat.le_of_ble_eq_true rfl) (Nat.le_of_ble_eq_true rfl) dX4_init_16 (fun q1 H hP hD hS => ?_)
  have hP : va_P D ccl [(h0, .inr (5, [.int nu, .int wy, .null, .int 0, .int 0, .int 0, .int 0])), (q1, .inl (cI, 5, .inl (fun _ => 0)))] H := hP
  have hD : va_D A [(h0, .inr (5, [.int nu, .int wy, .null, .int 0, .int 0, .int 0, .int 0])), (q1, .inl (cI, 5, .inl (fun _ => 0)))] := hD
  refine va_putF (D := D) (ci := 5) (v := .ref q1) (ty := .array (.int)) (C := RX4) (T := TX4) (N := 7) hx hb hts inX4 tyX4 tyX4_ok nmX4 hown hK hP hD hS 0 rfl rfl 2 (by decide) hfieldLink_RX4_18 (fun _ h9 => h9) rfl (hin rfl) rfl (by decide +kernel) rfl rfl (Nat.le_of_ble_eq_true rfl) dX4_init_18 (fun H locs hP hD hS => ?_)
  have hP : va_P D ccl [(h0, .inr (5, [.int nu, .int wy, .ref q1, .int 0, .int 0, .int 0, .int 0])), (q1, .inl (cI, 5, .inl (fun _ => 0)))] H := hP
  have hD : va_D A [(h0, .inr (5, [.int nu, .int wy, .ref q1, .int 0, .int 0, .int 0, .int 0])), (q1, .inl (cI, 5, .inl (fun _ => 0)))] := hD
  refine lv_aload_n hx hb dX4_init_21 rfl (lv_at hl 0 rfl) ?_
  refine va_get (D := D) (ci := 5) (v := .ref q1) (C := RX4) (T := TX4) (N := 7) hx hb hts inX4 hown hK hP 0 rfl rfl 2 (by decide) hfieldLink_RX4_18 (fun _ h9 => h9) rfl dX4_init_22 ?_
  refine lv_iconst (v := 0) hx hb dX4_init_25 (by decide) ?_
  refine lv_bipush (v := 64) hx hb dX4_init_26 (by decide) ?_
  refine va_iast hx hb hK hP hD hS 1 0 rfl rfl (by unfold vp_in; decide) dX4_init_28 (fun H locs hP hD hS => ?_)
  rw [show ((0 : Int32)).toNatClampNeg = 0 from (by decide)] at hP hD
  have hP : va_P D ccl [(h0, .inr (5, [.int nu, .int wy, .ref q1, .int 0, .int 0, .int 0, .int 0])), (q1, .inl (cI, 5, .inl (upd (fun _ => 0) 0 64)))] H := hP
  have hD : va_D A [(h0, .inr (5, [.int nu, .int wy, .ref q1, .int 0, .int 0, .int 0, .int 0])), (q1, .inl (cI, 5, .inl (upd (fun _ => 0) 0 64)))] := hD
  refine g_vret hx hb hr hlk hP hK hD hS (Nat.le_of_ble_eq_true rfl) (Nat.le_of_ble_eq_true rfl) dX4_init_29 ?_
  exact ⟨_, rfl⟩

set_option maxHeartbeats 4000000 in
set_option maxRecDepth 100000 in
theorem c_X4_coefficient (l : Launch) (D : va_G) (cI cJ cO : ClassId) (df sz : Nat) (h0 : Nat) (b0 : Nat) (nu : Int32) (wy : Int32) (x1 : Int32) (x2 : Int32) (y1 : Int32) (y2 : Int32) (k5 : Nat → Int32) (w : Nat) (hw : w ≤ 4) : MetI l yX4_coefficient wsX4_coefficient ({ frames := 0, cells := 0, slots := 0, locals := 0 } : Room) D (gTY cI cJ cO) df [(h0, .inr (5, [.int nu, .int wy, .ref b0, .int x1, .int x2, .int y1, .int y2])), (b0, .inl (cI, 5, .inl k5))] sz [.ref h0, .int (nI w)] (fun (r : Int32) (wZ : va_W) => wZ = [(h0, .inr (5, [.int nu, .int wy, .ref b0, .int x1, .int x2, .int y1, .int y2])), (b0, .inl (cI, 5, .inl k5))] ∧ r = k5 w) := by
  refine g_of (cc := cX4_coefficient) (nL := 2) (ret := (some .int)) (D := D) (TY := (gTY cI cJ cO)) (df := df) (Qc := fun A => va_Qi (fun (r : Int32) (wZ : va_W) => wZ = [(h0, .inr (5, [.int nu, .int wy, .ref b0, .int x1, .int x2, .int y1, .int y2])), (b0, .inl (cI, 5, .inl k5))] ∧ r = k5 w) (gB D (gTY cI cJ cO) A) A) (by decide +kernel) rfl (Nat.le_of_ble_eq_true rfl) ?_
  intro p e s m below meth c ls A hsz C0 hin hl
  obtain ⟨CF, hr, hlk, hA, hS, hP, hK, hD, hV, hH⟩ := C0
  have CF : CallFix p m c cX4_coefficient 2 s _ wsX4_coefficient RX4 := CF
  obtain ⟨hx, hb, hml, hown, hts⟩ := id CF
  subst hsz
  have hfieldLink_RX4_18 : (Cond.fieldLink RX4 18 "TapLoom$Section" "coefficients" "[I").before _ s = true := hts _ (List.mem_of_getElem? (i := 1) rfl)
  have inX4 : ∀ w ∈ u_ws RX4 TX4 7, w ∈ wsX4_coefficient := fun w h => (List.mem_cons_of_mem _ (List.mem_append_right _ h))
  have hP : va_P D ccl [(h0, .inr (5, [.int nu, .int wy, .ref b0, .int x1, .int x2, .int y1, .int y2])), (b0, .inl (cI, 5, .inl k5))] s.heap := hP
  have hl : lv_has ls 2 [(0, .ref h0), (1, .int (nI w))] := hl
  refine lv_iload_n hx hb dX4_coefficient_0 rfl (lv_at hl 1 rfl) ?_
  refine lv_if_lt (tgt := 18) hx hb dX4_coefficient_1 (by decide) (fun c_1 => ?_) (fun c_1 => ?_)
  · have c_1 : w < 0 := g_lt (a := w) (b := 0) c_1 (by omega) (by omega)
    omega
  · have c_1 : 0 ≤ w := g_nlt (a := w) (b := 0) c_1 (by omega) (by omega)
    refine lv_iload_n hx hb dX4_coefficient_4 rfl (lv_at hl 1 rfl) ?_
    refine lv_iconst (v := 4) hx hb dX4_coefficient_5 (by decide) ?_
    refine lv_icmp_gt (tgt := 18) hx hb dX4_coefficient_6 (by decide) (fun c_6 => ?_) (fun c_6 => ?_)
    · have c_6 : 4 < w := g_lt (a := 4) (b := w) c_6 (by omega) (by omega)
      omega
    · have c_6 : w ≤ 4 := g_nlt (a := 4) (b := w) c_6 (by omega) (by omega)
      refine lv_aload_n hx hb dX4_coefficient_9 rfl (lv_at hl 0 rfl) ?_
      refine va_get (D := D) (ci := 5) (v := .ref b0) (C := RX4) (T := TX4) (N := 7) hx hb hts inX4 hown hK hP 0 rfl rfl 2 (by decide) hfieldLink_RX4_18 (fun _ h9 => h9) rfl dX4_coefficient_10 ?_
      refine lv_iload_n hx hb dX4_coefficient_13 rfl (lv_at hl 1 rfl) ?_
      refine va_iald hx hb hK hP 1 0 rfl rfl (vp_in_nI (by omega) (by omega)) dX4_coefficient_14 ?_
      refine lv_topi (fun f ef => ?_)
      obtain rfl : f = k5 w := ef.trans (congrArg k5 (nI_clamp (n := w) (by omega)))
      refine lv_goto (tgt := 19) hx hb dX4_coefficient_15 (by decide) ?_
      refine g_iret (v := k5 w) hx hb hr hlk hP hK hD hS (Nat.le_of_ble_eq_true rfl) (Nat.le_of_ble_eq_true rfl) dX4_coefficient_19 ?_
      exact ⟨rfl, (by first | rfl | (simp [c_1, c_6]; done))⟩

set_option maxHeartbeats 4000000 in
set_option maxRecDepth 100000 in
theorem c_X4_replace (l : Launch) (D : va_G) (cI cJ cO : ClassId) (df sz : Nat) (h0 : Nat) (b0 : Nat) (nu : Int32) (wy : Int32) (x1 : Int32) (x2 : Int32) (y1 : Int32) (y2 : Int32) (k5 : Nat → Int32) (w : Nat) (v : Int32) (hw : w ≤ 4) : MetI l yX4_replace wsX4_replace ({ frames := 1, cells := 0, slots := 0, locals := 21 } : Room) D (gTY cI cJ cO) df [(h0, .inr (5, [.int nu, .int wy, .ref b0, .int x1, .int x2, .int y1, .int y2])), (b0, .inl (cI, 5, .inl k5))] sz [.ref h0, .int (nI w), .int v] (fun (r : Int32) (wZ : va_W) => wZ = [(h0, .inr (5, [.int nu, .int wy, .ref b0, .int x1, .int x2, .int y1, .int y2])), (b0, .inl (cI, 5, .inl (upd k5 w v)))] ∧ r = k5 w) := by
  refine g_of (cc := cX4_replace) (nL := 4) (ret := (some .int)) (D := D) (TY := (gTY cI cJ cO)) (df := df) (Qc := fun A => va_Qi (fun (r : Int32) (wZ : va_W) => wZ = [(h0, .inr (5, [.int nu, .int wy, .ref b0, .int x1, .int x2, .int y1, .int y2])), (b0, .inl (cI, 5, .inl (upd k5 w v)))] ∧ r = k5 w) (gB D (gTY cI cJ cO) A) A) (by decide +kernel) rfl (Nat.le_of_ble_eq_true rfl) ?_
  intro p e s m below meth c ls A hsz C0 hin hl
  obtain ⟨CF, hr, hlk, hA, hS, hP, hK, hD, hV, hH⟩ := C0
  have CF : CallFix p m c cX4_replace 4 s _ wsX4_replace RX4 := CF
  obtain ⟨hx, hb, hml, hown, hts⟩ := id CF
  subst hsz
  have hmethodLink_RX4_22 : (Cond.methodLink RX4 22 yX4_coefficient).before _ s = true := hts _ (List.mem_of_getElem? (i := 2) rfl)
  have hfieldLink_RX4_18 : (Cond.fieldLink RX4 18 "TapLoom$Section" "coefficients" "[I").before _ s = true := hts _ (List.mem_of_getElem? (i := 1) rfl)
  have inX4 : ∀ w ∈ u_ws RX4 TX4 7, w ∈ wsX4_replace := fun w h => (List.mem_cons_of_mem _ (List.mem_append_right _ h))
  have hP : va_P D ccl [(h0, .inr (5, [.int nu, .int wy, .ref b0, .int x1, .int x2, .int y1, .int y2])), (b0, .inl (cI, 5, .inl k5))] s.heap := hP
  have hl : lv_has ls 4 [(0, .ref h0), (1, .int (nI w)), (2, .int v)] := hl
  refine lv_aload_n hx hb dX4_replace_0 rfl (lv_at hl 0 rfl) ?_
  refine lv_iload_n hx hb dX4_replace_1 rfl (lv_at hl 1 rfl) ?_
  have hPc := hP.sub (ws' := [(h0, .inr (5, [.int nu, .int wy, .ref b0, .int x1, .int x2, .int y1, .int y2])), (b0, .inl (cI, 5, .inl k5))]) [0, 1] rfl
  have hDc := hD.sub (ws' := [(h0, .inr (5, [.int nu, .int wy, .ref b0, .int x1, .int x2, .int y1, .int y2])), (b0, .inl (cI, 5, .inl k5))]) [0, 1] (by decide) rfl
  have hFc := va_free (wc := [(h0, .inr (5, [.int nu, .int wy, .ref b0, .int x1, .int x2, .int y1, .int y2])), (b0, .inl (cI, 5, .inl k5))]) hD hS hA [0, 1] rfl
  refine g_Vi (As := [.int (nI w)]) (rest := []) CF (c_X4_coefficient l D cI cJ cO df s.heap.size h0 b0 nu wy x1 x2 y1 y2 k5 w hw) (cwV 1 hts gX4_replace_X4_coefficient rfl rfl rfl (by decide +kernel) ⟨Nat.le_of_ble_eq_true rfl, Nat.le_of_ble_eq_true rfl⟩) (va_recv hK hP (ci := 5) (q0 := 0) rfl rfl) hPc hK hDc hV hH hS hFc rfl hl.1 rfl (Nat.le_of_ble_eq_true rfl) dX4_replace_2 ⟨Nat.le_of_ble_eq_true rfl, Nat.le_of_ble_eq_true rfl⟩ (fun r_2 w1 H1 locs1 hq hP1 hD1 hk hS hz => ?_)
  obtain ⟨rfl, hr_2⟩ := hq
  have hP := g_keepR hP hD [0, 1] rfl hk hP1
  clear hPc hDc hFc hP1 hD1 hk hz
  generalize H1 = H at hP hS ⊢
  have hP : va_P D ccl [(h0, .inr (5, [.int nu, .int wy, .ref b0, .int x1, .int x2, .int y1, .int y2])), (b0, .inl (cI, 5, .inl k5))] H := hP
  have hD : va_D A [(h0, .inr (5, [.int nu, .int wy, .ref b0, .int x1, .int x2, .int y1, .int y2])), (b0, .inl (cI, 5, .inl k5))] := hD
  subst hr_2
  refine lv_istore_n (lv' := [(3, .int (k5 w)), (0, .ref h0), (1, .int (nI w)), (2, .int v)]) hx hb dX4_replace_5 rfl hl (by decide) rfl (fun ls hl => ?_)
  refine lv_iload_n hx hb dX4_replace_6 rfl (lv_at hl 2 rfl) ?_
  refine lv_if_lt (tgt := 22) hx hb dX4_replace_7 (by decide) (fun c_7 => ?_) (fun c_7 => ?_)
  · have c_7 : w < 0 := g_lt (a := w) (b := 0) c_7 (by omega) (by omega)
    omega
  · have c_7 : 0 ≤ w := g_nlt (a := w) (b := 0) c_7 (by omega) (by omega)
    refine lv_iload_n hx hb dX4_replace_10 rfl (lv_at hl 2 rfl) ?_
    refine lv_iconst (v := 4) hx hb dX4_replace_11 (by decide) ?_
    refine lv_icmp_gt (tgt := 22) hx hb dX4_replace_12 (by decide) (fun c_12 => ?_) (fun c_12 => ?_)
    · have c_12 : 4 < w := g_lt (a := 4) (b := w) c_12 (by omega) (by omega)
      omega
    · have c_12 : w ≤ 4 := g_nlt (a := 4) (b := w) c_12 (by omega) (by omega)
      refine lv_aload_n hx hb dX4_replace_15 rfl (lv_at hl 1 rfl) ?_
      refine va_get (D := D) (ci := 5) (v := .ref b0) (C := RX4) (T := TX4) (N := 7) hx hb hts inX4 hown hK hP 0 rfl rfl 2 (by decide) hfieldLink_RX4_18 (fun _ h9 => h9) rfl dX4_replace_16 ?_
      refine lv_iload_n hx hb dX4_replace_19 rfl (lv_at hl 2 rfl) ?_
      refine lv_iload_n hx hb dX4_replace_20 rfl (lv_at hl 3 rfl) ?_
      refine va_iast hx hb hK hP hD hS 1 0 rfl rfl (vp_in_nI (by omega) (by omega)) dX4_replace_21 (fun H locs hP hD hS => ?_)
      rw [show (nI w).toNatClampNeg = w from (nI_clamp (by omega))] at hP hD
      have hP : va_P D ccl [(h0, .inr (5, [.int nu, .int wy, .ref b0, .int x1, .int x2, .int y1, .int y2])), (b0, .inl (cI, 5, .inl (upd k5 w v)))] H := hP
      have hD : va_D A [(h0, .inr (5, [.int nu, .int wy, .ref b0, .int x1, .int x2, .int y1, .int y2])), (b0, .inl (cI, 5, .inl (upd k5 w v)))] := hD
      refine lv_iload_n hx hb dX4_replace_22 rfl (lv_at hl 0 rfl) ?_
      refine g_iret (v := k5 w) hx hb hr hlk hP hK hD hS (Nat.le_of_ble_eq_true rfl) (Nat.le_of_ble_eq_true rfl) dX4_replace_23 ?_
      exact ⟨rfl, (by first | rfl | (simp [c_7, c_12]; done))⟩

set_option maxHeartbeats 4000000 in
set_option maxRecDepth 100000 in
theorem c_X4_calm (l : Launch) (D : va_G) (cI cJ cO : ClassId) (df sz : Nat) (h0 : Nat) (b0 : Nat) (nu : Int32) (wy : Int32) (x1 : Int32) (x2 : Int32) (y1 : Int32) (y2 : Int32) (k5 : Nat → Int32)  : MetV l yX4_calm wsX4_calm ({ frames := 0, cells := 0, slots := 0, locals := 0 } : Room) D (gTY cI cJ cO) df [(h0, .inr (5, [.int nu, .int wy, .ref b0, .int x1, .int x2, .int y1, .int y2])), (b0, .inl (cI, 5, .inl k5))] sz [.ref h0] (fun (wZ : va_W) => wZ = [(h0, .inr (5, [.int nu, .int wy, .ref b0, .int 0, .int 0, .int 0, .int 0])), (b0, .inl (cI, 5, .inl k5))]) := by
  refine g_of (cc := cX4_calm) (nL := 1) (ret := none) (D := D) (TY := (gTY cI cJ cO)) (df := df) (Qc := fun A => va_Qv (fun (wZ : va_W) => wZ = [(h0, .inr (5, [.int nu, .int wy, .ref b0, .int 0, .int 0, .int 0, .int 0])), (b0, .inl (cI, 5, .inl k5))]) (gB D (gTY cI cJ cO) A) A) (by decide +kernel) rfl (Nat.le_of_ble_eq_true rfl) ?_
  intro p e s m below meth c ls A hsz C0 hin hl
  obtain ⟨CF, hr, hlk, hA, hS, hP, hK, hD, hV, hH⟩ := C0
  have CF : CallFix p m c cX4_calm 1 s _ wsX4_calm RX4 := CF
  obtain ⟨hx, hb, hml, hown, hts⟩ := id CF
  subst hsz
  have hfieldLink_RX4_26 : (Cond.fieldLink RX4 26 "TapLoom$Section" "x1" "I").before _ s = true := hts _ (List.mem_of_getElem? (i := 1) rfl)
  have hfieldLink_RX4_29 : (Cond.fieldLink RX4 29 "TapLoom$Section" "x2" "I").before _ s = true := hts _ (List.mem_of_getElem? (i := 2) rfl)
  have hfieldLink_RX4_32 : (Cond.fieldLink RX4 32 "TapLoom$Section" "y1" "I").before _ s = true := hts _ (List.mem_of_getElem? (i := 3) rfl)
  have hfieldLink_RX4_35 : (Cond.fieldLink RX4 35 "TapLoom$Section" "y2" "I").before _ s = true := hts _ (List.mem_of_getElem? (i := 4) rfl)
  have inX4 : ∀ w ∈ u_ws RX4 TX4 7, w ∈ wsX4_calm := fun w h => (List.mem_cons_of_mem _ (List.mem_append_right _ h))
  have hP : va_P D ccl [(h0, .inr (5, [.int nu, .int wy, .ref b0, .int x1, .int x2, .int y1, .int y2])), (b0, .inl (cI, 5, .inl k5))] s.heap := hP
  have hl : lv_has ls 1 [(0, .ref h0)] := hl
  refine lv_aload_n hx hb dX4_calm_0 rfl (lv_at hl 0 rfl) ?_
  refine lv_iconst (v := 0) hx hb dX4_calm_1 (by decide) ?_
  refine va_put (D := D) (ci := 5) (v := .int 0) (ty := .int) (C := RX4) (T := TX4) (N := 7) hx hb hts inX4 tyX4 tyX4_ok nmX4 hown hK hP hD hS 0 rfl rfl 3 (by decide) hfieldLink_RX4_26 (fun _ h9 => h9) rfl (by decide +kernel) rfl rfl (Nat.le_of_ble_eq_true rfl) dX4_calm_2 (fun H locs hP hD hS => ?_)
  have hP : va_P D ccl [(h0, .inr (5, [.int nu, .int wy, .ref b0, .int 0, .int x2, .int y1, .int y2])), (b0, .inl (cI, 5, .inl k5))] H := hP
  have hD : va_D A [(h0, .inr (5, [.int nu, .int wy, .ref b0, .int 0, .int x2, .int y1, .int y2])), (b0, .inl (cI, 5, .inl k5))] := hD
  refine lv_aload_n hx hb dX4_calm_5 rfl (lv_at hl 0 rfl) ?_
  refine lv_iconst (v := 0) hx hb dX4_calm_6 (by decide) ?_
  refine va_put (D := D) (ci := 5) (v := .int 0) (ty := .int) (C := RX4) (T := TX4) (N := 7) hx hb hts inX4 tyX4 tyX4_ok nmX4 hown hK hP hD hS 0 rfl rfl 4 (by decide) hfieldLink_RX4_29 (fun _ h9 => h9) rfl (by decide +kernel) rfl rfl (Nat.le_of_ble_eq_true rfl) dX4_calm_7 (fun H locs hP hD hS => ?_)
  have hP : va_P D ccl [(h0, .inr (5, [.int nu, .int wy, .ref b0, .int 0, .int 0, .int y1, .int y2])), (b0, .inl (cI, 5, .inl k5))] H := hP
  have hD : va_D A [(h0, .inr (5, [.int nu, .int wy, .ref b0, .int 0, .int 0, .int y1, .int y2])), (b0, .inl (cI, 5, .inl k5))] := hD
  refine lv_aload_n hx hb dX4_calm_10 rfl (lv_at hl 0 rfl) ?_
  refine lv_iconst (v := 0) hx hb dX4_calm_11 (by decide) ?_
  refine va_put (D := D) (ci := 5) (v := .int 0) (ty := .int) (C := RX4) (T := TX4) (N := 7) hx hb hts inX4 tyX4 tyX4_ok nmX4 hown hK hP hD hS 0 rfl rfl 5 (by decide) hfieldLink_RX4_32 (fun _ h9 => h9) rfl (by decide +kernel) rfl rfl (Nat.le_of_ble_eq_true rfl) dX4_calm_12 (fun H locs hP hD hS => ?_)
  have hP : va_P D ccl [(h0, .inr (5, [.int nu, .int wy, .ref b0, .int 0, .int 0, .int 0, .int y2])), (b0, .inl (cI, 5, .inl k5))] H := hP
  have hD : va_D A [(h0, .inr (5, [.int nu, .int wy, .ref b0, .int 0, .int 0, .int 0, .int y2])), (b0, .inl (cI, 5, .inl k5))] := hD
  refine lv_aload_n hx hb dX4_calm_15 rfl (lv_at hl 0 rfl) ?_
  refine lv_iconst (v := 0) hx hb dX4_calm_16 (by decide) ?_
  refine va_put (D := D) (ci := 5) (v := .int 0) (ty := .int) (C := RX4) (T := TX4) (N := 7) hx hb hts inX4 tyX4 tyX4_ok nmX4 hown hK hP hD hS 0 rfl rfl 6 (by decide) hfieldLink_RX4_35 (fun _ h9 => h9) rfl (by decide +kernel) rfl rfl (Nat.le_of_ble_eq_true rfl) dX4_calm_17 (fun H locs hP hD hS => ?_)
  have hP : va_P D ccl [(h0, .inr (5, [.int nu, .int wy, .ref b0, .int 0, .int 0, .int 0, .int 0])), (b0, .inl (cI, 5, .inl k5))] H := hP
  have hD : va_D A [(h0, .inr (5, [.int nu, .int wy, .ref b0, .int 0, .int 0, .int 0, .int 0])), (b0, .inl (cI, 5, .inl k5))] := hD
  refine g_vret hx hb hr hlk hP hK hD hS (Nat.le_of_ble_eq_true rfl) (Nat.le_of_ble_eq_true rfl) dX4_calm_20 ?_
  exact rfl

set_option maxHeartbeats 4000000 in
set_option maxRecDepth 100000 in
theorem c_X4_rounded (l : Launch) (D : va_G) (cI cJ cO : ClassId) (df sz : Nat) (h0 : Nat) (b0 : Nat) (nu : Int32) (wy : Int32) (x1 : Int32) (x2 : Int32) (y1 : Int32) (y2 : Int32) (k5 : Nat → Int32) (v : Int32)  : MetI l yX4_rounded wsX4_rounded ({ frames := 1, cells := 0, slots := 0, locals := 22 } : Room) D (gTY cI cJ cO) df [(h0, .inr (5, [.int nu, .int wy, .ref b0, .int x1, .int x2, .int y1, .int y2])), (b0, .inl (cI, 5, .inl k5))] sz [.ref h0, .int v] (fun (r : Int32) (wZ : va_W) => wZ = [(h0, .inr (5, [.int nu, .int wy, .ref b0, .int x1, .int x2, .int y1, .int y2])), (b0, .inl (cI, 5, .inl k5))] ∧ r = cRnd v wy) := by
  refine g_of (cc := cX4_rounded) (nL := 2) (ret := (some .int)) (D := D) (TY := (gTY cI cJ cO)) (df := df) (Qc := fun A => va_Qi (fun (r : Int32) (wZ : va_W) => wZ = [(h0, .inr (5, [.int nu, .int wy, .ref b0, .int x1, .int x2, .int y1, .int y2])), (b0, .inl (cI, 5, .inl k5))] ∧ r = cRnd v wy) (gB D (gTY cI cJ cO) A) A) (by decide +kernel) rfl (Nat.le_of_ble_eq_true rfl) ?_
  intro p e s m below meth c ls A hsz C0 hin hl
  obtain ⟨CF, hr, hlk, hA, hS, hP, hK, hD, hV, hH⟩ := C0
  have CF : CallFix p m c cX4_rounded 2 s _ wsX4_rounded RX4 := CF
  obtain ⟨hx, hb, hml, hown, hts⟩ := id CF
  subst hsz
  have hfieldLink_RX4_15 : (Cond.fieldLink RX4 15 "TapLoom$Section" "way" "I").before _ s = true := hts _ (List.mem_of_getElem? (i := 1) rfl)
  have hmethodLink_RX4_54 : (Cond.methodLink RX4 54 yJ9_floorDiv_7cf53).before _ s = true := hts _ (List.mem_of_getElem? (i := 2) rfl)
  have inX4 : ∀ w ∈ u_ws RX4 TX4 7, w ∈ wsX4_rounded := fun w h => (List.mem_cons_of_mem _ (List.mem_append_right _ h))
  have hP : va_P D ccl [(h0, .inr (5, [.int nu, .int wy, .ref b0, .int x1, .int x2, .int y1, .int y2])), (b0, .inl (cI, 5, .inl k5))] s.heap := hP
  have hl : lv_has ls 2 [(0, .ref h0), (1, .int v)] := hl
  refine lv_aload_n hx hb dX4_rounded_0 rfl (lv_at hl 0 rfl) ?_
  refine va_get (D := D) (ci := 5) (v := .int wy) (C := RX4) (T := TX4) (N := 7) hx hb hts inX4 hown hK hP 0 rfl rfl 1 (by decide) hfieldLink_RX4_15 (fun _ h9 => h9) rfl dX4_rounded_1 ?_
  by_cases s_4_0 : wy = 1
  · have c_4_0 := s_4_0
    refine lv_lookup (off := 28) (tgt := 32) hx hb dX4_rounded_4 (by decide) (by rw [s_4_0]; rfl) (by decide) ?_
    refine lv_iload_n hx hb dX4_rounded_32 rfl (lv_at hl 1 rfl) ?_
    refine lv_bipush (v := 64) hx hb dX4_rounded_33 (by decide) ?_
    have hPc : va_P D ccl [] s.heap := fun k q h => by simp at h
    have hDc : va_D A [] := ⟨fun i j p q h => by simp at h, fun k q h => by simp at h⟩
    have hFc := va_free (wc := []) hD hS hA [] rfl
    refine g_Si (As := [.int v, .int 64]) (rest := []) CF (c_J9_floorDiv_7cf53 l D cI cJ cO df s.heap.size v 64 (by decide)) (va_cwS 2 hts gX4_rounded_J9_floorDiv_7cf53 rfl rfl rfl (by decide +kernel) ⟨Nat.le_of_ble_eq_true rfl, Nat.le_of_ble_eq_true rfl⟩)  hPc hK hDc hV hH hS hFc rfl hl.1 rfl (Nat.le_of_ble_eq_true rfl) dX4_rounded_35 ⟨Nat.le_of_ble_eq_true rfl, Nat.le_of_ble_eq_true rfl⟩ (fun r_35 w1 H1 locs1 hq hP1 hD1 hk hS hz => ?_)
    obtain ⟨rfl, hr_35⟩ := hq
    have hP := g_keep0 hP hk
    clear hPc hDc hFc hP1 hD1 hk hz
    generalize H1 = H at hP hS ⊢
    have hP : va_P D ccl [(h0, .inr (5, [.int nu, .int wy, .ref b0, .int x1, .int x2, .int y1, .int y2])), (b0, .inl (cI, 5, .inl k5))] H := hP
    have hD : va_D A [(h0, .inr (5, [.int nu, .int wy, .ref b0, .int x1, .int x2, .int y1, .int y2])), (b0, .inl (cI, 5, .inl k5))] := hD
    subst hr_35
    refine g_iret (v := fDiv v 64) hx hb hr hlk hP hK hD hS (Nat.le_of_ble_eq_true rfl) (Nat.le_of_ble_eq_true rfl) dX4_rounded_38 ?_
    exact ⟨rfl, by unfold cRnd; rw [if_pos c_4_0]⟩
  have c_4_0 := s_4_0
  by_cases s_4_1 : wy = 2
  · have c_4_1 := s_4_1
    refine lv_lookup (off := 35) (tgt := 39) hx hb dX4_rounded_4 (by decide) ((lv_osw s_4_0 (by decide)).trans (by rw [s_4_1]; rfl)) (by decide) ?_
    refine lv_iload_n hx hb dX4_rounded_39 rfl (lv_at hl 1 rfl) ?_
    refine lv_bipush (v := 32) hx hb dX4_rounded_40 (by decide) ?_
    refine lv_iadd hx hb dX4_rounded_42 ?_
    refine lv_bipush (v := 64) hx hb dX4_rounded_43 (by decide) ?_
    have hPc : va_P D ccl [] s.heap := fun k q h => by simp at h
    have hDc : va_D A [] := ⟨fun i j p q h => by simp at h, fun k q h => by simp at h⟩
    have hFc := va_free (wc := []) hD hS hA [] rfl
    refine g_Si (As := [.int (v + 32), .int 64]) (rest := []) CF (c_J9_floorDiv_7cf53 l D cI cJ cO df s.heap.size (v + 32) 64 (by decide)) (va_cwS 2 hts gX4_rounded_J9_floorDiv_7cf53 rfl rfl rfl (by decide +kernel) ⟨Nat.le_of_ble_eq_true rfl, Nat.le_of_ble_eq_true rfl⟩)  hPc hK hDc hV hH hS hFc rfl hl.1 rfl (Nat.le_of_ble_eq_true rfl) dX4_rounded_45 ⟨Nat.le_of_ble_eq_true rfl, Nat.le_of_ble_eq_true rfl⟩ (fun r_45 w1 H1 locs1 hq hP1 hD1 hk hS hz => ?_)
    obtain ⟨rfl, hr_45⟩ := hq
    have hP := g_keep0 hP hk
    clear hPc hDc hFc hP1 hD1 hk hz
    generalize H1 = H at hP hS ⊢
    have hP : va_P D ccl [(h0, .inr (5, [.int nu, .int wy, .ref b0, .int x1, .int x2, .int y1, .int y2])), (b0, .inl (cI, 5, .inl k5))] H := hP
    have hD : va_D A [(h0, .inr (5, [.int nu, .int wy, .ref b0, .int x1, .int x2, .int y1, .int y2])), (b0, .inl (cI, 5, .inl k5))] := hD
    subst hr_45
    refine g_iret (v := fDiv (v + 32) 64) hx hb hr hlk hP hK hD hS (Nat.le_of_ble_eq_true rfl) (Nat.le_of_ble_eq_true rfl) dX4_rounded_48 ?_
    exact ⟨rfl, by unfold cRnd; rw [if_neg c_4_0, if_pos c_4_1]⟩
  have c_4_1 := s_4_1
  refine lv_lookup (off := 45) (tgt := 49) hx hb dX4_rounded_4 (by decide) ((lv_osw s_4_0 (by decide)).trans ((lv_osw s_4_1 (by decide)).trans rfl)) (by decide) ?_
  refine lv_iload_n hx hb dX4_rounded_49 rfl (lv_at hl 1 rfl) ?_
  refine lv_bipush (v := 64) hx hb dX4_rounded_50 (by decide) ?_
  refine lv_idiv hx hb dX4_rounded_52 (by decide) ?_
  refine g_iret (v := v / 64) hx hb hr hlk hP hK hD hS (Nat.le_of_ble_eq_true rfl) (Nat.le_of_ble_eq_true rfl) dX4_rounded_53 ?_
  exact ⟨rfl, by unfold cRnd; rw [if_neg c_4_0, if_neg c_4_1]⟩

set_option maxHeartbeats 4000000 in
set_option maxRecDepth 100000 in
theorem c_X4_outputFrom (l : Launch) (D : va_G) (cI cJ cO : ClassId) (df sz : Nat) (h0 : Nat) (b0 : Nat) (nu : Int32) (wy : Int32) (x1 : Int32) (x2 : Int32) (y1 : Int32) (y2 : Int32) (k5 : Nat → Int32) (fd : Int32) (la : Int32) (ah : Int32)  : MetI l yX4_outputFrom wsX4_outputFrom ({ frames := 2, cells := 0, slots := 0, locals := 43 } : Room) D (gTY cI cJ cO) df [(h0, .inr (5, [.int nu, .int wy, .ref b0, .int x1, .int x2, .int y1, .int y2])), (b0, .inl (cI, 5, .inl k5))] sz [.ref h0, .int fd, .int la, .int ah] (fun (r : Int32) (wZ : va_W) => wZ = [(h0, .inr (5, [.int nu, .int wy, .ref b0, .int x1, .int x2, .int y1, .int y2])), (b0, .inl (cI, 5, .inl k5))] ∧ r = mClamp (cRnd (fd - k5 3 * la - k5 4 * ah) wy)) := by
  refine g_of (cc := cX4_outputFrom) (nL := 5) (ret := (some .int)) (D := D) (TY := (gTY cI cJ cO)) (df := df) (Qc := fun A => va_Qi (fun (r : Int32) (wZ : va_W) => wZ = [(h0, .inr (5, [.int nu, .int wy, .ref b0, .int x1, .int x2, .int y1, .int y2])), (b0, .inl (cI, 5, .inl k5))] ∧ r = mClamp (cRnd (fd - k5 3 * la - k5 4 * ah) wy)) (gB D (gTY cI cJ cO) A) A) (by decide +kernel) rfl (Nat.le_of_ble_eq_true rfl) ?_
  intro p e s m below meth c ls A hsz C0 hin hl
  obtain ⟨CF, hr, hlk, hA, hS, hP, hK, hD, hV, hH⟩ := C0
  have CF : CallFix p m c cX4_outputFrom 5 s _ wsX4_outputFrom RX4 := CF
  obtain ⟨hx, hb, hml, hown, hts⟩ := id CF
  subst hsz
  have hfieldLink_RX4_18 : (Cond.fieldLink RX4 18 "TapLoom$Section" "coefficients" "[I").before _ s = true := hts _ (List.mem_of_getElem? (i := 1) rfl)
  have hmethodLink_RX4_42 : (Cond.methodLink RX4 42 yX4_rounded).before _ s = true := hts _ (List.mem_of_getElem? (i := 9) rfl)
  have hmethodLink_RX4_45 : (Cond.methodLink RX4 45 Lib.Math.min.name).before _ s = true := hts _ (List.mem_of_getElem? (i := 2) rfl)
  have hinitialized_java_lang_Math : (Cond.initialized "java/lang/Math").before _ s = true := hts _ (List.mem_of_getElem? (i := 4) rfl)
  have hstatic_Lib_Math_min_name : (Cond.static Lib.Math.min.name).before _ s = true := hts _ (List.mem_of_getElem? (i := 3) rfl)
  have hcode_Lib_Math_min_name : (Cond.code Lib.Math.min.name Lib.Math.min.code 2 (some .int)).before _ s = true := hts _ (List.mem_of_getElem? (i := 5) rfl)
  have hmethodLink_RX4_51 : (Cond.methodLink RX4 51 Lib.Math.max.name).before _ s = true := hts _ (List.mem_of_getElem? (i := 6) rfl)
  have hstatic_Lib_Math_max_name : (Cond.static Lib.Math.max.name).before _ s = true := hts _ (List.mem_of_getElem? (i := 7) rfl)
  have hcode_Lib_Math_max_name : (Cond.code Lib.Math.max.name Lib.Math.max.code 2 (some .int)).before _ s = true := hts _ (List.mem_of_getElem? (i := 8) rfl)
  have inX4 : ∀ w ∈ u_ws RX4 TX4 7, w ∈ wsX4_outputFrom := fun w h => (List.mem_cons_of_mem _ (List.mem_append_right _ h))
  have hP : va_P D ccl [(h0, .inr (5, [.int nu, .int wy, .ref b0, .int x1, .int x2, .int y1, .int y2])), (b0, .inl (cI, 5, .inl k5))] s.heap := hP
  have hl : lv_has ls 5 [(0, .ref h0), (1, .int fd), (2, .int la), (3, .int ah)] := hl
  refine lv_aload_n hx hb dX4_outputFrom_0 rfl (lv_at hl 0 rfl) ?_
  refine lv_iload_n hx hb dX4_outputFrom_1 rfl (lv_at hl 1 rfl) ?_
  refine lv_aload_n hx hb dX4_outputFrom_2 rfl (lv_at hl 0 rfl) ?_
  refine va_get (D := D) (ci := 5) (v := .ref b0) (C := RX4) (T := TX4) (N := 7) hx hb hts inX4 hown hK hP 0 rfl rfl 2 (by decide) hfieldLink_RX4_18 (fun _ h9 => h9) rfl dX4_outputFrom_3 ?_
  refine lv_iconst (v := 3) hx hb dX4_outputFrom_6 (by decide) ?_
  refine va_iald hx hb hK hP 1 0 rfl rfl (by unfold vp_in; decide) dX4_outputFrom_7 ?_
  refine lv_topi (fun f ef => ?_)
  obtain rfl : f = k5 3 := ef.trans (congrArg k5 (show (3 : Int32).toNatClampNeg = 3 by decide))
  refine lv_iload_n hx hb dX4_outputFrom_8 rfl (lv_at hl 2 rfl) ?_
  refine lv_imul hx hb dX4_outputFrom_9 ?_
  refine lv_isub hx hb dX4_outputFrom_10 ?_
  refine lv_aload_n hx hb dX4_outputFrom_11 rfl (lv_at hl 0 rfl) ?_
  refine va_get (D := D) (ci := 5) (v := .ref b0) (C := RX4) (T := TX4) (N := 7) hx hb hts inX4 hown hK hP 0 rfl rfl 2 (by decide) hfieldLink_RX4_18 (fun _ h9 => h9) rfl dX4_outputFrom_12 ?_
  refine lv_iconst (v := 4) hx hb dX4_outputFrom_15 (by decide) ?_
  refine va_iald hx hb hK hP 1 0 rfl rfl (by unfold vp_in; decide) dX4_outputFrom_16 ?_
  refine lv_topi (fun f ef => ?_)
  obtain rfl : f = k5 4 := ef.trans (congrArg k5 (show (4 : Int32).toNatClampNeg = 4 by decide))
  refine lv_iload_n hx hb dX4_outputFrom_17 rfl (lv_at hl 3 rfl) ?_
  refine lv_imul hx hb dX4_outputFrom_18 ?_
  refine lv_isub hx hb dX4_outputFrom_19 ?_
  have hPc := hP.sub (ws' := [(h0, .inr (5, [.int nu, .int wy, .ref b0, .int x1, .int x2, .int y1, .int y2])), (b0, .inl (cI, 5, .inl k5))]) [0, 1] rfl
  have hDc := hD.sub (ws' := [(h0, .inr (5, [.int nu, .int wy, .ref b0, .int x1, .int x2, .int y1, .int y2])), (b0, .inl (cI, 5, .inl k5))]) [0, 1] (by decide) rfl
  have hFc := va_free (wc := [(h0, .inr (5, [.int nu, .int wy, .ref b0, .int x1, .int x2, .int y1, .int y2])), (b0, .inl (cI, 5, .inl k5))]) hD hS hA [0, 1] rfl
  refine g_Vi (As := [.int ((fd - ((k5 3) * la)) - ((k5 4) * ah))]) (rest := []) CF (c_X4_rounded l D cI cJ cO df s.heap.size h0 b0 nu wy x1 x2 y1 y2 k5 ((fd - ((k5 3) * la)) - ((k5 4) * ah)) ) (cwV 1 hts gX4_outputFrom_X4_rounded rfl rfl rfl (by decide +kernel) ⟨Nat.le_of_ble_eq_true rfl, Nat.le_of_ble_eq_true rfl⟩) (va_recv hK hP (ci := 5) (q0 := 0) rfl rfl) hPc hK hDc hV hH hS hFc rfl hl.1 rfl (Nat.le_of_ble_eq_true rfl) dX4_outputFrom_20 ⟨Nat.le_of_ble_eq_true rfl, Nat.le_of_ble_eq_true rfl⟩ (fun r_20 w1 H1 locs1 hq hP1 hD1 hk hS hz => ?_)
  obtain ⟨rfl, hr_20⟩ := hq
  have hP := g_keepR hP hD [0, 1] rfl hk hP1
  clear hPc hDc hFc hP1 hD1 hk hz
  generalize H1 = H at hP hS ⊢
  have hP : va_P D ccl [(h0, .inr (5, [.int nu, .int wy, .ref b0, .int x1, .int x2, .int y1, .int y2])), (b0, .inl (cI, 5, .inl k5))] H := hP
  have hD : va_D A [(h0, .inr (5, [.int nu, .int wy, .ref b0, .int x1, .int x2, .int y1, .int y2])), (b0, .inl (cI, 5, .inl k5))] := hD
  subst hr_20
  refine lv_istore (lv' := [(4, .int (cRnd ((fd - ((k5 3) * la)) - ((k5 4) * ah)) wy)), (0, .ref h0), (1, .int fd), (2, .int la), (3, .int ah)]) hx hb dX4_outputFrom_23 hl (by decide) rfl (fun ls hl => ?_)
  refine lv_sipush (v := (-32767)) hx hb dX4_outputFrom_25 (by decide) ?_
  refine lv_sipush (v := 32767) hx hb dX4_outputFrom_28 (by decide) ?_
  refine lv_iload hx hb dX4_outputFrom_31 (lv_at hl 0 rfl) ?_
  refine va_mmin hx hb (by rw [hml]; exact hl.1.symm) hown hmethodLink_RX4_45 hstatic_Lib_Math_min_name hinitialized_java_lang_Math hcode_Lib_Math_min_name (Nat.le_of_ble_eq_true rfl) (Nat.le_of_ble_eq_true rfl) (Nat.le_of_ble_eq_true rfl) (Nat.le_of_ble_eq_true rfl) dX4_outputFrom_33 ?_
  refine va_mmax hx hb (by rw [hml]; exact hl.1.symm) hown hmethodLink_RX4_51 hstatic_Lib_Math_max_name hinitialized_java_lang_Math hcode_Lib_Math_max_name (Nat.le_of_ble_eq_true rfl) (Nat.le_of_ble_eq_true rfl) (Nat.le_of_ble_eq_true rfl) (Nat.le_of_ble_eq_true rfl) dX4_outputFrom_36 ?_
  refine lv_topi (fun f ef => ?_)
  obtain rfl : f = mClamp (cRnd (fd - k5 3 * la - k5 4 * ah) wy) := ef.trans (cClamp_eq _)
  refine g_iret (v := mClamp (cRnd (fd - k5 3 * la - k5 4 * ah) wy)) hx hb hr hlk hP hK hD hS (Nat.le_of_ble_eq_true rfl) (Nat.le_of_ble_eq_true rfl) dX4_outputFrom_39 ?_
  exact ⟨rfl, rfl⟩

set_option maxHeartbeats 4000000 in
set_option maxRecDepth 100000 in
theorem c_X4_take (l : Launch) (D : va_G) (cI cJ cO : ClassId) (df sz : Nat) (h0 : Nat) (b0 : Nat) (nu : Int32) (wy : Int32) (x1 : Int32) (x2 : Int32) (y1 : Int32) (y2 : Int32) (k5 : Nat → Int32) (x : Int32)  : MetI l yX4_take wsX4_take ({ frames := 3, cells := 0, slots := 0, locals := 67 } : Room) D (gTY cI cJ cO) df [(h0, .inr (5, [.int nu, .int wy, .ref b0, .int x1, .int x2, .int y1, .int y2])), (b0, .inl (cI, 5, .inl k5))] sz [.ref h0, .int x] (fun (r : Int32) (wZ : va_W) => wZ = [(h0, .inr (5, [.int nu, .int wy, .ref b0, .int x, .int x1, .int (mClamp (cRnd (tkS k5 x1 x2 y1 y2 x) wy)), .int y1])), (b0, .inl (cI, 5, .inl k5))] ∧ r = mClamp (cRnd (tkS k5 x1 x2 y1 y2 x) wy)) := by
  refine g_of (cc := cX4_take) (nL := 4) (ret := (some .int)) (D := D) (TY := (gTY cI cJ cO)) (df := df) (Qc := fun A => va_Qi (fun (r : Int32) (wZ : va_W) => wZ = [(h0, .inr (5, [.int nu, .int wy, .ref b0, .int x, .int x1, .int (mClamp (cRnd (tkS k5 x1 x2 y1 y2 x) wy)), .int y1])), (b0, .inl (cI, 5, .inl k5))] ∧ r = mClamp (cRnd (tkS k5 x1 x2 y1 y2 x) wy)) (gB D (gTY cI cJ cO) A) A) (by decide +kernel) rfl (Nat.le_of_ble_eq_true rfl) ?_
  intro p e s m below meth c ls A hsz C0 hin hl
  obtain ⟨CF, hr, hlk, hA, hS, hP, hK, hD, hV, hH⟩ := C0
  have CF : CallFix p m c cX4_take 4 s _ wsX4_take RX4 := CF
  obtain ⟨hx, hb, hml, hown, hts⟩ := id CF
  subst hsz
  have hfieldLink_RX4_18 : (Cond.fieldLink RX4 18 "TapLoom$Section" "coefficients" "[I").before _ s = true := hts _ (List.mem_of_getElem? (i := 1) rfl)
  have hfieldLink_RX4_26 : (Cond.fieldLink RX4 26 "TapLoom$Section" "x1" "I").before _ s = true := hts _ (List.mem_of_getElem? (i := 2) rfl)
  have hfieldLink_RX4_29 : (Cond.fieldLink RX4 29 "TapLoom$Section" "x2" "I").before _ s = true := hts _ (List.mem_of_getElem? (i := 3) rfl)
  have hfieldLink_RX4_32 : (Cond.fieldLink RX4 32 "TapLoom$Section" "y1" "I").before _ s = true := hts _ (List.mem_of_getElem? (i := 4) rfl)
  have hfieldLink_RX4_35 : (Cond.fieldLink RX4 35 "TapLoom$Section" "y2" "I").before _ s = true := hts _ (List.mem_of_getElem? (i := 5) rfl)
  have hmethodLink_RX4_38 : (Cond.methodLink RX4 38 yX4_outputFrom).before _ s = true := hts _ (List.mem_of_getElem? (i := 6) rfl)
  have inX4 : ∀ w ∈ u_ws RX4 TX4 7, w ∈ wsX4_take := fun w h => (List.mem_cons_of_mem _ (List.mem_append_right _ h))
  have hP : va_P D ccl [(h0, .inr (5, [.int nu, .int wy, .ref b0, .int x1, .int x2, .int y1, .int y2])), (b0, .inl (cI, 5, .inl k5))] s.heap := hP
  have hl : lv_has ls 4 [(0, .ref h0), (1, .int x)] := hl
  refine lv_aload_n hx hb dX4_take_0 rfl (lv_at hl 0 rfl) ?_
  refine va_get (D := D) (ci := 5) (v := .ref b0) (C := RX4) (T := TX4) (N := 7) hx hb hts inX4 hown hK hP 0 rfl rfl 2 (by decide) hfieldLink_RX4_18 (fun _ h9 => h9) rfl dX4_take_1 ?_
  refine lv_iconst (v := 0) hx hb dX4_take_4 (by decide) ?_
  refine va_iald hx hb hK hP 1 0 rfl rfl (by unfold vp_in; decide) dX4_take_5 ?_
  refine lv_topi (fun f ef => ?_)
  obtain rfl : f = k5 0 := ef.trans (congrArg k5 (show (0 : Int32).toNatClampNeg = 0 by decide))
  refine lv_iload_n hx hb dX4_take_6 rfl (lv_at hl 1 rfl) ?_
  refine lv_imul hx hb dX4_take_7 ?_
  refine lv_aload_n hx hb dX4_take_8 rfl (lv_at hl 0 rfl) ?_
  refine va_get (D := D) (ci := 5) (v := .ref b0) (C := RX4) (T := TX4) (N := 7) hx hb hts inX4 hown hK hP 0 rfl rfl 2 (by decide) hfieldLink_RX4_18 (fun _ h9 => h9) rfl dX4_take_9 ?_
  refine lv_iconst (v := 1) hx hb dX4_take_12 (by decide) ?_
  refine va_iald hx hb hK hP 1 0 rfl rfl (by unfold vp_in; decide) dX4_take_13 ?_
  refine lv_topi (fun f ef => ?_)
  obtain rfl : f = k5 1 := ef.trans (congrArg k5 (show (1 : Int32).toNatClampNeg = 1 by decide))
  refine lv_aload_n hx hb dX4_take_14 rfl (lv_at hl 0 rfl) ?_
  refine va_get (D := D) (ci := 5) (v := .int x1) (C := RX4) (T := TX4) (N := 7) hx hb hts inX4 hown hK hP 0 rfl rfl 3 (by decide) hfieldLink_RX4_26 (fun _ h9 => h9) rfl dX4_take_15 ?_
  refine lv_imul hx hb dX4_take_18 ?_
  refine lv_iadd hx hb dX4_take_19 ?_
  refine lv_aload_n hx hb dX4_take_20 rfl (lv_at hl 0 rfl) ?_
  refine va_get (D := D) (ci := 5) (v := .ref b0) (C := RX4) (T := TX4) (N := 7) hx hb hts inX4 hown hK hP 0 rfl rfl 2 (by decide) hfieldLink_RX4_18 (fun _ h9 => h9) rfl dX4_take_21 ?_
  refine lv_iconst (v := 2) hx hb dX4_take_24 (by decide) ?_
  refine va_iald hx hb hK hP 1 0 rfl rfl (by unfold vp_in; decide) dX4_take_25 ?_
  refine lv_topi (fun f ef => ?_)
  obtain rfl : f = k5 2 := ef.trans (congrArg k5 (show (2 : Int32).toNatClampNeg = 2 by decide))
  refine lv_aload_n hx hb dX4_take_26 rfl (lv_at hl 0 rfl) ?_
  refine va_get (D := D) (ci := 5) (v := .int x2) (C := RX4) (T := TX4) (N := 7) hx hb hts inX4 hown hK hP 0 rfl rfl 4 (by decide) hfieldLink_RX4_29 (fun _ h9 => h9) rfl dX4_take_27 ?_
  refine lv_imul hx hb dX4_take_30 ?_
  refine lv_iadd hx hb dX4_take_31 ?_
  refine lv_istore_n (lv' := [(2, .int ((((k5 0) * x) + ((k5 1) * x1)) + ((k5 2) * x2))), (0, .ref h0), (1, .int x)]) hx hb dX4_take_32 rfl hl (by decide) rfl (fun ls hl => ?_)
  refine lv_aload_n hx hb dX4_take_33 rfl (lv_at hl 1 rfl) ?_
  refine lv_iload_n hx hb dX4_take_34 rfl (lv_at hl 0 rfl) ?_
  refine lv_aload_n hx hb dX4_take_35 rfl (lv_at hl 1 rfl) ?_
  refine va_get (D := D) (ci := 5) (v := .int y1) (C := RX4) (T := TX4) (N := 7) hx hb hts inX4 hown hK hP 0 rfl rfl 5 (by decide) hfieldLink_RX4_32 (fun _ h9 => h9) rfl dX4_take_36 ?_
  refine lv_aload_n hx hb dX4_take_39 rfl (lv_at hl 1 rfl) ?_
  refine va_get (D := D) (ci := 5) (v := .int y2) (C := RX4) (T := TX4) (N := 7) hx hb hts inX4 hown hK hP 0 rfl rfl 6 (by decide) hfieldLink_RX4_35 (fun _ h9 => h9) rfl dX4_take_40 ?_
  have hPc := hP.sub (ws' := [(h0, .inr (5, [.int nu, .int wy, .ref b0, .int x1, .int x2, .int y1, .int y2])), (b0, .inl (cI, 5, .inl k5))]) [0, 1] rfl
  have hDc := hD.sub (ws' := [(h0, .inr (5, [.int nu, .int wy, .ref b0, .int x1, .int x2, .int y1, .int y2])), (b0, .inl (cI, 5, .inl k5))]) [0, 1] (by decide) rfl
  have hFc := va_free (wc := [(h0, .inr (5, [.int nu, .int wy, .ref b0, .int x1, .int x2, .int y1, .int y2])), (b0, .inl (cI, 5, .inl k5))]) hD hS hA [0, 1] rfl
  refine g_Vi (As := [.int ((((k5 0) * x) + ((k5 1) * x1)) + ((k5 2) * x2)), .int y1, .int y2]) (rest := []) CF (c_X4_outputFrom l D cI cJ cO df s.heap.size h0 b0 nu wy x1 x2 y1 y2 k5 ((((k5 0) * x) + ((k5 1) * x1)) + ((k5 2) * x2)) y1 y2 ) (cwV 3 hts gX4_take_X4_outputFrom rfl rfl rfl (by decide +kernel) ⟨Nat.le_of_ble_eq_true rfl, Nat.le_of_ble_eq_true rfl⟩) (va_recv hK hP (ci := 5) (q0 := 0) rfl rfl) hPc hK hDc hV hH hS hFc rfl hl.1 rfl (Nat.le_of_ble_eq_true rfl) dX4_take_43 ⟨Nat.le_of_ble_eq_true rfl, Nat.le_of_ble_eq_true rfl⟩ (fun r_43 w1 H1 locs1 hq hP1 hD1 hk hS hz => ?_)
  obtain ⟨rfl, hr_43⟩ := hq
  have hP := g_keepR hP hD [0, 1] rfl hk hP1
  clear hPc hDc hFc hP1 hD1 hk hz
  generalize H1 = H at hP hS ⊢
  have hP : va_P D ccl [(h0, .inr (5, [.int nu, .int wy, .ref b0, .int x1, .int x2, .int y1, .int y2])), (b0, .inl (cI, 5, .inl k5))] H := hP
  have hD : va_D A [(h0, .inr (5, [.int nu, .int wy, .ref b0, .int x1, .int x2, .int y1, .int y2])), (b0, .inl (cI, 5, .inl k5))] := hD
  subst hr_43
  refine lv_topi (fun f ef => ?_)
  obtain rfl : f = mClamp (cRnd (tkS k5 x1 x2 y1 y2 x) wy) := ef.trans (rfl)
  refine lv_istore_n (lv' := [(3, .int (mClamp (cRnd (tkS k5 x1 x2 y1 y2 x) wy))), (2, .int ((((k5 0) * x) + ((k5 1) * x1)) + ((k5 2) * x2))), (0, .ref h0), (1, .int x)]) hx hb dX4_take_46 rfl hl (by decide) rfl (fun ls hl => ?_)
  refine lv_aload_n hx hb dX4_take_47 rfl (lv_at hl 2 rfl) ?_
  refine lv_aload_n hx hb dX4_take_48 rfl (lv_at hl 2 rfl) ?_
  refine va_get (D := D) (ci := 5) (v := .int x1) (C := RX4) (T := TX4) (N := 7) hx hb hts inX4 hown hK hP 0 rfl rfl 3 (by decide) hfieldLink_RX4_26 (fun _ h9 => h9) rfl dX4_take_49 ?_
  refine va_put (D := D) (ci := 5) (v := .int x1) (ty := .int) (C := RX4) (T := TX4) (N := 7) hx hb hts inX4 tyX4 tyX4_ok nmX4 hown hK hP hD hS 0 rfl rfl 4 (by decide) hfieldLink_RX4_29 (fun _ h9 => h9) rfl (by decide +kernel) rfl rfl (Nat.le_of_ble_eq_true rfl) dX4_take_52 (fun H locs hP hD hS => ?_)
  have hP : va_P D ccl [(h0, .inr (5, [.int nu, .int wy, .ref b0, .int x1, .int x1, .int y1, .int y2])), (b0, .inl (cI, 5, .inl k5))] H := hP
  have hD : va_D A [(h0, .inr (5, [.int nu, .int wy, .ref b0, .int x1, .int x1, .int y1, .int y2])), (b0, .inl (cI, 5, .inl k5))] := hD
  refine lv_aload_n hx hb dX4_take_55 rfl (lv_at hl 2 rfl) ?_
  refine lv_iload_n hx hb dX4_take_56 rfl (lv_at hl 3 rfl) ?_
  refine va_put (D := D) (ci := 5) (v := .int x) (ty := .int) (C := RX4) (T := TX4) (N := 7) hx hb hts inX4 tyX4 tyX4_ok nmX4 hown hK hP hD hS 0 rfl rfl 3 (by decide) hfieldLink_RX4_26 (fun _ h9 => h9) rfl (by decide +kernel) rfl rfl (Nat.le_of_ble_eq_true rfl) dX4_take_57 (fun H locs hP hD hS => ?_)
  have hP : va_P D ccl [(h0, .inr (5, [.int nu, .int wy, .ref b0, .int x, .int x1, .int y1, .int y2])), (b0, .inl (cI, 5, .inl k5))] H := hP
  have hD : va_D A [(h0, .inr (5, [.int nu, .int wy, .ref b0, .int x, .int x1, .int y1, .int y2])), (b0, .inl (cI, 5, .inl k5))] := hD
  refine lv_aload_n hx hb dX4_take_60 rfl (lv_at hl 2 rfl) ?_
  refine lv_aload_n hx hb dX4_take_61 rfl (lv_at hl 2 rfl) ?_
  refine va_get (D := D) (ci := 5) (v := .int y1) (C := RX4) (T := TX4) (N := 7) hx hb hts inX4 hown hK hP 0 rfl rfl 5 (by decide) hfieldLink_RX4_32 (fun _ h9 => h9) rfl dX4_take_62 ?_
  refine va_put (D := D) (ci := 5) (v := .int y1) (ty := .int) (C := RX4) (T := TX4) (N := 7) hx hb hts inX4 tyX4 tyX4_ok nmX4 hown hK hP hD hS 0 rfl rfl 6 (by decide) hfieldLink_RX4_35 (fun _ h9 => h9) rfl (by decide +kernel) rfl rfl (Nat.le_of_ble_eq_true rfl) dX4_take_65 (fun H locs hP hD hS => ?_)
  have hP : va_P D ccl [(h0, .inr (5, [.int nu, .int wy, .ref b0, .int x, .int x1, .int y1, .int y1])), (b0, .inl (cI, 5, .inl k5))] H := hP
  have hD : va_D A [(h0, .inr (5, [.int nu, .int wy, .ref b0, .int x, .int x1, .int y1, .int y1])), (b0, .inl (cI, 5, .inl k5))] := hD
  refine lv_aload_n hx hb dX4_take_68 rfl (lv_at hl 2 rfl) ?_
  refine lv_iload_n hx hb dX4_take_69 rfl (lv_at hl 0 rfl) ?_
  refine va_put (D := D) (ci := 5) (v := .int (mClamp (cRnd (tkS k5 x1 x2 y1 y2 x) wy))) (ty := .int) (C := RX4) (T := TX4) (N := 7) hx hb hts inX4 tyX4 tyX4_ok nmX4 hown hK hP hD hS 0 rfl rfl 5 (by decide) hfieldLink_RX4_32 (fun _ h9 => h9) rfl (by decide +kernel) rfl rfl (Nat.le_of_ble_eq_true rfl) dX4_take_70 (fun H locs hP hD hS => ?_)
  have hP : va_P D ccl [(h0, .inr (5, [.int nu, .int wy, .ref b0, .int x, .int x1, .int (mClamp (cRnd (tkS k5 x1 x2 y1 y2 x) wy)), .int y1])), (b0, .inl (cI, 5, .inl k5))] H := hP
  have hD : va_D A [(h0, .inr (5, [.int nu, .int wy, .ref b0, .int x, .int x1, .int (mClamp (cRnd (tkS k5 x1 x2 y1 y2 x) wy)), .int y1])), (b0, .inl (cI, 5, .inl k5))] := hD
  refine lv_iload_n hx hb dX4_take_73 rfl (lv_at hl 0 rfl) ?_
  refine g_iret (v := mClamp (cRnd (tkS k5 x1 x2 y1 y2 x) wy)) hx hb hr hlk hP hK hD hS (Nat.le_of_ble_eq_true rfl) (Nat.le_of_ble_eq_true rfl) dX4_take_74 ?_
  exact ⟨rfl, rfl⟩

set_option maxHeartbeats 4000000 in
set_option maxRecDepth 100000 in
theorem c_X4_isStable (l : Launch) (D : va_G) (cI cJ cO : ClassId) (df sz : Nat) (h0 : Nat) (b0 : Nat) (nu : Int32) (wy : Int32) (x1 : Int32) (x2 : Int32) (y1 : Int32) (y2 : Int32) (k5 : Nat → Int32)  : MetI l yX4_isStable wsX4_isStable ({ frames := 1, cells := 0, slots := 0, locals := 30 } : Room) D (gTY cI cJ cO) df [(h0, .inr (5, [.int nu, .int wy, .ref b0, .int x1, .int x2, .int y1, .int y2])), (b0, .inl (cI, 5, .inl k5))] sz [.ref h0] (fun (r : Int32) (wZ : va_W) => wZ = [(h0, .inr (5, [.int nu, .int wy, .ref b0, .int x1, .int x2, .int y1, .int y2])), (b0, .inl (cI, 5, .inl k5))] ∧ r = sStab k5) := by
  refine g_of (cc := cX4_isStable) (nL := 2) (ret := (some .boolean)) (D := D) (TY := (gTY cI cJ cO)) (df := df) (Qc := fun A => va_Qi (fun (r : Int32) (wZ : va_W) => wZ = [(h0, .inr (5, [.int nu, .int wy, .ref b0, .int x1, .int x2, .int y1, .int y2])), (b0, .inl (cI, 5, .inl k5))] ∧ r = sStab k5) (gB D (gTY cI cJ cO) A) A) (by decide +kernel) rfl (Nat.le_of_ble_eq_true rfl) ?_
  intro p e s m below meth c ls A hsz C0 hin hl
  obtain ⟨CF, hr, hlk, hA, hS, hP, hK, hD, hV, hH⟩ := C0
  have CF : CallFix p m c cX4_isStable 2 s _ wsX4_isStable RX4 := CF
  obtain ⟨hx, hb, hml, hown, hts⟩ := id CF
  subst hsz
  have hfieldLink_RX4_18 : (Cond.fieldLink RX4 18 "TapLoom$Section" "coefficients" "[I").before _ s = true := hts _ (List.mem_of_getElem? (i := 1) rfl)
  have hmethodLink_RX4_57 : (Cond.methodLink RX4 57 Lib.Math.abs.name).before _ s = true := hts _ (List.mem_of_getElem? (i := 2) rfl)
  have hinitialized_java_lang_Math : (Cond.initialized "java/lang/Math").before _ s = true := hts _ (List.mem_of_getElem? (i := 4) rfl)
  have hstatic_Lib_Math_abs_name : (Cond.static Lib.Math.abs.name).before _ s = true := hts _ (List.mem_of_getElem? (i := 3) rfl)
  have hcode_Lib_Math_abs_name : (Cond.code Lib.Math.abs.name Lib.Math.abs.code 1 (some .int)).before _ s = true := hts _ (List.mem_of_getElem? (i := 5) rfl)
  have inX4 : ∀ w ∈ u_ws RX4 TX4 7, w ∈ wsX4_isStable := fun w h => (List.mem_cons_of_mem _ (List.mem_append_right _ h))
  have hP : va_P D ccl [(h0, .inr (5, [.int nu, .int wy, .ref b0, .int x1, .int x2, .int y1, .int y2])), (b0, .inl (cI, 5, .inl k5))] s.heap := hP
  have hl : lv_has ls 2 [(0, .ref h0)] := hl
  refine lv_aload_n hx hb dX4_isStable_0 rfl (lv_at hl 0 rfl) ?_
  refine va_get (D := D) (ci := 5) (v := .ref b0) (C := RX4) (T := TX4) (N := 7) hx hb hts inX4 hown hK hP 0 rfl rfl 2 (by decide) hfieldLink_RX4_18 (fun _ h9 => h9) rfl dX4_isStable_1 ?_
  refine lv_iconst (v := 4) hx hb dX4_isStable_4 (by decide) ?_
  refine va_iald hx hb hK hP 1 0 rfl rfl (by unfold vp_in; decide) dX4_isStable_5 ?_
  refine lv_topi (fun f ef => ?_)
  obtain rfl : f = k5 4 := ef.trans (congrArg k5 (show (4 : Int32).toNatClampNeg = 4 by decide))
  refine lv_istore_n (lv' := [(1, .int (k5 4)), (0, .ref h0)]) hx hb dX4_isStable_6 rfl hl (by decide) rfl (fun ls hl => ?_)
  refine lv_iload_n hx hb dX4_isStable_7 rfl (lv_at hl 0 rfl) ?_
  refine lv_bipush (v := (-64)) hx hb dX4_isStable_8 (by decide) ?_
  refine lv_icmp_le (tgt := 39) hx hb dX4_isStable_10 (by decide) (fun c_10 => ?_) (fun c_10 => ?_)
  · have c_10 : ¬ (-64) < (k5 4) := Int32.not_lt.mpr c_10
    refine lv_iconst (v := 0) hx hb dX4_isStable_39 (by decide) ?_
    refine g_zret (v := 0) hx hb hr hlk hP hK hD hS (Nat.le_of_ble_eq_true rfl) (Nat.le_of_ble_eq_true rfl) dX4_isStable_40 (by decide +kernel) ?_
    exact ⟨rfl, by unfold sStab; (repeat (first | rw [if_pos (by assumption)] | rw [if_neg (by assumption)] | rw [if_neg (Int32.not_lt.mpr (by assumption))]))⟩
  · have c_10 : (-64) < (k5 4) := Int32.not_le.mp c_10
    refine lv_iload_n hx hb dX4_isStable_13 rfl (lv_at hl 0 rfl) ?_
    refine lv_bipush (v := 64) hx hb dX4_isStable_14 (by decide) ?_
    refine lv_icmp_ge (tgt := 39) hx hb dX4_isStable_16 (by decide) (fun c_16 => ?_) (fun c_16 => ?_)
    · have c_16 : ¬ (k5 4) < 64 := Int32.not_lt.mpr c_16
      refine lv_iconst (v := 0) hx hb dX4_isStable_39 (by decide) ?_
      refine g_zret (v := 0) hx hb hr hlk hP hK hD hS (Nat.le_of_ble_eq_true rfl) (Nat.le_of_ble_eq_true rfl) dX4_isStable_40 (by decide +kernel) ?_
      exact ⟨rfl, by unfold sStab; (repeat (first | rw [if_pos (by assumption)] | rw [if_neg (by assumption)] | rw [if_neg (Int32.not_lt.mpr (by assumption))]))⟩
    · have c_16 : (k5 4) < 64 := Int32.not_le.mp c_16
      refine lv_aload_n hx hb dX4_isStable_19 rfl (lv_at hl 1 rfl) ?_
      refine va_get (D := D) (ci := 5) (v := .ref b0) (C := RX4) (T := TX4) (N := 7) hx hb hts inX4 hown hK hP 0 rfl rfl 2 (by decide) hfieldLink_RX4_18 (fun _ h9 => h9) rfl dX4_isStable_20 ?_
      refine lv_iconst (v := 3) hx hb dX4_isStable_23 (by decide) ?_
      refine va_iald hx hb hK hP 1 0 rfl rfl (by unfold vp_in; decide) dX4_isStable_24 ?_
      refine lv_topi (fun f ef => ?_)
      obtain rfl : f = k5 3 := ef.trans (congrArg k5 (show (3 : Int32).toNatClampNeg = 3 by decide))
      refine va_mabs hx hb (by rw [hml]; exact hl.1.symm) hown hmethodLink_RX4_57 hstatic_Lib_Math_abs_name hinitialized_java_lang_Math hcode_Lib_Math_abs_name (Nat.le_of_ble_eq_true rfl) (Nat.le_of_ble_eq_true rfl) (Nat.le_of_ble_eq_true rfl) (Nat.le_of_ble_eq_true rfl) dX4_isStable_25 ?_
      refine lv_topi (fun f ef => ?_)
      obtain rfl : f = mSize (k5 3) := ef.trans (abs_mSize _)
      refine lv_iload_n hx hb dX4_isStable_28 rfl (lv_at hl 0 rfl) ?_
      refine lv_bipush (v := 64) hx hb dX4_isStable_29 (by decide) ?_
      refine lv_iadd hx hb dX4_isStable_31 ?_
      refine lv_icmp_ge (tgt := 39) hx hb dX4_isStable_32 (by decide) (fun c_32 => ?_) (fun c_32 => ?_)
      · have c_32 : ¬ (mSize (k5 3)) < ((k5 4) + 64) := Int32.not_lt.mpr c_32
        refine lv_iconst (v := 0) hx hb dX4_isStable_39 (by decide) ?_
        refine g_zret (v := 0) hx hb hr hlk hP hK hD hS (Nat.le_of_ble_eq_true rfl) (Nat.le_of_ble_eq_true rfl) dX4_isStable_40 (by decide +kernel) ?_
        exact ⟨rfl, by unfold sStab; (repeat (first | rw [if_pos (by assumption)] | rw [if_neg (by assumption)] | rw [if_neg (Int32.not_lt.mpr (by assumption))]))⟩
      · have c_32 : (mSize (k5 3)) < ((k5 4) + 64) := Int32.not_le.mp c_32
        refine lv_iconst (v := 1) hx hb dX4_isStable_35 (by decide) ?_
        refine lv_goto (tgt := 40) hx hb dX4_isStable_36 (by decide) ?_
        refine g_zret (v := 1) hx hb hr hlk hP hK hD hS (Nat.le_of_ble_eq_true rfl) (Nat.le_of_ble_eq_true rfl) dX4_isStable_40 (by decide +kernel) ?_
        exact ⟨rfl, by unfold sStab; (repeat (first | rw [if_pos (by assumption)] | rw [if_neg (by assumption)] | rw [if_neg (Int32.not_lt.mpr (by assumption))]))⟩

set_option maxHeartbeats 4000000 in
set_option maxRecDepth 100000 in
theorem c_X4_goesAheadOf (l : Launch) (D : va_G) (cI cJ cO : ClassId) (df sz : Nat) (h0 : Nat) (b0 : Nat) (nu : Int32) (wy : Int32) (x1 : Int32) (x2 : Int32) (y1 : Int32) (y2 : Int32) (k5 : Nat → Int32) (h2 : Nat) (b2 : Nat) (nv : Int32) (wz : Int32) (p1 : Int32) (p2 : Int32) (q1 : Int32) (q2 : Int32) (k6 : Nat → Int32)  : MetI l yX4_goesAheadOf wsX4_goesAheadOf ({ frames := 1, cells := 0, slots := 0, locals := 30 } : Room) D (gTY cI cJ cO) df [(h0, .inr (5, [.int nu, .int wy, .ref b0, .int x1, .int x2, .int y1, .int y2])), (b0, .inl (cI, 5, .inl k5)), (h2, .inr (5, [.int nv, .int wz, .ref b2, .int p1, .int p2, .int q1, .int q2])), (b2, .inl (cI, 5, .inl k6))] sz [.ref h0, .ref h2] (fun (r : Int32) (wZ : va_W) => wZ = [(h0, .inr (5, [.int nu, .int wy, .ref b0, .int x1, .int x2, .int y1, .int y2])), (b0, .inl (cI, 5, .inl k5)), (h2, .inr (5, [.int nv, .int wz, .ref b2, .int p1, .int p2, .int q1, .int q2])), (b2, .inl (cI, 5, .inl k6))] ∧ r = cAh (k5 4) (k6 4) (mSize (k5 3)) (mSize (k6 3)) nu nv) := by
  refine g_of (cc := cX4_goesAheadOf) (nL := 4) (ret := (some .boolean)) (D := D) (TY := (gTY cI cJ cO)) (df := df) (Qc := fun A => va_Qi (fun (r : Int32) (wZ : va_W) => wZ = [(h0, .inr (5, [.int nu, .int wy, .ref b0, .int x1, .int x2, .int y1, .int y2])), (b0, .inl (cI, 5, .inl k5)), (h2, .inr (5, [.int nv, .int wz, .ref b2, .int p1, .int p2, .int q1, .int q2])), (b2, .inl (cI, 5, .inl k6))] ∧ r = cAh (k5 4) (k6 4) (mSize (k5 3)) (mSize (k6 3)) nu nv) (gB D (gTY cI cJ cO) A) A) (by decide +kernel) rfl (Nat.le_of_ble_eq_true rfl) ?_
  intro p e s m below meth c ls A hsz C0 hin hl
  obtain ⟨CF, hr, hlk, hA, hS, hP, hK, hD, hV, hH⟩ := C0
  have CF : CallFix p m c cX4_goesAheadOf 4 s _ wsX4_goesAheadOf RX4 := CF
  obtain ⟨hx, hb, hml, hown, hts⟩ := id CF
  subst hsz
  have hfieldLink_RX4_18 : (Cond.fieldLink RX4 18 "TapLoom$Section" "coefficients" "[I").before _ s = true := hts _ (List.mem_of_getElem? (i := 1) rfl)
  have hmethodLink_RX4_57 : (Cond.methodLink RX4 57 Lib.Math.abs.name).before _ s = true := hts _ (List.mem_of_getElem? (i := 2) rfl)
  have hinitialized_java_lang_Math : (Cond.initialized "java/lang/Math").before _ s = true := hts _ (List.mem_of_getElem? (i := 4) rfl)
  have hstatic_Lib_Math_abs_name : (Cond.static Lib.Math.abs.name).before _ s = true := hts _ (List.mem_of_getElem? (i := 3) rfl)
  have hcode_Lib_Math_abs_name : (Cond.code Lib.Math.abs.name Lib.Math.abs.code 1 (some .int)).before _ s = true := hts _ (List.mem_of_getElem? (i := 5) rfl)
  have hfieldLink_RX4_9 : (Cond.fieldLink RX4 9 "TapLoom$Section" "number" "I").before _ s = true := hts _ (List.mem_of_getElem? (i := 6) rfl)
  have inX4 : ∀ w ∈ u_ws RX4 TX4 7, w ∈ wsX4_goesAheadOf := fun w h => (List.mem_cons_of_mem _ (List.mem_append_right _ h))
  have hP : va_P D ccl [(h0, .inr (5, [.int nu, .int wy, .ref b0, .int x1, .int x2, .int y1, .int y2])), (b0, .inl (cI, 5, .inl k5)), (h2, .inr (5, [.int nv, .int wz, .ref b2, .int p1, .int p2, .int q1, .int q2])), (b2, .inl (cI, 5, .inl k6))] s.heap := hP
  have hl : lv_has ls 4 [(0, .ref h0), (1, .ref h2)] := hl
  refine lv_aload_n hx hb dX4_goesAheadOf_0 rfl (lv_at hl 0 rfl) ?_
  refine va_get (D := D) (ci := 5) (v := .ref b0) (C := RX4) (T := TX4) (N := 7) hx hb hts inX4 hown hK hP 0 rfl rfl 2 (by decide) hfieldLink_RX4_18 (fun _ h9 => h9) rfl dX4_goesAheadOf_1 ?_
  refine lv_iconst (v := 4) hx hb dX4_goesAheadOf_4 (by decide) ?_
  refine va_iald hx hb hK hP 1 0 rfl rfl (by unfold vp_in; decide) dX4_goesAheadOf_5 ?_
  refine lv_topi (fun f ef => ?_)
  obtain rfl : f = k5 4 := ef.trans (congrArg k5 (show (4 : Int32).toNatClampNeg = 4 by decide))
  refine lv_aload_n hx hb dX4_goesAheadOf_6 rfl (lv_at hl 1 rfl) ?_
  refine va_get (D := D) (ci := 5) (v := .ref b2) (C := RX4) (T := TX4) (N := 7) hx hb hts inX4 hown hK hP 2 rfl rfl 2 (by decide) hfieldLink_RX4_18 (fun _ h9 => h9) rfl dX4_goesAheadOf_7 ?_
  refine lv_iconst (v := 4) hx hb dX4_goesAheadOf_10 (by decide) ?_
  refine va_iald hx hb hK hP 3 0 rfl rfl (by unfold vp_in; decide) dX4_goesAheadOf_11 ?_
  refine lv_topi (fun f ef => ?_)
  obtain rfl : f = k6 4 := ef.trans (congrArg k6 (show (4 : Int32).toNatClampNeg = 4 by decide))
  refine lv_icmp_eq (tgt := 36) hx hb dX4_goesAheadOf_12 (by decide) (fun c_12 => ?_) (fun c_12 => ?_)
  · refine lv_aload_n hx hb dX4_goesAheadOf_36 rfl (lv_at hl 0 rfl) ?_
    refine va_get (D := D) (ci := 5) (v := .ref b0) (C := RX4) (T := TX4) (N := 7) hx hb hts inX4 hown hK hP 0 rfl rfl 2 (by decide) hfieldLink_RX4_18 (fun _ h9 => h9) rfl dX4_goesAheadOf_37 ?_
    refine lv_iconst (v := 3) hx hb dX4_goesAheadOf_40 (by decide) ?_
    refine va_iald hx hb hK hP 1 0 rfl rfl (by unfold vp_in; decide) dX4_goesAheadOf_41 ?_
    refine lv_topi (fun f ef => ?_)
    obtain rfl : f = k5 3 := ef.trans (congrArg k5 (show (3 : Int32).toNatClampNeg = 3 by decide))
    refine va_mabs hx hb (by rw [hml]; exact hl.1.symm) hown hmethodLink_RX4_57 hstatic_Lib_Math_abs_name hinitialized_java_lang_Math hcode_Lib_Math_abs_name (Nat.le_of_ble_eq_true rfl) (Nat.le_of_ble_eq_true rfl) (Nat.le_of_ble_eq_true rfl) (Nat.le_of_ble_eq_true rfl) dX4_goesAheadOf_42 ?_
    refine lv_topi (fun f ef => ?_)
    obtain rfl : f = mSize (k5 3) := ef.trans (abs_mSize _)
    refine lv_istore_n (lv' := [(2, .int (mSize (k5 3))), (0, .ref h0), (1, .ref h2)]) hx hb dX4_goesAheadOf_45 rfl hl (by decide) rfl (fun ls hl => ?_)
    refine lv_aload_n hx hb dX4_goesAheadOf_46 rfl (lv_at hl 2 rfl) ?_
    refine va_get (D := D) (ci := 5) (v := .ref b2) (C := RX4) (T := TX4) (N := 7) hx hb hts inX4 hown hK hP 2 rfl rfl 2 (by decide) hfieldLink_RX4_18 (fun _ h9 => h9) rfl dX4_goesAheadOf_47 ?_
    refine lv_iconst (v := 3) hx hb dX4_goesAheadOf_50 (by decide) ?_
    refine va_iald hx hb hK hP 3 0 rfl rfl (by unfold vp_in; decide) dX4_goesAheadOf_51 ?_
    refine lv_topi (fun f ef => ?_)
    obtain rfl : f = k6 3 := ef.trans (congrArg k6 (show (3 : Int32).toNatClampNeg = 3 by decide))
    refine va_mabs hx hb (by rw [hml]; exact hl.1.symm) hown hmethodLink_RX4_57 hstatic_Lib_Math_abs_name hinitialized_java_lang_Math hcode_Lib_Math_abs_name (Nat.le_of_ble_eq_true rfl) (Nat.le_of_ble_eq_true rfl) (Nat.le_of_ble_eq_true rfl) (Nat.le_of_ble_eq_true rfl) dX4_goesAheadOf_52 ?_
    refine lv_topi (fun f ef => ?_)
    obtain rfl : f = mSize (k6 3) := ef.trans (abs_mSize _)
    refine lv_istore_n (lv' := [(3, .int (mSize (k6 3))), (2, .int (mSize (k5 3))), (0, .ref h0), (1, .ref h2)]) hx hb dX4_goesAheadOf_55 rfl hl (by decide) rfl (fun ls hl => ?_)
    refine lv_iload_n hx hb dX4_goesAheadOf_56 rfl (lv_at hl 1 rfl) ?_
    refine lv_iload_n hx hb dX4_goesAheadOf_57 rfl (lv_at hl 0 rfl) ?_
    refine lv_icmp_eq (tgt := 74) hx hb dX4_goesAheadOf_58 (by decide) (fun c_58 => ?_) (fun c_58 => ?_)
    · refine lv_aload_n hx hb dX4_goesAheadOf_74 rfl (lv_at hl 2 rfl) ?_
      refine va_get (D := D) (ci := 5) (v := .int nu) (C := RX4) (T := TX4) (N := 7) hx hb hts inX4 hown hK hP 0 rfl rfl 0 (by decide) hfieldLink_RX4_9 (fun _ h9 => h9) rfl dX4_goesAheadOf_75 ?_
      refine lv_aload_n hx hb dX4_goesAheadOf_78 rfl (lv_at hl 3 rfl) ?_
      refine va_get (D := D) (ci := 5) (v := .int nv) (C := RX4) (T := TX4) (N := 7) hx hb hts inX4 hown hK hP 2 rfl rfl 0 (by decide) hfieldLink_RX4_9 (fun _ h9 => h9) rfl dX4_goesAheadOf_79 ?_
      refine lv_icmp_ge (tgt := 89) hx hb dX4_goesAheadOf_82 (by decide) (fun c_82 => ?_) (fun c_82 => ?_)
      · have c_82 : ¬ nu < nv := Int32.not_lt.mpr c_82
        refine lv_iconst (v := 0) hx hb dX4_goesAheadOf_89 (by decide) ?_
        refine g_zret (v := 0) hx hb hr hlk hP hK hD hS (Nat.le_of_ble_eq_true rfl) (Nat.le_of_ble_eq_true rfl) dX4_goesAheadOf_90 (by decide +kernel) ?_
        exact ⟨rfl, (by first | rfl | (simp [cAh, c_12, c_58, c_82]; done))⟩
      · have c_82 : nu < nv := Int32.not_le.mp c_82
        refine lv_iconst (v := 1) hx hb dX4_goesAheadOf_85 (by decide) ?_
        refine lv_goto (tgt := 90) hx hb dX4_goesAheadOf_86 (by decide) ?_
        refine g_zret (v := 1) hx hb hr hlk hP hK hD hS (Nat.le_of_ble_eq_true rfl) (Nat.le_of_ble_eq_true rfl) dX4_goesAheadOf_90 (by decide +kernel) ?_
        exact ⟨rfl, (by first | rfl | (simp [cAh, c_12, c_58, c_82]; done))⟩
    · refine lv_iload_n hx hb dX4_goesAheadOf_61 rfl (lv_at hl 1 rfl) ?_
      refine lv_iload_n hx hb dX4_goesAheadOf_62 rfl (lv_at hl 0 rfl) ?_
      refine lv_icmp_ge (tgt := 70) hx hb dX4_goesAheadOf_63 (by decide) (fun c_63 => ?_) (fun c_63 => ?_)
      · have c_63 : ¬ (mSize (k5 3)) < (mSize (k6 3)) := Int32.not_lt.mpr c_63
        refine lv_iconst (v := 0) hx hb dX4_goesAheadOf_70 (by decide) ?_
        refine lv_goto (tgt := 90) hx hb dX4_goesAheadOf_71 (by decide) ?_
        refine g_zret (v := 0) hx hb hr hlk hP hK hD hS (Nat.le_of_ble_eq_true rfl) (Nat.le_of_ble_eq_true rfl) dX4_goesAheadOf_90 (by decide +kernel) ?_
        exact ⟨rfl, (by first | rfl | (simp [cAh, c_12, c_58, c_63]; done))⟩
      · have c_63 : (mSize (k5 3)) < (mSize (k6 3)) := Int32.not_le.mp c_63
        refine lv_iconst (v := 1) hx hb dX4_goesAheadOf_66 (by decide) ?_
        refine lv_goto (tgt := 90) hx hb dX4_goesAheadOf_67 (by decide) ?_
        refine g_zret (v := 1) hx hb hr hlk hP hK hD hS (Nat.le_of_ble_eq_true rfl) (Nat.le_of_ble_eq_true rfl) dX4_goesAheadOf_90 (by decide +kernel) ?_
        exact ⟨rfl, (by first | rfl | (simp [cAh, c_12, c_58, c_63]; done))⟩
  · refine lv_aload_n hx hb dX4_goesAheadOf_15 rfl (lv_at hl 0 rfl) ?_
    refine va_get (D := D) (ci := 5) (v := .ref b0) (C := RX4) (T := TX4) (N := 7) hx hb hts inX4 hown hK hP 0 rfl rfl 2 (by decide) hfieldLink_RX4_18 (fun _ h9 => h9) rfl dX4_goesAheadOf_16 ?_
    refine lv_iconst (v := 4) hx hb dX4_goesAheadOf_19 (by decide) ?_
    refine va_iald hx hb hK hP 1 0 rfl rfl (by unfold vp_in; decide) dX4_goesAheadOf_20 ?_
    refine lv_topi (fun f ef => ?_)
    obtain rfl : f = k5 4 := ef.trans (congrArg k5 (show (4 : Int32).toNatClampNeg = 4 by decide))
    refine lv_aload_n hx hb dX4_goesAheadOf_21 rfl (lv_at hl 1 rfl) ?_
    refine va_get (D := D) (ci := 5) (v := .ref b2) (C := RX4) (T := TX4) (N := 7) hx hb hts inX4 hown hK hP 2 rfl rfl 2 (by decide) hfieldLink_RX4_18 (fun _ h9 => h9) rfl dX4_goesAheadOf_22 ?_
    refine lv_iconst (v := 4) hx hb dX4_goesAheadOf_25 (by decide) ?_
    refine va_iald hx hb hK hP 3 0 rfl rfl (by unfold vp_in; decide) dX4_goesAheadOf_26 ?_
    refine lv_topi (fun f ef => ?_)
    obtain rfl : f = k6 4 := ef.trans (congrArg k6 (show (4 : Int32).toNatClampNeg = 4 by decide))
    refine lv_icmp_ge (tgt := 34) hx hb dX4_goesAheadOf_27 (by decide) (fun c_27 => ?_) (fun c_27 => ?_)
    · have c_27 : ¬ (k5 4) < (k6 4) := Int32.not_lt.mpr c_27
      refine lv_iconst (v := 0) hx hb dX4_goesAheadOf_34 (by decide) ?_
      refine g_zret (v := 0) hx hb hr hlk hP hK hD hS (Nat.le_of_ble_eq_true rfl) (Nat.le_of_ble_eq_true rfl) dX4_goesAheadOf_35 (by decide +kernel) ?_
      exact ⟨rfl, (by first | rfl | (simp [cAh, c_12, c_27]; done))⟩
    · have c_27 : (k5 4) < (k6 4) := Int32.not_le.mp c_27
      refine lv_iconst (v := 1) hx hb dX4_goesAheadOf_30 (by decide) ?_
      refine lv_goto (tgt := 35) hx hb dX4_goesAheadOf_31 (by decide) ?_
      refine g_zret (v := 1) hx hb hr hlk hP hK hD hS (Nat.le_of_ble_eq_true rfl) (Nat.le_of_ble_eq_true rfl) dX4_goesAheadOf_35 (by decide +kernel) ?_
      exact ⟨rfl, (by first | rfl | (simp [cAh, c_12, c_27]; done))⟩

set_option maxHeartbeats 4000000 in
set_option maxRecDepth 100000 in
theorem c_X4_valueAt (l : Launch) (D : va_G) (cI cJ cO : ClassId) (df sz : Nat) (w : Nat) (c0 : Int64) (c1 : Int64) (c2 : Int64) (hw : w ≤ 2) : MetL l yX4_valueAt wsX4_valueAt ({ frames := 0, cells := 0, slots := 0, locals := 0 } : Room) D (gTY cI cJ cO) df [] sz [.int (nI w), .long c0, .long c1, .long c2] (fun (r : Int64) (wZ : va_W) => wZ = [] ∧ r = vAt w c0 c1 c2) := by
  refine g_of (cc := cX4_valueAt) (nL := 7) (ret := (some .long)) (D := D) (TY := (gTY cI cJ cO)) (df := df) (Qc := fun A => va_Ql (fun (r : Int64) (wZ : va_W) => wZ = [] ∧ r = vAt w c0 c1 c2) (gB D (gTY cI cJ cO) A) A) (by decide +kernel) rfl (Nat.le_of_ble_eq_true rfl) ?_
  intro p e s m below meth c ls A hsz C0 hin hl
  obtain ⟨CF, hr, hlk, hA, hS, hP, hK, hD, hV, hH⟩ := C0
  have CF : CallFix p m c cX4_valueAt 7 s _ wsX4_valueAt RX4 := CF
  obtain ⟨hx, hb, hml, hown, hts⟩ := id CF
  subst hsz
  have hP : va_P D ccl [] s.heap := hP
  have hl : lv_has ls 7 [(0, .int (nI w)), (1, .long c0), (3, .long c1), (5, .long c2)] := hl
  refine lv_iload_n hx hb dX4_valueAt_0 rfl (lv_at hl 0 rfl) ?_
  by_cases s_1_0 : nI w = 0
  · have c_1_0 := s_1_0
    have c_1_0 : w = 0 := g_eq (a := w) (b := 0) c_1_0 (by omega) (by omega)
    refine lv_lookup (off := 27) (tgt := 28) hx hb dX4_valueAt_1 (by decide) (by rw [s_1_0]; rfl) (by decide) ?_
    refine lv_lload_n hx hb dX4_valueAt_28 rfl (lv_at hl 1 rfl) ?_
    refine lv_lload_n hx hb dX4_valueAt_29 rfl (lv_at hl 2 rfl) ?_
    refine lv_ladd hx hb dX4_valueAt_30 ?_
    refine lv_lload hx hb dX4_valueAt_31 (lv_at hl 3 rfl) ?_
    refine lv_ladd hx hb dX4_valueAt_33 ?_
    refine g_lret (v := (c0 + c1) + c2) hx hb hr hlk hP hK hD hS (Nat.le_of_ble_eq_true rfl) (Nat.le_of_ble_eq_true rfl) dX4_valueAt_34 ?_
    exact ⟨rfl, by unfold vAt; rw [if_pos c_1_0]⟩
  have c_1_0 := s_1_0
  have c_1_0 : w ≠ 0 := g_ne (a := w) (b := 0) c_1_0 (by omega) (by omega)
  by_cases s_1_1 : nI w = 1
  · have c_1_1 := s_1_1
    have c_1_1 : w = 1 := g_eq (a := w) (b := 1) c_1_1 (by omega) (by omega)
    refine lv_lookup (off := 34) (tgt := 35) hx hb dX4_valueAt_1 (by decide) ((lv_osw s_1_0 (by decide)).trans (by rw [s_1_1]; rfl)) (by decide) ?_
    refine lv_lload_n hx hb dX4_valueAt_35 rfl (lv_at hl 1 rfl) ?_
    refine lv_lload_n hx hb dX4_valueAt_36 rfl (lv_at hl 2 rfl) ?_
    refine lv_lsub hx hb dX4_valueAt_37 ?_
    refine lv_lload hx hb dX4_valueAt_38 (lv_at hl 3 rfl) ?_
    refine lv_ladd hx hb dX4_valueAt_40 ?_
    refine g_lret (v := (c0 - c1) + c2) hx hb hr hlk hP hK hD hS (Nat.le_of_ble_eq_true rfl) (Nat.le_of_ble_eq_true rfl) dX4_valueAt_41 ?_
    exact ⟨rfl, by unfold vAt; rw [if_neg c_1_0, if_pos c_1_1]⟩
  have c_1_1 := s_1_1
  have c_1_1 : w ≠ 1 := g_ne (a := w) (b := 1) c_1_1 (by omega) (by omega)
  refine lv_lookup (off := 41) (tgt := 42) hx hb dX4_valueAt_1 (by decide) ((lv_osw s_1_0 (by decide)).trans ((lv_osw s_1_1 (by decide)).trans rfl)) (by decide) ?_
  refine lv_lload_n hx hb dX4_valueAt_42 rfl (lv_at hl 1 rfl) ?_
  refine lv_lload hx hb dX4_valueAt_43 (lv_at hl 3 rfl) ?_
  refine lv_lsub hx hb dX4_valueAt_45 ?_
  refine lv_lload_n hx hb dX4_valueAt_46 rfl (lv_at hl 1 rfl) ?_
  refine lv_lload hx hb dX4_valueAt_47 (lv_at hl 3 rfl) ?_
  refine lv_lsub hx hb dX4_valueAt_49 ?_
  refine lv_lmul hx hb dX4_valueAt_50 ?_
  refine lv_lload_n hx hb dX4_valueAt_51 rfl (lv_at hl 2 rfl) ?_
  refine lv_lload_n hx hb dX4_valueAt_52 rfl (lv_at hl 2 rfl) ?_
  refine lv_lmul hx hb dX4_valueAt_53 ?_
  refine lv_ladd hx hb dX4_valueAt_54 ?_
  refine g_lret (v := ((c0 - c2) * (c0 - c2)) + (c1 * c1)) hx hb hr hlk hP hK hD hS (Nat.le_of_ble_eq_true rfl) (Nat.le_of_ble_eq_true rfl) dX4_valueAt_55 ?_
  exact ⟨rfl, by unfold vAt; rw [if_neg c_1_0, if_neg c_1_1]⟩

set_option maxHeartbeats 4000000 in
set_option maxRecDepth 100000 in
theorem c_X4_gainNumber (l : Launch) (D : va_G) (cI cJ cO : ClassId) (df sz : Nat) (h0 : Nat) (b0 : Nat) (nu : Int32) (wy : Int32) (x1 : Int32) (x2 : Int32) (y1 : Int32) (y2 : Int32) (k5 : Nat → Int32) (w : Nat) (hw : w ≤ 2) : MetL l yX4_gainNumber wsX4_gainNumber ({ frames := 1, cells := 0, slots := 0, locals := 26 } : Room) D (gTY cI cJ cO) df [(h0, .inr (5, [.int nu, .int wy, .ref b0, .int x1, .int x2, .int y1, .int y2])), (b0, .inl (cI, 5, .inl k5))] sz [.ref h0, .int (nI w)] (fun (r : Int64) (wZ : va_W) => wZ = [(h0, .inr (5, [.int nu, .int wy, .ref b0, .int x1, .int x2, .int y1, .int y2])), (b0, .inl (cI, 5, .inl k5))] ∧ r = vAt w (k5 0).toInt64 (k5 1).toInt64 (k5 2).toInt64) := by
  refine g_of (cc := cX4_gainNumber) (nL := 2) (ret := (some .long)) (D := D) (TY := (gTY cI cJ cO)) (df := df) (Qc := fun A => va_Ql (fun (r : Int64) (wZ : va_W) => wZ = [(h0, .inr (5, [.int nu, .int wy, .ref b0, .int x1, .int x2, .int y1, .int y2])), (b0, .inl (cI, 5, .inl k5))] ∧ r = vAt w (k5 0).toInt64 (k5 1).toInt64 (k5 2).toInt64) (gB D (gTY cI cJ cO) A) A) (by decide +kernel) rfl (Nat.le_of_ble_eq_true rfl) ?_
  intro p e s m below meth c ls A hsz C0 hin hl
  obtain ⟨CF, hr, hlk, hA, hS, hP, hK, hD, hV, hH⟩ := C0
  have CF : CallFix p m c cX4_gainNumber 2 s _ wsX4_gainNumber RX4 := CF
  obtain ⟨hx, hb, hml, hown, hts⟩ := id CF
  subst hsz
  have hfieldLink_RX4_18 : (Cond.fieldLink RX4 18 "TapLoom$Section" "coefficients" "[I").before _ s = true := hts _ (List.mem_of_getElem? (i := 1) rfl)
  have hmethodLink_RX4_60 : (Cond.methodLink RX4 60 yX4_valueAt).before _ s = true := hts _ (List.mem_of_getElem? (i := 2) rfl)
  have inX4 : ∀ w ∈ u_ws RX4 TX4 7, w ∈ wsX4_gainNumber := fun w h => (List.mem_cons_of_mem _ (List.mem_append_right _ h))
  have hP : va_P D ccl [(h0, .inr (5, [.int nu, .int wy, .ref b0, .int x1, .int x2, .int y1, .int y2])), (b0, .inl (cI, 5, .inl k5))] s.heap := hP
  have hl : lv_has ls 2 [(0, .ref h0), (1, .int (nI w))] := hl
  refine lv_iload_n hx hb dX4_gainNumber_0 rfl (lv_at hl 1 rfl) ?_
  refine lv_aload_n hx hb dX4_gainNumber_1 rfl (lv_at hl 0 rfl) ?_
  refine va_get (D := D) (ci := 5) (v := .ref b0) (C := RX4) (T := TX4) (N := 7) hx hb hts inX4 hown hK hP 0 rfl rfl 2 (by decide) hfieldLink_RX4_18 (fun _ h9 => h9) rfl dX4_gainNumber_2 ?_
  refine lv_iconst (v := 0) hx hb dX4_gainNumber_5 (by decide) ?_
  refine va_iald hx hb hK hP 1 0 rfl rfl (by unfold vp_in; decide) dX4_gainNumber_6 ?_
  refine lv_topi (fun f ef => ?_)
  obtain rfl : f = k5 0 := ef.trans (congrArg k5 (show (0 : Int32).toNatClampNeg = 0 by decide))
  refine lv_i2l (v := (k5 0).toInt64) hx hb dX4_gainNumber_7 rfl ?_
  refine lv_aload_n hx hb dX4_gainNumber_8 rfl (lv_at hl 0 rfl) ?_
  refine va_get (D := D) (ci := 5) (v := .ref b0) (C := RX4) (T := TX4) (N := 7) hx hb hts inX4 hown hK hP 0 rfl rfl 2 (by decide) hfieldLink_RX4_18 (fun _ h9 => h9) rfl dX4_gainNumber_9 ?_
  refine lv_iconst (v := 1) hx hb dX4_gainNumber_12 (by decide) ?_
  refine va_iald hx hb hK hP 1 0 rfl rfl (by unfold vp_in; decide) dX4_gainNumber_13 ?_
  refine lv_topi (fun f ef => ?_)
  obtain rfl : f = k5 1 := ef.trans (congrArg k5 (show (1 : Int32).toNatClampNeg = 1 by decide))
  refine lv_i2l (v := (k5 1).toInt64) hx hb dX4_gainNumber_14 rfl ?_
  refine lv_aload_n hx hb dX4_gainNumber_15 rfl (lv_at hl 0 rfl) ?_
  refine va_get (D := D) (ci := 5) (v := .ref b0) (C := RX4) (T := TX4) (N := 7) hx hb hts inX4 hown hK hP 0 rfl rfl 2 (by decide) hfieldLink_RX4_18 (fun _ h9 => h9) rfl dX4_gainNumber_16 ?_
  refine lv_iconst (v := 2) hx hb dX4_gainNumber_19 (by decide) ?_
  refine va_iald hx hb hK hP 1 0 rfl rfl (by unfold vp_in; decide) dX4_gainNumber_20 ?_
  refine lv_topi (fun f ef => ?_)
  obtain rfl : f = k5 2 := ef.trans (congrArg k5 (show (2 : Int32).toNatClampNeg = 2 by decide))
  refine lv_i2l (v := (k5 2).toInt64) hx hb dX4_gainNumber_21 rfl ?_
  have hPc : va_P D ccl [] s.heap := fun k q h => by simp at h
  have hDc : va_D A [] := ⟨fun i j p q h => by simp at h, fun k q h => by simp at h⟩
  have hFc := va_free (wc := []) hD hS hA [] rfl
  refine g_Sl (As := [.int (nI w), .long ((k5 0).toInt64), .long ((k5 1).toInt64), .long ((k5 2).toInt64)]) (rest := []) CF (c_X4_valueAt l D cI cJ cO df s.heap.size w ((k5 0).toInt64) ((k5 1).toInt64) ((k5 2).toInt64) hw) (va_cwS 4 hts gX4_gainNumber_X4_valueAt rfl rfl rfl (by decide +kernel) ⟨Nat.le_of_ble_eq_true rfl, Nat.le_of_ble_eq_true rfl⟩)  hPc hK hDc hV hH hS hFc rfl hl.1 rfl (Nat.le_of_ble_eq_true rfl) dX4_gainNumber_22 ⟨Nat.le_of_ble_eq_true rfl, Nat.le_of_ble_eq_true rfl⟩ (fun r_22 w1 H1 locs1 hq hP1 hD1 hk hS hz => ?_)
  obtain ⟨rfl, hr_22⟩ := hq
  have hP := g_keep0 hP hk
  clear hPc hDc hFc hP1 hD1 hk hz
  generalize H1 = H at hP hS ⊢
  have hP : va_P D ccl [(h0, .inr (5, [.int nu, .int wy, .ref b0, .int x1, .int x2, .int y1, .int y2])), (b0, .inl (cI, 5, .inl k5))] H := hP
  have hD : va_D A [(h0, .inr (5, [.int nu, .int wy, .ref b0, .int x1, .int x2, .int y1, .int y2])), (b0, .inl (cI, 5, .inl k5))] := hD
  subst hr_22
  refine g_lret (v := vAt w ((k5 0).toInt64) ((k5 1).toInt64) ((k5 2).toInt64)) hx hb hr hlk hP hK hD hS (Nat.le_of_ble_eq_true rfl) (Nat.le_of_ble_eq_true rfl) dX4_gainNumber_25 ?_
  exact ⟨rfl, rfl⟩

set_option maxHeartbeats 4000000 in
set_option maxRecDepth 100000 in
theorem c_X4_gainDivisor (l : Launch) (D : va_G) (cI cJ cO : ClassId) (df sz : Nat) (h0 : Nat) (b0 : Nat) (nu : Int32) (wy : Int32) (x1 : Int32) (x2 : Int32) (y1 : Int32) (y2 : Int32) (k5 : Nat → Int32) (w : Nat) (hw : w ≤ 2) : MetL l yX4_gainDivisor wsX4_gainDivisor ({ frames := 1, cells := 0, slots := 0, locals := 26 } : Room) D (gTY cI cJ cO) df [(h0, .inr (5, [.int nu, .int wy, .ref b0, .int x1, .int x2, .int y1, .int y2])), (b0, .inl (cI, 5, .inl k5))] sz [.ref h0, .int (nI w)] (fun (r : Int64) (wZ : va_W) => wZ = [(h0, .inr (5, [.int nu, .int wy, .ref b0, .int x1, .int x2, .int y1, .int y2])), (b0, .inl (cI, 5, .inl k5))] ∧ r = vAt w 64 (k5 3).toInt64 (k5 4).toInt64) := by
  refine g_of (cc := cX4_gainDivisor) (nL := 2) (ret := (some .long)) (D := D) (TY := (gTY cI cJ cO)) (df := df) (Qc := fun A => va_Ql (fun (r : Int64) (wZ : va_W) => wZ = [(h0, .inr (5, [.int nu, .int wy, .ref b0, .int x1, .int x2, .int y1, .int y2])), (b0, .inl (cI, 5, .inl k5))] ∧ r = vAt w 64 (k5 3).toInt64 (k5 4).toInt64) (gB D (gTY cI cJ cO) A) A) (by decide +kernel) rfl (Nat.le_of_ble_eq_true rfl) ?_
  intro p e s m below meth c ls A hsz C0 hin hl
  obtain ⟨CF, hr, hlk, hA, hS, hP, hK, hD, hV, hH⟩ := C0
  have CF : CallFix p m c cX4_gainDivisor 2 s _ wsX4_gainDivisor RX4 := CF
  obtain ⟨hx, hb, hml, hown, hts⟩ := id CF
  subst hsz
  have hconstantLong_RX4_64 : (Cond.constantLong RX4 64 (64)).before _ s = true := hts _ (List.mem_of_getElem? (i := 1) rfl)
  have hfieldLink_RX4_18 : (Cond.fieldLink RX4 18 "TapLoom$Section" "coefficients" "[I").before _ s = true := hts _ (List.mem_of_getElem? (i := 2) rfl)
  have hmethodLink_RX4_60 : (Cond.methodLink RX4 60 yX4_valueAt).before _ s = true := hts _ (List.mem_of_getElem? (i := 3) rfl)
  have inX4 : ∀ w ∈ u_ws RX4 TX4 7, w ∈ wsX4_gainDivisor := fun w h => (List.mem_cons_of_mem _ (List.mem_append_right _ h))
  have hP : va_P D ccl [(h0, .inr (5, [.int nu, .int wy, .ref b0, .int x1, .int x2, .int y1, .int y2])), (b0, .inl (cI, 5, .inl k5))] s.heap := hP
  have hl : lv_has ls 2 [(0, .ref h0), (1, .int (nI w))] := hl
  refine lv_iload_n hx hb dX4_gainDivisor_0 rfl (lv_at hl 1 rfl) ?_
  refine lv_ldc2 (v := 64) hx hb hown hconstantLong_RX4_64 dX4_gainDivisor_1 ?_
  refine lv_aload_n hx hb dX4_gainDivisor_4 rfl (lv_at hl 0 rfl) ?_
  refine va_get (D := D) (ci := 5) (v := .ref b0) (C := RX4) (T := TX4) (N := 7) hx hb hts inX4 hown hK hP 0 rfl rfl 2 (by decide) hfieldLink_RX4_18 (fun _ h9 => h9) rfl dX4_gainDivisor_5 ?_
  refine lv_iconst (v := 3) hx hb dX4_gainDivisor_8 (by decide) ?_
  refine va_iald hx hb hK hP 1 0 rfl rfl (by unfold vp_in; decide) dX4_gainDivisor_9 ?_
  refine lv_topi (fun f ef => ?_)
  obtain rfl : f = k5 3 := ef.trans (congrArg k5 (show (3 : Int32).toNatClampNeg = 3 by decide))
  refine lv_i2l (v := (k5 3).toInt64) hx hb dX4_gainDivisor_10 rfl ?_
  refine lv_aload_n hx hb dX4_gainDivisor_11 rfl (lv_at hl 0 rfl) ?_
  refine va_get (D := D) (ci := 5) (v := .ref b0) (C := RX4) (T := TX4) (N := 7) hx hb hts inX4 hown hK hP 0 rfl rfl 2 (by decide) hfieldLink_RX4_18 (fun _ h9 => h9) rfl dX4_gainDivisor_12 ?_
  refine lv_iconst (v := 4) hx hb dX4_gainDivisor_15 (by decide) ?_
  refine va_iald hx hb hK hP 1 0 rfl rfl (by unfold vp_in; decide) dX4_gainDivisor_16 ?_
  refine lv_topi (fun f ef => ?_)
  obtain rfl : f = k5 4 := ef.trans (congrArg k5 (show (4 : Int32).toNatClampNeg = 4 by decide))
  refine lv_i2l (v := (k5 4).toInt64) hx hb dX4_gainDivisor_17 rfl ?_
  have hPc : va_P D ccl [] s.heap := fun k q h => by simp at h
  have hDc : va_D A [] := ⟨fun i j p q h => by simp at h, fun k q h => by simp at h⟩
  have hFc := va_free (wc := []) hD hS hA [] rfl
  refine g_Sl (As := [.int (nI w), .long 64, .long ((k5 3).toInt64), .long ((k5 4).toInt64)]) (rest := []) CF (c_X4_valueAt l D cI cJ cO df s.heap.size w 64 ((k5 3).toInt64) ((k5 4).toInt64) hw) (va_cwS 4 hts gX4_gainDivisor_X4_valueAt rfl rfl rfl (by decide +kernel) ⟨Nat.le_of_ble_eq_true rfl, Nat.le_of_ble_eq_true rfl⟩)  hPc hK hDc hV hH hS hFc rfl hl.1 rfl (Nat.le_of_ble_eq_true rfl) dX4_gainDivisor_18 ⟨Nat.le_of_ble_eq_true rfl, Nat.le_of_ble_eq_true rfl⟩ (fun r_18 w1 H1 locs1 hq hP1 hD1 hk hS hz => ?_)
  obtain ⟨rfl, hr_18⟩ := hq
  have hP := g_keep0 hP hk
  clear hPc hDc hFc hP1 hD1 hk hz
  generalize H1 = H at hP hS ⊢
  have hP : va_P D ccl [(h0, .inr (5, [.int nu, .int wy, .ref b0, .int x1, .int x2, .int y1, .int y2])), (b0, .inl (cI, 5, .inl k5))] H := hP
  have hD : va_D A [(h0, .inr (5, [.int nu, .int wy, .ref b0, .int x1, .int x2, .int y1, .int y2])), (b0, .inl (cI, 5, .inl k5))] := hD
  subst hr_18
  refine g_lret (v := vAt w 64 ((k5 3).toInt64) ((k5 4).toInt64)) hx hb hr hlk hP hK hD hS (Nat.le_of_ble_eq_true rfl) (Nat.le_of_ble_eq_true rfl) dX4_gainDivisor_21 ?_
  exact ⟨rfl, rfl⟩

set_option maxHeartbeats 4000000 in
set_option maxRecDepth 100000 in
theorem c_X3_init_n16 (l : Launch) (D : va_G) (cI cJ cO : ClassId) (df sz : Nat) (h0 : Nat)  : MetV l yX3_init wsX3_init ({ frames := 1, cells := 1, slots := 16, locals := 30 } : Room) D (gTY cI cJ cO) df [(h0, .inr (4, [.null, .int 0]))] sz [.ref h0, .int 16] (fun (wZ : va_W) => ∃ (b1 : Nat), wZ = [(h0, .inr (4, [.ref b1, .int 0])), (b1, .inl (cI, 16, .inl (fun _ => 0)))]) := by
  refine g_of (cc := cX3_init) (nL := 2) (ret := none) (D := D) (TY := (gTY cI cJ cO)) (df := df) (Qc := fun A => va_Qv (fun (wZ : va_W) => ∃ (b1 : Nat), wZ = [(h0, .inr (4, [.ref b1, .int 0])), (b1, .inl (cI, 16, .inl (fun _ => 0)))]) (gB D (gTY cI cJ cO) A) A) (by decide +kernel) rfl (Nat.le_of_ble_eq_true rfl) ?_
  intro p e s m below meth c ls A hsz C0 hin hl
  obtain ⟨CF, hr, hlk, hA, hS, hP, hK, hD, hV, hH⟩ := C0
  have CF : CallFix p m c cX3_init 2 s _ wsX3_init RX3 := CF
  obtain ⟨hx, hb, hml, hown, hts⟩ := id CF
  subst hsz
  have hmethodLink_RX3_1 : (Cond.methodLink RX3 1 objectInit).before _ s = true := hts _ (List.mem_of_getElem? (i := 1) rfl)
  have hinstanceMethod_objectInit : (Cond.instanceMethod objectInit).before _ s = true := hts _ (List.mem_of_getElem? (i := 2) rfl)
  have hcode_objectInit : (Cond.code objectInit ⟨#[0xb1]⟩ 1 none).before _ s = true := hts _ (List.mem_of_getElem? (i := 3) rfl)
  have hmethodLink_RX3_7 : (Cond.methodLink RX3 7 Lib.Math.max.name).before _ s = true := hts _ (List.mem_of_getElem? (i := 4) rfl)
  have hinitialized_java_lang_Math : (Cond.initialized "java/lang/Math").before _ s = true := hts _ (List.mem_of_getElem? (i := 6) rfl)
  have hstatic_Lib_Math_max_name : (Cond.static Lib.Math.max.name).before _ s = true := hts _ (List.mem_of_getElem? (i := 5) rfl)
  have hcode_Lib_Math_max_name : (Cond.code Lib.Math.max.name Lib.Math.max.code 2 (some .int)).before _ s = true := hts _ (List.mem_of_getElem? (i := 7) rfl)
  have hArrI : (Cond.arrayClass .int).before _ s = true := hts _ (List.mem_of_getElem? (i := 8) rfl)
  have hfieldLink_RX3_13 : (Cond.fieldLink RX3 13 "TapLoom$Latest" "kept" "[I").before _ s = true := hts _ (List.mem_of_getElem? (i := 9) rfl)
  have inX3 : ∀ w ∈ u_ws RX3 TX3 2, w ∈ wsX3_init := fun w h => (List.mem_cons_of_mem _ (List.mem_append_right _ h))
  have hP : va_P D ccl [(h0, .inr (4, [.null, .int 0]))] s.heap := hP
  have hl : lv_has ls 2 [(0, .ref h0), (1, .int 16)] := hl
  refine lv_aload_n hx hb dX3_init_0 rfl (lv_at hl 0 rfl) ?_
  refine W.objInit hx hb hown hmethodLink_RX3_1 hinstanceMethod_objectInit hcode_objectInit rfl (by rw [hml]; exact hl.1) rfl dX3_init_1 (Nat.le_of_ble_eq_true rfl) (Nat.le_of_ble_eq_true rfl) ?_
  refine W.eq (g2 := F0 m 4 ls []) rfl ?_
  refine lv_aload_n hx hb dX3_init_4 rfl (lv_at hl 0 rfl) ?_
  refine lv_iconst (v := 1) hx hb dX3_init_5 (by decide) ?_
  refine lv_iload_n hx hb dX3_init_6 rfl (lv_at hl 1 rfl) ?_
  refine va_mmax hx hb (by rw [hml]; exact hl.1.symm) hown hmethodLink_RX3_7 hstatic_Lib_Math_max_name hinitialized_java_lang_Math hcode_Lib_Math_max_name (Nat.le_of_ble_eq_true rfl) (Nat.le_of_ble_eq_true rfl) (Nat.le_of_ble_eq_true rfl) (Nat.le_of_ble_eq_true rfl) dX3_init_7 ?_
  refine lv_topi (fun f ef => ?_)
  obtain rfl : f = 16 := ef.trans (by decide)
  refine g_newaI (N := 16) hx hb hArrI hK hP hD hS hA (by decide) (by decide) (Nat.le_of_ble_eq_true rfl) (Nat.le_of_ble_eq_true rfl) (Nat.le_of_ble_eq_true rfl) dX3_init_10 (fun q1 H hP hD hS => ?_)
  have hP : va_P D ccl [(h0, .inr (4, [.null, .int 0])), (q1, .inl (cI, 16, .inl (fun _ => 0)))] H := hP
  have hD : va_D A [(h0, .inr (4, [.null, .int 0])), (q1, .inl (cI, 16, .inl (fun _ => 0)))] := hD
  refine va_putF (D := D) (ci := 4) (v := .ref q1) (ty := .array (.int)) (C := RX3) (T := TX3) (N := 2) hx hb hts inX3 tyX3 tyX3_ok nmX3 hown hK hP hD hS 0 rfl rfl 0 (by decide) hfieldLink_RX3_13 (fun _ h9 => h9) rfl (hin rfl) rfl (by decide +kernel) rfl rfl (Nat.le_of_ble_eq_true rfl) dX3_init_12 (fun H locs hP hD hS => ?_)
  have hP : va_P D ccl [(h0, .inr (4, [.ref q1, .int 0])), (q1, .inl (cI, 16, .inl (fun _ => 0)))] H := hP
  have hD : va_D A [(h0, .inr (4, [.ref q1, .int 0])), (q1, .inl (cI, 16, .inl (fun _ => 0)))] := hD
  refine g_vret hx hb hr hlk hP hK hD hS (Nat.le_of_ble_eq_true rfl) (Nat.le_of_ble_eq_true rfl) dX3_init_15 ?_
  exact ⟨_, rfl⟩

set_option maxHeartbeats 4000000 in
set_option maxRecDepth 100000 in
theorem c_X3_init_n64 (l : Launch) (D : va_G) (cI cJ cO : ClassId) (df sz : Nat) (h0 : Nat)  : MetV l yX3_init wsX3_init ({ frames := 1, cells := 1, slots := 64, locals := 30 } : Room) D (gTY cI cJ cO) df [(h0, .inr (4, [.null, .int 0]))] sz [.ref h0, .int 64] (fun (wZ : va_W) => ∃ (b1 : Nat), wZ = [(h0, .inr (4, [.ref b1, .int 0])), (b1, .inl (cI, 64, .inl (fun _ => 0)))]) := by
  refine g_of (cc := cX3_init) (nL := 2) (ret := none) (D := D) (TY := (gTY cI cJ cO)) (df := df) (Qc := fun A => va_Qv (fun (wZ : va_W) => ∃ (b1 : Nat), wZ = [(h0, .inr (4, [.ref b1, .int 0])), (b1, .inl (cI, 64, .inl (fun _ => 0)))]) (gB D (gTY cI cJ cO) A) A) (by decide +kernel) rfl (Nat.le_of_ble_eq_true rfl) ?_
  intro p e s m below meth c ls A hsz C0 hin hl
  obtain ⟨CF, hr, hlk, hA, hS, hP, hK, hD, hV, hH⟩ := C0
  have CF : CallFix p m c cX3_init 2 s _ wsX3_init RX3 := CF
  obtain ⟨hx, hb, hml, hown, hts⟩ := id CF
  subst hsz
  have hmethodLink_RX3_1 : (Cond.methodLink RX3 1 objectInit).before _ s = true := hts _ (List.mem_of_getElem? (i := 1) rfl)
  have hinstanceMethod_objectInit : (Cond.instanceMethod objectInit).before _ s = true := hts _ (List.mem_of_getElem? (i := 2) rfl)
  have hcode_objectInit : (Cond.code objectInit ⟨#[0xb1]⟩ 1 none).before _ s = true := hts _ (List.mem_of_getElem? (i := 3) rfl)
  have hmethodLink_RX3_7 : (Cond.methodLink RX3 7 Lib.Math.max.name).before _ s = true := hts _ (List.mem_of_getElem? (i := 4) rfl)
  have hinitialized_java_lang_Math : (Cond.initialized "java/lang/Math").before _ s = true := hts _ (List.mem_of_getElem? (i := 6) rfl)
  have hstatic_Lib_Math_max_name : (Cond.static Lib.Math.max.name).before _ s = true := hts _ (List.mem_of_getElem? (i := 5) rfl)
  have hcode_Lib_Math_max_name : (Cond.code Lib.Math.max.name Lib.Math.max.code 2 (some .int)).before _ s = true := hts _ (List.mem_of_getElem? (i := 7) rfl)
  have hArrI : (Cond.arrayClass .int).before _ s = true := hts _ (List.mem_of_getElem? (i := 8) rfl)
  have hfieldLink_RX3_13 : (Cond.fieldLink RX3 13 "TapLoom$Latest" "kept" "[I").before _ s = true := hts _ (List.mem_of_getElem? (i := 9) rfl)
  have inX3 : ∀ w ∈ u_ws RX3 TX3 2, w ∈ wsX3_init := fun w h => (List.mem_cons_of_mem _ (List.mem_append_right _ h))
  have hP : va_P D ccl [(h0, .inr (4, [.null, .int 0]))] s.heap := hP
  have hl : lv_has ls 2 [(0, .ref h0), (1, .int 64)] := hl
  refine lv_aload_n hx hb dX3_init_0 rfl (lv_at hl 0 rfl) ?_
  refine W.objInit hx hb hown hmethodLink_RX3_1 hinstanceMethod_objectInit hcode_objectInit rfl (by rw [hml]; exact hl.1) rfl dX3_init_1 (Nat.le_of_ble_eq_true rfl) (Nat.le_of_ble_eq_true rfl) ?_
  refine W.eq (g2 := F0 m 4 ls []) rfl ?_
  refine lv_aload_n hx hb dX3_init_4 rfl (lv_at hl 0 rfl) ?_
  refine lv_iconst (v := 1) hx hb dX3_init_5 (by decide) ?_
  refine lv_iload_n hx hb dX3_init_6 rfl (lv_at hl 1 rfl) ?_
  refine va_mmax hx hb (by rw [hml]; exact hl.1.symm) hown hmethodLink_RX3_7 hstatic_Lib_Math_max_name hinitialized_java_lang_Math hcode_Lib_Math_max_name (Nat.le_of_ble_eq_true rfl) (Nat.le_of_ble_eq_true rfl) (Nat.le_of_ble_eq_true rfl) (Nat.le_of_ble_eq_true rfl) dX3_init_7 ?_
  refine lv_topi (fun f ef => ?_)
  obtain rfl : f = 64 := ef.trans (by decide)
  refine g_newaI (N := 64) hx hb hArrI hK hP hD hS hA (by decide) (by decide) (Nat.le_of_ble_eq_true rfl) (Nat.le_of_ble_eq_true rfl) (Nat.le_of_ble_eq_true rfl) dX3_init_10 (fun q1 H hP hD hS => ?_)
  have hP : va_P D ccl [(h0, .inr (4, [.null, .int 0])), (q1, .inl (cI, 64, .inl (fun _ => 0)))] H := hP
  have hD : va_D A [(h0, .inr (4, [.null, .int 0])), (q1, .inl (cI, 64, .inl (fun _ => 0)))] := hD
  refine va_putF (D := D) (ci := 4) (v := .ref q1) (ty := .array (.int)) (C := RX3) (T := TX3) (N := 2) hx hb hts inX3 tyX3 tyX3_ok nmX3 hown hK hP hD hS 0 rfl rfl 0 (by decide) hfieldLink_RX3_13 (fun _ h9 => h9) rfl (hin rfl) rfl (by decide +kernel) rfl rfl (Nat.le_of_ble_eq_true rfl) dX3_init_12 (fun H locs hP hD hS => ?_)
  have hP : va_P D ccl [(h0, .inr (4, [.ref q1, .int 0])), (q1, .inl (cI, 64, .inl (fun _ => 0)))] H := hP
  have hD : va_D A [(h0, .inr (4, [.ref q1, .int 0])), (q1, .inl (cI, 64, .inl (fun _ => 0)))] := hD
  refine g_vret hx hb hr hlk hP hK hD hS (Nat.le_of_ble_eq_true rfl) (Nat.le_of_ble_eq_true rfl) dX3_init_15 ?_
  exact ⟨_, rfl⟩

set_option maxHeartbeats 4000000 in
set_option maxRecDepth 100000 in
theorem c_X3_add (l : Launch) (D : va_G) (cI cJ cO : ClassId) (df sz : Nat) (h0 : Nat) (b0 : Nat) (n : Nat) (C : Nat) (fk : Nat → Int32) (v : Int32) (hn : 1 ≤ n ∧ n ≤ 64) (hC : C ≤ n) : MetV l yX3_add wsX3_add ({ frames := 1, cells := 0, slots := 0, locals := 60 } : Room) D (gTY cI cJ cO) df [(h0, .inr (4, [.ref b0, .int (nI C)])), (b0, .inl (cI, n, .inl fk))] sz [.ref h0, .int v] (fun (wZ : va_W) => wZ = [(h0, .inr (4, [.ref b0, .int (nI (if C < n then C + 1 else C))])), (b0, .inl (cI, n, .inl (shiftIn n fk v)))]) := by
  refine g_of (cc := cX3_add) (nL := 2) (ret := none) (D := D) (TY := (gTY cI cJ cO)) (df := df) (Qc := fun A => va_Qv (fun (wZ : va_W) => wZ = [(h0, .inr (4, [.ref b0, .int (nI (if C < n then C + 1 else C))])), (b0, .inl (cI, n, .inl (shiftIn n fk v)))]) (gB D (gTY cI cJ cO) A) A) (by decide +kernel) rfl (Nat.le_of_ble_eq_true rfl) ?_
  intro p e s m below meth c ls A hsz C0 hin hl
  obtain ⟨CF, hr, hlk, hA, hS, hP, hK, hD, hV, hH⟩ := C0
  have CF : CallFix p m c cX3_add 2 s _ wsX3_add RX3 := CF
  obtain ⟨hx, hb, hml, hown, hts⟩ := id CF
  subst hsz
  have hfieldLink_RX3_13 : (Cond.fieldLink RX3 13 "TapLoom$Latest" "kept" "[I").before _ s = true := hts _ (List.mem_of_getElem? (i := 1) rfl)
  have hmethodLink_RX3_19 : (Cond.methodLink RX3 19 arraycopyName).before _ s = true := hts _ (List.mem_of_getElem? (i := 2) rfl)
  have hnative_arraycopyName : (Cond.native arraycopyName).before _ s = true := hts _ (List.mem_of_getElem? (i := 3) rfl)
  have hstatic_arraycopyName : (Cond.static arraycopyName).before _ s = true := hts _ (List.mem_of_getElem? (i := 4) rfl)
  have hinitialized_java_lang_System : (Cond.initialized "java/lang/System").before _ s = true := hts _ (List.mem_of_getElem? (i := 5) rfl)
  have hfieldLink_RX3_25 : (Cond.fieldLink RX3 25 "TapLoom$Latest" "count" "I").before _ s = true := hts _ (List.mem_of_getElem? (i := 6) rfl)
  have hmethodLink_RX3_29 : (Cond.methodLink RX3 29 Lib.Math.min.name).before _ s = true := hts _ (List.mem_of_getElem? (i := 7) rfl)
  have hinitialized_java_lang_Math : (Cond.initialized "java/lang/Math").before _ s = true := hts _ (List.mem_of_getElem? (i := 9) rfl)
  have hstatic_Lib_Math_min_name : (Cond.static Lib.Math.min.name).before _ s = true := hts _ (List.mem_of_getElem? (i := 8) rfl)
  have hcode_Lib_Math_min_name : (Cond.code Lib.Math.min.name Lib.Math.min.code 2 (some .int)).before _ s = true := hts _ (List.mem_of_getElem? (i := 10) rfl)
  have inX3 : ∀ w ∈ u_ws RX3 TX3 2, w ∈ wsX3_add := fun w h => (List.mem_cons_of_mem _ (List.mem_append_right _ h))
  have hP : va_P D ccl [(h0, .inr (4, [.ref b0, .int (nI C)])), (b0, .inl (cI, n, .inl fk))] s.heap := hP
  have hl : lv_has ls 2 [(0, .ref h0), (1, .int v)] := hl
  refine lv_aload_n hx hb dX3_add_0 rfl (lv_at hl 0 rfl) ?_
  refine va_get (D := D) (ci := 4) (v := .ref b0) (C := RX3) (T := TX3) (N := 2) hx hb hts inX3 hown hK hP 0 rfl rfl 0 (by decide) hfieldLink_RX3_13 (fun _ h9 => h9) rfl dX3_add_1 ?_
  refine lv_iconst (v := 0) hx hb dX3_add_4 (by decide) ?_
  refine lv_aload_n hx hb dX3_add_5 rfl (lv_at hl 0 rfl) ?_
  refine va_get (D := D) (ci := 4) (v := .ref b0) (C := RX3) (T := TX3) (N := 2) hx hb hts inX3 hown hK hP 0 rfl rfl 0 (by decide) hfieldLink_RX3_13 (fun _ h9 => h9) rfl dX3_add_6 ?_
  refine lv_iconst (v := 1) hx hb dX3_add_9 (by decide) ?_
  refine lv_aload_n hx hb dX3_add_10 rfl (lv_at hl 0 rfl) ?_
  refine va_get (D := D) (ci := 4) (v := .ref b0) (C := RX3) (T := TX3) (N := 2) hx hb hts inX3 hown hK hP 0 rfl rfl 0 (by decide) hfieldLink_RX3_13 (fun _ h9 => h9) rfl dX3_add_11 ?_
  refine va_alen (v := nI n) hx hb hK hP 1 0 rfl rfl rfl dX3_add_14 ?_
  refine lv_iconst (v := 1) hx hb dX3_add_15 (by decide) ?_
  refine lv_isub hx hb dX3_add_16 ?_
  refine lv_topi (fun f ef => ?_)
  obtain rfl : f = nI (n - 1) := ef.trans (pk_sub (a := n) (b := 1) (by omega))
  refine va_copyi hx hb (by rw [hml]; exact hl.1.symm) hown hmethodLink_RX3_19 hnative_arraycopyName hstatic_arraycopyName hinitialized_java_lang_System hK hP hD hS 1 1 0 0 rfl rfl rfl rfl rfl (by decide) (by decide) (nI_pos (by omega)) (by rw [nI_clamp (n := n - 1) (by omega)]; show 0 + (n - 1) ≤ n; omega) (by rw [nI_clamp (n := n - 1) (by omega)]; show 1 + (n - 1) ≤ n; omega) (fun i hi => rfl) (Nat.le_of_ble_eq_true rfl) (Nat.le_of_ble_eq_true rfl) dX3_add_17 (fun H locs hP hD hS => ?_)
  rw [show va_cpy fk fk ((0 : Int32).toNatClampNeg) ((1 : Int32).toNatClampNeg) ((nI (n - 1)).toNatClampNeg) = va_cpy fk fk 0 1 (n - 1) from by rw [nI_clamp (n := n - 1) (by omega)]; rfl] at hP hD
  have hP : va_P D ccl [(h0, .inr (4, [.ref b0, .int (nI C)])), (b0, .inl (cI, n, .inl (va_cpy fk fk 0 1 (n - 1))))] H := hP
  have hD : va_D A [(h0, .inr (4, [.ref b0, .int (nI C)])), (b0, .inl (cI, n, .inl (va_cpy fk fk 0 1 (n - 1))))] := hD
  refine lv_aload_n hx hb dX3_add_20 rfl (lv_at hl 0 rfl) ?_
  refine va_get (D := D) (ci := 4) (v := .ref b0) (C := RX3) (T := TX3) (N := 2) hx hb hts inX3 hown hK hP 0 rfl rfl 0 (by decide) hfieldLink_RX3_13 (fun _ h9 => h9) rfl dX3_add_21 ?_
  refine lv_iconst (v := 0) hx hb dX3_add_24 (by decide) ?_
  refine lv_iload_n hx hb dX3_add_25 rfl (lv_at hl 1 rfl) ?_
  refine va_iast hx hb hK hP hD hS 1 0 rfl rfl (vp_in_nI (n := 0) (by omega) (by omega)) dX3_add_26 (fun H locs hP hD hS => ?_)
  rw [show ((0 : Int32)).toNatClampNeg = 0 from (by decide)] at hP hD
  rw [show upd (va_cpy fk fk 0 1 (n - 1)) 0 v = shiftIn n fk v from cpy_shift hn.1] at hP hD
  have hP : va_P D ccl [(h0, .inr (4, [.ref b0, .int (nI C)])), (b0, .inl (cI, n, .inl (shiftIn n fk v)))] H := hP
  have hD : va_D A [(h0, .inr (4, [.ref b0, .int (nI C)])), (b0, .inl (cI, n, .inl (shiftIn n fk v)))] := hD
  refine lv_aload_n hx hb dX3_add_27 rfl (lv_at hl 0 rfl) ?_
  refine lv_aload_n hx hb dX3_add_28 rfl (lv_at hl 0 rfl) ?_
  refine va_get (D := D) (ci := 4) (v := .int (nI C)) (C := RX3) (T := TX3) (N := 2) hx hb hts inX3 hown hK hP 0 rfl rfl 1 (by decide) hfieldLink_RX3_25 (fun _ h9 => h9) rfl dX3_add_29 ?_
  refine lv_iconst (v := 1) hx hb dX3_add_32 (by decide) ?_
  refine lv_iadd hx hb dX3_add_33 ?_
  refine lv_topi (fun f ef => ?_)
  obtain rfl : f = nI (C + 1) := ef.trans (nI_add _ _)
  refine lv_aload_n hx hb dX3_add_34 rfl (lv_at hl 0 rfl) ?_
  refine va_get (D := D) (ci := 4) (v := .ref b0) (C := RX3) (T := TX3) (N := 2) hx hb hts inX3 hown hK hP 0 rfl rfl 0 (by decide) hfieldLink_RX3_13 (fun _ h9 => h9) rfl dX3_add_35 ?_
  refine va_alen (v := nI n) hx hb hK hP 1 0 rfl rfl rfl dX3_add_38 ?_
  refine va_mmin hx hb (by rw [hml]; exact hl.1.symm) hown hmethodLink_RX3_29 hstatic_Lib_Math_min_name hinitialized_java_lang_Math hcode_Lib_Math_min_name (Nat.le_of_ble_eq_true rfl) (Nat.le_of_ble_eq_true rfl) (Nat.le_of_ble_eq_true rfl) (Nat.le_of_ble_eq_true rfl) dX3_add_39 ?_
  refine lv_topi (fun f ef => ?_)
  obtain rfl : f = nI (if C < n then C + 1 else C) := ef.trans (by rw [g_minL hC (by omega)])
  refine va_put (D := D) (ci := 4) (v := .int (nI (if C < n then C + 1 else C))) (ty := .int) (C := RX3) (T := TX3) (N := 2) hx hb hts inX3 tyX3 tyX3_ok nmX3 hown hK hP hD hS 0 rfl rfl 1 (by decide) hfieldLink_RX3_25 (fun _ h9 => h9) rfl (by decide +kernel) rfl rfl (Nat.le_of_ble_eq_true rfl) dX3_add_42 (fun H locs hP hD hS => ?_)
  have hP : va_P D ccl [(h0, .inr (4, [.ref b0, .int (nI (if C < n then C + 1 else C))])), (b0, .inl (cI, n, .inl (shiftIn n fk v)))] H := hP
  have hD : va_D A [(h0, .inr (4, [.ref b0, .int (nI (if C < n then C + 1 else C))])), (b0, .inl (cI, n, .inl (shiftIn n fk v)))] := hD
  refine g_vret hx hb hr hlk hP hK hD hS (Nat.le_of_ble_eq_true rfl) (Nat.le_of_ble_eq_true rfl) dX3_add_45 ?_
  exact rfl

set_option maxHeartbeats 4000000 in
set_option maxRecDepth 100000 in
theorem c_X3_at (l : Launch) (D : va_G) (cI cJ cO : ClassId) (df sz : Nat) (h0 : Nat) (b0 : Nat) (n : Nat) (C : Nat) (fk : Nat → Int32) (b : Nat) (hn : 1 ≤ n ∧ n ≤ 64) (hC : C ≤ n) (hb9 : b < 2147483648) : MetI l yX3_at wsX3_at ({ frames := 0, cells := 0, slots := 0, locals := 0 } : Room) D (gTY cI cJ cO) df [(h0, .inr (4, [.ref b0, .int (nI C)])), (b0, .inl (cI, n, .inl fk))] sz [.ref h0, .int (nI b)] (fun (r : Int32) (wZ : va_W) => wZ = [(h0, .inr (4, [.ref b0, .int (nI C)])), (b0, .inl (cI, n, .inl fk))] ∧ r = if b < C then fk b else 0) := by
  refine g_of (cc := cX3_at) (nL := 2) (ret := (some .int)) (D := D) (TY := (gTY cI cJ cO)) (df := df) (Qc := fun A => va_Qi (fun (r : Int32) (wZ : va_W) => wZ = [(h0, .inr (4, [.ref b0, .int (nI C)])), (b0, .inl (cI, n, .inl fk))] ∧ r = if b < C then fk b else 0) (gB D (gTY cI cJ cO) A) A) (by decide +kernel) rfl (Nat.le_of_ble_eq_true rfl) ?_
  intro p e s m below meth c ls A hsz C0 hin hl
  obtain ⟨CF, hr, hlk, hA, hS, hP, hK, hD, hV, hH⟩ := C0
  have CF : CallFix p m c cX3_at 2 s _ wsX3_at RX3 := CF
  obtain ⟨hx, hb, hml, hown, hts⟩ := id CF
  subst hsz
  have hfieldLink_RX3_25 : (Cond.fieldLink RX3 25 "TapLoom$Latest" "count" "I").before _ s = true := hts _ (List.mem_of_getElem? (i := 1) rfl)
  have hfieldLink_RX3_13 : (Cond.fieldLink RX3 13 "TapLoom$Latest" "kept" "[I").before _ s = true := hts _ (List.mem_of_getElem? (i := 2) rfl)
  have inX3 : ∀ w ∈ u_ws RX3 TX3 2, w ∈ wsX3_at := fun w h => (List.mem_cons_of_mem _ (List.mem_append_right _ h))
  have hP : va_P D ccl [(h0, .inr (4, [.ref b0, .int (nI C)])), (b0, .inl (cI, n, .inl fk))] s.heap := hP
  have hl : lv_has ls 2 [(0, .ref h0), (1, .int (nI b))] := hl
  refine lv_iload_n hx hb dX3_at_0 rfl (lv_at hl 1 rfl) ?_
  refine lv_if_lt (tgt := 30) hx hb dX3_at_1 (by decide) (fun c_1 => ?_) (fun c_1 => ?_)
  · have c_1 : b < 0 := g_lt (a := b) (b := 0) c_1 (by omega) (by omega)
    omega
  · have c_1 : 0 ≤ b := g_nlt (a := b) (b := 0) c_1 (by omega) (by omega)
    refine lv_iload_n hx hb dX3_at_4 rfl (lv_at hl 1 rfl) ?_
    refine lv_aload_n hx hb dX3_at_5 rfl (lv_at hl 0 rfl) ?_
    refine va_get (D := D) (ci := 4) (v := .int (nI C)) (C := RX3) (T := TX3) (N := 2) hx hb hts inX3 hown hK hP 0 rfl rfl 1 (by decide) hfieldLink_RX3_25 (fun _ h9 => h9) rfl dX3_at_6 ?_
    refine lv_icmp_ge (tgt := 30) hx hb dX3_at_9 (by decide) (fun c_9 => ?_) (fun c_9 => ?_)
    · have c_9 : C ≤ b := g_le (a := C) (b := b) c_9 (by omega) (by omega)
      refine lv_iconst (v := 0) hx hb dX3_at_30 (by decide) ?_
      refine g_iret (v := 0) hx hb hr hlk hP hK hD hS (Nat.le_of_ble_eq_true rfl) (Nat.le_of_ble_eq_true rfl) dX3_at_31 ?_
      exact ⟨rfl, (if_neg (by omega)).symm⟩
    · have c_9 : b < C := g_nle (a := C) (b := b) c_9 (by omega) (by omega)
      refine lv_iload_n hx hb dX3_at_12 rfl (lv_at hl 1 rfl) ?_
      refine lv_aload_n hx hb dX3_at_13 rfl (lv_at hl 0 rfl) ?_
      refine va_get (D := D) (ci := 4) (v := .ref b0) (C := RX3) (T := TX3) (N := 2) hx hb hts inX3 hown hK hP 0 rfl rfl 0 (by decide) hfieldLink_RX3_13 (fun _ h9 => h9) rfl dX3_at_14 ?_
      refine va_alen (v := nI n) hx hb hK hP 1 0 rfl rfl rfl dX3_at_17 ?_
      refine lv_icmp_ge (tgt := 30) hx hb dX3_at_18 (by decide) (fun c_18 => ?_) (fun c_18 => ?_)
      · have c_18 : n ≤ b := g_le (a := n) (b := b) c_18 (by omega) (by omega)
        omega
      · have c_18 : b < n := g_nle (a := n) (b := b) c_18 (by omega) (by omega)
        refine lv_aload_n hx hb dX3_at_21 rfl (lv_at hl 0 rfl) ?_
        refine va_get (D := D) (ci := 4) (v := .ref b0) (C := RX3) (T := TX3) (N := 2) hx hb hts inX3 hown hK hP 0 rfl rfl 0 (by decide) hfieldLink_RX3_13 (fun _ h9 => h9) rfl dX3_at_22 ?_
        refine lv_iload_n hx hb dX3_at_25 rfl (lv_at hl 1 rfl) ?_
        refine va_iald hx hb hK hP 1 0 rfl rfl (vp_in_nI (by omega) (by omega)) dX3_at_26 ?_
        refine lv_topi (fun f ef => ?_)
        obtain rfl : f = fk b := ef.trans (congrArg fk (nI_clamp (n := b) (by omega)))
        refine lv_goto (tgt := 31) hx hb dX3_at_27 (by decide) ?_
        refine g_iret (v := fk b) hx hb hr hlk hP hK hD hS (Nat.le_of_ble_eq_true rfl) (Nat.le_of_ble_eq_true rfl) dX3_at_31 ?_
        exact ⟨rfl, (if_pos (by omega)).symm⟩

set_option maxHeartbeats 4000000 in
set_option maxRecDepth 100000 in
theorem c_X3_count (l : Launch) (D : va_G) (cI cJ cO : ClassId) (df sz : Nat) (h0 : Nat) (b0 : Nat) (n : Nat) (C : Nat) (fk : Nat → Int32)  : MetI l yX3_count wsX3_count ({ frames := 0, cells := 0, slots := 0, locals := 0 } : Room) D (gTY cI cJ cO) df [(h0, .inr (4, [.ref b0, .int (nI C)])), (b0, .inl (cI, n, .inl fk))] sz [.ref h0] (fun (r : Int32) (wZ : va_W) => wZ = [(h0, .inr (4, [.ref b0, .int (nI C)])), (b0, .inl (cI, n, .inl fk))] ∧ r = nI C) := by
  refine g_of (cc := cX3_count) (nL := 1) (ret := (some .int)) (D := D) (TY := (gTY cI cJ cO)) (df := df) (Qc := fun A => va_Qi (fun (r : Int32) (wZ : va_W) => wZ = [(h0, .inr (4, [.ref b0, .int (nI C)])), (b0, .inl (cI, n, .inl fk))] ∧ r = nI C) (gB D (gTY cI cJ cO) A) A) (by decide +kernel) rfl (Nat.le_of_ble_eq_true rfl) ?_
  intro p e s m below meth c ls A hsz C0 hin hl
  obtain ⟨CF, hr, hlk, hA, hS, hP, hK, hD, hV, hH⟩ := C0
  have CF : CallFix p m c cX3_count 1 s _ wsX3_count RX3 := CF
  obtain ⟨hx, hb, hml, hown, hts⟩ := id CF
  subst hsz
  have hfieldLink_RX3_25 : (Cond.fieldLink RX3 25 "TapLoom$Latest" "count" "I").before _ s = true := hts _ (List.mem_of_getElem? (i := 1) rfl)
  have inX3 : ∀ w ∈ u_ws RX3 TX3 2, w ∈ wsX3_count := fun w h => (List.mem_cons_of_mem _ (List.mem_append_right _ h))
  have hP : va_P D ccl [(h0, .inr (4, [.ref b0, .int (nI C)])), (b0, .inl (cI, n, .inl fk))] s.heap := hP
  have hl : lv_has ls 1 [(0, .ref h0)] := hl
  refine lv_aload_n hx hb dX3_count_0 rfl (lv_at hl 0 rfl) ?_
  refine va_get (D := D) (ci := 4) (v := .int (nI C)) (C := RX3) (T := TX3) (N := 2) hx hb hts inX3 hown hK hP 0 rfl rfl 1 (by decide) hfieldLink_RX3_25 (fun _ h9 => h9) rfl dX3_count_1 ?_
  refine g_iret (v := nI C) hx hb hr hlk hP hK hD hS (Nat.le_of_ble_eq_true rfl) (Nat.le_of_ble_eq_true rfl) dX3_count_4 ?_
  exact ⟨rfl, rfl⟩

set_option maxHeartbeats 4000000 in
set_option maxRecDepth 100000 in
theorem c_X3_forget (l : Launch) (D : va_G) (cI cJ cO : ClassId) (df sz : Nat) (h0 : Nat) (b0 : Nat) (n : Nat) (C : Nat) (fk : Nat → Int32)  : MetV l yX3_forget wsX3_forget ({ frames := 0, cells := 0, slots := 0, locals := 0 } : Room) D (gTY cI cJ cO) df [(h0, .inr (4, [.ref b0, .int (nI C)])), (b0, .inl (cI, n, .inl fk))] sz [.ref h0] (fun (wZ : va_W) => wZ = [(h0, .inr (4, [.ref b0, .int (nI 0)])), (b0, .inl (cI, n, .inl fk))]) := by
  refine g_of (cc := cX3_forget) (nL := 1) (ret := none) (D := D) (TY := (gTY cI cJ cO)) (df := df) (Qc := fun A => va_Qv (fun (wZ : va_W) => wZ = [(h0, .inr (4, [.ref b0, .int (nI 0)])), (b0, .inl (cI, n, .inl fk))]) (gB D (gTY cI cJ cO) A) A) (by decide +kernel) rfl (Nat.le_of_ble_eq_true rfl) ?_
  intro p e s m below meth c ls A hsz C0 hin hl
  obtain ⟨CF, hr, hlk, hA, hS, hP, hK, hD, hV, hH⟩ := C0
  have CF : CallFix p m c cX3_forget 1 s _ wsX3_forget RX3 := CF
  obtain ⟨hx, hb, hml, hown, hts⟩ := id CF
  subst hsz
  have hfieldLink_RX3_25 : (Cond.fieldLink RX3 25 "TapLoom$Latest" "count" "I").before _ s = true := hts _ (List.mem_of_getElem? (i := 1) rfl)
  have inX3 : ∀ w ∈ u_ws RX3 TX3 2, w ∈ wsX3_forget := fun w h => (List.mem_cons_of_mem _ (List.mem_append_right _ h))
  have hP : va_P D ccl [(h0, .inr (4, [.ref b0, .int (nI C)])), (b0, .inl (cI, n, .inl fk))] s.heap := hP
  have hl : lv_has ls 1 [(0, .ref h0)] := hl
  refine lv_aload_n hx hb dX3_forget_0 rfl (lv_at hl 0 rfl) ?_
  refine lv_iconst (v := 0) hx hb dX3_forget_1 (by decide) ?_
  refine va_put (D := D) (ci := 4) (v := .int 0) (ty := .int) (C := RX3) (T := TX3) (N := 2) hx hb hts inX3 tyX3 tyX3_ok nmX3 hown hK hP hD hS 0 rfl rfl 1 (by decide) hfieldLink_RX3_25 (fun _ h9 => h9) rfl (by decide +kernel) rfl rfl (Nat.le_of_ble_eq_true rfl) dX3_forget_2 (fun H locs hP hD hS => ?_)
  have hP : va_P D ccl [(h0, .inr (4, [.ref b0, .int 0])), (b0, .inl (cI, n, .inl fk))] H := hP
  have hD : va_D A [(h0, .inr (4, [.ref b0, .int 0])), (b0, .inl (cI, n, .inl fk))] := hD
  refine g_vret hx hb hr hlk hP hK hD hS (Nat.le_of_ble_eq_true rfl) (Nat.le_of_ble_eq_true rfl) dX3_forget_5 ?_
  exact rfl
