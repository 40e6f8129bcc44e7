set_option maxHeartbeats 4000000 in
set_option maxRecDepth 100000 in
theorem c_X7_next (l : Launch) (D : va_G) (cI cJ cO : ClassId) (df sz : Nat) (M : Nat → Nat) (mc : Nat → Int32) (ms : Nat → Int32) (mw : Nat → Int32) (mn : Int32) (mo : Nat → Int32) (mh : Int32) (mu : Nat → Int32) (mk : Int32) (mt : Nat → Int32) (mq : Nat → Int32) (mp : Nat → Int32) (my : Int32) (mf : Nat → Int32) (ma : Nat → Int32) (cy : Int32) (lo : Int32) (gr : Int32) (ov : Int64) (un : Int64) (la : Int32) (J : Nat) (q : Nat) (hJ : J < 8) (hq9 : q < 40401) : MetI l yX7_next wsX7_next ({ frames := 2, cells := 0, slots := 0, locals := 44 } : Room) D (gTY cI cJ cO) df (mW cI M mc ms mw mn mo mh mu mk mt mq mp my mf ma cy lo gr ov un la) sz [.ref (M 0), .int (nI J), .int (nI q)] (fun (r : Int32) (wZ : va_W) => wZ = mW cI M mc ms mw mn mo mh mu mk mt mq mp my mf ma cy lo gr ov un la ∧ r = oI (nxO mc mw J q)) := by
  refine g_of (cc := cX7_next) (nL := 6) (ret := (some .int)) (D := D) (TY := (gTY cI cJ cO)) (df := df) (Qc := fun A => va_Qi (fun (r : Int32) (wZ : va_W) => wZ = mW cI M mc ms mw mn mo mh mu mk mt mq mp my mf ma cy lo gr ov un la ∧ r = oI (nxO mc mw J q)) (gB D (gTY cI cJ cO) A) A) (by decide +kernel) rfl (Nat.le_of_ble_eq_true rfl) ?_
  intro p e s m below meth c ls A hsz C0 hin hl
  obtain ⟨CF, hr, hlk, hA, hS, hP, hK, hD, hV, hH⟩ := C0
  have CF : CallFix p m c cX7_next 6 s _ wsX7_next RX7 := CF
  obtain ⟨hx, hb, hml, hown, hts⟩ := id CF
  subst hsz
  have hfieldLink_RX7_7 : (Cond.fieldLink RX7 7 "TapLoomModel" "coefficients" "[I").before _ s = true := hts _ (List.mem_of_getElem? (i := 1) rfl)
  have hfieldLink_RX7_16 : (Cond.fieldLink RX7 16 "TapLoomModel" "ways" "[I").before _ s = true := hts _ (List.mem_of_getElem? (i := 2) rfl)
  have hmethodLink_RX7_78 : (Cond.methodLink RX7 78 yX7_rounded).before _ s = true := hts _ (List.mem_of_getElem? (i := 3) rfl)
  have hmethodLink_RX7_48 : (Cond.methodLink RX7 48 yX7_in).before _ s = true := hts _ (List.mem_of_getElem? (i := 11) rfl)
  have inX7 : ∀ w ∈ u_ws RX7 TX7 20, w ∈ wsX7_next := fun w h => (List.mem_cons_of_mem _ (List.mem_append_right _ h))
  have hP : va_P D ccl (mW cI M mc ms mw mn mo mh mu mk mt mq mp my mf ma cy lo gr ov un la) s.heap := hP
  have hl : lv_has ls 6 [(0, .ref (M 0)), (1, .int (nI J)), (2, .int (nI q))] := hl
  refine lv_iload_n hx hb dX7_next_0 rfl (lv_at hl 2 rfl) ?_
  refine lv_sipush (v := 201) hx hb dX7_next_1 (by decide) ?_
  refine lv_idiv hx hb dX7_next_4 (by decide) ?_
  refine lv_topi (fun f ef => ?_)
  obtain rfl : f = nI (q / 201) := ef.trans (pk_div (a := q) (d := 201) (by omega) (by omega) (by omega))
  refine lv_bipush (v := 100) hx hb dX7_next_5 (by decide) ?_
  refine lv_isub hx hb dX7_next_7 ?_
  refine lv_istore_n (lv' := [(3, .int ((nI (q / 201)) - 100)), (0, .ref (M 0)), (1, .int (nI J)), (2, .int (nI q))]) hx hb dX7_next_8 rfl hl (by decide) rfl (fun ls hl => ?_)
  refine lv_iload_n hx hb dX7_next_9 rfl (lv_at hl 3 rfl) ?_
  refine lv_sipush (v := 201) hx hb dX7_next_10 (by decide) ?_
  refine lv_irem hx hb dX7_next_13 (by decide) ?_
  refine lv_topi (fun f ef => ?_)
  obtain rfl : f = nI (q % 201) := ef.trans (pk_rem (a := q) (d := 201) (by omega) (by omega) (by omega))
  refine lv_bipush (v := 100) hx hb dX7_next_14 (by decide) ?_
  refine lv_isub hx hb dX7_next_16 ?_
  refine lv_istore (lv' := [(4, .int ((nI (q % 201)) - 100)), (3, .int ((nI (q / 201)) - 100)), (0, .ref (M 0)), (1, .int (nI J)), (2, .int (nI q))]) hx hb dX7_next_17 hl (by decide) rfl (fun ls hl => ?_)
  refine lv_aload_n hx hb dX7_next_19 rfl (lv_at hl 2 rfl) ?_
  refine lv_aload_n hx hb dX7_next_20 rfl (lv_at hl 2 rfl) ?_
  refine va_get (D := D) (ci := 8) (v := .ref (M 1)) (C := RX7) (T := TX7) (N := 20) hx hb hts inX7 hown hK hP 0 rfl rfl 0 (by decide) hfieldLink_RX7_7 (fun _ h9 => h9) rfl dX7_next_21 ?_
  refine lv_iconst (v := 5) hx hb dX7_next_24 (by decide) ?_
  refine lv_iload_n hx hb dX7_next_25 rfl (lv_at hl 3 rfl) ?_
  refine lv_imul hx hb dX7_next_26 ?_
  refine lv_topi (fun f ef => ?_)
  obtain rfl : f = nI (5 * J) := ef.trans (pk_mul _ _)
  refine lv_iconst (v := 3) hx hb dX7_next_27 (by decide) ?_
  refine lv_iadd hx hb dX7_next_28 ?_
  refine lv_topi (fun f ef => ?_)
  obtain rfl : f = nI ((5 * J) + 3) := ef.trans (nI_add _ _)
  refine va_iald hx hb hK hP 1 0 rfl rfl (vp_in_nI (by omega) (by omega)) dX7_next_29 ?_
  refine lv_topi (fun f ef => ?_)
  obtain rfl : f = mc ((5 * J) + 3) := ef.trans (congrArg mc (nI_clamp (n := (5 * J) + 3) (by omega)))
  refine lv_ineg hx hb dX7_next_30 ?_
  refine lv_iload_n hx hb dX7_next_31 rfl (lv_at hl 1 rfl) ?_
  refine lv_imul hx hb dX7_next_32 ?_
  refine lv_aload_n hx hb dX7_next_33 rfl (lv_at hl 2 rfl) ?_
  refine va_get (D := D) (ci := 8) (v := .ref (M 1)) (C := RX7) (T := TX7) (N := 20) hx hb hts inX7 hown hK hP 0 rfl rfl 0 (by decide) hfieldLink_RX7_7 (fun _ h9 => h9) rfl dX7_next_34 ?_
  refine lv_iconst (v := 5) hx hb dX7_next_37 (by decide) ?_
  refine lv_iload_n hx hb dX7_next_38 rfl (lv_at hl 3 rfl) ?_
  refine lv_imul hx hb dX7_next_39 ?_
  refine lv_topi (fun f ef => ?_)
  obtain rfl : f = nI (5 * J) := ef.trans (pk_mul _ _)
  refine lv_iconst (v := 4) hx hb dX7_next_40 (by decide) ?_
  refine lv_iadd hx hb dX7_next_41 ?_
  refine lv_topi (fun f ef => ?_)
  obtain rfl : f = nI ((5 * J) + 4) := ef.trans (nI_add _ _)
  refine va_iald hx hb hK hP 1 0 rfl rfl (vp_in_nI (by omega) (by omega)) dX7_next_42 ?_
  refine lv_topi (fun f ef => ?_)
  obtain rfl : f = mc ((5 * J) + 4) := ef.trans (congrArg mc (nI_clamp (n := (5 * J) + 4) (by omega)))
  refine lv_iload hx hb dX7_next_43 (lv_at hl 0 rfl) ?_
  refine lv_imul hx hb dX7_next_45 ?_
  refine lv_isub hx hb dX7_next_46 ?_
  refine lv_aload_n hx hb dX7_next_47 rfl (lv_at hl 2 rfl) ?_
  refine va_get (D := D) (ci := 8) (v := .ref (M 3)) (C := RX7) (T := TX7) (N := 20) hx hb hts inX7 hown hK hP 0 rfl rfl 2 (by decide) hfieldLink_RX7_16 (fun _ h9 => h9) rfl dX7_next_48 ?_
  refine lv_iload_n hx hb dX7_next_51 rfl (lv_at hl 3 rfl) ?_
  refine va_iald hx hb hK hP 3 0 rfl rfl (vp_in_nI (by omega) (by omega)) dX7_next_52 ?_
  refine lv_topi (fun f ef => ?_)
  obtain rfl : f = mw J := ef.trans (congrArg mw (nI_clamp (n := J) (by omega)))
  have hPc : va_P D ccl [] s.heap := fun k q h => by simp at h
  have hDc : va_D A [] := ⟨fun i j p q h => by simp at h, fun k q h => by simp at h⟩
  have hFc := va_free (wc := []) hD hS hA [] rfl
  refine g_Vi (As := [.int (((-(mc ((5 * J) + 3))) * ((nI (q / 201)) - 100)) - ((mc ((5 * J) + 4)) * ((nI (q % 201)) - 100))), .int (mw J)]) (rest := []) CF (c_X7_rounded l D cI cJ cO df s.heap.size (M 0) (((-(mc ((5 * J) + 3))) * ((nI (q / 201)) - 100)) - ((mc ((5 * J) + 4)) * ((nI (q % 201)) - 100))) (mw J) ) (cwV 2 hts gX7_next_X7_rounded rfl rfl rfl (by decide +kernel) ⟨Nat.le_of_ble_eq_true rfl, Nat.le_of_ble_eq_true rfl⟩) (va_recv hK hP (ci := 8) (q0 := 0) rfl rfl) hPc hK hDc hV hH hS hFc rfl hl.1 rfl (Nat.le_of_ble_eq_true rfl) dX7_next_53 ⟨Nat.le_of_ble_eq_true rfl, Nat.le_of_ble_eq_true rfl⟩ (fun r_53 w1 H1 locs1 hq hP1 hD1 hk hS hz => ?_)
  obtain ⟨rfl, hr_53⟩ := hq
  have hP := g_keep0 hP hk
  clear hPc hDc hFc hP1 hD1 hk hz
  generalize H1 = H at hP hS ⊢
  have hP : va_P D ccl (mW cI M mc ms mw mn mo mh mu mk mt mq mp my mf ma cy lo gr ov un la) H := hP
  have hD : va_D A (mW cI M mc ms mw mn mo mh mu mk mt mq mp my mf ma cy lo gr ov un la) := hD
  subst hr_53
  refine lv_topi (fun f ef => ?_)
  obtain rfl : f = nyI mc mw J q := ef.trans (rfl)
  refine lv_istore (lv' := [(5, .int (nyI mc mw J q)), (4, .int ((nI (q % 201)) - 100)), (3, .int ((nI (q / 201)) - 100)), (0, .ref (M 0)), (1, .int (nI J)), (2, .int (nI q))]) hx hb dX7_next_56 hl (by decide) rfl (fun ls hl => ?_)
  refine lv_iload hx hb dX7_next_58 (lv_at hl 0 rfl) ?_
  refine lv_bipush (v := (-100)) hx hb dX7_next_60 (by decide) ?_
  refine lv_bipush (v := 100) hx hb dX7_next_62 (by decide) ?_
  have hPc : va_P D ccl [] H := fun k q h => by simp at h
  have hDc : va_D A [] := ⟨fun i j p q h => by simp at h, fun k q h => by simp at h⟩
  have hFc := va_free (wc := []) hD hS hA [] rfl
  refine g_Si (As := [.int (nyI mc mw J q), .int (-100), .int 100]) (rest := []) CF (c_X7_in l D cI cJ cO df H.size (nyI mc mw J q) (-100) 100 ) (va_cwS 3 hts gX7_next_X7_in rfl rfl rfl (by decide +kernel) ⟨Nat.le_of_ble_eq_true rfl, Nat.le_of_ble_eq_true rfl⟩)  hPc hK hDc hV hH hS hFc rfl hl.1 rfl (Nat.le_of_ble_eq_true rfl) dX7_next_64 ⟨Nat.le_of_ble_eq_true rfl, Nat.le_of_ble_eq_true rfl⟩ (fun r_64 w1 H1 locs1 hq hP1 hD1 hk hS hz => ?_)
  obtain ⟨rfl, hr_64⟩ := hq
  have hP := g_keep0 hP hk
  clear hPc hDc hFc hP1 hD1 hk hz
  generalize H1 = H at hP hS ⊢
  have hP : va_P D ccl (mW cI M mc ms mw mn mo mh mu mk mt mq mp my mf ma cy lo gr ov un la) H := hP
  have hD : va_D A (mW cI M mc ms mw mn mo mh mu mk mt mq mp my mf ma cy lo gr ov un la) := hD
  subst hr_64
  refine lv_if_eq (tgt := 87) hx hb dX7_next_67 (by decide) (fun c_67 => ?_) (fun c_67 => ?_)
  · refine lv_iconst (v := (-1)) hx hb dX7_next_87 (by decide) ?_
    refine g_iret (v := (-1)) hx hb hr hlk hP hK hD hS (Nat.le_of_ble_eq_true rfl) (Nat.le_of_ble_eq_true rfl) dX7_next_88 ?_
    exact ⟨rfl, by unfold nxO; rw [if_pos c_67]; rfl⟩
  · obtain ⟨z, hz8, ez⟩ := isIn_100 c_67
    refine lv_sipush (v := 201) hx hb dX7_next_70 (by decide) ?_
    refine lv_iload hx hb dX7_next_73 (lv_at hl 0 rfl) ?_
    refine lv_bipush (v := 100) hx hb dX7_next_75 (by decide) ?_
    refine lv_iadd hx hb dX7_next_77 ?_
    refine lv_topi (fun f ef => ?_)
    obtain rfl : f = nI z := ef.trans (ez)
    refine lv_imul hx hb dX7_next_78 ?_
    refine lv_topi (fun f ef => ?_)
    obtain rfl : f = nI (201 * z) := ef.trans (pk_mul _ _)
    refine lv_iload_n hx hb dX7_next_79 rfl (lv_at hl 2 rfl) ?_
    refine lv_iadd hx hb dX7_next_80 ?_
    refine lv_bipush (v := 100) hx hb dX7_next_81 (by decide) ?_
    refine lv_iadd hx hb dX7_next_83 ?_
    refine lv_topi (fun f ef => ?_)
    obtain rfl : f = nI (201 * z + q / 201) := ef.trans (by rw [Int32.add_assoc, Int32.sub_add_cancel, nI_add])
    refine lv_goto (tgt := 88) hx hb dX7_next_84 (by decide) ?_
    refine g_iret (v := nI (201 * z + q / 201)) hx hb hr hlk hP hK hD hS (Nat.le_of_ble_eq_true rfl) (Nat.le_of_ble_eq_true rfl) dX7_next_88 ?_
    exact ⟨rfl, by unfold nxO; rw [if_neg c_67, ez, gN_nI (by omega)]; rfl⟩

set_option maxHeartbeats 4000000 in
set_option maxRecDepth 100000 in
theorem c_X7_walks (l : Launch) (D : va_G) (cI cJ cO : ClassId) (df sz : Nat) (M : Nat → Nat) (mc : Nat → Int32) (ms : Nat → Int32) (mw : Nat → Int32) (mn : Int32) (mo : Nat → Int32) (mh : Int32) (mu : Nat → Int32) (mk : Int32) (mt : Nat → Int32) (mq : Nat → Int32) (mp : Nat → Int32) (my : Int32) (mf : Nat → Int32) (ma : Nat → Int32) (ov : Int64) (un : Int64) (la : Int32) (kc : Nat) (kl : Nat) (kg : Nat) (J : Nat) (st : Nat) (hJ : J < 8) (hst : st < 40401) (hF : fOK mf kc) (hkc : kc < 10000) (hkl : kl ≤ 40401) (hkg : kg ≤ 200) : MetV l yX7_walks wsX7_walks ({ frames := 3, cells := 0, slots := 0, locals := 69 } : Room) D (gTY cI cJ cO) df (mW cI M mc ms mw mn mo mh mu mk mt mq mp my mf ma (nI kc) (nI kl) (nI kg) ov un la) sz [.ref (M 0), .int (nI J), .int (nI st)] (fun (wZ : va_W) => ∃ (f1 : Nat → Int32), ∃ (p1 : Nat → Int32), ∃ (c1 : Nat), ∃ (l1 : Nat), ∃ (g1 : Nat), wZ = mW cI M mc ms mw mn mo mh mu mk mt mq mp my f1 p1 (nI c1) (nI l1) (nI g1) ov un la ∧ wrel (nxO mc mw J) st (kA mf) kc kl kg (kA f1) c1 l1 g1 ∧ fOK f1 c1 ∧ c1 ≤ kc + 1 ∧ l1 ≤ 40401 ∧ g1 ≤ 200) := by
  refine g_of (cc := cX7_walks) (nL := 9) (ret := none) (D := D) (TY := (gTY cI cJ cO)) (df := df) (Qc := fun A => va_Qv (fun (wZ : va_W) => ∃ (f1 : Nat → Int32), ∃ (p1 : Nat → Int32), ∃ (c1 : Nat), ∃ (l1 : Nat), ∃ (g1 : Nat), wZ = mW cI M mc ms mw mn mo mh mu mk mt mq mp my f1 p1 (nI c1) (nI l1) (nI g1) ov un la ∧ wrel (nxO mc mw J) st (kA mf) kc kl kg (kA f1) c1 l1 g1 ∧ fOK f1 c1 ∧ c1 ≤ kc + 1 ∧ l1 ≤ 40401 ∧ g1 ≤ 200) (gB D (gTY cI cJ cO) A) A) (by decide +kernel) rfl (Nat.le_of_ble_eq_true rfl) ?_
  intro p e s m below meth c ls A hsz C0 hin hl
  obtain ⟨CF, hr, hlk, hA, hS, hP, hK, hD, hV, hH⟩ := C0
  have CF : CallFix p m c cX7_walks 9 s _ wsX7_walks RX7 := CF
  obtain ⟨hx, hb, hml, hown, hts⟩ := id CF
  subst hsz
  have hconstant_RX7_34 : (Cond.constant RX7 34 (40401)).before _ s = true := hts _ (List.mem_of_getElem? (i := 2) rfl)
  have hfieldLink_RX7_35 : (Cond.fieldLink RX7 35 "TapLoomModel" "fates" "[I").before _ s = true := hts _ (List.mem_of_getElem? (i := 1) rfl)
  have hfieldLink_RX7_38 : (Cond.fieldLink RX7 38 "TapLoomModel" "path" "[I").before _ s = true := hts _ (List.mem_of_getElem? (i := 3) rfl)
  have hfieldLink_RX7_124 : (Cond.fieldLink RX7 124 "TapLoomModel" "cycles" "I").before _ s = true := hts _ (List.mem_of_getElem? (i := 4) rfl)
  have hfieldLink_RX7_127 : (Cond.fieldLink RX7 127 "TapLoomModel" "longest" "I").before _ s = true := hts _ (List.mem_of_getElem? (i := 5) rfl)
  have hmethodLink_RX7_67 : (Cond.methodLink RX7 67 yX7_size).before _ s = true := hts _ (List.mem_of_getElem? (i := 24) rfl)
  have hfieldLink_RX7_130 : (Cond.fieldLink RX7 130 "TapLoomModel" "greatest" "I").before _ s = true := hts _ (List.mem_of_getElem? (i := 6) rfl)
  have hmethodLink_RX7_121 : (Cond.methodLink RX7 121 yX7_next).before _ s = true := hts _ (List.mem_of_getElem? (i := 7) rfl)
  have inX7 : ∀ w ∈ u_ws RX7 TX7 20, w ∈ wsX7_walks := fun w h => (List.mem_cons_of_mem _ (List.mem_append_right _ h))
  have hP : va_P D ccl (mW cI M mc ms mw mn mo mh mu mk mt mq mp my mf ma (nI kc) (nI kl) (nI kg) ov un la) s.heap := hP
  have hl : lv_has ls 9 [(0, .ref (M 0)), (1, .int (nI J)), (2, .int (nI st))] := hl
  have hX : ∀ q t, q < 40401 → nxO mc mw J q = some t → t < 40401 := fun q t h1 h2 => nxO_lt h1 h2
  have h0st : tr (nxO mc mw J) st 0 = some st := rfl
  refine lv_iconst (v := 0) hx hb dX7_walks_0 (by decide) ?_
  refine lv_istore_n (lv' := [(3, .int 0), (0, .ref (M 0)), (1, .int (nI J)), (2, .int (nI st))]) hx hb dX7_walks_1 rfl hl (by decide) rfl (fun ls hl => ?_)
  refine lv_iload_n hx hb dX7_walks_2 rfl (lv_at hl 3 rfl) ?_
  refine lv_istore (lv' := [(4, .int (nI st)), (3, .int 0), (0, .ref (M 0)), (1, .int (nI J)), (2, .int (nI st))]) hx hb dX7_walks_3 hl (by decide) rfl (fun ls hl => ?_)
  refine W.widen (k := 0) (n := 0) (Nat.le_refl _) (Nat.le_refl _) ?_
  refine g_while (σ := Nat) (st := []) (nL := 9) (fun n => mW cI M mc ms mw mn mo mh mu mk mt mq mp my (fmk (nxO mc mw J) st mf n) (pmk (nxO mc mw J) st ma n) (nI kc) (nI kl) (nI kg) ov un la)
    (fun n => [(0, .ref (M 0)), (1, .int (nI J)), (2, .int (nI st)), (3, .int (nI n)), (4, .int (oI (tr (nxO mc mw J) st n)))])
    (fun n => wayN (nxO mc mw J) (kA mf) st n)
    (fun n => 40402 - n) (fun n => 0) (fun n => 0)
    ?_ 0 wayN_0 hP hD hS (lv_sub hl [2, 3, 4, 1, 0] rfl)
  intro n hI H locs ls hP hD hS hl ih
  have hI : wayN (nxO mc mw J) (kA mf) st n := hI
  have hP : va_P D ccl (mW cI M mc ms mw mn mo mh mu mk mt mq mp my (fmk (nxO mc mw J) st mf n) (pmk (nxO mc mw J) st ma n) (nI kc) (nI kl) (nI kg) ov un la) H := hP
  have hD : va_D A (mW cI M mc ms mw mn mo mh mu mk mt mq mp my (fmk (nxO mc mw J) st mf n) (pmk (nxO mc mw J) st ma n) (nI kc) (nI kl) (nI kg) ov un la) := hD
  have hl : lv_has ls 9 [(0, .ref (M 0)), (1, .int (nI J)), (2, .int (nI st)), (3, .int (nI n)), (4, .int (oI (tr (nxO mc mw J) st n)))] := hl
  change W p l e _ s m _ below meth c H locs 0 0 _ (F0 m 5 ls [])
  have ih_5 := ih
  clear ih
  have hw9 := hI
  have hn9 := wayN_le hX hst hw9
  have hT : ∀ k, k < n → tv (nxO mc mw J) st k < 40401 := fun k hk => way_lt hX hst hw9 hk
  refine lv_iload hx hb dX7_walks_5 (lv_at hl 4 rfl) ?_
  by_cases hnone : tr (nxO mc mw J) st n = none
  · refine lv_topi (fun f ef => ?_)
    obtain rfl : f = (-1) := ef.trans (by rw [hnone]; rfl)
    have hl : lv_has ls 9 [(0, .ref (M 0)), (1, .int (nI J)), (2, .int (nI st)), (3, .int (nI n)), (4, .int (-1))] := by rw [hnone] at hl; exact hl
    refine lv_if_lt (tgt := 54) hx hb dX7_walks_7 (by decide) (fun c_7 => ?_) (fun c_7 => ?_)
    · refine lv_iload hx hb dX7_walks_54 (lv_at hl 4 rfl) ?_
      refine lv_if_ge (tgt := 63) hx hb dX7_walks_56 (by decide) (fun c_56 => ?_) (fun c_56 => ?_)
      · exact absurd c_56 (by decide)
      · refine lv_iconst (v := (-1)) hx hb dX7_walks_59 (by decide) ?_
        refine lv_goto (tgt := 70) hx hb dX7_walks_60 (by decide) ?_
        refine lv_istore (lv' := [(5, .int (-1)), (0, .ref (M 0)), (1, .int (nI J)), (2, .int (nI st)), (3, .int (nI n)), (4, .int (-1))]) hx hb dX7_walks_70 hl (by decide) rfl (fun ls hl => ?_)
        refine lv_iload hx hb dX7_walks_72 (lv_at hl 0 rfl) ?_
        refine lv_ldc (v := 40401) hx hb hown hconstant_RX7_34 dX7_walks_74 ?_
        refine lv_icmp_lt (tgt := 226) hx hb dX7_walks_76 (by decide) (fun c_76 => ?_) (fun c_76 => ?_)
        · refine lv_iconst (v := 0) hx hb dX7_walks_226 (by decide) ?_
          refine lv_istore (lv' := [(6, .int 0), (5, .int (-1)), (0, .ref (M 0)), (1, .int (nI J)), (2, .int (nI st)), (3, .int (nI n)), (4, .int (-1))]) hx hb dX7_walks_227 hl (by decide) rfl (fun ls hl => ?_)
          refine W.widen (k := 0) (n := 0) (Nat.le_refl _) (Nat.le_refl _) ?_
          refine g_while (σ := Nat) (st := []) (nL := 9) (fun k => mW cI M mc ms mw mn mo mh mu mk mt mq mp my (sfm (fmk (nxO mc mw J) st mf n) (tv (nxO mc mw J) st) (-1) k) (pmk (nxO mc mw J) st ma n) (nI kc) (nI kl) (nI kg) ov un la)
            (fun k => [(3, .int (nI n)), (0, .ref (M 0)), (5, .int (-1)), (6, .int (nI k))])
            (fun k => k ≤ n)
            (fun k => n - k) (fun k => 0) (fun k => 0)
            ?_ 0 (Nat.zero_le n) hP hD hS (lv_sub hl [5, 2, 1, 0] rfl)
          intro k hI H locs ls hP hD hS hl ih
          have hI : k ≤ n := hI
          have hP : va_P D ccl (mW cI M mc ms mw mn mo mh mu mk mt mq mp my (sfm (fmk (nxO mc mw J) st mf n) (tv (nxO mc mw J) st) (-1) k) (pmk (nxO mc mw J) st ma n) (nI kc) (nI kl) (nI kg) ov un la) H := hP
          have hD : va_D A (mW cI M mc ms mw mn mo mh mu mk mt mq mp my (sfm (fmk (nxO mc mw J) st mf n) (tv (nxO mc mw J) st) (-1) k) (pmk (nxO mc mw J) st ma n) (nI kc) (nI kl) (nI kg) ov un la) := hD
          have hl : lv_has ls 9 [(3, .int (nI n)), (0, .ref (M 0)), (5, .int (-1)), (6, .int (nI k))] := hl
          change W p l e _ s m _ below meth c H locs 0 0 _ (F0 m 229 ls [])
          have ih_229 := ih
          clear ih
          refine lv_iload hx hb dX7_walks_229 (lv_at hl 3 rfl) ?_
          refine lv_iload_n hx hb dX7_walks_231 rfl (lv_at hl 0 rfl) ?_
          refine lv_icmp_ge (tgt := 255) hx hb dX7_walks_232 (by decide) (fun c_232 => ?_) (fun c_232 => ?_)
          · have c_232 : n ≤ k := g_le (a := n) (b := k) c_232 (by omega) (by omega)
            obtain rfl : n = k := by omega
            refine g_vret hx hb hr hlk hP hK hD hS (Nat.le_of_ble_eq_true rfl) (Nat.le_of_ble_eq_true rfl) dX7_walks_255 ?_
            exact ⟨_, _, _, _, _, rfl, ⟨n, ⟨hw9, fun a9 h9 => by rw [hnone] at h9; cases h9⟩, by
              rw [kA_fin hX hst hw9]; unfold kd; rw [hnone]; rfl, ⟨fun i9 hi9 h9 => (by rw [hnone] at h9; cases h9), fun _ => ⟨rfl, rfl, rfl⟩⟩⟩, fOK_fin hF (Nat.le_refl _) (Or.inr (Or.inl rfl)), by omega, hkl, hkg⟩
          · have c_232 : k < n := g_nle (a := n) (b := k) c_232 (by omega) (by omega)
            refine lv_aload_n hx hb dX7_walks_235 rfl (lv_at hl 1 rfl) ?_
            refine va_get (D := D) (ci := 8) (v := .ref (M 9)) (C := RX7) (T := TX7) (N := 20) hx hb hts inX7 hown hK hP 0 rfl rfl 12 (by decide) hfieldLink_RX7_35 (fun _ h9 => h9) rfl dX7_walks_236 ?_
            refine lv_aload_n hx hb dX7_walks_239 rfl (lv_at hl 1 rfl) ?_
            refine va_get (D := D) (ci := 8) (v := .ref (M 10)) (C := RX7) (T := TX7) (N := 20) hx hb hts inX7 hown hK hP 0 rfl rfl 13 (by decide) hfieldLink_RX7_38 (fun _ h9 => h9) rfl dX7_walks_240 ?_
            refine lv_iload hx hb dX7_walks_243 (lv_at hl 3 rfl) ?_
            refine va_iald hx hb hK hP 10 0 rfl rfl (vp_in_nI (by omega) (by omega)) dX7_walks_245 ?_
            refine lv_topi (fun f ef => ?_)
            obtain rfl : f = (pmk (nxO mc mw J) st ma n) k := ef.trans (congrArg (pmk (nxO mc mw J) st ma n) (nI_clamp (n := k) (by omega)))
            refine lv_topi (fun f ef => ?_)
            obtain rfl : f = nI (tv (nxO mc mw J) st k) := ef.trans (pmk_in c_232)
            refine lv_iload hx hb dX7_walks_246 (lv_at hl 2 rfl) ?_
            have hT6 := hT k c_232
            refine va_iast hx hb hK hP hD hS 9 0 rfl rfl (vp_in_nI (hT k c_232) (by decide)) dX7_walks_248 (fun H locs hP hD hS => ?_)
            rw [show (nI (tv (nxO mc mw J) st k)).toNatClampNeg = tv (nxO mc mw J) st k from (nI_clamp (by omega))] at hP hD
            rw [show upd (sfm (fmk (nxO mc mw J) st mf n) (tv (nxO mc mw J) st) (-1) k) (tv (nxO mc mw J) st k) (-1) = sfm (fmk (nxO mc mw J) st mf n) (tv (nxO mc mw J) st) (-1) (k + 1) from rfl] at hP hD
            have hP : va_P D ccl (mW cI M mc ms mw mn mo mh mu mk mt mq mp my (sfm (fmk (nxO mc mw J) st mf n) (tv (nxO mc mw J) st) (-1) (k + 1)) (pmk (nxO mc mw J) st ma n) (nI kc) (nI kl) (nI kg) ov un la) H := hP
            have hD : va_D A (mW cI M mc ms mw mn mo mh mu mk mt mq mp my (sfm (fmk (nxO mc mw J) st mf n) (tv (nxO mc mw J) st) (-1) (k + 1)) (pmk (nxO mc mw J) st ma n) (nI kc) (nI kl) (nI kg) ov un la) := hD
            refine lv_iinc (v := nI (k + 1)) (lv' := [(6, .int (nI (k + 1))), (3, .int (nI n)), (0, .ref (M 0)), (5, .int (-1))]) hx hb dX7_walks_249 hl (k := 3) rfl (by exact nI_1 _) (by decide) rfl (fun ls hl => ?_)
            refine lv_goto (tgt := 229) hx hb dX7_walks_252 (by decide) ?_
            refine W.widen (k := 0) (n := 0) (Nat.le_refl _) (Nat.le_refl _) ?_
            exact ih_229 (k + 1) _ _ _ (show (k + 1) ≤ n from (by exact c_232)) (show n - (k + 1) < n - k by omega) hP hD hS (lv_sub hl [1, 2, 3, 0] rfl)
        · exact absurd c_76 (by decide)
    · exact absurd c_7 (by decide)
  · obtain ⟨a, ha⟩ := Option.ne_none_iff_exists'.mp hnone
    have hal : a < 40401 := tr_lt hX hst n a ha
    refine lv_topi (fun f ef => ?_)
    obtain rfl : f = nI a := ef.trans (by rw [ha]; rfl)
    have hl : lv_has ls 9 [(0, .ref (M 0)), (1, .int (nI J)), (2, .int (nI st)), (3, .int (nI n)), (4, .int (nI a))] := by rw [ha] at hl; exact hl
    refine lv_if_lt (tgt := 54) hx hb dX7_walks_7 (by decide) (fun c_7 => ?_) (fun c_7 => ?_)
    · have c_7 : a < 0 := g_lt (a := a) (b := 0) c_7 (by omega) (by omega)
      omega
    · have c_7 : 0 ≤ a := g_nlt (a := a) (b := 0) c_7 (by omega) (by omega)
      by_cases hrep : ∃ i, i < n ∧ tv (nxO mc mw J) st i = a
      · obtain ⟨i, hi, hia⟩ := hrep
        have hA0 : kA mf a = 0 := by rw [← hia]; exact (hw9.1 i hi).2
        refine lv_aload_n hx hb dX7_walks_10 rfl (lv_at hl 0 rfl) ?_
        refine va_get (D := D) (ci := 8) (v := .ref (M 9)) (C := RX7) (T := TX7) (N := 20) hx hb hts inX7 hown hK hP 0 rfl rfl 12 (by decide) hfieldLink_RX7_35 (fun _ h9 => h9) rfl dX7_walks_11 ?_
        refine lv_iload hx hb dX7_walks_14 (lv_at hl 4 rfl) ?_
        refine va_iald hx hb hK hP 9 0 rfl rfl (vp_in_nI (by omega) (by omega)) dX7_walks_16 ?_
        refine lv_topi (fun f ef => ?_)
        obtain rfl : f = (fmk (nxO mc mw J) st mf n) a := ef.trans (congrArg (fmk (nxO mc mw J) st mf n) (nI_clamp (n := a) (by omega)))
        refine lv_topi (fun f ef => ?_)
        obtain rfl : f = nI (40401 + i) := ef.trans (by rw [← hia]; exact fmk_in hw9 hi)
        refine lv_if_ne (tgt := 54) hx hb dX7_walks_17 (by decide) (fun c_17 => ?_) (fun c_17 => ?_)
        · have c_17 : 40401 + i ≠ 0 := g_ne (a := 40401 + i) (b := 0) c_17 (by omega) (by omega)
          refine lv_iload hx hb dX7_walks_54 (lv_at hl 4 rfl) ?_
          refine lv_if_ge (tgt := 63) hx hb dX7_walks_56 (by decide) (fun c_56 => ?_) (fun c_56 => ?_)
          · have c_56 : 0 ≤ a := g_le (a := 0) (b := a) c_56 (by omega) (by omega)
            refine lv_aload_n hx hb dX7_walks_63 rfl (lv_at hl 0 rfl) ?_
            refine va_get (D := D) (ci := 8) (v := .ref (M 9)) (C := RX7) (T := TX7) (N := 20) hx hb hts inX7 hown hK hP 0 rfl rfl 12 (by decide) hfieldLink_RX7_35 (fun _ h9 => h9) rfl dX7_walks_64 ?_
            refine lv_iload hx hb dX7_walks_67 (lv_at hl 4 rfl) ?_
            refine va_iald hx hb hK hP 9 0 rfl rfl (vp_in_nI (by omega) (by omega)) dX7_walks_69 ?_
            refine lv_topi (fun f ef => ?_)
            obtain rfl : f = (fmk (nxO mc mw J) st mf n) a := ef.trans (congrArg (fmk (nxO mc mw J) st mf n) (nI_clamp (n := a) (by omega)))
            refine lv_topi (fun f ef => ?_)
            obtain rfl : f = nI (40401 + i) := ef.trans (by rw [← hia]; exact fmk_in hw9 hi)
            refine lv_istore (lv' := [(5, .int (nI (40401 + i))), (0, .ref (M 0)), (1, .int (nI J)), (2, .int (nI st)), (3, .int (nI n)), (4, .int (nI a))]) hx hb dX7_walks_70 hl (by decide) rfl (fun ls hl => ?_)
            refine lv_iload hx hb dX7_walks_72 (lv_at hl 0 rfl) ?_
            refine lv_ldc (v := 40401) hx hb hown hconstant_RX7_34 dX7_walks_74 ?_
            refine lv_icmp_lt (tgt := 226) hx hb dX7_walks_76 (by decide) (fun c_76 => ?_) (fun c_76 => ?_)
            · have c_76 : 40401 + i < 40401 := g_lt (a := 40401 + i) (b := 40401) c_76 (by omega) (by omega)
              omega
            · have c_76 : 40401 ≤ 40401 + i := g_nlt (a := 40401 + i) (b := 40401) c_76 (by omega) (by omega)
              refine lv_iload hx hb dX7_walks_79 (lv_at hl 0 rfl) ?_
              refine lv_ldc (v := 40401) hx hb hown hconstant_RX7_34 dX7_walks_81 ?_
              refine lv_isub hx hb dX7_walks_83 ?_
              refine lv_topi (fun f ef => ?_)
              obtain rfl : f = nI i := ef.trans ((pk_sub (a := 40401 + i) (b := 40401) (by omega)).trans (by rw [Nat.add_sub_cancel_left]))
              refine lv_istore (lv' := [(6, .int (nI i)), (5, .int (nI (40401 + i))), (0, .ref (M 0)), (1, .int (nI J)), (2, .int (nI st)), (3, .int (nI n)), (4, .int (nI a))]) hx hb dX7_walks_84 hl (by decide) rfl (fun ls hl => ?_)
              refine lv_iload_n hx hb dX7_walks_86 rfl (lv_at hl 5 rfl) ?_
              refine lv_iload hx hb dX7_walks_87 (lv_at hl 0 rfl) ?_
              refine lv_isub hx hb dX7_walks_89 ?_
              refine lv_topi (fun f ef => ?_)
              obtain rfl : f = nI (n - i) := ef.trans (pk_sub (a := n) (b := i) (by omega))
              refine lv_iconst (v := 1) hx hb dX7_walks_90 (by decide) ?_
              refine lv_icmp_ne (tgt := 107) hx hb dX7_walks_91 (by decide) (fun c_91 => ?_) (fun c_91 => ?_)
              · have c_91 : n - i ≠ 1 := g_ne (a := n - i) (b := 1) c_91 (by omega) (by omega)
                have hane : a ≠ 20200 := fun h9 => c_91 (still_len (nxO_still mc mw J) hw9 hi (hia.trans h9))
                refine lv_aload_n hx hb dX7_walks_107 rfl (lv_at hl 2 rfl) ?_
                refine va_get (D := D) (ci := 8) (v := .int (nI kc)) (C := RX7) (T := TX7) (N := 20) hx hb hts inX7 hown hK hP 0 rfl rfl 14 (by decide) hfieldLink_RX7_124 (fun _ h9 => h9) rfl dX7_walks_108 ?_
                refine lv_iconst (v := 1) hx hb dX7_walks_111 (by decide) ?_
                refine lv_iadd hx hb dX7_walks_112 ?_
                refine lv_topi (fun f ef => ?_)
                obtain rfl : f = nI (kc + 1) := ef.trans (nI_add _ _)
                refine lv_istore (lv' := [(5, .int (nI (kc + 1))), (6, .int (nI i)), (0, .ref (M 0)), (1, .int (nI J)), (2, .int (nI st)), (3, .int (nI n)), (4, .int (nI a))]) hx hb dX7_walks_113 hl (by decide) rfl (fun ls hl => ?_)
                refine lv_aload_n hx hb dX7_walks_115 rfl (lv_at hl 2 rfl) ?_
                refine lv_dup hx hb dX7_walks_116 rfl ?_
                refine va_get (D := D) (ci := 8) (v := .int (nI kc)) (C := RX7) (T := TX7) (N := 20) hx hb hts inX7 hown hK hP 0 rfl rfl 14 (by decide) hfieldLink_RX7_124 (fun _ h9 => h9) rfl dX7_walks_117 ?_
                refine lv_iload hx hb dX7_walks_120 (lv_at hl 0 rfl) ?_
                refine lv_bipush (v := (-2)) hx hb dX7_walks_122 (by decide) ?_
                refine lv_icmp_ne (tgt := 131) hx hb dX7_walks_124 (by decide) (fun c_124 => ?_) (fun c_124 => ?_)
                · refine lv_iconst (v := 1) hx hb dX7_walks_131 (by decide) ?_
                  refine lv_iadd hx hb dX7_walks_132 ?_
                  refine lv_topi (fun f ef => ?_)
                  obtain rfl : f = nI (kc + 1) := ef.trans (nI_add _ _)
                  refine va_put (D := D) (ci := 8) (v := .int (nI (kc + 1))) (ty := .int) (C := RX7) (T := TX7) (N := 20) hx hb hts inX7 tyX7 tyX7_ok nmX7 hown hK hP hD hS 0 rfl rfl 14 (by decide) hfieldLink_RX7_124 (fun _ h9 => h9) rfl (by decide +kernel) rfl rfl (Nat.le_of_ble_eq_true rfl) dX7_walks_133 (fun H locs hP hD hS => ?_)
                  have hP : va_P D ccl (mW cI M mc ms mw mn mo mh mu mk mt mq mp my (fmk (nxO mc mw J) st mf n) (pmk (nxO mc mw J) st ma n) (nI (kc + 1)) (nI kl) (nI kg) ov un la) H := hP
                  have hD : va_D A (mW cI M mc ms mw mn mo mh mu mk mt mq mp my (fmk (nxO mc mw J) st mf n) (pmk (nxO mc mw J) st ma n) (nI (kc + 1)) (nI kl) (nI kg) ov un la) := hD
                  refine lv_aload_n hx hb dX7_walks_136 rfl (lv_at hl 2 rfl) ?_
                  refine lv_iload hx hb dX7_walks_137 (lv_at hl 0 rfl) ?_
                  refine lv_bipush (v := (-2)) hx hb dX7_walks_139 (by decide) ?_
                  refine lv_icmp_eq (tgt := 162) hx hb dX7_walks_141 (by decide) (fun c_141 => ?_) (fun c_141 => ?_)
                  · exact (nI_ne_m2 (by omega) c_141).elim
                  · refine lv_iload_n hx hb dX7_walks_144 rfl (lv_at hl 5 rfl) ?_
                    refine lv_iload hx hb dX7_walks_145 (lv_at hl 1 rfl) ?_
                    refine lv_isub hx hb dX7_walks_147 ?_
                    refine lv_topi (fun f ef => ?_)
                    obtain rfl : f = nI (n - i) := ef.trans (pk_sub (a := n) (b := i) (by omega))
                    refine lv_aload_n hx hb dX7_walks_148 rfl (lv_at hl 2 rfl) ?_
                    refine va_get (D := D) (ci := 8) (v := .int (nI kl)) (C := RX7) (T := TX7) (N := 20) hx hb hts inX7 hown hK hP 0 rfl rfl 15 (by decide) hfieldLink_RX7_127 (fun _ h9 => h9) rfl dX7_walks_149 ?_
                    refine lv_icmp_le (tgt := 162) hx hb dX7_walks_152 (by decide) (fun c_152 => ?_) (fun c_152 => ?_)
                    · have c_152 : n - i ≤ kl := g_le (a := n - i) (b := kl) c_152 (by omega) (by omega)
                      refine lv_aload_n hx hb dX7_walks_162 rfl (lv_at hl 2 rfl) ?_
                      refine va_get (D := D) (ci := 8) (v := .int (nI kl)) (C := RX7) (T := TX7) (N := 20) hx hb hts inX7 hown hK hP 0 rfl rfl 15 (by decide) hfieldLink_RX7_127 (fun _ h9 => h9) rfl dX7_walks_163 ?_
                      refine lv_topi (fun f ef => ?_)
                      obtain rfl : f = nI (max kl (n - i)) := ef.trans (congrArg nI (by omega))
                      refine va_put (D := D) (ci := 8) (v := .int (nI (max kl (n - i)))) (ty := .int) (C := RX7) (T := TX7) (N := 20) hx hb hts inX7 tyX7 tyX7_ok nmX7 hown hK hP hD hS 0 rfl rfl 15 (by decide) hfieldLink_RX7_127 (fun _ h9 => h9) rfl (by decide +kernel) rfl rfl (Nat.le_of_ble_eq_true rfl) dX7_walks_166 (fun H locs hP hD hS => ?_)
                      have hP : va_P D ccl (mW cI M mc ms mw mn mo mh mu mk mt mq mp my (fmk (nxO mc mw J) st mf n) (pmk (nxO mc mw J) st ma n) (nI (kc + 1)) (nI (max kl (n - i))) (nI kg) ov un la) H := hP
                      have hD : va_D A (mW cI M mc ms mw mn mo mh mu mk mt mq mp my (fmk (nxO mc mw J) st mf n) (pmk (nxO mc mw J) st ma n) (nI (kc + 1)) (nI (max kl (n - i))) (nI kg) ov un la) := hD
                      refine lv_iload hx hb dX7_walks_169 (lv_at hl 1 rfl) ?_
                      refine lv_istore (lv' := [(7, .int (nI i)), (5, .int (nI (kc + 1))), (6, .int (nI i)), (0, .ref (M 0)), (1, .int (nI J)), (2, .int (nI st)), (3, .int (nI n)), (4, .int (nI a))]) hx hb dX7_walks_171 hl (by decide) rfl (fun ls hl => ?_)
                      refine W.widen (k := 0) (n := 0) (Nat.le_refl _) (Nat.le_refl _) ?_
                      refine g_while (σ := Nat) (st := []) (nL := 9) (fun t9 => mW cI M mc ms mw mn mo mh mu mk mt mq mp my (fmk (nxO mc mw J) st mf n) (pmk (nxO mc mw J) st ma n) (nI (kc + 1)) (nI (max kl (n - i))) (nI (gmx (nxO mc mw J) st kg i t9)) ov un la)
                        (fun t9 => [(0, .ref (M 0)), (1, .int (nI J)), (2, .int (nI st)), (3, .int (nI n)), (4, .int (nI a)), (5, .int (nI (kc + 1))), (6, .int (nI i)), (7, .int (nI (i + t9)))])
                        (fun t9 => t9 ≤ n - i)
                        (fun t9 => n - i - t9) (fun t9 => 0) (fun t9 => 0)
                        ?_ 0 (Nat.zero_le _) hP hD hS (lv_sub hl [3, 4, 5, 6, 7, 1, 2, 0] rfl)
                      intro t9 hI H locs ls hP hD hS hl ih
                      have hI : t9 ≤ n - i := hI
                      have hP : va_P D ccl (mW cI M mc ms mw mn mo mh mu mk mt mq mp my (fmk (nxO mc mw J) st mf n) (pmk (nxO mc mw J) st ma n) (nI (kc + 1)) (nI (max kl (n - i))) (nI (gmx (nxO mc mw J) st kg i t9)) ov un la) H := hP
                      have hD : va_D A (mW cI M mc ms mw mn mo mh mu mk mt mq mp my (fmk (nxO mc mw J) st mf n) (pmk (nxO mc mw J) st ma n) (nI (kc + 1)) (nI (max kl (n - i))) (nI (gmx (nxO mc mw J) st kg i t9)) ov un la) := hD
                      have hl : lv_has ls 9 [(0, .ref (M 0)), (1, .int (nI J)), (2, .int (nI st)), (3, .int (nI n)), (4, .int (nI a)), (5, .int (nI (kc + 1))), (6, .int (nI i)), (7, .int (nI (i + t9)))] := hl
                      change W p l e _ s m _ below meth c H locs 0 0 _ (F0 m 173 ls [])
                      have ih_173 := ih
                      clear ih
                      refine lv_iload hx hb dX7_walks_173 (lv_at hl 7 rfl) ?_
                      refine lv_iload_n hx hb dX7_walks_175 rfl (lv_at hl 3 rfl) ?_
                      refine lv_icmp_ge (tgt := 226) hx hb dX7_walks_176 (by decide) (fun c_176 => ?_) (fun c_176 => ?_)
                      · have c_176 : n ≤ i + t9 := g_le (a := n) (b := i + t9) c_176 (by omega) (by omega)
                        obtain rfl : t9 = n - i := by omega
                        refine lv_iconst (v := 0) hx hb dX7_walks_226 (by decide) ?_
                        refine lv_istore (lv' := [(6, .int 0), (0, .ref (M 0)), (1, .int (nI J)), (2, .int (nI st)), (3, .int (nI n)), (4, .int (nI a)), (5, .int (nI (kc + 1))), (7, .int (nI (i + (n - i))))]) hx hb dX7_walks_227 hl (by decide) rfl (fun ls hl => ?_)
                        refine W.widen (k := 0) (n := 0) (Nat.le_refl _) (Nat.le_refl _) ?_
                        refine g_while (σ := Nat) (st := []) (nL := 9) (fun k => mW cI M mc ms mw mn mo mh mu mk mt mq mp my (sfm (fmk (nxO mc mw J) st mf n) (tv (nxO mc mw J) st) (nI (kc + 1)) k) (pmk (nxO mc mw J) st ma n) (nI (kc + 1)) (nI (max kl (n - i))) (nI (gmx (nxO mc mw J) st kg i (n - i))) ov un la)
                          (fun k => [(3, .int (nI n)), (0, .ref (M 0)), (5, .int (nI (kc + 1))), (6, .int (nI k))])
                          (fun k => k ≤ n)
                          (fun k => n - k) (fun k => 0) (fun k => 0)
                          ?_ 0 (Nat.zero_le n) hP hD hS (lv_sub hl [4, 1, 6, 0] rfl)
                        intro k hI H locs ls hP hD hS hl ih
                        have hI : k ≤ n := hI
                        have hP : va_P D ccl (mW cI M mc ms mw mn mo mh mu mk mt mq mp my (sfm (fmk (nxO mc mw J) st mf n) (tv (nxO mc mw J) st) (nI (kc + 1)) k) (pmk (nxO mc mw J) st ma n) (nI (kc + 1)) (nI (max kl (n - i))) (nI (gmx (nxO mc mw J) st kg i (n - i))) ov un la) H := hP
                        have hD : va_D A (mW cI M mc ms mw mn mo mh mu mk mt mq mp my (sfm (fmk (nxO mc mw J) st mf n) (tv (nxO mc mw J) st) (nI (kc + 1)) k) (pmk (nxO mc mw J) st ma n) (nI (kc + 1)) (nI (max kl (n - i))) (nI (gmx (nxO mc mw J) st kg i (n - i))) ov un la) := hD
                        have hl : lv_has ls 9 [(3, .int (nI n)), (0, .ref (M 0)), (5, .int (nI (kc + 1))), (6, .int (nI k))] := hl
                        change W p l e _ s m _ below meth c H locs 0 0 _ (F0 m 229 ls [])
                        have ih_229 := ih
                        clear ih
                        refine lv_iload hx hb dX7_walks_229 (lv_at hl 3 rfl) ?_
                        refine lv_iload_n hx hb dX7_walks_231 rfl (lv_at hl 0 rfl) ?_
                        refine lv_icmp_ge (tgt := 255) hx hb dX7_walks_232 (by decide) (fun c_232 => ?_) (fun c_232 => ?_)
                        · have c_232 : n ≤ k := g_le (a := n) (b := k) c_232 (by omega) (by omega)
                          obtain rfl : n = k := by omega
                          refine g_vret hx hb hr hlk hP hK hD hS (Nat.le_of_ble_eq_true rfl) (Nat.le_of_ble_eq_true rfl) dX7_walks_255 ?_
                          have hk9 : kF (nI (kc + 1)) = 2 := by
                            unfold kF
                            rw [if_neg (nI_ne0 (by omega) (by omega)), if_neg (fun h9 => nI_ne_m1 (by omega) h9)]
                          exact ⟨_, _, _, _, _, rfl, ⟨n, ⟨hw9, fun a9 h9 => Or.inr ⟨i, hi, by rw [ha] at h9; cases h9; exact hia⟩⟩, by
                            rw [kA_fin hX hst hw9]; unfold kd; rw [ha]; dsimp only; rw [if_pos hA0]; exact congrArg (fun d => amk (nxO mc mw J) st (kA mf) d n) hk9, ⟨fun i9 hi9 h9 hne => by
                              rw [ha] at h9
                              obtain rfl : i9 = i := way_one hw9 hi9 hi ((Option.some.inj h9).symm.trans hia.symm)
                              exact ⟨rfl, rfl, rfl⟩, fun h9 => absurd (hia.symm.trans (h9 i hi (by rw [ha, hia]))) hane⟩⟩, fOK_fin hF (by omega) (Or.inr (Or.inr ⟨kc + 1, Nat.le_refl _, rfl⟩)), by omega, by omega, gmx_le hkg (fun j9 hj9 => hT (i + j9) (by omega))⟩
                        · have c_232 : k < n := g_nle (a := n) (b := k) c_232 (by omega) (by omega)
                          refine lv_aload_n hx hb dX7_walks_235 rfl (lv_at hl 1 rfl) ?_
                          refine va_get (D := D) (ci := 8) (v := .ref (M 9)) (C := RX7) (T := TX7) (N := 20) hx hb hts inX7 hown hK hP 0 rfl rfl 12 (by decide) hfieldLink_RX7_35 (fun _ h9 => h9) rfl dX7_walks_236 ?_
                          refine lv_aload_n hx hb dX7_walks_239 rfl (lv_at hl 1 rfl) ?_
                          refine va_get (D := D) (ci := 8) (v := .ref (M 10)) (C := RX7) (T := TX7) (N := 20) hx hb hts inX7 hown hK hP 0 rfl rfl 13 (by decide) hfieldLink_RX7_38 (fun _ h9 => h9) rfl dX7_walks_240 ?_
                          refine lv_iload hx hb dX7_walks_243 (lv_at hl 3 rfl) ?_
                          refine va_iald hx hb hK hP 10 0 rfl rfl (vp_in_nI (by omega) (by omega)) dX7_walks_245 ?_
                          refine lv_topi (fun f ef => ?_)
                          obtain rfl : f = (pmk (nxO mc mw J) st ma n) k := ef.trans (congrArg (pmk (nxO mc mw J) st ma n) (nI_clamp (n := k) (by omega)))
                          refine lv_topi (fun f ef => ?_)
                          obtain rfl : f = nI (tv (nxO mc mw J) st k) := ef.trans (pmk_in c_232)
                          refine lv_iload hx hb dX7_walks_246 (lv_at hl 2 rfl) ?_
                          have hT6 := hT k c_232
                          refine va_iast hx hb hK hP hD hS 9 0 rfl rfl (vp_in_nI (hT k c_232) (by decide)) dX7_walks_248 (fun H locs hP hD hS => ?_)
                          rw [show (nI (tv (nxO mc mw J) st k)).toNatClampNeg = tv (nxO mc mw J) st k from (nI_clamp (by omega))] at hP hD
                          rw [show upd (sfm (fmk (nxO mc mw J) st mf n) (tv (nxO mc mw J) st) (nI (kc + 1)) k) (tv (nxO mc mw J) st k) (nI (kc + 1)) = sfm (fmk (nxO mc mw J) st mf n) (tv (nxO mc mw J) st) (nI (kc + 1)) (k + 1) from rfl] at hP hD
                          have hP : va_P D ccl (mW cI M mc ms mw mn mo mh mu mk mt mq mp my (sfm (fmk (nxO mc mw J) st mf n) (tv (nxO mc mw J) st) (nI (kc + 1)) (k + 1)) (pmk (nxO mc mw J) st ma n) (nI (kc + 1)) (nI (max kl (n - i))) (nI (gmx (nxO mc mw J) st kg i (n - i))) ov un la) H := hP
                          have hD : va_D A (mW cI M mc ms mw mn mo mh mu mk mt mq mp my (sfm (fmk (nxO mc mw J) st mf n) (tv (nxO mc mw J) st) (nI (kc + 1)) (k + 1)) (pmk (nxO mc mw J) st ma n) (nI (kc + 1)) (nI (max kl (n - i))) (nI (gmx (nxO mc mw J) st kg i (n - i))) ov un la) := hD
                          refine lv_iinc (v := nI (k + 1)) (lv' := [(6, .int (nI (k + 1))), (3, .int (nI n)), (0, .ref (M 0)), (5, .int (nI (kc + 1)))]) hx hb dX7_walks_249 hl (k := 3) rfl (by exact nI_1 _) (by decide) rfl (fun ls hl => ?_)
                          refine lv_goto (tgt := 229) hx hb dX7_walks_252 (by decide) ?_
                          refine W.widen (k := 0) (n := 0) (Nat.le_refl _) (Nat.le_refl _) ?_
                          exact ih_229 (k + 1) _ _ _ (show (k + 1) ≤ n from (by exact c_232)) (show n - (k + 1) < n - k by omega) hP hD hS (lv_sub hl [1, 2, 3, 0] rfl)
                      · have c_176 : i + t9 < n := g_nle (a := n) (b := i + t9) c_176 (by omega) (by omega)
                        refine lv_aload_n hx hb dX7_walks_179 rfl (lv_at hl 0 rfl) ?_
                        refine va_get (D := D) (ci := 8) (v := .ref (M 10)) (C := RX7) (T := TX7) (N := 20) hx hb hts inX7 hown hK hP 0 rfl rfl 13 (by decide) hfieldLink_RX7_38 (fun _ h9 => h9) rfl dX7_walks_180 ?_
                        refine lv_iload hx hb dX7_walks_183 (lv_at hl 7 rfl) ?_
                        refine va_iald hx hb hK hP 10 0 rfl rfl (vp_in_nI (by omega) (by omega)) dX7_walks_185 ?_
                        refine lv_topi (fun f ef => ?_)
                        obtain rfl : f = (pmk (nxO mc mw J) st ma n) (i + t9) := ef.trans (congrArg (pmk (nxO mc mw J) st ma n) (nI_clamp (n := i + t9) (by omega)))
                        refine lv_topi (fun f ef => ?_)
                        obtain rfl : f = nI (tv (nxO mc mw J) st (i + t9)) := ef.trans (pmk_in (by omega))
                        have hT7 := hT (i + t9) (by omega)
                        have hg7 : gmx (nxO mc mw J) st kg i t9 ≤ 200 := gmx_le hkg (fun j9 hj9 => hT (i + j9) (by omega))
                        refine lv_sipush (v := 201) hx hb dX7_walks_186 (by decide) ?_
                        refine lv_idiv hx hb dX7_walks_189 (by decide) ?_
                        refine lv_topi (fun f ef => ?_)
                        obtain rfl : f = nI ((tv (nxO mc mw J) st (i + t9)) / 201) := ef.trans (pk_div (a := tv (nxO mc mw J) st (i + t9)) (d := 201) (by omega) (by omega) (by omega))
                        refine lv_bipush (v := 100) hx hb dX7_walks_190 (by decide) ?_
                        refine lv_isub hx hb dX7_walks_192 ?_
                        have hPc : va_P D ccl [] H := fun k q h => by simp at h
                        have hDc : va_D A [] := ⟨fun i j p q h => by simp at h, fun k q h => by simp at h⟩
                        have hFc := va_free (wc := []) hD hS hA [] rfl
                        refine g_Si (As := [.int ((nI ((tv (nxO mc mw J) st (i + t9)) / 201)) - 100)]) (rest := []) CF (c_X7_size l D cI cJ cO df H.size ((nI ((tv (nxO mc mw J) st (i + t9)) / 201)) - 100) ) (va_cwS 1 hts gX7_walks_X7_size rfl rfl rfl (by decide +kernel) ⟨Nat.le_of_ble_eq_true rfl, Nat.le_of_ble_eq_true rfl⟩)  hPc hK hDc hV hH hS hFc rfl hl.1 rfl (Nat.le_of_ble_eq_true rfl) dX7_walks_193 ⟨Nat.le_of_ble_eq_true rfl, Nat.le_of_ble_eq_true rfl⟩ (fun r_193 w1 H1 locs1 hq hP1 hD1 hk hS hz => ?_)
                        obtain ⟨rfl, hr_193⟩ := hq
                        have hP := g_keep0 hP hk
                        clear hPc hDc hFc hP1 hD1 hk hz
                        generalize H1 = H at hP hS ⊢
                        have hP : va_P D ccl (mW cI M mc ms mw mn mo mh mu mk mt mq mp my (fmk (nxO mc mw J) st mf n) (pmk (nxO mc mw J) st ma n) (nI (kc + 1)) (nI (max kl (n - i))) (nI (gmx (nxO mc mw J) st kg i t9)) ov un la) H := hP
                        have hD : va_D A (mW cI M mc ms mw mn mo mh mu mk mt mq mp my (fmk (nxO mc mw J) st mf n) (pmk (nxO mc mw J) st ma n) (nI (kc + 1)) (nI (max kl (n - i))) (nI (gmx (nxO mc mw J) st kg i t9)) ov un la) := hD
                        subst hr_193
                        refine lv_topi (fun f ef => ?_)
                        obtain rfl : f = nI (ayq (tv (nxO mc mw J) st (i + t9) / 201)) := ef.trans (mSize_100 (by omega))
                        refine lv_istore (lv' := [(8, .int (nI (ayq (tv (nxO mc mw J) st (i + t9) / 201)))), (0, .ref (M 0)), (1, .int (nI J)), (2, .int (nI st)), (3, .int (nI n)), (4, .int (nI a)), (5, .int (nI (kc + 1))), (6, .int (nI i)), (7, .int (nI (i + t9)))]) hx hb dX7_walks_196 hl (by decide) rfl (fun ls hl => ?_)
                        refine lv_aload_n hx hb dX7_walks_198 rfl (lv_at hl 1 rfl) ?_
                        refine lv_iload hx hb dX7_walks_199 (lv_at hl 0 rfl) ?_
                        refine lv_aload_n hx hb dX7_walks_201 rfl (lv_at hl 1 rfl) ?_
                        refine va_get (D := D) (ci := 8) (v := .int (nI (gmx (nxO mc mw J) st kg i t9))) (C := RX7) (T := TX7) (N := 20) hx hb hts inX7 hown hK hP 0 rfl rfl 16 (by decide) hfieldLink_RX7_130 (fun _ h9 => h9) rfl dX7_walks_202 ?_
                        have hay7 := ayq_le (q := tv (nxO mc mw J) st (i + t9) / 201) (by omega)
                        refine lv_icmp_le (tgt := 213) hx hb dX7_walks_205 (by decide) (fun c_205 => ?_) (fun c_205 => ?_)
                        · have c_205 : ayq (tv (nxO mc mw J) st (i + t9) / 201) ≤ gmx (nxO mc mw J) st kg i t9 := g_le (a := ayq (tv (nxO mc mw J) st (i + t9) / 201)) (b := gmx (nxO mc mw J) st kg i t9) c_205 (by omega) (by omega)
                          refine lv_aload_n hx hb dX7_walks_213 rfl (lv_at hl 1 rfl) ?_
                          refine va_get (D := D) (ci := 8) (v := .int (nI (gmx (nxO mc mw J) st kg i t9))) (C := RX7) (T := TX7) (N := 20) hx hb hts inX7 hown hK hP 0 rfl rfl 16 (by decide) hfieldLink_RX7_130 (fun _ h9 => h9) rfl dX7_walks_214 ?_
                          refine lv_topi (fun f ef => ?_)
                          obtain rfl : f = nI (gmx (nxO mc mw J) st kg i (t9 + 1)) := ef.trans (congrArg nI (by rw [gmx_s]; omega))
                          refine va_put (D := D) (ci := 8) (v := .int (nI (gmx (nxO mc mw J) st kg i (t9 + 1)))) (ty := .int) (C := RX7) (T := TX7) (N := 20) hx hb hts inX7 tyX7 tyX7_ok nmX7 hown hK hP hD hS 0 rfl rfl 16 (by decide) hfieldLink_RX7_130 (fun _ h9 => h9) rfl (by decide +kernel) rfl rfl (Nat.le_of_ble_eq_true rfl) dX7_walks_217 (fun H locs hP hD hS => ?_)
                          have hP : va_P D ccl (mW cI M mc ms mw mn mo mh mu mk mt mq mp my (fmk (nxO mc mw J) st mf n) (pmk (nxO mc mw J) st ma n) (nI (kc + 1)) (nI (max kl (n - i))) (nI (gmx (nxO mc mw J) st kg i (t9 + 1))) ov un la) H := hP
                          have hD : va_D A (mW cI M mc ms mw mn mo mh mu mk mt mq mp my (fmk (nxO mc mw J) st mf n) (pmk (nxO mc mw J) st ma n) (nI (kc + 1)) (nI (max kl (n - i))) (nI (gmx (nxO mc mw J) st kg i (t9 + 1))) ov un la) := hD
                          refine lv_iinc (v := nI ((i + t9) + 1)) (lv' := [(7, .int (nI ((i + t9) + 1))), (8, .int (nI (ayq (tv (nxO mc mw J) st (i + t9) / 201)))), (0, .ref (M 0)), (1, .int (nI J)), (2, .int (nI st)), (3, .int (nI n)), (4, .int (nI a)), (5, .int (nI (kc + 1))), (6, .int (nI i))]) hx hb dX7_walks_220 hl (k := 8) rfl (by exact nI_1 _) (by decide) rfl (fun ls hl => ?_)
                          refine lv_goto (tgt := 173) hx hb dX7_walks_223 (by decide) ?_
                          refine W.widen (k := 0) (n := 0) (Nat.le_refl _) (Nat.le_refl _) ?_
                          exact ih_173 (t9 + 1) _ _ _ (show (t9 + 1) ≤ n - i from (by omega)) (show n - i - (t9 + 1) < n - i - t9 by omega) hP hD hS (lv_sub hl [2, 3, 4, 5, 6, 7, 8, 0] rfl)
                        · have c_205 : gmx (nxO mc mw J) st kg i t9 < ayq (tv (nxO mc mw J) st (i + t9) / 201) := g_nle (a := ayq (tv (nxO mc mw J) st (i + t9) / 201)) (b := gmx (nxO mc mw J) st kg i t9) c_205 (by omega) (by omega)
                          refine lv_iload hx hb dX7_walks_208 (lv_at hl 0 rfl) ?_
                          refine lv_goto (tgt := 217) hx hb dX7_walks_210 (by decide) ?_
                          refine lv_topi (fun f ef => ?_)
                          obtain rfl : f = nI (gmx (nxO mc mw J) st kg i (t9 + 1)) := ef.trans (congrArg nI (by rw [gmx_s]; omega))
                          refine va_put (D := D) (ci := 8) (v := .int (nI (gmx (nxO mc mw J) st kg i (t9 + 1)))) (ty := .int) (C := RX7) (T := TX7) (N := 20) hx hb hts inX7 tyX7 tyX7_ok nmX7 hown hK hP hD hS 0 rfl rfl 16 (by decide) hfieldLink_RX7_130 (fun _ h9 => h9) rfl (by decide +kernel) rfl rfl (Nat.le_of_ble_eq_true rfl) dX7_walks_217 (fun H locs hP hD hS => ?_)
                          have hP : va_P D ccl (mW cI M mc ms mw mn mo mh mu mk mt mq mp my (fmk (nxO mc mw J) st mf n) (pmk (nxO mc mw J) st ma n) (nI (kc + 1)) (nI (max kl (n - i))) (nI (gmx (nxO mc mw J) st kg i (t9 + 1))) ov un la) H := hP
                          have hD : va_D A (mW cI M mc ms mw mn mo mh mu mk mt mq mp my (fmk (nxO mc mw J) st mf n) (pmk (nxO mc mw J) st ma n) (nI (kc + 1)) (nI (max kl (n - i))) (nI (gmx (nxO mc mw J) st kg i (t9 + 1))) ov un la) := hD
                          refine lv_iinc (v := nI ((i + t9) + 1)) (lv' := [(7, .int (nI ((i + t9) + 1))), (8, .int (nI (ayq (tv (nxO mc mw J) st (i + t9) / 201)))), (0, .ref (M 0)), (1, .int (nI J)), (2, .int (nI st)), (3, .int (nI n)), (4, .int (nI a)), (5, .int (nI (kc + 1))), (6, .int (nI i))]) hx hb dX7_walks_220 hl (k := 8) rfl (by exact nI_1 _) (by decide) rfl (fun ls hl => ?_)
                          refine lv_goto (tgt := 173) hx hb dX7_walks_223 (by decide) ?_
                          refine W.widen (k := 0) (n := 0) (Nat.le_refl _) (Nat.le_refl _) ?_
                          exact ih_173 (t9 + 1) _ _ _ (show (t9 + 1) ≤ n - i from (by omega)) (show n - i - (t9 + 1) < n - i - t9 by omega) hP hD hS (lv_sub hl [2, 3, 4, 5, 6, 7, 8, 0] rfl)
                    · have c_152 : kl < n - i := g_nle (a := n - i) (b := kl) c_152 (by omega) (by omega)
                      refine lv_iload_n hx hb dX7_walks_155 rfl (lv_at hl 5 rfl) ?_
                      refine lv_iload hx hb dX7_walks_156 (lv_at hl 1 rfl) ?_
                      refine lv_isub hx hb dX7_walks_158 ?_
                      refine lv_topi (fun f ef => ?_)
                      obtain rfl : f = nI (n - i) := ef.trans (pk_sub (a := n) (b := i) (by omega))
                      refine lv_goto (tgt := 166) hx hb dX7_walks_159 (by decide) ?_
                      refine lv_topi (fun f ef => ?_)
                      obtain rfl : f = nI (max kl (n - i)) := ef.trans (congrArg nI (by omega))
                      refine va_put (D := D) (ci := 8) (v := .int (nI (max kl (n - i)))) (ty := .int) (C := RX7) (T := TX7) (N := 20) hx hb hts inX7 tyX7 tyX7_ok nmX7 hown hK hP hD hS 0 rfl rfl 15 (by decide) hfieldLink_RX7_127 (fun _ h9 => h9) rfl (by decide +kernel) rfl rfl (Nat.le_of_ble_eq_true rfl) dX7_walks_166 (fun H locs hP hD hS => ?_)
                      have hP : va_P D ccl (mW cI M mc ms mw mn mo mh mu mk mt mq mp my (fmk (nxO mc mw J) st mf n) (pmk (nxO mc mw J) st ma n) (nI (kc + 1)) (nI (max kl (n - i))) (nI kg) ov un la) H := hP
                      have hD : va_D A (mW cI M mc ms mw mn mo mh mu mk mt mq mp my (fmk (nxO mc mw J) st mf n) (pmk (nxO mc mw J) st ma n) (nI (kc + 1)) (nI (max kl (n - i))) (nI kg) ov un la) := hD
                      refine lv_iload hx hb dX7_walks_169 (lv_at hl 1 rfl) ?_
                      refine lv_istore (lv' := [(7, .int (nI i)), (5, .int (nI (kc + 1))), (6, .int (nI i)), (0, .ref (M 0)), (1, .int (nI J)), (2, .int (nI st)), (3, .int (nI n)), (4, .int (nI a))]) hx hb dX7_walks_171 hl (by decide) rfl (fun ls hl => ?_)
                      refine W.widen (k := 0) (n := 0) (Nat.le_refl _) (Nat.le_refl _) ?_
                      refine g_while (σ := Nat) (st := []) (nL := 9) (fun t9 => mW cI M mc ms mw mn mo mh mu mk mt mq mp my (fmk (nxO mc mw J) st mf n) (pmk (nxO mc mw J) st ma n) (nI (kc + 1)) (nI (max kl (n - i))) (nI (gmx (nxO mc mw J) st kg i t9)) ov un la)
                        (fun t9 => [(0, .ref (M 0)), (1, .int (nI J)), (2, .int (nI st)), (3, .int (nI n)), (4, .int (nI a)), (5, .int (nI (kc + 1))), (6, .int (nI i)), (7, .int (nI (i + t9)))])
                        (fun t9 => t9 ≤ n - i)
                        (fun t9 => n - i - t9) (fun t9 => 0) (fun t9 => 0)
                        ?_ 0 (Nat.zero_le _) hP hD hS (lv_sub hl [3, 4, 5, 6, 7, 1, 2, 0] rfl)
                      intro t9 hI H locs ls hP hD hS hl ih
                      have hI : t9 ≤ n - i := hI
                      have hP : va_P D ccl (mW cI M mc ms mw mn mo mh mu mk mt mq mp my (fmk (nxO mc mw J) st mf n) (pmk (nxO mc mw J) st ma n) (nI (kc + 1)) (nI (max kl (n - i))) (nI (gmx (nxO mc mw J) st kg i t9)) ov un la) H := hP
                      have hD : va_D A (mW cI M mc ms mw mn mo mh mu mk mt mq mp my (fmk (nxO mc mw J) st mf n) (pmk (nxO mc mw J) st ma n) (nI (kc + 1)) (nI (max kl (n - i))) (nI (gmx (nxO mc mw J) st kg i t9)) ov un la) := hD
                      have hl : lv_has ls 9 [(0, .ref (M 0)), (1, .int (nI J)), (2, .int (nI st)), (3, .int (nI n)), (4, .int (nI a)), (5, .int (nI (kc + 1))), (6, .int (nI i)), (7, .int (nI (i + t9)))] := hl
                      change W p l e _ s m _ below meth c H locs 0 0 _ (F0 m 173 ls [])
                      have ih_173 := ih
                      clear ih
                      refine lv_iload hx hb dX7_walks_173 (lv_at hl 7 rfl) ?_
                      refine lv_iload_n hx hb dX7_walks_175 rfl (lv_at hl 3 rfl) ?_
                      refine lv_icmp_ge (tgt := 226) hx hb dX7_walks_176 (by decide) (fun c_176 => ?_) (fun c_176 => ?_)
                      · have c_176 : n ≤ i + t9 := g_le (a := n) (b := i + t9) c_176 (by omega) (by omega)
                        obtain rfl : t9 = n - i := by omega
                        refine lv_iconst (v := 0) hx hb dX7_walks_226 (by decide) ?_
                        refine lv_istore (lv' := [(6, .int 0), (0, .ref (M 0)), (1, .int (nI J)), (2, .int (nI st)), (3, .int (nI n)), (4, .int (nI a)), (5, .int (nI (kc + 1))), (7, .int (nI (i + (n - i))))]) hx hb dX7_walks_227 hl (by decide) rfl (fun ls hl => ?_)
                        refine W.widen (k := 0) (n := 0) (Nat.le_refl _) (Nat.le_refl _) ?_
                        refine g_while (σ := Nat) (st := []) (nL := 9) (fun k => mW cI M mc ms mw mn mo mh mu mk mt mq mp my (sfm (fmk (nxO mc mw J) st mf n) (tv (nxO mc mw J) st) (nI (kc + 1)) k) (pmk (nxO mc mw J) st ma n) (nI (kc + 1)) (nI (max kl (n - i))) (nI (gmx (nxO mc mw J) st kg i (n - i))) ov un la)
                          (fun k => [(3, .int (nI n)), (0, .ref (M 0)), (5, .int (nI (kc + 1))), (6, .int (nI k))])
                          (fun k => k ≤ n)
                          (fun k => n - k) (fun k => 0) (fun k => 0)
                          ?_ 0 (Nat.zero_le n) hP hD hS (lv_sub hl [4, 1, 6, 0] rfl)
                        intro k hI H locs ls hP hD hS hl ih
                        have hI : k ≤ n := hI
                        have hP : va_P D ccl (mW cI M mc ms mw mn mo mh mu mk mt mq mp my (sfm (fmk (nxO mc mw J) st mf n) (tv (nxO mc mw J) st) (nI (kc + 1)) k) (pmk (nxO mc mw J) st ma n) (nI (kc + 1)) (nI (max kl (n - i))) (nI (gmx (nxO mc mw J) st kg i (n - i))) ov un la) H := hP
                        have hD : va_D A (mW cI M mc ms mw mn mo mh mu mk mt mq mp my (sfm (fmk (nxO mc mw J) st mf n) (tv (nxO mc mw J) st) (nI (kc + 1)) k) (pmk (nxO mc mw J) st ma n) (nI (kc + 1)) (nI (max kl (n - i))) (nI (gmx (nxO mc mw J) st kg i (n - i))) ov un la) := hD
                        have hl : lv_has ls 9 [(3, .int (nI n)), (0, .ref (M 0)), (5, .int (nI (kc + 1))), (6, .int (nI k))] := hl
                        change W p l e _ s m _ below meth c H locs 0 0 _ (F0 m 229 ls [])
                        have ih_229 := ih
                        clear ih
                        refine lv_iload hx hb dX7_walks_229 (lv_at hl 3 rfl) ?_
                        refine lv_iload_n hx hb dX7_walks_231 rfl (lv_at hl 0 rfl) ?_
                        refine lv_icmp_ge (tgt := 255) hx hb dX7_walks_232 (by decide) (fun c_232 => ?_) (fun c_232 => ?_)
                        · have c_232 : n ≤ k := g_le (a := n) (b := k) c_232 (by omega) (by omega)
                          obtain rfl : n = k := by omega
                          refine g_vret hx hb hr hlk hP hK hD hS (Nat.le_of_ble_eq_true rfl) (Nat.le_of_ble_eq_true rfl) dX7_walks_255 ?_
                          have hk9 : kF (nI (kc + 1)) = 2 := by
                            unfold kF
                            rw [if_neg (nI_ne0 (by omega) (by omega)), if_neg (fun h9 => nI_ne_m1 (by omega) h9)]
                          exact ⟨_, _, _, _, _, rfl, ⟨n, ⟨hw9, fun a9 h9 => Or.inr ⟨i, hi, by rw [ha] at h9; cases h9; exact hia⟩⟩, by
                            rw [kA_fin hX hst hw9]; unfold kd; rw [ha]; dsimp only; rw [if_pos hA0]; exact congrArg (fun d => amk (nxO mc mw J) st (kA mf) d n) hk9, ⟨fun i9 hi9 h9 hne => by
                              rw [ha] at h9
                              obtain rfl : i9 = i := way_one hw9 hi9 hi ((Option.some.inj h9).symm.trans hia.symm)
                              exact ⟨rfl, rfl, rfl⟩, fun h9 => absurd (hia.symm.trans (h9 i hi (by rw [ha, hia]))) hane⟩⟩, fOK_fin hF (by omega) (Or.inr (Or.inr ⟨kc + 1, Nat.le_refl _, rfl⟩)), by omega, by omega, gmx_le hkg (fun j9 hj9 => hT (i + j9) (by omega))⟩
                        · have c_232 : k < n := g_nle (a := n) (b := k) c_232 (by omega) (by omega)
                          refine lv_aload_n hx hb dX7_walks_235 rfl (lv_at hl 1 rfl) ?_
                          refine va_get (D := D) (ci := 8) (v := .ref (M 9)) (C := RX7) (T := TX7) (N := 20) hx hb hts inX7 hown hK hP 0 rfl rfl 12 (by decide) hfieldLink_RX7_35 (fun _ h9 => h9) rfl dX7_walks_236 ?_
                          refine lv_aload_n hx hb dX7_walks_239 rfl (lv_at hl 1 rfl) ?_
                          refine va_get (D := D) (ci := 8) (v := .ref (M 10)) (C := RX7) (T := TX7) (N := 20) hx hb hts inX7 hown hK hP 0 rfl rfl 13 (by decide) hfieldLink_RX7_38 (fun _ h9 => h9) rfl dX7_walks_240 ?_
                          refine lv_iload hx hb dX7_walks_243 (lv_at hl 3 rfl) ?_
                          refine va_iald hx hb hK hP 10 0 rfl rfl (vp_in_nI (by omega) (by omega)) dX7_walks_245 ?_
                          refine lv_topi (fun f ef => ?_)
                          obtain rfl : f = (pmk (nxO mc mw J) st ma n) k := ef.trans (congrArg (pmk (nxO mc mw J) st ma n) (nI_clamp (n := k) (by omega)))
                          refine lv_topi (fun f ef => ?_)
                          obtain rfl : f = nI (tv (nxO mc mw J) st k) := ef.trans (pmk_in c_232)
                          refine lv_iload hx hb dX7_walks_246 (lv_at hl 2 rfl) ?_
                          have hT6 := hT k c_232
                          refine va_iast hx hb hK hP hD hS 9 0 rfl rfl (vp_in_nI (hT k c_232) (by decide)) dX7_walks_248 (fun H locs hP hD hS => ?_)
                          rw [show (nI (tv (nxO mc mw J) st k)).toNatClampNeg = tv (nxO mc mw J) st k from (nI_clamp (by omega))] at hP hD
                          rw [show upd (sfm (fmk (nxO mc mw J) st mf n) (tv (nxO mc mw J) st) (nI (kc + 1)) k) (tv (nxO mc mw J) st k) (nI (kc + 1)) = sfm (fmk (nxO mc mw J) st mf n) (tv (nxO mc mw J) st) (nI (kc + 1)) (k + 1) from rfl] at hP hD
                          have hP : va_P D ccl (mW cI M mc ms mw mn mo mh mu mk mt mq mp my (sfm (fmk (nxO mc mw J) st mf n) (tv (nxO mc mw J) st) (nI (kc + 1)) (k + 1)) (pmk (nxO mc mw J) st ma n) (nI (kc + 1)) (nI (max kl (n - i))) (nI (gmx (nxO mc mw J) st kg i (n - i))) ov un la) H := hP
                          have hD : va_D A (mW cI M mc ms mw mn mo mh mu mk mt mq mp my (sfm (fmk (nxO mc mw J) st mf n) (tv (nxO mc mw J) st) (nI (kc + 1)) (k + 1)) (pmk (nxO mc mw J) st ma n) (nI (kc + 1)) (nI (max kl (n - i))) (nI (gmx (nxO mc mw J) st kg i (n - i))) ov un la) := hD
                          refine lv_iinc (v := nI (k + 1)) (lv' := [(6, .int (nI (k + 1))), (3, .int (nI n)), (0, .ref (M 0)), (5, .int (nI (kc + 1)))]) hx hb dX7_walks_249 hl (k := 3) rfl (by exact nI_1 _) (by decide) rfl (fun ls hl => ?_)
                          refine lv_goto (tgt := 229) hx hb dX7_walks_252 (by decide) ?_
                          refine W.widen (k := 0) (n := 0) (Nat.le_refl _) (Nat.le_refl _) ?_
                          exact ih_229 (k + 1) _ _ _ (show (k + 1) ≤ n from (by exact c_232)) (show n - (k + 1) < n - k by omega) hP hD hS (lv_sub hl [1, 2, 3, 0] rfl)
                      · have c_176 : i + t9 < n := g_nle (a := n) (b := i + t9) c_176 (by omega) (by omega)
                        refine lv_aload_n hx hb dX7_walks_179 rfl (lv_at hl 0 rfl) ?_
                        refine va_get (D := D) (ci := 8) (v := .ref (M 10)) (C := RX7) (T := TX7) (N := 20) hx hb hts inX7 hown hK hP 0 rfl rfl 13 (by decide) hfieldLink_RX7_38 (fun _ h9 => h9) rfl dX7_walks_180 ?_
                        refine lv_iload hx hb dX7_walks_183 (lv_at hl 7 rfl) ?_
                        refine va_iald hx hb hK hP 10 0 rfl rfl (vp_in_nI (by omega) (by omega)) dX7_walks_185 ?_
                        refine lv_topi (fun f ef => ?_)
                        obtain rfl : f = (pmk (nxO mc mw J) st ma n) (i + t9) := ef.trans (congrArg (pmk (nxO mc mw J) st ma n) (nI_clamp (n := i + t9) (by omega)))
                        refine lv_topi (fun f ef => ?_)
                        obtain rfl : f = nI (tv (nxO mc mw J) st (i + t9)) := ef.trans (pmk_in (by omega))
                        have hT7 := hT (i + t9) (by omega)
                        have hg7 : gmx (nxO mc mw J) st kg i t9 ≤ 200 := gmx_le hkg (fun j9 hj9 => hT (i + j9) (by omega))
                        refine lv_sipush (v := 201) hx hb dX7_walks_186 (by decide) ?_
                        refine lv_idiv hx hb dX7_walks_189 (by decide) ?_
                        refine lv_topi (fun f ef => ?_)
                        obtain rfl : f = nI ((tv (nxO mc mw J) st (i + t9)) / 201) := ef.trans (pk_div (a := tv (nxO mc mw J) st (i + t9)) (d := 201) (by omega) (by omega) (by omega))
                        refine lv_bipush (v := 100) hx hb dX7_walks_190 (by decide) ?_
                        refine lv_isub hx hb dX7_walks_192 ?_
                        have hPc : va_P D ccl [] H := fun k q h => by simp at h
                        have hDc : va_D A [] := ⟨fun i j p q h => by simp at h, fun k q h => by simp at h⟩
                        have hFc := va_free (wc := []) hD hS hA [] rfl
                        refine g_Si (As := [.int ((nI ((tv (nxO mc mw J) st (i + t9)) / 201)) - 100)]) (rest := []) CF (c_X7_size l D cI cJ cO df H.size ((nI ((tv (nxO mc mw J) st (i + t9)) / 201)) - 100) ) (va_cwS 1 hts gX7_walks_X7_size rfl rfl rfl (by decide +kernel) ⟨Nat.le_of_ble_eq_true rfl, Nat.le_of_ble_eq_true rfl⟩)  hPc hK hDc hV hH hS hFc rfl hl.1 rfl (Nat.le_of_ble_eq_true rfl) dX7_walks_193 ⟨Nat.le_of_ble_eq_true rfl, Nat.le_of_ble_eq_true rfl⟩ (fun r_193 w1 H1 locs1 hq hP1 hD1 hk hS hz => ?_)
                        obtain ⟨rfl, hr_193⟩ := hq
                        have hP := g_keep0 hP hk
                        clear hPc hDc hFc hP1 hD1 hk hz
                        generalize H1 = H at hP hS ⊢
                        have hP : va_P D ccl (mW cI M mc ms mw mn mo mh mu mk mt mq mp my (fmk (nxO mc mw J) st mf n) (pmk (nxO mc mw J) st ma n) (nI (kc + 1)) (nI (max kl (n - i))) (nI (gmx (nxO mc mw J) st kg i t9)) ov un la) H := hP
                        have hD : va_D A (mW cI M mc ms mw mn mo mh mu mk mt mq mp my (fmk (nxO mc mw J) st mf n) (pmk (nxO mc mw J) st ma n) (nI (kc + 1)) (nI (max kl (n - i))) (nI (gmx (nxO mc mw J) st kg i t9)) ov un la) := hD
                        subst hr_193
                        refine lv_topi (fun f ef => ?_)
                        obtain rfl : f = nI (ayq (tv (nxO mc mw J) st (i + t9) / 201)) := ef.trans (mSize_100 (by omega))
                        refine lv_istore (lv' := [(8, .int (nI (ayq (tv (nxO mc mw J) st (i + t9) / 201)))), (0, .ref (M 0)), (1, .int (nI J)), (2, .int (nI st)), (3, .int (nI n)), (4, .int (nI a)), (5, .int (nI (kc + 1))), (6, .int (nI i)), (7, .int (nI (i + t9)))]) hx hb dX7_walks_196 hl (by decide) rfl (fun ls hl => ?_)
                        refine lv_aload_n hx hb dX7_walks_198 rfl (lv_at hl 1 rfl) ?_
                        refine lv_iload hx hb dX7_walks_199 (lv_at hl 0 rfl) ?_
                        refine lv_aload_n hx hb dX7_walks_201 rfl (lv_at hl 1 rfl) ?_
                        refine va_get (D := D) (ci := 8) (v := .int (nI (gmx (nxO mc mw J) st kg i t9))) (C := RX7) (T := TX7) (N := 20) hx hb hts inX7 hown hK hP 0 rfl rfl 16 (by decide) hfieldLink_RX7_130 (fun _ h9 => h9) rfl dX7_walks_202 ?_
                        have hay7 := ayq_le (q := tv (nxO mc mw J) st (i + t9) / 201) (by omega)
                        refine lv_icmp_le (tgt := 213) hx hb dX7_walks_205 (by decide) (fun c_205 => ?_) (fun c_205 => ?_)
                        · have c_205 : ayq (tv (nxO mc mw J) st (i + t9) / 201) ≤ gmx (nxO mc mw J) st kg i t9 := g_le (a := ayq (tv (nxO mc mw J) st (i + t9) / 201)) (b := gmx (nxO mc mw J) st kg i t9) c_205 (by omega) (by omega)
                          refine lv_aload_n hx hb dX7_walks_213 rfl (lv_at hl 1 rfl) ?_
                          refine va_get (D := D) (ci := 8) (v := .int (nI (gmx (nxO mc mw J) st kg i t9))) (C := RX7) (T := TX7) (N := 20) hx hb hts inX7 hown hK hP 0 rfl rfl 16 (by decide) hfieldLink_RX7_130 (fun _ h9 => h9) rfl dX7_walks_214 ?_
                          refine lv_topi (fun f ef => ?_)
                          obtain rfl : f = nI (gmx (nxO mc mw J) st kg i (t9 + 1)) := ef.trans (congrArg nI (by rw [gmx_s]; omega))
                          refine va_put (D := D) (ci := 8) (v := .int (nI (gmx (nxO mc mw J) st kg i (t9 + 1)))) (ty := .int) (C := RX7) (T := TX7) (N := 20) hx hb hts inX7 tyX7 tyX7_ok nmX7 hown hK hP hD hS 0 rfl rfl 16 (by decide) hfieldLink_RX7_130 (fun _ h9 => h9) rfl (by decide +kernel) rfl rfl (Nat.le_of_ble_eq_true rfl) dX7_walks_217 (fun H locs hP hD hS => ?_)
                          have hP : va_P D ccl (mW cI M mc ms mw mn mo mh mu mk mt mq mp my (fmk (nxO mc mw J) st mf n) (pmk (nxO mc mw J) st ma n) (nI (kc + 1)) (nI (max kl (n - i))) (nI (gmx (nxO mc mw J) st kg i (t9 + 1))) ov un la) H := hP
                          have hD : va_D A (mW cI M mc ms mw mn mo mh mu mk mt mq mp my (fmk (nxO mc mw J) st mf n) (pmk (nxO mc mw J) st ma n) (nI (kc + 1)) (nI (max kl (n - i))) (nI (gmx (nxO mc mw J) st kg i (t9 + 1))) ov un la) := hD
                          refine lv_iinc (v := nI ((i + t9) + 1)) (lv' := [(7, .int (nI ((i + t9) + 1))), (8, .int (nI (ayq (tv (nxO mc mw J) st (i + t9) / 201)))), (0, .ref (M 0)), (1, .int (nI J)), (2, .int (nI st)), (3, .int (nI n)), (4, .int (nI a)), (5, .int (nI (kc + 1))), (6, .int (nI i))]) hx hb dX7_walks_220 hl (k := 8) rfl (by exact nI_1 _) (by decide) rfl (fun ls hl => ?_)
                          refine lv_goto (tgt := 173) hx hb dX7_walks_223 (by decide) ?_
                          refine W.widen (k := 0) (n := 0) (Nat.le_refl _) (Nat.le_refl _) ?_
                          exact ih_173 (t9 + 1) _ _ _ (show (t9 + 1) ≤ n - i from (by omega)) (show n - i - (t9 + 1) < n - i - t9 by omega) hP hD hS (lv_sub hl [2, 3, 4, 5, 6, 7, 8, 0] rfl)
                        · have c_205 : gmx (nxO mc mw J) st kg i t9 < ayq (tv (nxO mc mw J) st (i + t9) / 201) := g_nle (a := ayq (tv (nxO mc mw J) st (i + t9) / 201)) (b := gmx (nxO mc mw J) st kg i t9) c_205 (by omega) (by omega)
                          refine lv_iload hx hb dX7_walks_208 (lv_at hl 0 rfl) ?_
                          refine lv_goto (tgt := 217) hx hb dX7_walks_210 (by decide) ?_
                          refine lv_topi (fun f ef => ?_)
                          obtain rfl : f = nI (gmx (nxO mc mw J) st kg i (t9 + 1)) := ef.trans (congrArg nI (by rw [gmx_s]; omega))
                          refine va_put (D := D) (ci := 8) (v := .int (nI (gmx (nxO mc mw J) st kg i (t9 + 1)))) (ty := .int) (C := RX7) (T := TX7) (N := 20) hx hb hts inX7 tyX7 tyX7_ok nmX7 hown hK hP hD hS 0 rfl rfl 16 (by decide) hfieldLink_RX7_130 (fun _ h9 => h9) rfl (by decide +kernel) rfl rfl (Nat.le_of_ble_eq_true rfl) dX7_walks_217 (fun H locs hP hD hS => ?_)
                          have hP : va_P D ccl (mW cI M mc ms mw mn mo mh mu mk mt mq mp my (fmk (nxO mc mw J) st mf n) (pmk (nxO mc mw J) st ma n) (nI (kc + 1)) (nI (max kl (n - i))) (nI (gmx (nxO mc mw J) st kg i (t9 + 1))) ov un la) H := hP
                          have hD : va_D A (mW cI M mc ms mw mn mo mh mu mk mt mq mp my (fmk (nxO mc mw J) st mf n) (pmk (nxO mc mw J) st ma n) (nI (kc + 1)) (nI (max kl (n - i))) (nI (gmx (nxO mc mw J) st kg i (t9 + 1))) ov un la) := hD
                          refine lv_iinc (v := nI ((i + t9) + 1)) (lv' := [(7, .int (nI ((i + t9) + 1))), (8, .int (nI (ayq (tv (nxO mc mw J) st (i + t9) / 201)))), (0, .ref (M 0)), (1, .int (nI J)), (2, .int (nI st)), (3, .int (nI n)), (4, .int (nI a)), (5, .int (nI (kc + 1))), (6, .int (nI i))]) hx hb dX7_walks_220 hl (k := 8) rfl (by exact nI_1 _) (by decide) rfl (fun ls hl => ?_)
                          refine lv_goto (tgt := 173) hx hb dX7_walks_223 (by decide) ?_
                          refine W.widen (k := 0) (n := 0) (Nat.le_refl _) (Nat.le_refl _) ?_
                          exact ih_173 (t9 + 1) _ _ _ (show (t9 + 1) ≤ n - i from (by omega)) (show n - i - (t9 + 1) < n - i - t9 by omega) hP hD hS (lv_sub hl [2, 3, 4, 5, 6, 7, 8, 0] rfl)
                · exact (nI_ne_m2 (by omega) c_124).elim
              · have c_91 : n - i = 1 := g_eq (a := n - i) (b := 1) c_91 (by omega) (by omega)
                refine lv_iload hx hb dX7_walks_94 (lv_at hl 6 rfl) ?_
                refine lv_sipush (v := 20200) hx hb dX7_walks_96 (by decide) ?_
                refine lv_icmp_ne (tgt := 107) hx hb dX7_walks_99 (by decide) (fun c_99 => ?_) (fun c_99 => ?_)
                · have c_99 : a ≠ 20200 := g_ne (a := a) (b := 20200) c_99 (by omega) (by omega)
                  have hane : a ≠ 20200 := c_99
                  refine lv_aload_n hx hb dX7_walks_107 rfl (lv_at hl 2 rfl) ?_
                  refine va_get (D := D) (ci := 8) (v := .int (nI kc)) (C := RX7) (T := TX7) (N := 20) hx hb hts inX7 hown hK hP 0 rfl rfl 14 (by decide) hfieldLink_RX7_124 (fun _ h9 => h9) rfl dX7_walks_108 ?_
                  refine lv_iconst (v := 1) hx hb dX7_walks_111 (by decide) ?_
                  refine lv_iadd hx hb dX7_walks_112 ?_
                  refine lv_topi (fun f ef => ?_)
                  obtain rfl : f = nI (kc + 1) := ef.trans (nI_add _ _)
                  refine lv_istore (lv' := [(5, .int (nI (kc + 1))), (6, .int (nI i)), (0, .ref (M 0)), (1, .int (nI J)), (2, .int (nI st)), (3, .int (nI n)), (4, .int (nI a))]) hx hb dX7_walks_113 hl (by decide) rfl (fun ls hl => ?_)
                  refine lv_aload_n hx hb dX7_walks_115 rfl (lv_at hl 2 rfl) ?_
                  refine lv_dup hx hb dX7_walks_116 rfl ?_
                  refine va_get (D := D) (ci := 8) (v := .int (nI kc)) (C := RX7) (T := TX7) (N := 20) hx hb hts inX7 hown hK hP 0 rfl rfl 14 (by decide) hfieldLink_RX7_124 (fun _ h9 => h9) rfl dX7_walks_117 ?_
                  refine lv_iload hx hb dX7_walks_120 (lv_at hl 0 rfl) ?_
                  refine lv_bipush (v := (-2)) hx hb dX7_walks_122 (by decide) ?_
                  refine lv_icmp_ne (tgt := 131) hx hb dX7_walks_124 (by decide) (fun c_124 => ?_) (fun c_124 => ?_)
                  · refine lv_iconst (v := 1) hx hb dX7_walks_131 (by decide) ?_
                    refine lv_iadd hx hb dX7_walks_132 ?_
                    refine lv_topi (fun f ef => ?_)
                    obtain rfl : f = nI (kc + 1) := ef.trans (nI_add _ _)
                    refine va_put (D := D) (ci := 8) (v := .int (nI (kc + 1))) (ty := .int) (C := RX7) (T := TX7) (N := 20) hx hb hts inX7 tyX7 tyX7_ok nmX7 hown hK hP hD hS 0 rfl rfl 14 (by decide) hfieldLink_RX7_124 (fun _ h9 => h9) rfl (by decide +kernel) rfl rfl (Nat.le_of_ble_eq_true rfl) dX7_walks_133 (fun H locs hP hD hS => ?_)
                    have hP : va_P D ccl (mW cI M mc ms mw mn mo mh mu mk mt mq mp my (fmk (nxO mc mw J) st mf n) (pmk (nxO mc mw J) st ma n) (nI (kc + 1)) (nI kl) (nI kg) ov un la) H := hP
                    have hD : va_D A (mW cI M mc ms mw mn mo mh mu mk mt mq mp my (fmk (nxO mc mw J) st mf n) (pmk (nxO mc mw J) st ma n) (nI (kc + 1)) (nI kl) (nI kg) ov un la) := hD
                    refine lv_aload_n hx hb dX7_walks_136 rfl (lv_at hl 2 rfl) ?_
                    refine lv_iload hx hb dX7_walks_137 (lv_at hl 0 rfl) ?_
                    refine lv_bipush (v := (-2)) hx hb dX7_walks_139 (by decide) ?_
                    refine lv_icmp_eq (tgt := 162) hx hb dX7_walks_141 (by decide) (fun c_141 => ?_) (fun c_141 => ?_)
                    · exact (nI_ne_m2 (by omega) c_141).elim
                    · refine lv_iload_n hx hb dX7_walks_144 rfl (lv_at hl 5 rfl) ?_
                      refine lv_iload hx hb dX7_walks_145 (lv_at hl 1 rfl) ?_
                      refine lv_isub hx hb dX7_walks_147 ?_
                      refine lv_topi (fun f ef => ?_)
                      obtain rfl : f = nI (n - i) := ef.trans (pk_sub (a := n) (b := i) (by omega))
                      refine lv_aload_n hx hb dX7_walks_148 rfl (lv_at hl 2 rfl) ?_
                      refine va_get (D := D) (ci := 8) (v := .int (nI kl)) (C := RX7) (T := TX7) (N := 20) hx hb hts inX7 hown hK hP 0 rfl rfl 15 (by decide) hfieldLink_RX7_127 (fun _ h9 => h9) rfl dX7_walks_149 ?_
                      refine lv_icmp_le (tgt := 162) hx hb dX7_walks_152 (by decide) (fun c_152 => ?_) (fun c_152 => ?_)
                      · have c_152 : n - i ≤ kl := g_le (a := n - i) (b := kl) c_152 (by omega) (by omega)
                        refine lv_aload_n hx hb dX7_walks_162 rfl (lv_at hl 2 rfl) ?_
                        refine va_get (D := D) (ci := 8) (v := .int (nI kl)) (C := RX7) (T := TX7) (N := 20) hx hb hts inX7 hown hK hP 0 rfl rfl 15 (by decide) hfieldLink_RX7_127 (fun _ h9 => h9) rfl dX7_walks_163 ?_
                        refine lv_topi (fun f ef => ?_)
                        obtain rfl : f = nI (max kl (n - i)) := ef.trans (congrArg nI (by omega))
                        refine va_put (D := D) (ci := 8) (v := .int (nI (max kl (n - i)))) (ty := .int) (C := RX7) (T := TX7) (N := 20) hx hb hts inX7 tyX7 tyX7_ok nmX7 hown hK hP hD hS 0 rfl rfl 15 (by decide) hfieldLink_RX7_127 (fun _ h9 => h9) rfl (by decide +kernel) rfl rfl (Nat.le_of_ble_eq_true rfl) dX7_walks_166 (fun H locs hP hD hS => ?_)
                        have hP : va_P D ccl (mW cI M mc ms mw mn mo mh mu mk mt mq mp my (fmk (nxO mc mw J) st mf n) (pmk (nxO mc mw J) st ma n) (nI (kc + 1)) (nI (max kl (n - i))) (nI kg) ov un la) H := hP
                        have hD : va_D A (mW cI M mc ms mw mn mo mh mu mk mt mq mp my (fmk (nxO mc mw J) st mf n) (pmk (nxO mc mw J) st ma n) (nI (kc + 1)) (nI (max kl (n - i))) (nI kg) ov un la) := hD
                        refine lv_iload hx hb dX7_walks_169 (lv_at hl 1 rfl) ?_
                        refine lv_istore (lv' := [(7, .int (nI i)), (5, .int (nI (kc + 1))), (6, .int (nI i)), (0, .ref (M 0)), (1, .int (nI J)), (2, .int (nI st)), (3, .int (nI n)), (4, .int (nI a))]) hx hb dX7_walks_171 hl (by decide) rfl (fun ls hl => ?_)
                        refine W.widen (k := 0) (n := 0) (Nat.le_refl _) (Nat.le_refl _) ?_
                        refine g_while (σ := Nat) (st := []) (nL := 9) (fun t9 => mW cI M mc ms mw mn mo mh mu mk mt mq mp my (fmk (nxO mc mw J) st mf n) (pmk (nxO mc mw J) st ma n) (nI (kc + 1)) (nI (max kl (n - i))) (nI (gmx (nxO mc mw J) st kg i t9)) ov un la)
                          (fun t9 => [(0, .ref (M 0)), (1, .int (nI J)), (2, .int (nI st)), (3, .int (nI n)), (4, .int (nI a)), (5, .int (nI (kc + 1))), (6, .int (nI i)), (7, .int (nI (i + t9)))])
                          (fun t9 => t9 ≤ n - i)
                          (fun t9 => n - i - t9) (fun t9 => 0) (fun t9 => 0)
                          ?_ 0 (Nat.zero_le _) hP hD hS (lv_sub hl [3, 4, 5, 6, 7, 1, 2, 0] rfl)
                        intro t9 hI H locs ls hP hD hS hl ih
                        have hI : t9 ≤ n - i := hI
                        have hP : va_P D ccl (mW cI M mc ms mw mn mo mh mu mk mt mq mp my (fmk (nxO mc mw J) st mf n) (pmk (nxO mc mw J) st ma n) (nI (kc + 1)) (nI (max kl (n - i))) (nI (gmx (nxO mc mw J) st kg i t9)) ov un la) H := hP
                        have hD : va_D A (mW cI M mc ms mw mn mo mh mu mk mt mq mp my (fmk (nxO mc mw J) st mf n) (pmk (nxO mc mw J) st ma n) (nI (kc + 1)) (nI (max kl (n - i))) (nI (gmx (nxO mc mw J) st kg i t9)) ov un la) := hD
                        have hl : lv_has ls 9 [(0, .ref (M 0)), (1, .int (nI J)), (2, .int (nI st)), (3, .int (nI n)), (4, .int (nI a)), (5, .int (nI (kc + 1))), (6, .int (nI i)), (7, .int (nI (i + t9)))] := hl
                        change W p l e _ s m _ below meth c H locs 0 0 _ (F0 m 173 ls [])
                        have ih_173 := ih
                        clear ih
                        refine lv_iload hx hb dX7_walks_173 (lv_at hl 7 rfl) ?_
                        refine lv_iload_n hx hb dX7_walks_175 rfl (lv_at hl 3 rfl) ?_
                        refine lv_icmp_ge (tgt := 226) hx hb dX7_walks_176 (by decide) (fun c_176 => ?_) (fun c_176 => ?_)
                        · have c_176 : n ≤ i + t9 := g_le (a := n) (b := i + t9) c_176 (by omega) (by omega)
                          obtain rfl : t9 = n - i := by omega
                          refine lv_iconst (v := 0) hx hb dX7_walks_226 (by decide) ?_
                          refine lv_istore (lv' := [(6, .int 0), (0, .ref (M 0)), (1, .int (nI J)), (2, .int (nI st)), (3, .int (nI n)), (4, .int (nI a)), (5, .int (nI (kc + 1))), (7, .int (nI (i + (n - i))))]) hx hb dX7_walks_227 hl (by decide) rfl (fun ls hl => ?_)
                          refine W.widen (k := 0) (n := 0) (Nat.le_refl _) (Nat.le_refl _) ?_
                          refine g_while (σ := Nat) (st := []) (nL := 9) (fun k => mW cI M mc ms mw mn mo mh mu mk mt mq mp my (sfm (fmk (nxO mc mw J) st mf n) (tv (nxO mc mw J) st) (nI (kc + 1)) k) (pmk (nxO mc mw J) st ma n) (nI (kc + 1)) (nI (max kl (n - i))) (nI (gmx (nxO mc mw J) st kg i (n - i))) ov un la)
                            (fun k => [(3, .int (nI n)), (0, .ref (M 0)), (5, .int (nI (kc + 1))), (6, .int (nI k))])
                            (fun k => k ≤ n)
                            (fun k => n - k) (fun k => 0) (fun k => 0)
                            ?_ 0 (Nat.zero_le n) hP hD hS (lv_sub hl [4, 1, 6, 0] rfl)
                          intro k hI H locs ls hP hD hS hl ih
                          have hI : k ≤ n := hI
                          have hP : va_P D ccl (mW cI M mc ms mw mn mo mh mu mk mt mq mp my (sfm (fmk (nxO mc mw J) st mf n) (tv (nxO mc mw J) st) (nI (kc + 1)) k) (pmk (nxO mc mw J) st ma n) (nI (kc + 1)) (nI (max kl (n - i))) (nI (gmx (nxO mc mw J) st kg i (n - i))) ov un la) H := hP
                          have hD : va_D A (mW cI M mc ms mw mn mo mh mu mk mt mq mp my (sfm (fmk (nxO mc mw J) st mf n) (tv (nxO mc mw J) st) (nI (kc + 1)) k) (pmk (nxO mc mw J) st ma n) (nI (kc + 1)) (nI (max kl (n - i))) (nI (gmx (nxO mc mw J) st kg i (n - i))) ov un la) := hD
                          have hl : lv_has ls 9 [(3, .int (nI n)), (0, .ref (M 0)), (5, .int (nI (kc + 1))), (6, .int (nI k))] := hl
                          change W p l e _ s m _ below meth c H locs 0 0 _ (F0 m 229 ls [])
                          have ih_229 := ih
                          clear ih
                          refine lv_iload hx hb dX7_walks_229 (lv_at hl 3 rfl) ?_
                          refine lv_iload_n hx hb dX7_walks_231 rfl (lv_at hl 0 rfl) ?_
                          refine lv_icmp_ge (tgt := 255) hx hb dX7_walks_232 (by decide) (fun c_232 => ?_) (fun c_232 => ?_)
                          · have c_232 : n ≤ k := g_le (a := n) (b := k) c_232 (by omega) (by omega)
                            obtain rfl : n = k := by omega
                            refine g_vret hx hb hr hlk hP hK hD hS (Nat.le_of_ble_eq_true rfl) (Nat.le_of_ble_eq_true rfl) dX7_walks_255 ?_
                            have hk9 : kF (nI (kc + 1)) = 2 := by
                              unfold kF
                              rw [if_neg (nI_ne0 (by omega) (by omega)), if_neg (fun h9 => nI_ne_m1 (by omega) h9)]
                            exact ⟨_, _, _, _, _, rfl, ⟨n, ⟨hw9, fun a9 h9 => Or.inr ⟨i, hi, by rw [ha] at h9; cases h9; exact hia⟩⟩, by
                              rw [kA_fin hX hst hw9]; unfold kd; rw [ha]; dsimp only; rw [if_pos hA0]; exact congrArg (fun d => amk (nxO mc mw J) st (kA mf) d n) hk9, ⟨fun i9 hi9 h9 hne => by
                                rw [ha] at h9
                                obtain rfl : i9 = i := way_one hw9 hi9 hi ((Option.some.inj h9).symm.trans hia.symm)
                                exact ⟨rfl, rfl, rfl⟩, fun h9 => absurd (hia.symm.trans (h9 i hi (by rw [ha, hia]))) hane⟩⟩, fOK_fin hF (by omega) (Or.inr (Or.inr ⟨kc + 1, Nat.le_refl _, rfl⟩)), by omega, by omega, gmx_le hkg (fun j9 hj9 => hT (i + j9) (by omega))⟩
                          · have c_232 : k < n := g_nle (a := n) (b := k) c_232 (by omega) (by omega)
                            refine lv_aload_n hx hb dX7_walks_235 rfl (lv_at hl 1 rfl) ?_
                            refine va_get (D := D) (ci := 8) (v := .ref (M 9)) (C := RX7) (T := TX7) (N := 20) hx hb hts inX7 hown hK hP 0 rfl rfl 12 (by decide) hfieldLink_RX7_35 (fun _ h9 => h9) rfl dX7_walks_236 ?_
                            refine lv_aload_n hx hb dX7_walks_239 rfl (lv_at hl 1 rfl) ?_
                            refine va_get (D := D) (ci := 8) (v := .ref (M 10)) (C := RX7) (T := TX7) (N := 20) hx hb hts inX7 hown hK hP 0 rfl rfl 13 (by decide) hfieldLink_RX7_38 (fun _ h9 => h9) rfl dX7_walks_240 ?_
                            refine lv_iload hx hb dX7_walks_243 (lv_at hl 3 rfl) ?_
                            refine va_iald hx hb hK hP 10 0 rfl rfl (vp_in_nI (by omega) (by omega)) dX7_walks_245 ?_
                            refine lv_topi (fun f ef => ?_)
                            obtain rfl : f = (pmk (nxO mc mw J) st ma n) k := ef.trans (congrArg (pmk (nxO mc mw J) st ma n) (nI_clamp (n := k) (by omega)))
                            refine lv_topi (fun f ef => ?_)
                            obtain rfl : f = nI (tv (nxO mc mw J) st k) := ef.trans (pmk_in c_232)
                            refine lv_iload hx hb dX7_walks_246 (lv_at hl 2 rfl) ?_
                            have hT6 := hT k c_232
                            refine va_iast hx hb hK hP hD hS 9 0 rfl rfl (vp_in_nI (hT k c_232) (by decide)) dX7_walks_248 (fun H locs hP hD hS => ?_)
                            rw [show (nI (tv (nxO mc mw J) st k)).toNatClampNeg = tv (nxO mc mw J) st k from (nI_clamp (by omega))] at hP hD
                            rw [show upd (sfm (fmk (nxO mc mw J) st mf n) (tv (nxO mc mw J) st) (nI (kc + 1)) k) (tv (nxO mc mw J) st k) (nI (kc + 1)) = sfm (fmk (nxO mc mw J) st mf n) (tv (nxO mc mw J) st) (nI (kc + 1)) (k + 1) from rfl] at hP hD
                            have hP : va_P D ccl (mW cI M mc ms mw mn mo mh mu mk mt mq mp my (sfm (fmk (nxO mc mw J) st mf n) (tv (nxO mc mw J) st) (nI (kc + 1)) (k + 1)) (pmk (nxO mc mw J) st ma n) (nI (kc + 1)) (nI (max kl (n - i))) (nI (gmx (nxO mc mw J) st kg i (n - i))) ov un la) H := hP
                            have hD : va_D A (mW cI M mc ms mw mn mo mh mu mk mt mq mp my (sfm (fmk (nxO mc mw J) st mf n) (tv (nxO mc mw J) st) (nI (kc + 1)) (k + 1)) (pmk (nxO mc mw J) st ma n) (nI (kc + 1)) (nI (max kl (n - i))) (nI (gmx (nxO mc mw J) st kg i (n - i))) ov un la) := hD
                            refine lv_iinc (v := nI (k + 1)) (lv' := [(6, .int (nI (k + 1))), (3, .int (nI n)), (0, .ref (M 0)), (5, .int (nI (kc + 1)))]) hx hb dX7_walks_249 hl (k := 3) rfl (by exact nI_1 _) (by decide) rfl (fun ls hl => ?_)
                            refine lv_goto (tgt := 229) hx hb dX7_walks_252 (by decide) ?_
                            refine W.widen (k := 0) (n := 0) (Nat.le_refl _) (Nat.le_refl _) ?_
                            exact ih_229 (k + 1) _ _ _ (show (k + 1) ≤ n from (by exact c_232)) (show n - (k + 1) < n - k by omega) hP hD hS (lv_sub hl [1, 2, 3, 0] rfl)
                        · have c_176 : i + t9 < n := g_nle (a := n) (b := i + t9) c_176 (by omega) (by omega)
                          refine lv_aload_n hx hb dX7_walks_179 rfl (lv_at hl 0 rfl) ?_
                          refine va_get (D := D) (ci := 8) (v := .ref (M 10)) (C := RX7) (T := TX7) (N := 20) hx hb hts inX7 hown hK hP 0 rfl rfl 13 (by decide) hfieldLink_RX7_38 (fun _ h9 => h9) rfl dX7_walks_180 ?_
                          refine lv_iload hx hb dX7_walks_183 (lv_at hl 7 rfl) ?_
                          refine va_iald hx hb hK hP 10 0 rfl rfl (vp_in_nI (by omega) (by omega)) dX7_walks_185 ?_
                          refine lv_topi (fun f ef => ?_)
                          obtain rfl : f = (pmk (nxO mc mw J) st ma n) (i + t9) := ef.trans (congrArg (pmk (nxO mc mw J) st ma n) (nI_clamp (n := i + t9) (by omega)))
                          refine lv_topi (fun f ef => ?_)
                          obtain rfl : f = nI (tv (nxO mc mw J) st (i + t9)) := ef.trans (pmk_in (by omega))
                          have hT7 := hT (i + t9) (by omega)
                          have hg7 : gmx (nxO mc mw J) st kg i t9 ≤ 200 := gmx_le hkg (fun j9 hj9 => hT (i + j9) (by omega))
                          refine lv_sipush (v := 201) hx hb dX7_walks_186 (by decide) ?_
                          refine lv_idiv hx hb dX7_walks_189 (by decide) ?_
                          refine lv_topi (fun f ef => ?_)
                          obtain rfl : f = nI ((tv (nxO mc mw J) st (i + t9)) / 201) := ef.trans (pk_div (a := tv (nxO mc mw J) st (i + t9)) (d := 201) (by omega) (by omega) (by omega))
                          refine lv_bipush (v := 100) hx hb dX7_walks_190 (by decide) ?_
                          refine lv_isub hx hb dX7_walks_192 ?_
                          have hPc : va_P D ccl [] H := fun k q h => by simp at h
                          have hDc : va_D A [] := ⟨fun i j p q h => by simp at h, fun k q h => by simp at h⟩
                          have hFc := va_free (wc := []) hD hS hA [] rfl
                          refine g_Si (As := [.int ((nI ((tv (nxO mc mw J) st (i + t9)) / 201)) - 100)]) (rest := []) CF (c_X7_size l D cI cJ cO df H.size ((nI ((tv (nxO mc mw J) st (i + t9)) / 201)) - 100) ) (va_cwS 1 hts gX7_walks_X7_size rfl rfl rfl (by decide +kernel) ⟨Nat.le_of_ble_eq_true rfl, Nat.le_of_ble_eq_true rfl⟩)  hPc hK hDc hV hH hS hFc rfl hl.1 rfl (Nat.le_of_ble_eq_true rfl) dX7_walks_193 ⟨Nat.le_of_ble_eq_true rfl, Nat.le_of_ble_eq_true rfl⟩ (fun r_193 w1 H1 locs1 hq hP1 hD1 hk hS hz => ?_)
                          obtain ⟨rfl, hr_193⟩ := hq
                          have hP := g_keep0 hP hk
                          clear hPc hDc hFc hP1 hD1 hk hz
                          generalize H1 = H at hP hS ⊢
                          have hP : va_P D ccl (mW cI M mc ms mw mn mo mh mu mk mt mq mp my (fmk (nxO mc mw J) st mf n) (pmk (nxO mc mw J) st ma n) (nI (kc + 1)) (nI (max kl (n - i))) (nI (gmx (nxO mc mw J) st kg i t9)) ov un la) H := hP
                          have hD : va_D A (mW cI M mc ms mw mn mo mh mu mk mt mq mp my (fmk (nxO mc mw J) st mf n) (pmk (nxO mc mw J) st ma n) (nI (kc + 1)) (nI (max kl (n - i))) (nI (gmx (nxO mc mw J) st kg i t9)) ov un la) := hD
                          subst hr_193
                          refine lv_topi (fun f ef => ?_)
                          obtain rfl : f = nI (ayq (tv (nxO mc mw J) st (i + t9) / 201)) := ef.trans (mSize_100 (by omega))
                          refine lv_istore (lv' := [(8, .int (nI (ayq (tv (nxO mc mw J) st (i + t9) / 201)))), (0, .ref (M 0)), (1, .int (nI J)), (2, .int (nI st)), (3, .int (nI n)), (4, .int (nI a)), (5, .int (nI (kc + 1))), (6, .int (nI i)), (7, .int (nI (i + t9)))]) hx hb dX7_walks_196 hl (by decide) rfl (fun ls hl => ?_)
                          refine lv_aload_n hx hb dX7_walks_198 rfl (lv_at hl 1 rfl) ?_
                          refine lv_iload hx hb dX7_walks_199 (lv_at hl 0 rfl) ?_
                          refine lv_aload_n hx hb dX7_walks_201 rfl (lv_at hl 1 rfl) ?_
                          refine va_get (D := D) (ci := 8) (v := .int (nI (gmx (nxO mc mw J) st kg i t9))) (C := RX7) (T := TX7) (N := 20) hx hb hts inX7 hown hK hP 0 rfl rfl 16 (by decide) hfieldLink_RX7_130 (fun _ h9 => h9) rfl dX7_walks_202 ?_
                          have hay7 := ayq_le (q := tv (nxO mc mw J) st (i + t9) / 201) (by omega)
                          refine lv_icmp_le (tgt := 213) hx hb dX7_walks_205 (by decide) (fun c_205 => ?_) (fun c_205 => ?_)
                          · have c_205 : ayq (tv (nxO mc mw J) st (i + t9) / 201) ≤ gmx (nxO mc mw J) st kg i t9 := g_le (a := ayq (tv (nxO mc mw J) st (i + t9) / 201)) (b := gmx (nxO mc mw J) st kg i t9) c_205 (by omega) (by omega)
                            refine lv_aload_n hx hb dX7_walks_213 rfl (lv_at hl 1 rfl) ?_
                            refine va_get (D := D) (ci := 8) (v := .int (nI (gmx (nxO mc mw J) st kg i t9))) (C := RX7) (T := TX7) (N := 20) hx hb hts inX7 hown hK hP 0 rfl rfl 16 (by decide) hfieldLink_RX7_130 (fun _ h9 => h9) rfl dX7_walks_214 ?_
                            refine lv_topi (fun f ef => ?_)
                            obtain rfl : f = nI (gmx (nxO mc mw J) st kg i (t9 + 1)) := ef.trans (congrArg nI (by rw [gmx_s]; omega))
                            refine va_put (D := D) (ci := 8) (v := .int (nI (gmx (nxO mc mw J) st kg i (t9 + 1)))) (ty := .int) (C := RX7) (T := TX7) (N := 20) hx hb hts inX7 tyX7 tyX7_ok nmX7 hown hK hP hD hS 0 rfl rfl 16 (by decide) hfieldLink_RX7_130 (fun _ h9 => h9) rfl (by decide +kernel) rfl rfl (Nat.le_of_ble_eq_true rfl) dX7_walks_217 (fun H locs hP hD hS => ?_)
                            have hP : va_P D ccl (mW cI M mc ms mw mn mo mh mu mk mt mq mp my (fmk (nxO mc mw J) st mf n) (pmk (nxO mc mw J) st ma n) (nI (kc + 1)) (nI (max kl (n - i))) (nI (gmx (nxO mc mw J) st kg i (t9 + 1))) ov un la) H := hP
                            have hD : va_D A (mW cI M mc ms mw mn mo mh mu mk mt mq mp my (fmk (nxO mc mw J) st mf n) (pmk (nxO mc mw J) st ma n) (nI (kc + 1)) (nI (max kl (n - i))) (nI (gmx (nxO mc mw J) st kg i (t9 + 1))) ov un la) := hD
                            refine lv_iinc (v := nI ((i + t9) + 1)) (lv' := [(7, .int (nI ((i + t9) + 1))), (8, .int (nI (ayq (tv (nxO mc mw J) st (i + t9) / 201)))), (0, .ref (M 0)), (1, .int (nI J)), (2, .int (nI st)), (3, .int (nI n)), (4, .int (nI a)), (5, .int (nI (kc + 1))), (6, .int (nI i))]) hx hb dX7_walks_220 hl (k := 8) rfl (by exact nI_1 _) (by decide) rfl (fun ls hl => ?_)
                            refine lv_goto (tgt := 173) hx hb dX7_walks_223 (by decide) ?_
                            refine W.widen (k := 0) (n := 0) (Nat.le_refl _) (Nat.le_refl _) ?_
                            exact ih_173 (t9 + 1) _ _ _ (show (t9 + 1) ≤ n - i from (by omega)) (show n - i - (t9 + 1) < n - i - t9 by omega) hP hD hS (lv_sub hl [2, 3, 4, 5, 6, 7, 8, 0] rfl)
                          · have c_205 : gmx (nxO mc mw J) st kg i t9 < ayq (tv (nxO mc mw J) st (i + t9) / 201) := g_nle (a := ayq (tv (nxO mc mw J) st (i + t9) / 201)) (b := gmx (nxO mc mw J) st kg i t9) c_205 (by omega) (by omega)
                            refine lv_iload hx hb dX7_walks_208 (lv_at hl 0 rfl) ?_
                            refine lv_goto (tgt := 217) hx hb dX7_walks_210 (by decide) ?_
                            refine lv_topi (fun f ef => ?_)
                            obtain rfl : f = nI (gmx (nxO mc mw J) st kg i (t9 + 1)) := ef.trans (congrArg nI (by rw [gmx_s]; omega))
                            refine va_put (D := D) (ci := 8) (v := .int (nI (gmx (nxO mc mw J) st kg i (t9 + 1)))) (ty := .int) (C := RX7) (T := TX7) (N := 20) hx hb hts inX7 tyX7 tyX7_ok nmX7 hown hK hP hD hS 0 rfl rfl 16 (by decide) hfieldLink_RX7_130 (fun _ h9 => h9) rfl (by decide +kernel) rfl rfl (Nat.le_of_ble_eq_true rfl) dX7_walks_217 (fun H locs hP hD hS => ?_)
                            have hP : va_P D ccl (mW cI M mc ms mw mn mo mh mu mk mt mq mp my (fmk (nxO mc mw J) st mf n) (pmk (nxO mc mw J) st ma n) (nI (kc + 1)) (nI (max kl (n - i))) (nI (gmx (nxO mc mw J) st kg i (t9 + 1))) ov un la) H := hP
                            have hD : va_D A (mW cI M mc ms mw mn mo mh mu mk mt mq mp my (fmk (nxO mc mw J) st mf n) (pmk (nxO mc mw J) st ma n) (nI (kc + 1)) (nI (max kl (n - i))) (nI (gmx (nxO mc mw J) st kg i (t9 + 1))) ov un la) := hD
                            refine lv_iinc (v := nI ((i + t9) + 1)) (lv' := [(7, .int (nI ((i + t9) + 1))), (8, .int (nI (ayq (tv (nxO mc mw J) st (i + t9) / 201)))), (0, .ref (M 0)), (1, .int (nI J)), (2, .int (nI st)), (3, .int (nI n)), (4, .int (nI a)), (5, .int (nI (kc + 1))), (6, .int (nI i))]) hx hb dX7_walks_220 hl (k := 8) rfl (by exact nI_1 _) (by decide) rfl (fun ls hl => ?_)
                            refine lv_goto (tgt := 173) hx hb dX7_walks_223 (by decide) ?_
                            refine W.widen (k := 0) (n := 0) (Nat.le_refl _) (Nat.le_refl _) ?_
                            exact ih_173 (t9 + 1) _ _ _ (show (t9 + 1) ≤ n - i from (by omega)) (show n - i - (t9 + 1) < n - i - t9 by omega) hP hD hS (lv_sub hl [2, 3, 4, 5, 6, 7, 8, 0] rfl)
                      · have c_152 : kl < n - i := g_nle (a := n - i) (b := kl) c_152 (by omega) (by omega)
                        refine lv_iload_n hx hb dX7_walks_155 rfl (lv_at hl 5 rfl) ?_
                        refine lv_iload hx hb dX7_walks_156 (lv_at hl 1 rfl) ?_
                        refine lv_isub hx hb dX7_walks_158 ?_
                        refine lv_topi (fun f ef => ?_)
                        obtain rfl : f = nI (n - i) := ef.trans (pk_sub (a := n) (b := i) (by omega))
                        refine lv_goto (tgt := 166) hx hb dX7_walks_159 (by decide) ?_
                        refine lv_topi (fun f ef => ?_)
                        obtain rfl : f = nI (max kl (n - i)) := ef.trans (congrArg nI (by omega))
                        refine va_put (D := D) (ci := 8) (v := .int (nI (max kl (n - i)))) (ty := .int) (C := RX7) (T := TX7) (N := 20) hx hb hts inX7 tyX7 tyX7_ok nmX7 hown hK hP hD hS 0 rfl rfl 15 (by decide) hfieldLink_RX7_127 (fun _ h9 => h9) rfl (by decide +kernel) rfl rfl (Nat.le_of_ble_eq_true rfl) dX7_walks_166 (fun H locs hP hD hS => ?_)
                        have hP : va_P D ccl (mW cI M mc ms mw mn mo mh mu mk mt mq mp my (fmk (nxO mc mw J) st mf n) (pmk (nxO mc mw J) st ma n) (nI (kc + 1)) (nI (max kl (n - i))) (nI kg) ov un la) H := hP
                        have hD : va_D A (mW cI M mc ms mw mn mo mh mu mk mt mq mp my (fmk (nxO mc mw J) st mf n) (pmk (nxO mc mw J) st ma n) (nI (kc + 1)) (nI (max kl (n - i))) (nI kg) ov un la) := hD
                        refine lv_iload hx hb dX7_walks_169 (lv_at hl 1 rfl) ?_
                        refine lv_istore (lv' := [(7, .int (nI i)), (5, .int (nI (kc + 1))), (6, .int (nI i)), (0, .ref (M 0)), (1, .int (nI J)), (2, .int (nI st)), (3, .int (nI n)), (4, .int (nI a))]) hx hb dX7_walks_171 hl (by decide) rfl (fun ls hl => ?_)
                        refine W.widen (k := 0) (n := 0) (Nat.le_refl _) (Nat.le_refl _) ?_
                        refine g_while (σ := Nat) (st := []) (nL := 9) (fun t9 => mW cI M mc ms mw mn mo mh mu mk mt mq mp my (fmk (nxO mc mw J) st mf n) (pmk (nxO mc mw J) st ma n) (nI (kc + 1)) (nI (max kl (n - i))) (nI (gmx (nxO mc mw J) st kg i t9)) ov un la)
                          (fun t9 => [(0, .ref (M 0)), (1, .int (nI J)), (2, .int (nI st)), (3, .int (nI n)), (4, .int (nI a)), (5, .int (nI (kc + 1))), (6, .int (nI i)), (7, .int (nI (i + t9)))])
                          (fun t9 => t9 ≤ n - i)
                          (fun t9 => n - i - t9) (fun t9 => 0) (fun t9 => 0)
                          ?_ 0 (Nat.zero_le _) hP hD hS (lv_sub hl [3, 4, 5, 6, 7, 1, 2, 0] rfl)
                        intro t9 hI H locs ls hP hD hS hl ih
                        have hI : t9 ≤ n - i := hI
                        have hP : va_P D ccl (mW cI M mc ms mw mn mo mh mu mk mt mq mp my (fmk (nxO mc mw J) st mf n) (pmk (nxO mc mw J) st ma n) (nI (kc + 1)) (nI (max kl (n - i))) (nI (gmx (nxO mc mw J) st kg i t9)) ov un la) H := hP
                        have hD : va_D A (mW cI M mc ms mw mn mo mh mu mk mt mq mp my (fmk (nxO mc mw J) st mf n) (pmk (nxO mc mw J) st ma n) (nI (kc + 1)) (nI (max kl (n - i))) (nI (gmx (nxO mc mw J) st kg i t9)) ov un la) := hD
                        have hl : lv_has ls 9 [(0, .ref (M 0)), (1, .int (nI J)), (2, .int (nI st)), (3, .int (nI n)), (4, .int (nI a)), (5, .int (nI (kc + 1))), (6, .int (nI i)), (7, .int (nI (i + t9)))] := hl
                        change W p l e _ s m _ below meth c H locs 0 0 _ (F0 m 173 ls [])
                        have ih_173 := ih
                        clear ih
                        refine lv_iload hx hb dX7_walks_173 (lv_at hl 7 rfl) ?_
                        refine lv_iload_n hx hb dX7_walks_175 rfl (lv_at hl 3 rfl) ?_
                        refine lv_icmp_ge (tgt := 226) hx hb dX7_walks_176 (by decide) (fun c_176 => ?_) (fun c_176 => ?_)
                        · have c_176 : n ≤ i + t9 := g_le (a := n) (b := i + t9) c_176 (by omega) (by omega)
                          obtain rfl : t9 = n - i := by omega
                          refine lv_iconst (v := 0) hx hb dX7_walks_226 (by decide) ?_
                          refine lv_istore (lv' := [(6, .int 0), (0, .ref (M 0)), (1, .int (nI J)), (2, .int (nI st)), (3, .int (nI n)), (4, .int (nI a)), (5, .int (nI (kc + 1))), (7, .int (nI (i + (n - i))))]) hx hb dX7_walks_227 hl (by decide) rfl (fun ls hl => ?_)
                          refine W.widen (k := 0) (n := 0) (Nat.le_refl _) (Nat.le_refl _) ?_
                          refine g_while (σ := Nat) (st := []) (nL := 9) (fun k => mW cI M mc ms mw mn mo mh mu mk mt mq mp my (sfm (fmk (nxO mc mw J) st mf n) (tv (nxO mc mw J) st) (nI (kc + 1)) k) (pmk (nxO mc mw J) st ma n) (nI (kc + 1)) (nI (max kl (n - i))) (nI (gmx (nxO mc mw J) st kg i (n - i))) ov un la)
                            (fun k => [(3, .int (nI n)), (0, .ref (M 0)), (5, .int (nI (kc + 1))), (6, .int (nI k))])
                            (fun k => k ≤ n)
                            (fun k => n - k) (fun k => 0) (fun k => 0)
                            ?_ 0 (Nat.zero_le n) hP hD hS (lv_sub hl [4, 1, 6, 0] rfl)
                          intro k hI H locs ls hP hD hS hl ih
                          have hI : k ≤ n := hI
                          have hP : va_P D ccl (mW cI M mc ms mw mn mo mh mu mk mt mq mp my (sfm (fmk (nxO mc mw J) st mf n) (tv (nxO mc mw J) st) (nI (kc + 1)) k) (pmk (nxO mc mw J) st ma n) (nI (kc + 1)) (nI (max kl (n - i))) (nI (gmx (nxO mc mw J) st kg i (n - i))) ov un la) H := hP
                          have hD : va_D A (mW cI M mc ms mw mn mo mh mu mk mt mq mp my (sfm (fmk (nxO mc mw J) st mf n) (tv (nxO mc mw J) st) (nI (kc + 1)) k) (pmk (nxO mc mw J) st ma n) (nI (kc + 1)) (nI (max kl (n - i))) (nI (gmx (nxO mc mw J) st kg i (n - i))) ov un la) := hD
                          have hl : lv_has ls 9 [(3, .int (nI n)), (0, .ref (M 0)), (5, .int (nI (kc + 1))), (6, .int (nI k))] := hl
                          change W p l e _ s m _ below meth c H locs 0 0 _ (F0 m 229 ls [])
                          have ih_229 := ih
                          clear ih
                          refine lv_iload hx hb dX7_walks_229 (lv_at hl 3 rfl) ?_
                          refine lv_iload_n hx hb dX7_walks_231 rfl (lv_at hl 0 rfl) ?_
                          refine lv_icmp_ge (tgt := 255) hx hb dX7_walks_232 (by decide) (fun c_232 => ?_) (fun c_232 => ?_)
                          · have c_232 : n ≤ k := g_le (a := n) (b := k) c_232 (by omega) (by omega)
                            obtain rfl : n = k := by omega
                            refine g_vret hx hb hr hlk hP hK hD hS (Nat.le_of_ble_eq_true rfl) (Nat.le_of_ble_eq_true rfl) dX7_walks_255 ?_
                            have hk9 : kF (nI (kc + 1)) = 2 := by
                              unfold kF
                              rw [if_neg (nI_ne0 (by omega) (by omega)), if_neg (fun h9 => nI_ne_m1 (by omega) h9)]
                            exact ⟨_, _, _, _, _, rfl, ⟨n, ⟨hw9, fun a9 h9 => Or.inr ⟨i, hi, by rw [ha] at h9; cases h9; exact hia⟩⟩, by
                              rw [kA_fin hX hst hw9]; unfold kd; rw [ha]; dsimp only; rw [if_pos hA0]; exact congrArg (fun d => amk (nxO mc mw J) st (kA mf) d n) hk9, ⟨fun i9 hi9 h9 hne => by
                                rw [ha] at h9
                                obtain rfl : i9 = i := way_one hw9 hi9 hi ((Option.some.inj h9).symm.trans hia.symm)
                                exact ⟨rfl, rfl, rfl⟩, fun h9 => absurd (hia.symm.trans (h9 i hi (by rw [ha, hia]))) hane⟩⟩, fOK_fin hF (by omega) (Or.inr (Or.inr ⟨kc + 1, Nat.le_refl _, rfl⟩)), by omega, by omega, gmx_le hkg (fun j9 hj9 => hT (i + j9) (by omega))⟩
                          · have c_232 : k < n := g_nle (a := n) (b := k) c_232 (by omega) (by omega)
                            refine lv_aload_n hx hb dX7_walks_235 rfl (lv_at hl 1 rfl) ?_
                            refine va_get (D := D) (ci := 8) (v := .ref (M 9)) (C := RX7) (T := TX7) (N := 20) hx hb hts inX7 hown hK hP 0 rfl rfl 12 (by decide) hfieldLink_RX7_35 (fun _ h9 => h9) rfl dX7_walks_236 ?_
                            refine lv_aload_n hx hb dX7_walks_239 rfl (lv_at hl 1 rfl) ?_
                            refine va_get (D := D) (ci := 8) (v := .ref (M 10)) (C := RX7) (T := TX7) (N := 20) hx hb hts inX7 hown hK hP 0 rfl rfl 13 (by decide) hfieldLink_RX7_38 (fun _ h9 => h9) rfl dX7_walks_240 ?_
                            refine lv_iload hx hb dX7_walks_243 (lv_at hl 3 rfl) ?_
                            refine va_iald hx hb hK hP 10 0 rfl rfl (vp_in_nI (by omega) (by omega)) dX7_walks_245 ?_
                            refine lv_topi (fun f ef => ?_)
                            obtain rfl : f = (pmk (nxO mc mw J) st ma n) k := ef.trans (congrArg (pmk (nxO mc mw J) st ma n) (nI_clamp (n := k) (by omega)))
                            refine lv_topi (fun f ef => ?_)
                            obtain rfl : f = nI (tv (nxO mc mw J) st k) := ef.trans (pmk_in c_232)
                            refine lv_iload hx hb dX7_walks_246 (lv_at hl 2 rfl) ?_
                            have hT6 := hT k c_232
                            refine va_iast hx hb hK hP hD hS 9 0 rfl rfl (vp_in_nI (hT k c_232) (by decide)) dX7_walks_248 (fun H locs hP hD hS => ?_)
                            rw [show (nI (tv (nxO mc mw J) st k)).toNatClampNeg = tv (nxO mc mw J) st k from (nI_clamp (by omega))] at hP hD
                            rw [show upd (sfm (fmk (nxO mc mw J) st mf n) (tv (nxO mc mw J) st) (nI (kc + 1)) k) (tv (nxO mc mw J) st k) (nI (kc + 1)) = sfm (fmk (nxO mc mw J) st mf n) (tv (nxO mc mw J) st) (nI (kc + 1)) (k + 1) from rfl] at hP hD
                            have hP : va_P D ccl (mW cI M mc ms mw mn mo mh mu mk mt mq mp my (sfm (fmk (nxO mc mw J) st mf n) (tv (nxO mc mw J) st) (nI (kc + 1)) (k + 1)) (pmk (nxO mc mw J) st ma n) (nI (kc + 1)) (nI (max kl (n - i))) (nI (gmx (nxO mc mw J) st kg i (n - i))) ov un la) H := hP
                            have hD : va_D A (mW cI M mc ms mw mn mo mh mu mk mt mq mp my (sfm (fmk (nxO mc mw J) st mf n) (tv (nxO mc mw J) st) (nI (kc + 1)) (k + 1)) (pmk (nxO mc mw J) st ma n) (nI (kc + 1)) (nI (max kl (n - i))) (nI (gmx (nxO mc mw J) st kg i (n - i))) ov un la) := hD
                            refine lv_iinc (v := nI (k + 1)) (lv' := [(6, .int (nI (k + 1))), (3, .int (nI n)), (0, .ref (M 0)), (5, .int (nI (kc + 1)))]) hx hb dX7_walks_249 hl (k := 3) rfl (by exact nI_1 _) (by decide) rfl (fun ls hl => ?_)
                            refine lv_goto (tgt := 229) hx hb dX7_walks_252 (by decide) ?_
                            refine W.widen (k := 0) (n := 0) (Nat.le_refl _) (Nat.le_refl _) ?_
                            exact ih_229 (k + 1) _ _ _ (show (k + 1) ≤ n from (by exact c_232)) (show n - (k + 1) < n - k by omega) hP hD hS (lv_sub hl [1, 2, 3, 0] rfl)
                        · have c_176 : i + t9 < n := g_nle (a := n) (b := i + t9) c_176 (by omega) (by omega)
                          refine lv_aload_n hx hb dX7_walks_179 rfl (lv_at hl 0 rfl) ?_
                          refine va_get (D := D) (ci := 8) (v := .ref (M 10)) (C := RX7) (T := TX7) (N := 20) hx hb hts inX7 hown hK hP 0 rfl rfl 13 (by decide) hfieldLink_RX7_38 (fun _ h9 => h9) rfl dX7_walks_180 ?_
                          refine lv_iload hx hb dX7_walks_183 (lv_at hl 7 rfl) ?_
                          refine va_iald hx hb hK hP 10 0 rfl rfl (vp_in_nI (by omega) (by omega)) dX7_walks_185 ?_
                          refine lv_topi (fun f ef => ?_)
                          obtain rfl : f = (pmk (nxO mc mw J) st ma n) (i + t9) := ef.trans (congrArg (pmk (nxO mc mw J) st ma n) (nI_clamp (n := i + t9) (by omega)))
                          refine lv_topi (fun f ef => ?_)
                          obtain rfl : f = nI (tv (nxO mc mw J) st (i + t9)) := ef.trans (pmk_in (by omega))
                          have hT7 := hT (i + t9) (by omega)
                          have hg7 : gmx (nxO mc mw J) st kg i t9 ≤ 200 := gmx_le hkg (fun j9 hj9 => hT (i + j9) (by omega))
                          refine lv_sipush (v := 201) hx hb dX7_walks_186 (by decide) ?_
                          refine lv_idiv hx hb dX7_walks_189 (by decide) ?_
                          refine lv_topi (fun f ef => ?_)
                          obtain rfl : f = nI ((tv (nxO mc mw J) st (i + t9)) / 201) := ef.trans (pk_div (a := tv (nxO mc mw J) st (i + t9)) (d := 201) (by omega) (by omega) (by omega))
                          refine lv_bipush (v := 100) hx hb dX7_walks_190 (by decide) ?_
                          refine lv_isub hx hb dX7_walks_192 ?_
                          have hPc : va_P D ccl [] H := fun k q h => by simp at h
                          have hDc : va_D A [] := ⟨fun i j p q h => by simp at h, fun k q h => by simp at h⟩
                          have hFc := va_free (wc := []) hD hS hA [] rfl
                          refine g_Si (As := [.int ((nI ((tv (nxO mc mw J) st (i + t9)) / 201)) - 100)]) (rest := []) CF (c_X7_size l D cI cJ cO df H.size ((nI ((tv (nxO mc mw J) st (i + t9)) / 201)) - 100) ) (va_cwS 1 hts gX7_walks_X7_size rfl rfl rfl (by decide +kernel) ⟨Nat.le_of_ble_eq_true rfl, Nat.le_of_ble_eq_true rfl⟩)  hPc hK hDc hV hH hS hFc rfl hl.1 rfl (Nat.le_of_ble_eq_true rfl) dX7_walks_193 ⟨Nat.le_of_ble_eq_true rfl, Nat.le_of_ble_eq_true rfl⟩ (fun r_193 w1 H1 locs1 hq hP1 hD1 hk hS hz => ?_)
                          obtain ⟨rfl, hr_193⟩ := hq
                          have hP := g_keep0 hP hk
                          clear hPc hDc hFc hP1 hD1 hk hz
                          generalize H1 = H at hP hS ⊢
                          have hP : va_P D ccl (mW cI M mc ms mw mn mo mh mu mk mt mq mp my (fmk (nxO mc mw J) st mf n) (pmk (nxO mc mw J) st ma n) (nI (kc + 1)) (nI (max kl (n - i))) (nI (gmx (nxO mc mw J) st kg i t9)) ov un la) H := hP
                          have hD : va_D A (mW cI M mc ms mw mn mo mh mu mk mt mq mp my (fmk (nxO mc mw J) st mf n) (pmk (nxO mc mw J) st ma n) (nI (kc + 1)) (nI (max kl (n - i))) (nI (gmx (nxO mc mw J) st kg i t9)) ov un la) := hD
                          subst hr_193
                          refine lv_topi (fun f ef => ?_)
                          obtain rfl : f = nI (ayq (tv (nxO mc mw J) st (i + t9) / 201)) := ef.trans (mSize_100 (by omega))
                          refine lv_istore (lv' := [(8, .int (nI (ayq (tv (nxO mc mw J) st (i + t9) / 201)))), (0, .ref (M 0)), (1, .int (nI J)), (2, .int (nI st)), (3, .int (nI n)), (4, .int (nI a)), (5, .int (nI (kc + 1))), (6, .int (nI i)), (7, .int (nI (i + t9)))]) hx hb dX7_walks_196 hl (by decide) rfl (fun ls hl => ?_)
                          refine lv_aload_n hx hb dX7_walks_198 rfl (lv_at hl 1 rfl) ?_
                          refine lv_iload hx hb dX7_walks_199 (lv_at hl 0 rfl) ?_
                          refine lv_aload_n hx hb dX7_walks_201 rfl (lv_at hl 1 rfl) ?_
                          refine va_get (D := D) (ci := 8) (v := .int (nI (gmx (nxO mc mw J) st kg i t9))) (C := RX7) (T := TX7) (N := 20) hx hb hts inX7 hown hK hP 0 rfl rfl 16 (by decide) hfieldLink_RX7_130 (fun _ h9 => h9) rfl dX7_walks_202 ?_
                          have hay7 := ayq_le (q := tv (nxO mc mw J) st (i + t9) / 201) (by omega)
                          refine lv_icmp_le (tgt := 213) hx hb dX7_walks_205 (by decide) (fun c_205 => ?_) (fun c_205 => ?_)
                          · have c_205 : ayq (tv (nxO mc mw J) st (i + t9) / 201) ≤ gmx (nxO mc mw J) st kg i t9 := g_le (a := ayq (tv (nxO mc mw J) st (i + t9) / 201)) (b := gmx (nxO mc mw J) st kg i t9) c_205 (by omega) (by omega)
                            refine lv_aload_n hx hb dX7_walks_213 rfl (lv_at hl 1 rfl) ?_
                            refine va_get (D := D) (ci := 8) (v := .int (nI (gmx (nxO mc mw J) st kg i t9))) (C := RX7) (T := TX7) (N := 20) hx hb hts inX7 hown hK hP 0 rfl rfl 16 (by decide) hfieldLink_RX7_130 (fun _ h9 => h9) rfl dX7_walks_214 ?_
                            refine lv_topi (fun f ef => ?_)
                            obtain rfl : f = nI (gmx (nxO mc mw J) st kg i (t9 + 1)) := ef.trans (congrArg nI (by rw [gmx_s]; omega))
                            refine va_put (D := D) (ci := 8) (v := .int (nI (gmx (nxO mc mw J) st kg i (t9 + 1)))) (ty := .int) (C := RX7) (T := TX7) (N := 20) hx hb hts inX7 tyX7 tyX7_ok nmX7 hown hK hP hD hS 0 rfl rfl 16 (by decide) hfieldLink_RX7_130 (fun _ h9 => h9) rfl (by decide +kernel) rfl rfl (Nat.le_of_ble_eq_true rfl) dX7_walks_217 (fun H locs hP hD hS => ?_)
                            have hP : va_P D ccl (mW cI M mc ms mw mn mo mh mu mk mt mq mp my (fmk (nxO mc mw J) st mf n) (pmk (nxO mc mw J) st ma n) (nI (kc + 1)) (nI (max kl (n - i))) (nI (gmx (nxO mc mw J) st kg i (t9 + 1))) ov un la) H := hP
                            have hD : va_D A (mW cI M mc ms mw mn mo mh mu mk mt mq mp my (fmk (nxO mc mw J) st mf n) (pmk (nxO mc mw J) st ma n) (nI (kc + 1)) (nI (max kl (n - i))) (nI (gmx (nxO mc mw J) st kg i (t9 + 1))) ov un la) := hD
                            refine lv_iinc (v := nI ((i + t9) + 1)) (lv' := [(7, .int (nI ((i + t9) + 1))), (8, .int (nI (ayq (tv (nxO mc mw J) st (i + t9) / 201)))), (0, .ref (M 0)), (1, .int (nI J)), (2, .int (nI st)), (3, .int (nI n)), (4, .int (nI a)), (5, .int (nI (kc + 1))), (6, .int (nI i))]) hx hb dX7_walks_220 hl (k := 8) rfl (by exact nI_1 _) (by decide) rfl (fun ls hl => ?_)
                            refine lv_goto (tgt := 173) hx hb dX7_walks_223 (by decide) ?_
                            refine W.widen (k := 0) (n := 0) (Nat.le_refl _) (Nat.le_refl _) ?_
                            exact ih_173 (t9 + 1) _ _ _ (show (t9 + 1) ≤ n - i from (by omega)) (show n - i - (t9 + 1) < n - i - t9 by omega) hP hD hS (lv_sub hl [2, 3, 4, 5, 6, 7, 8, 0] rfl)
                          · have c_205 : gmx (nxO mc mw J) st kg i t9 < ayq (tv (nxO mc mw J) st (i + t9) / 201) := g_nle (a := ayq (tv (nxO mc mw J) st (i + t9) / 201)) (b := gmx (nxO mc mw J) st kg i t9) c_205 (by omega) (by omega)
                            refine lv_iload hx hb dX7_walks_208 (lv_at hl 0 rfl) ?_
                            refine lv_goto (tgt := 217) hx hb dX7_walks_210 (by decide) ?_
                            refine lv_topi (fun f ef => ?_)
                            obtain rfl : f = nI (gmx (nxO mc mw J) st kg i (t9 + 1)) := ef.trans (congrArg nI (by rw [gmx_s]; omega))
                            refine va_put (D := D) (ci := 8) (v := .int (nI (gmx (nxO mc mw J) st kg i (t9 + 1)))) (ty := .int) (C := RX7) (T := TX7) (N := 20) hx hb hts inX7 tyX7 tyX7_ok nmX7 hown hK hP hD hS 0 rfl rfl 16 (by decide) hfieldLink_RX7_130 (fun _ h9 => h9) rfl (by decide +kernel) rfl rfl (Nat.le_of_ble_eq_true rfl) dX7_walks_217 (fun H locs hP hD hS => ?_)
                            have hP : va_P D ccl (mW cI M mc ms mw mn mo mh mu mk mt mq mp my (fmk (nxO mc mw J) st mf n) (pmk (nxO mc mw J) st ma n) (nI (kc + 1)) (nI (max kl (n - i))) (nI (gmx (nxO mc mw J) st kg i (t9 + 1))) ov un la) H := hP
                            have hD : va_D A (mW cI M mc ms mw mn mo mh mu mk mt mq mp my (fmk (nxO mc mw J) st mf n) (pmk (nxO mc mw J) st ma n) (nI (kc + 1)) (nI (max kl (n - i))) (nI (gmx (nxO mc mw J) st kg i (t9 + 1))) ov un la) := hD
                            refine lv_iinc (v := nI ((i + t9) + 1)) (lv' := [(7, .int (nI ((i + t9) + 1))), (8, .int (nI (ayq (tv (nxO mc mw J) st (i + t9) / 201)))), (0, .ref (M 0)), (1, .int (nI J)), (2, .int (nI st)), (3, .int (nI n)), (4, .int (nI a)), (5, .int (nI (kc + 1))), (6, .int (nI i))]) hx hb dX7_walks_220 hl (k := 8) rfl (by exact nI_1 _) (by decide) rfl (fun ls hl => ?_)
                            refine lv_goto (tgt := 173) hx hb dX7_walks_223 (by decide) ?_
                            refine W.widen (k := 0) (n := 0) (Nat.le_refl _) (Nat.le_refl _) ?_
                            exact ih_173 (t9 + 1) _ _ _ (show (t9 + 1) ≤ n - i from (by omega)) (show n - i - (t9 + 1) < n - i - t9 by omega) hP hD hS (lv_sub hl [2, 3, 4, 5, 6, 7, 8, 0] rfl)
                  · exact (nI_ne_m2 (by omega) c_124).elim
                · have c_99 : a = 20200 := g_eq (a := a) (b := 20200) c_99 (by omega) (by omega)
                  refine lv_bipush (v := (-2)) hx hb dX7_walks_102 (by decide) ?_
                  refine lv_goto (tgt := 113) hx hb dX7_walks_104 (by decide) ?_
                  refine lv_istore (lv' := [(5, .int (-2)), (6, .int (nI i)), (0, .ref (M 0)), (1, .int (nI J)), (2, .int (nI st)), (3, .int (nI n)), (4, .int (nI a))]) hx hb dX7_walks_113 hl (by decide) rfl (fun ls hl => ?_)
                  refine lv_aload_n hx hb dX7_walks_115 rfl (lv_at hl 2 rfl) ?_
                  refine lv_dup hx hb dX7_walks_116 rfl ?_
                  refine va_get (D := D) (ci := 8) (v := .int (nI kc)) (C := RX7) (T := TX7) (N := 20) hx hb hts inX7 hown hK hP 0 rfl rfl 14 (by decide) hfieldLink_RX7_124 (fun _ h9 => h9) rfl dX7_walks_117 ?_
                  refine lv_iload hx hb dX7_walks_120 (lv_at hl 0 rfl) ?_
                  refine lv_bipush (v := (-2)) hx hb dX7_walks_122 (by decide) ?_
                  refine lv_icmp_ne (tgt := 131) hx hb dX7_walks_124 (by decide) (fun c_124 => ?_) (fun c_124 => ?_)
                  · exact absurd c_124 (by decide)
                  · refine lv_iconst (v := 0) hx hb dX7_walks_127 (by decide) ?_
                    refine lv_goto (tgt := 132) hx hb dX7_walks_128 (by decide) ?_
                    refine lv_iadd hx hb dX7_walks_132 ?_
                    refine lv_topi (fun f ef => ?_)
                    obtain rfl : f = nI (kc + 0) := ef.trans (nI_add _ _)
                    refine va_put (D := D) (ci := 8) (v := .int (nI (kc + 0))) (ty := .int) (C := RX7) (T := TX7) (N := 20) hx hb hts inX7 tyX7 tyX7_ok nmX7 hown hK hP hD hS 0 rfl rfl 14 (by decide) hfieldLink_RX7_124 (fun _ h9 => h9) rfl (by decide +kernel) rfl rfl (Nat.le_of_ble_eq_true rfl) dX7_walks_133 (fun H locs hP hD hS => ?_)
                    have hP : va_P D ccl (mW cI M mc ms mw mn mo mh mu mk mt mq mp my (fmk (nxO mc mw J) st mf n) (pmk (nxO mc mw J) st ma n) (nI (kc + 0)) (nI kl) (nI kg) ov un la) H := hP
                    have hD : va_D A (mW cI M mc ms mw mn mo mh mu mk mt mq mp my (fmk (nxO mc mw J) st mf n) (pmk (nxO mc mw J) st ma n) (nI (kc + 0)) (nI kl) (nI kg) ov un la) := hD
                    refine lv_aload_n hx hb dX7_walks_136 rfl (lv_at hl 2 rfl) ?_
                    refine lv_iload hx hb dX7_walks_137 (lv_at hl 0 rfl) ?_
                    refine lv_bipush (v := (-2)) hx hb dX7_walks_139 (by decide) ?_
                    refine lv_icmp_eq (tgt := 162) hx hb dX7_walks_141 (by decide) (fun c_141 => ?_) (fun c_141 => ?_)
                    · refine lv_aload_n hx hb dX7_walks_162 rfl (lv_at hl 2 rfl) ?_
                      refine va_get (D := D) (ci := 8) (v := .int (nI kl)) (C := RX7) (T := TX7) (N := 20) hx hb hts inX7 hown hK hP 0 rfl rfl 15 (by decide) hfieldLink_RX7_127 (fun _ h9 => h9) rfl dX7_walks_163 ?_
                      refine va_put (D := D) (ci := 8) (v := .int (nI kl)) (ty := .int) (C := RX7) (T := TX7) (N := 20) hx hb hts inX7 tyX7 tyX7_ok nmX7 hown hK hP hD hS 0 rfl rfl 15 (by decide) hfieldLink_RX7_127 (fun _ h9 => h9) rfl (by decide +kernel) rfl rfl (Nat.le_of_ble_eq_true rfl) dX7_walks_166 (fun H locs hP hD hS => ?_)
                      have hP : va_P D ccl (mW cI M mc ms mw mn mo mh mu mk mt mq mp my (fmk (nxO mc mw J) st mf n) (pmk (nxO mc mw J) st ma n) (nI (kc + 0)) (nI kl) (nI kg) ov un la) H := hP
                      have hD : va_D A (mW cI M mc ms mw mn mo mh mu mk mt mq mp my (fmk (nxO mc mw J) st mf n) (pmk (nxO mc mw J) st ma n) (nI (kc + 0)) (nI kl) (nI kg) ov un la) := hD
                      refine lv_iload hx hb dX7_walks_169 (lv_at hl 1 rfl) ?_
                      refine lv_istore (lv' := [(7, .int (nI i)), (5, .int (-2)), (6, .int (nI i)), (0, .ref (M 0)), (1, .int (nI J)), (2, .int (nI st)), (3, .int (nI n)), (4, .int (nI a))]) hx hb dX7_walks_171 hl (by decide) rfl (fun ls hl => ?_)
                      refine lv_iload hx hb dX7_walks_173 (lv_at hl 0 rfl) ?_
                      refine lv_iload_n hx hb dX7_walks_175 rfl (lv_at hl 6 rfl) ?_
                      refine lv_icmp_ge (tgt := 226) hx hb dX7_walks_176 (by decide) (fun c_176 => ?_) (fun c_176 => ?_)
                      · have c_176 : n ≤ i := g_le (a := n) (b := i) c_176 (by omega) (by omega)
                        omega
                      · have c_176 : i < n := g_nle (a := n) (b := i) c_176 (by omega) (by omega)
                        refine lv_aload_n hx hb dX7_walks_179 rfl (lv_at hl 3 rfl) ?_
                        refine va_get (D := D) (ci := 8) (v := .ref (M 10)) (C := RX7) (T := TX7) (N := 20) hx hb hts inX7 hown hK hP 0 rfl rfl 13 (by decide) hfieldLink_RX7_38 (fun _ h9 => h9) rfl dX7_walks_180 ?_
                        refine lv_iload hx hb dX7_walks_183 (lv_at hl 0 rfl) ?_
                        refine va_iald hx hb hK hP 10 0 rfl rfl (vp_in_nI (by omega) (by omega)) dX7_walks_185 ?_
                        refine lv_topi (fun f ef => ?_)
                        obtain rfl : f = (pmk (nxO mc mw J) st ma n) i := ef.trans (congrArg (pmk (nxO mc mw J) st ma n) (nI_clamp (n := i) (by omega)))
                        refine lv_topi (fun f ef => ?_)
                        obtain rfl : f = nI 20200 := ef.trans ((pmk_in hi).trans (congrArg nI (hia.trans c_99)))
                        have hT7 := hT i hi
                        refine lv_sipush (v := 201) hx hb dX7_walks_186 (by decide) ?_
                        refine lv_idiv hx hb dX7_walks_189 (by decide) ?_
                        refine lv_topi (fun f ef => ?_)
                        obtain rfl : f = nI (20200 / 201) := ef.trans (pk_div (a := 20200) (d := 201) (by omega) (by omega) (by omega))
                        refine lv_bipush (v := 100) hx hb dX7_walks_190 (by decide) ?_
                        refine lv_isub hx hb dX7_walks_192 ?_
                        have hPc : va_P D ccl [] H := fun k q h => by simp at h
                        have hDc : va_D A [] := ⟨fun i j p q h => by simp at h, fun k q h => by simp at h⟩
                        have hFc := va_free (wc := []) hD hS hA [] rfl
                        refine g_Si (As := [.int ((nI (20200 / 201)) - 100)]) (rest := []) CF (c_X7_size l D cI cJ cO df H.size ((nI (20200 / 201)) - 100) ) (va_cwS 1 hts gX7_walks_X7_size rfl rfl rfl (by decide +kernel) ⟨Nat.le_of_ble_eq_true rfl, Nat.le_of_ble_eq_true rfl⟩)  hPc hK hDc hV hH hS hFc rfl hl.1 rfl (Nat.le_of_ble_eq_true rfl) dX7_walks_193 ⟨Nat.le_of_ble_eq_true rfl, Nat.le_of_ble_eq_true rfl⟩ (fun r_193 w1 H1 locs1 hq hP1 hD1 hk hS hz => ?_)
                        obtain ⟨rfl, hr_193⟩ := hq
                        have hP := g_keep0 hP hk
                        clear hPc hDc hFc hP1 hD1 hk hz
                        generalize H1 = H at hP hS ⊢
                        have hP : va_P D ccl (mW cI M mc ms mw mn mo mh mu mk mt mq mp my (fmk (nxO mc mw J) st mf n) (pmk (nxO mc mw J) st ma n) (nI (kc + 0)) (nI kl) (nI kg) ov un la) H := hP
                        have hD : va_D A (mW cI M mc ms mw mn mo mh mu mk mt mq mp my (fmk (nxO mc mw J) st mf n) (pmk (nxO mc mw J) st ma n) (nI (kc + 0)) (nI kl) (nI kg) ov un la) := hD
                        subst hr_193
                        refine lv_topi (fun f ef => ?_)
                        obtain rfl : f = nI 0 := ef.trans (by decide)
                        refine lv_istore (lv' := [(8, .int (nI 0)), (7, .int (nI i)), (5, .int (-2)), (6, .int (nI i)), (0, .ref (M 0)), (1, .int (nI J)), (2, .int (nI st)), (3, .int (nI n)), (4, .int (nI a))]) hx hb dX7_walks_196 hl (by decide) rfl (fun ls hl => ?_)
                        refine lv_aload_n hx hb dX7_walks_198 rfl (lv_at hl 4 rfl) ?_
                        refine lv_iload hx hb dX7_walks_199 (lv_at hl 0 rfl) ?_
                        refine lv_aload_n hx hb dX7_walks_201 rfl (lv_at hl 4 rfl) ?_
                        refine va_get (D := D) (ci := 8) (v := .int (nI kg)) (C := RX7) (T := TX7) (N := 20) hx hb hts inX7 hown hK hP 0 rfl rfl 16 (by decide) hfieldLink_RX7_130 (fun _ h9 => h9) rfl dX7_walks_202 ?_
                        refine lv_icmp_le (tgt := 213) hx hb dX7_walks_205 (by decide) (fun c_205 => ?_) (fun c_205 => ?_)
                        · have c_205 : 0 ≤ kg := g_le (a := 0) (b := kg) c_205 (by omega) (by omega)
                          refine lv_aload_n hx hb dX7_walks_213 rfl (lv_at hl 4 rfl) ?_
                          refine va_get (D := D) (ci := 8) (v := .int (nI kg)) (C := RX7) (T := TX7) (N := 20) hx hb hts inX7 hown hK hP 0 rfl rfl 16 (by decide) hfieldLink_RX7_130 (fun _ h9 => h9) rfl dX7_walks_214 ?_
                          refine va_put (D := D) (ci := 8) (v := .int (nI kg)) (ty := .int) (C := RX7) (T := TX7) (N := 20) hx hb hts inX7 tyX7 tyX7_ok nmX7 hown hK hP hD hS 0 rfl rfl 16 (by decide) hfieldLink_RX7_130 (fun _ h9 => h9) rfl (by decide +kernel) rfl rfl (Nat.le_of_ble_eq_true rfl) dX7_walks_217 (fun H locs hP hD hS => ?_)
                          have hP : va_P D ccl (mW cI M mc ms mw mn mo mh mu mk mt mq mp my (fmk (nxO mc mw J) st mf n) (pmk (nxO mc mw J) st ma n) (nI (kc + 0)) (nI kl) (nI kg) ov un la) H := hP
                          have hD : va_D A (mW cI M mc ms mw mn mo mh mu mk mt mq mp my (fmk (nxO mc mw J) st mf n) (pmk (nxO mc mw J) st ma n) (nI (kc + 0)) (nI kl) (nI kg) ov un la) := hD
                          refine lv_iinc (v := nI (i + 1)) (lv' := [(7, .int (nI (i + 1))), (8, .int (nI 0)), (5, .int (-2)), (6, .int (nI i)), (0, .ref (M 0)), (1, .int (nI J)), (2, .int (nI st)), (3, .int (nI n)), (4, .int (nI a))]) hx hb dX7_walks_220 hl (k := 1) rfl (by exact nI_1 _) (by decide) rfl (fun ls hl => ?_)
                          refine lv_goto (tgt := 173) hx hb dX7_walks_223 (by decide) ?_
                          refine lv_iload hx hb dX7_walks_173 (lv_at hl 0 rfl) ?_
                          refine lv_iload_n hx hb dX7_walks_175 rfl (lv_at hl 7 rfl) ?_
                          refine lv_icmp_ge (tgt := 226) hx hb dX7_walks_176 (by decide) (fun c_176 => ?_) (fun c_176 => ?_)
                          · have c_176 : n ≤ i + 1 := g_le (a := n) (b := i + 1) c_176 (by omega) (by omega)
                            refine lv_iconst (v := 0) hx hb dX7_walks_226 (by decide) ?_
                            refine lv_istore (lv' := [(6, .int 0), (7, .int (nI (i + 1))), (8, .int (nI 0)), (5, .int (-2)), (0, .ref (M 0)), (1, .int (nI J)), (2, .int (nI st)), (3, .int (nI n)), (4, .int (nI a))]) hx hb dX7_walks_227 hl (by decide) rfl (fun ls hl => ?_)
                            refine W.widen (k := 0) (n := 0) (Nat.le_refl _) (Nat.le_refl _) ?_
                            refine g_while (σ := Nat) (st := []) (nL := 9) (fun k => mW cI M mc ms mw mn mo mh mu mk mt mq mp my (sfm (fmk (nxO mc mw J) st mf n) (tv (nxO mc mw J) st) (-2) k) (pmk (nxO mc mw J) st ma n) (nI (kc + 0)) (nI kl) (nI kg) ov un la)
                              (fun k => [(3, .int (nI n)), (0, .ref (M 0)), (5, .int (-2)), (6, .int (nI k))])
                              (fun k => k ≤ n)
                              (fun k => n - k) (fun k => 0) (fun k => 0)
                              ?_ 0 (Nat.zero_le n) hP hD hS (lv_sub hl [7, 4, 3, 0] rfl)
                            intro k hI H locs ls hP hD hS hl ih
                            have hI : k ≤ n := hI
                            have hP : va_P D ccl (mW cI M mc ms mw mn mo mh mu mk mt mq mp my (sfm (fmk (nxO mc mw J) st mf n) (tv (nxO mc mw J) st) (-2) k) (pmk (nxO mc mw J) st ma n) (nI (kc + 0)) (nI kl) (nI kg) ov un la) H := hP
                            have hD : va_D A (mW cI M mc ms mw mn mo mh mu mk mt mq mp my (sfm (fmk (nxO mc mw J) st mf n) (tv (nxO mc mw J) st) (-2) k) (pmk (nxO mc mw J) st ma n) (nI (kc + 0)) (nI kl) (nI kg) ov un la) := hD
                            have hl : lv_has ls 9 [(3, .int (nI n)), (0, .ref (M 0)), (5, .int (-2)), (6, .int (nI k))] := hl
                            change W p l e _ s m _ below meth c H locs 0 0 _ (F0 m 229 ls [])
                            have ih_229 := ih
                            clear ih
                            refine lv_iload hx hb dX7_walks_229 (lv_at hl 3 rfl) ?_
                            refine lv_iload_n hx hb dX7_walks_231 rfl (lv_at hl 0 rfl) ?_
                            refine lv_icmp_ge (tgt := 255) hx hb dX7_walks_232 (by decide) (fun c_232 => ?_) (fun c_232 => ?_)
                            · have c_232 : n ≤ k := g_le (a := n) (b := k) c_232 (by omega) (by omega)
                              obtain rfl : n = k := by omega
                              refine g_vret hx hb hr hlk hP hK hD hS (Nat.le_of_ble_eq_true rfl) (Nat.le_of_ble_eq_true rfl) dX7_walks_255 ?_
                              exact ⟨_, _, _, _, _, rfl, ⟨n, ⟨hw9, fun a9 h9 => Or.inr ⟨i, hi, by rw [ha] at h9; cases h9; exact hia⟩⟩, by
                                rw [kA_fin hX hst hw9]; unfold kd; rw [ha]; dsimp only; rw [if_pos hA0]; rfl, ⟨fun i9 hi9 h9 hne => absurd (by rw [ha] at h9; cases h9; exact c_99) hne, fun _ => ⟨rfl, rfl, rfl⟩⟩⟩, fOK_fin hF (by omega) (Or.inl rfl), by omega, hkl, hkg⟩
                            · have c_232 : k < n := g_nle (a := n) (b := k) c_232 (by omega) (by omega)
                              refine lv_aload_n hx hb dX7_walks_235 rfl (lv_at hl 1 rfl) ?_
                              refine va_get (D := D) (ci := 8) (v := .ref (M 9)) (C := RX7) (T := TX7) (N := 20) hx hb hts inX7 hown hK hP 0 rfl rfl 12 (by decide) hfieldLink_RX7_35 (fun _ h9 => h9) rfl dX7_walks_236 ?_
                              refine lv_aload_n hx hb dX7_walks_239 rfl (lv_at hl 1 rfl) ?_
                              refine va_get (D := D) (ci := 8) (v := .ref (M 10)) (C := RX7) (T := TX7) (N := 20) hx hb hts inX7 hown hK hP 0 rfl rfl 13 (by decide) hfieldLink_RX7_38 (fun _ h9 => h9) rfl dX7_walks_240 ?_
                              refine lv_iload hx hb dX7_walks_243 (lv_at hl 3 rfl) ?_
                              refine va_iald hx hb hK hP 10 0 rfl rfl (vp_in_nI (by omega) (by omega)) dX7_walks_245 ?_
                              refine lv_topi (fun f ef => ?_)
                              obtain rfl : f = (pmk (nxO mc mw J) st ma n) k := ef.trans (congrArg (pmk (nxO mc mw J) st ma n) (nI_clamp (n := k) (by omega)))
                              refine lv_topi (fun f ef => ?_)
                              obtain rfl : f = nI (tv (nxO mc mw J) st k) := ef.trans (pmk_in c_232)
                              refine lv_iload hx hb dX7_walks_246 (lv_at hl 2 rfl) ?_
                              have hT6 := hT k c_232
                              refine va_iast hx hb hK hP hD hS 9 0 rfl rfl (vp_in_nI (hT k c_232) (by decide)) dX7_walks_248 (fun H locs hP hD hS => ?_)
                              rw [show (nI (tv (nxO mc mw J) st k)).toNatClampNeg = tv (nxO mc mw J) st k from (nI_clamp (by omega))] at hP hD
                              rw [show upd (sfm (fmk (nxO mc mw J) st mf n) (tv (nxO mc mw J) st) (-2) k) (tv (nxO mc mw J) st k) (-2) = sfm (fmk (nxO mc mw J) st mf n) (tv (nxO mc mw J) st) (-2) (k + 1) from rfl] at hP hD
                              have hP : va_P D ccl (mW cI M mc ms mw mn mo mh mu mk mt mq mp my (sfm (fmk (nxO mc mw J) st mf n) (tv (nxO mc mw J) st) (-2) (k + 1)) (pmk (nxO mc mw J) st ma n) (nI (kc + 0)) (nI kl) (nI kg) ov un la) H := hP
                              have hD : va_D A (mW cI M mc ms mw mn mo mh mu mk mt mq mp my (sfm (fmk (nxO mc mw J) st mf n) (tv (nxO mc mw J) st) (-2) (k + 1)) (pmk (nxO mc mw J) st ma n) (nI (kc + 0)) (nI kl) (nI kg) ov un la) := hD
                              refine lv_iinc (v := nI (k + 1)) (lv' := [(6, .int (nI (k + 1))), (3, .int (nI n)), (0, .ref (M 0)), (5, .int (-2))]) hx hb dX7_walks_249 hl (k := 3) rfl (by exact nI_1 _) (by decide) rfl (fun ls hl => ?_)
                              refine lv_goto (tgt := 229) hx hb dX7_walks_252 (by decide) ?_
                              refine W.widen (k := 0) (n := 0) (Nat.le_refl _) (Nat.le_refl _) ?_
                              exact ih_229 (k + 1) _ _ _ (show (k + 1) ≤ n from (by exact c_232)) (show n - (k + 1) < n - k by omega) hP hD hS (lv_sub hl [1, 2, 3, 0] rfl)
                          · have c_176 : i + 1 < n := g_nle (a := n) (b := i + 1) c_176 (by omega) (by omega)
                            omega
                        · have c_205 : kg < 0 := g_nle (a := 0) (b := kg) c_205 (by omega) (by omega)
                          omega
                    · exact absurd c_141 (by decide)
          · have c_56 : a < 0 := g_nle (a := 0) (b := a) c_56 (by omega) (by omega)
            omega
        · have c_17 : 40401 + i = 0 := g_eq (a := 40401 + i) (b := 0) c_17 (by omega) (by omega)
          omega
      · have hnr : ∀ i, i < n → tv (nxO mc mw J) st i ≠ a := fun i hi h9 => hrep ⟨i, hi, h9⟩
        refine lv_aload_n hx hb dX7_walks_10 rfl (lv_at hl 0 rfl) ?_
        refine va_get (D := D) (ci := 8) (v := .ref (M 9)) (C := RX7) (T := TX7) (N := 20) hx hb hts inX7 hown hK hP 0 rfl rfl 12 (by decide) hfieldLink_RX7_35 (fun _ h9 => h9) rfl dX7_walks_11 ?_
        refine lv_iload hx hb dX7_walks_14 (lv_at hl 4 rfl) ?_
        refine va_iald hx hb hK hP 9 0 rfl rfl (vp_in_nI (by omega) (by omega)) dX7_walks_16 ?_
        refine lv_topi (fun f ef => ?_)
        obtain rfl : f = (fmk (nxO mc mw J) st mf n) a := ef.trans (congrArg (fmk (nxO mc mw J) st mf n) (nI_clamp (n := a) (by omega)))
        refine lv_topi (fun f ef => ?_)
        obtain rfl : f = mf a := ef.trans (fmk_out hnr)
        refine lv_if_ne (tgt := 54) hx hb dX7_walks_17 (by decide) (fun c_17 => ?_) (fun c_17 => ?_)
        · refine lv_iload hx hb dX7_walks_54 (lv_at hl 4 rfl) ?_
          refine lv_if_ge (tgt := 63) hx hb dX7_walks_56 (by decide) (fun c_56 => ?_) (fun c_56 => ?_)
          · have c_56 : 0 ≤ a := g_le (a := 0) (b := a) c_56 (by omega) (by omega)
            refine lv_aload_n hx hb dX7_walks_63 rfl (lv_at hl 0 rfl) ?_
            refine va_get (D := D) (ci := 8) (v := .ref (M 9)) (C := RX7) (T := TX7) (N := 20) hx hb hts inX7 hown hK hP 0 rfl rfl 12 (by decide) hfieldLink_RX7_35 (fun _ h9 => h9) rfl dX7_walks_64 ?_
            refine lv_iload hx hb dX7_walks_67 (lv_at hl 4 rfl) ?_
            refine va_iald hx hb hK hP 9 0 rfl rfl (vp_in_nI (by omega) (by omega)) dX7_walks_69 ?_
            refine lv_topi (fun f ef => ?_)
            obtain rfl : f = (fmk (nxO mc mw J) st mf n) a := ef.trans (congrArg (fmk (nxO mc mw J) st mf n) (nI_clamp (n := a) (by omega)))
            refine lv_topi (fun f ef => ?_)
            obtain rfl : f = mf a := ef.trans (fmk_out hnr)
            refine lv_istore (lv' := [(5, .int (mf a)), (0, .ref (M 0)), (1, .int (nI J)), (2, .int (nI st)), (3, .int (nI n)), (4, .int (nI a))]) hx hb dX7_walks_70 hl (by decide) rfl (fun ls hl => ?_)
            refine lv_iload hx hb dX7_walks_72 (lv_at hl 0 rfl) ?_
            refine lv_ldc (v := 40401) hx hb hown hconstant_RX7_34 dX7_walks_74 ?_
            refine lv_icmp_lt (tgt := 226) hx hb dX7_walks_76 (by decide) (fun c_76 => ?_) (fun c_76 => ?_)
            · refine lv_iconst (v := 0) hx hb dX7_walks_226 (by decide) ?_
              refine lv_istore (lv' := [(6, .int 0), (5, .int (mf a)), (0, .ref (M 0)), (1, .int (nI J)), (2, .int (nI st)), (3, .int (nI n)), (4, .int (nI a))]) hx hb dX7_walks_227 hl (by decide) rfl (fun ls hl => ?_)
              refine W.widen (k := 0) (n := 0) (Nat.le_refl _) (Nat.le_refl _) ?_
              refine g_while (σ := Nat) (st := []) (nL := 9) (fun k => mW cI M mc ms mw mn mo mh mu mk mt mq mp my (sfm (fmk (nxO mc mw J) st mf n) (tv (nxO mc mw J) st) (mf a) k) (pmk (nxO mc mw J) st ma n) (nI kc) (nI kl) (nI kg) ov un la)
                (fun k => [(3, .int (nI n)), (0, .ref (M 0)), (5, .int (mf a)), (6, .int (nI k))])
                (fun k => k ≤ n)
                (fun k => n - k) (fun k => 0) (fun k => 0)
                ?_ 0 (Nat.zero_le n) hP hD hS (lv_sub hl [5, 2, 1, 0] rfl)
              intro k hI H locs ls hP hD hS hl ih
              have hI : k ≤ n := hI
              have hP : va_P D ccl (mW cI M mc ms mw mn mo mh mu mk mt mq mp my (sfm (fmk (nxO mc mw J) st mf n) (tv (nxO mc mw J) st) (mf a) k) (pmk (nxO mc mw J) st ma n) (nI kc) (nI kl) (nI kg) ov un la) H := hP
              have hD : va_D A (mW cI M mc ms mw mn mo mh mu mk mt mq mp my (sfm (fmk (nxO mc mw J) st mf n) (tv (nxO mc mw J) st) (mf a) k) (pmk (nxO mc mw J) st ma n) (nI kc) (nI kl) (nI kg) ov un la) := hD
              have hl : lv_has ls 9 [(3, .int (nI n)), (0, .ref (M 0)), (5, .int (mf a)), (6, .int (nI k))] := hl
              change W p l e _ s m _ below meth c H locs 0 0 _ (F0 m 229 ls [])
              have ih_229 := ih
              clear ih
              refine lv_iload hx hb dX7_walks_229 (lv_at hl 3 rfl) ?_
              refine lv_iload_n hx hb dX7_walks_231 rfl (lv_at hl 0 rfl) ?_
              refine lv_icmp_ge (tgt := 255) hx hb dX7_walks_232 (by decide) (fun c_232 => ?_) (fun c_232 => ?_)
              · have c_232 : n ≤ k := g_le (a := n) (b := k) c_232 (by omega) (by omega)
                obtain rfl : n = k := by omega
                refine g_vret hx hb hr hlk hP hK hD hS (Nat.le_of_ble_eq_true rfl) (Nat.le_of_ble_eq_true rfl) dX7_walks_255 ?_
                have hA9 : kA mf a ≠ 0 := fun h9 => c_17 ((kA_0 hal).mp h9)
                exact ⟨_, _, _, _, _, rfl, ⟨n, ⟨hw9, fun a9 h9 => Or.inl (by rw [ha] at h9; cases h9; exact hA9)⟩, by
                  rw [kA_fin hX hst hw9]; unfold kd; rw [ha]; dsimp only; rw [if_neg hA9]; unfold kA; rw [if_pos hal], ⟨fun i9 hi9 h9 => absurd ⟨i9, hi9, by rw [ha] at h9; exact (Option.some.inj h9).symm⟩ hrep, fun _ => ⟨rfl, rfl, rfl⟩⟩⟩, fOK_fin hF (Nat.le_refl _) (hF a hal), by omega, hkl, hkg⟩
              · have c_232 : k < n := g_nle (a := n) (b := k) c_232 (by omega) (by omega)
                refine lv_aload_n hx hb dX7_walks_235 rfl (lv_at hl 1 rfl) ?_
                refine va_get (D := D) (ci := 8) (v := .ref (M 9)) (C := RX7) (T := TX7) (N := 20) hx hb hts inX7 hown hK hP 0 rfl rfl 12 (by decide) hfieldLink_RX7_35 (fun _ h9 => h9) rfl dX7_walks_236 ?_
                refine lv_aload_n hx hb dX7_walks_239 rfl (lv_at hl 1 rfl) ?_
                refine va_get (D := D) (ci := 8) (v := .ref (M 10)) (C := RX7) (T := TX7) (N := 20) hx hb hts inX7 hown hK hP 0 rfl rfl 13 (by decide) hfieldLink_RX7_38 (fun _ h9 => h9) rfl dX7_walks_240 ?_
                refine lv_iload hx hb dX7_walks_243 (lv_at hl 3 rfl) ?_
                refine va_iald hx hb hK hP 10 0 rfl rfl (vp_in_nI (by omega) (by omega)) dX7_walks_245 ?_
                refine lv_topi (fun f ef => ?_)
                obtain rfl : f = (pmk (nxO mc mw J) st ma n) k := ef.trans (congrArg (pmk (nxO mc mw J) st ma n) (nI_clamp (n := k) (by omega)))
                refine lv_topi (fun f ef => ?_)
                obtain rfl : f = nI (tv (nxO mc mw J) st k) := ef.trans (pmk_in c_232)
                refine lv_iload hx hb dX7_walks_246 (lv_at hl 2 rfl) ?_
                have hT6 := hT k c_232
                refine va_iast hx hb hK hP hD hS 9 0 rfl rfl (vp_in_nI (hT k c_232) (by decide)) dX7_walks_248 (fun H locs hP hD hS => ?_)
                rw [show (nI (tv (nxO mc mw J) st k)).toNatClampNeg = tv (nxO mc mw J) st k from (nI_clamp (by omega))] at hP hD
                rw [show upd (sfm (fmk (nxO mc mw J) st mf n) (tv (nxO mc mw J) st) (mf a) k) (tv (nxO mc mw J) st k) (mf a) = sfm (fmk (nxO mc mw J) st mf n) (tv (nxO mc mw J) st) (mf a) (k + 1) from rfl] at hP hD
                have hP : va_P D ccl (mW cI M mc ms mw mn mo mh mu mk mt mq mp my (sfm (fmk (nxO mc mw J) st mf n) (tv (nxO mc mw J) st) (mf a) (k + 1)) (pmk (nxO mc mw J) st ma n) (nI kc) (nI kl) (nI kg) ov un la) H := hP
                have hD : va_D A (mW cI M mc ms mw mn mo mh mu mk mt mq mp my (sfm (fmk (nxO mc mw J) st mf n) (tv (nxO mc mw J) st) (mf a) (k + 1)) (pmk (nxO mc mw J) st ma n) (nI kc) (nI kl) (nI kg) ov un la) := hD
                refine lv_iinc (v := nI (k + 1)) (lv' := [(6, .int (nI (k + 1))), (3, .int (nI n)), (0, .ref (M 0)), (5, .int (mf a))]) hx hb dX7_walks_249 hl (k := 3) rfl (by exact nI_1 _) (by decide) rfl (fun ls hl => ?_)
                refine lv_goto (tgt := 229) hx hb dX7_walks_252 (by decide) ?_
                refine W.widen (k := 0) (n := 0) (Nat.le_refl _) (Nat.le_refl _) ?_
                exact ih_229 (k + 1) _ _ _ (show (k + 1) ≤ n from (by exact c_232)) (show n - (k + 1) < n - k by omega) hP hD hS (lv_sub hl [1, 2, 3, 0] rfl)
            · exact absurd (fOK_lt hF (by omega) hal) c_76
          · have c_56 : a < 0 := g_nle (a := 0) (b := a) c_56 (by omega) (by omega)
            omega
        · have hw8 := wayN_s hw9 ha ((kA_0 hal).mpr c_17) hnr
          have hn8 := wayN_le hX hst hw8
          refine lv_aload_n hx hb dX7_walks_20 rfl (lv_at hl 0 rfl) ?_
          refine va_get (D := D) (ci := 8) (v := .ref (M 9)) (C := RX7) (T := TX7) (N := 20) hx hb hts inX7 hown hK hP 0 rfl rfl 12 (by decide) hfieldLink_RX7_35 (fun _ h9 => h9) rfl dX7_walks_21 ?_
          refine lv_iload hx hb dX7_walks_24 (lv_at hl 4 rfl) ?_
          refine lv_ldc (v := 40401) hx hb hown hconstant_RX7_34 dX7_walks_26 ?_
          refine lv_iload_n hx hb dX7_walks_28 rfl (lv_at hl 3 rfl) ?_
          refine lv_iadd hx hb dX7_walks_29 ?_
          refine lv_topi (fun f ef => ?_)
          obtain rfl : f = nI (40401 + n) := ef.trans (nI_add _ _)
          refine va_iast hx hb hK hP hD hS 9 0 rfl rfl (vp_in_nI (by omega) (by omega)) dX7_walks_30 (fun H locs hP hD hS => ?_)
          rw [show (nI a).toNatClampNeg = a from (nI_clamp (by omega))] at hP hD
          rw [show upd (fmk (nxO mc mw J) st mf n) a (nI (40401 + n)) = fmk (nxO mc mw J) st mf (n + 1) from by show _ = upd (fmk (nxO mc mw J) st mf n) (tv (nxO mc mw J) st n) (nI (40401 + n)); rw [tv_of ha]] at hP hD
          have hP : va_P D ccl (mW cI M mc ms mw mn mo mh mu mk mt mq mp my (fmk (nxO mc mw J) st mf (n + 1)) (pmk (nxO mc mw J) st ma n) (nI kc) (nI kl) (nI kg) ov un la) H := hP
          have hD : va_D A (mW cI M mc ms mw mn mo mh mu mk mt mq mp my (fmk (nxO mc mw J) st mf (n + 1)) (pmk (nxO mc mw J) st ma n) (nI kc) (nI kl) (nI kg) ov un la) := hD
          refine lv_aload_n hx hb dX7_walks_31 rfl (lv_at hl 0 rfl) ?_
          refine va_get (D := D) (ci := 8) (v := .ref (M 10)) (C := RX7) (T := TX7) (N := 20) hx hb hts inX7 hown hK hP 0 rfl rfl 13 (by decide) hfieldLink_RX7_38 (fun _ h9 => h9) rfl dX7_walks_32 ?_
          refine lv_iload_n hx hb dX7_walks_35 rfl (lv_at hl 3 rfl) ?_
          refine lv_iload hx hb dX7_walks_36 (lv_at hl 4 rfl) ?_
          refine va_iast hx hb hK hP hD hS 10 0 rfl rfl (vp_in_nI (by omega) (by omega)) dX7_walks_38 (fun H locs hP hD hS => ?_)
          rw [show (nI n).toNatClampNeg = n from (nI_clamp (by omega))] at hP hD
          rw [show upd (pmk (nxO mc mw J) st ma n) n (nI a) = pmk (nxO mc mw J) st ma (n + 1) from by show _ = upd (pmk (nxO mc mw J) st ma n) n (nI (tv (nxO mc mw J) st n)); rw [tv_of ha]] at hP hD
          have hP : va_P D ccl (mW cI M mc ms mw mn mo mh mu mk mt mq mp my (fmk (nxO mc mw J) st mf (n + 1)) (pmk (nxO mc mw J) st ma (n + 1)) (nI kc) (nI kl) (nI kg) ov un la) H := hP
          have hD : va_D A (mW cI M mc ms mw mn mo mh mu mk mt mq mp my (fmk (nxO mc mw J) st mf (n + 1)) (pmk (nxO mc mw J) st ma (n + 1)) (nI kc) (nI kl) (nI kg) ov un la) := hD
          refine lv_iinc (v := nI (n + 1)) (lv' := [(3, .int (nI (n + 1))), (0, .ref (M 0)), (1, .int (nI J)), (2, .int (nI st)), (4, .int (nI a))]) hx hb dX7_walks_39 hl (k := 3) rfl (by exact nI_1 _) (by decide) rfl (fun ls hl => ?_)
          refine lv_aload_n hx hb dX7_walks_42 rfl (lv_at hl 1 rfl) ?_
          refine lv_iload_n hx hb dX7_walks_43 rfl (lv_at hl 2 rfl) ?_
          refine lv_iload hx hb dX7_walks_44 (lv_at hl 4 rfl) ?_
          have hPc := hP.sub (ws' := [(M 0, .inr (8, [.ref (M 1), .ref (M 2), .ref (M 3), .int mn, .ref (M 4), .int mh, .ref (M 5), .int mk, .ref (M 6), .ref (M 7), .ref (M 8), .int my, .ref (M 9), .ref (M 10), .int (nI kc), .int (nI kl), .int (nI kg), .long ov, .long un, .int la])), (M 1, .inl (cI, 40, .inl mc)), (M 2, .inl (cI, 32, .inl ms)), (M 3, .inl (cI, 8, .inl mw)), (M 4, .inl (cI, 8, .inl mo)), (M 5, .inl (cI, 16, .inl mu)), (M 6, .inl (cI, 32, .inl mt)), (M 7, .inl (cI, 32, .inl mq)), (M 8, .inl (cI, 64, .inl mp)), (M 9, .inl (cI, 40401, .inl (fmk (nxO mc mw J) st mf (n + 1)))), (M 10, .inl (cI, 40401, .inl (pmk (nxO mc mw J) st ma (n + 1))))]) [0, 1, 2, 3, 4, 5, 6, 7, 8, 9, 10] rfl
          have hDc := hD.sub (ws' := [(M 0, .inr (8, [.ref (M 1), .ref (M 2), .ref (M 3), .int mn, .ref (M 4), .int mh, .ref (M 5), .int mk, .ref (M 6), .ref (M 7), .ref (M 8), .int my, .ref (M 9), .ref (M 10), .int (nI kc), .int (nI kl), .int (nI kg), .long ov, .long un, .int la])), (M 1, .inl (cI, 40, .inl mc)), (M 2, .inl (cI, 32, .inl ms)), (M 3, .inl (cI, 8, .inl mw)), (M 4, .inl (cI, 8, .inl mo)), (M 5, .inl (cI, 16, .inl mu)), (M 6, .inl (cI, 32, .inl mt)), (M 7, .inl (cI, 32, .inl mq)), (M 8, .inl (cI, 64, .inl mp)), (M 9, .inl (cI, 40401, .inl (fmk (nxO mc mw J) st mf (n + 1)))), (M 10, .inl (cI, 40401, .inl (pmk (nxO mc mw J) st ma (n + 1))))]) [0, 1, 2, 3, 4, 5, 6, 7, 8, 9, 10] (by decide) rfl
          have hFc := va_free (wc := [(M 0, .inr (8, [.ref (M 1), .ref (M 2), .ref (M 3), .int mn, .ref (M 4), .int mh, .ref (M 5), .int mk, .ref (M 6), .ref (M 7), .ref (M 8), .int my, .ref (M 9), .ref (M 10), .int (nI kc), .int (nI kl), .int (nI kg), .long ov, .long un, .int la])), (M 1, .inl (cI, 40, .inl mc)), (M 2, .inl (cI, 32, .inl ms)), (M 3, .inl (cI, 8, .inl mw)), (M 4, .inl (cI, 8, .inl mo)), (M 5, .inl (cI, 16, .inl mu)), (M 6, .inl (cI, 32, .inl mt)), (M 7, .inl (cI, 32, .inl mq)), (M 8, .inl (cI, 64, .inl mp)), (M 9, .inl (cI, 40401, .inl (fmk (nxO mc mw J) st mf (n + 1)))), (M 10, .inl (cI, 40401, .inl (pmk (nxO mc mw J) st ma (n + 1))))]) hD hS hA [0, 1, 2, 3, 4, 5, 6, 7, 8, 9, 10] rfl
          refine g_Vi (As := [.int (nI J), .int (nI a)]) (rest := []) CF (c_X7_next l D cI cJ cO df H.size M mc ms mw mn mo mh mu mk mt mq mp my (fmk (nxO mc mw J) st mf (n + 1)) (pmk (nxO mc mw J) st ma (n + 1)) (nI kc) (nI kl) (nI kg) ov un la J a (by omega) (by omega)) (cwV 2 hts gX7_walks_X7_next rfl rfl rfl (by decide +kernel) ⟨Nat.le_of_ble_eq_true rfl, Nat.le_of_ble_eq_true rfl⟩) (va_recv hK hP (ci := 8) (q0 := 0) rfl rfl) hPc hK hDc hV hH hS hFc rfl hl.1 rfl (Nat.le_of_ble_eq_true rfl) dX7_walks_46 ⟨Nat.le_of_ble_eq_true rfl, Nat.le_of_ble_eq_true rfl⟩ (fun r_46 w1 H1 locs1 hq hP1 hD1 hk hS hz => ?_)
          obtain ⟨rfl, hr_46⟩ := hq
          have hP := g_keepR hP hD [0, 1, 2, 3, 4, 5, 6, 7, 8, 9, 10] rfl hk hP1
          clear hPc hDc hFc hP1 hD1 hk hz
          generalize H1 = H at hP hS ⊢
          have hP : va_P D ccl (mW cI M mc ms mw mn mo mh mu mk mt mq mp my (fmk (nxO mc mw J) st mf (n + 1)) (pmk (nxO mc mw J) st ma (n + 1)) (nI kc) (nI kl) (nI kg) ov un la) H := hP
          have hD : va_D A (mW cI M mc ms mw mn mo mh mu mk mt mq mp my (fmk (nxO mc mw J) st mf (n + 1)) (pmk (nxO mc mw J) st ma (n + 1)) (nI kc) (nI kl) (nI kg) ov un la) := hD
          subst hr_46
          refine lv_topi (fun f ef => ?_)
          obtain rfl : f = oI (tr (nxO mc mw J) st (n + 1)) := ef.trans (by rw [tr_s ha])
          refine lv_istore (lv' := [(4, .int (oI (tr (nxO mc mw J) st (n + 1)))), (3, .int (nI (n + 1))), (0, .ref (M 0)), (1, .int (nI J)), (2, .int (nI st))]) hx hb dX7_walks_49 hl (by decide) rfl (fun ls hl => ?_)
          refine lv_goto (tgt := 5) hx hb dX7_walks_51 (by decide) ?_
          refine W.widen (k := 0) (n := 0) (Nat.le_refl _) (Nat.le_refl _) ?_
          exact ih_5 (n + 1) _ _ _ (show wayN (nxO mc mw J) (kA mf) st (n + 1) from (by exact hw8)) (show 40402 - (n + 1) < 40402 - n by omega) hP hD hS (lv_sub hl [2, 3, 4, 1, 0] rfl)
