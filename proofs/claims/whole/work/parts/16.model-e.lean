set_option maxHeartbeats 4000000 in
set_option maxRecDepth 100000 in
theorem c_X7_common (l : Launch) (D : va_G) (cI cJ cO : ClassId) (df sz : Nat) (xx : Int64) (yy : Int64) (hx1 : -4611686018427387904 < xx.toInt ∧ xx.toInt < 4611686018427387904) (hy1 : -4611686018427387904 < yy.toInt ∧ yy.toInt < 4611686018427387904) : MetL l yX7_common wsX7_common ({ frames := 0, cells := 0, slots := 0, locals := 0 } : Room) D (gTY cI cJ cO) df [] sz [.long xx, .long yy] (fun (r : Int64) (wZ : va_W) => wZ = [] ∧ r = lN (Nat.gcd xx.toInt.natAbs yy.toInt.natAbs)) := by
  refine g_of (cc := cX7_common) (nL := 10) (ret := (some .long)) (D := D) (TY := (gTY cI cJ cO)) (df := df) (Qc := fun A => va_Ql (fun (r : Int64) (wZ : va_W) => wZ = [] ∧ r = lN (Nat.gcd xx.toInt.natAbs yy.toInt.natAbs)) (gB D (gTY cI cJ cO) A) A) (by decide +kernel) rfl (Nat.le_of_ble_eq_true rfl) ?_
  intro p e s m below meth c ls A hsz C0 hin hl
  obtain ⟨CF, hr, hlk, hA, hS, hP, hK, hD, hV, hH⟩ := C0
  have CF : CallFix p m c cX7_common 10 s _ wsX7_common RX7 := CF
  obtain ⟨hx, hb, hml, hown, hts⟩ := id CF
  subst hsz
  have hP : va_P D ccl [] s.heap := hP
  have hl : lv_has ls 10 [(0, .long xx), (2, .long yy)] := hl
  refine lv_lload_n hx hb dX7_common_0 rfl (lv_at hl 0 rfl) ?_
  refine lv_lconst (v := 0) hx hb dX7_common_1 (by decide) ?_
  refine W.lcmp hx hb dX7_common_2 ?_
  refine g_phil (ls := ls) (J := 12) (st1 := []) (REL := fun a => a = lN xx.toInt.natAbs) (fun a hb_12 => ?_) (fun hJ_12 => ?_)
  · subst hb_12
    refine lv_lstore (lv' := [(4, .long (lN xx.toInt.natAbs)), (0, .long xx), (2, .long yy)]) hx hb dX7_common_12 hl (by decide) rfl (fun ls hl => ?_)
    refine lv_lload_n hx hb dX7_common_14 rfl (lv_at hl 2 rfl) ?_
    refine lv_lconst (v := 0) hx hb dX7_common_15 (by decide) ?_
    refine W.lcmp hx hb dX7_common_16 ?_
    refine g_phil (ls := ls) (J := 26) (st1 := []) (REL := fun a => a = lN yy.toInt.natAbs) (fun a hb_26 => ?_) (fun hJ_26 => ?_)
    · subst hb_26
      refine lv_lstore (lv' := [(6, .long (lN yy.toInt.natAbs)), (4, .long (lN xx.toInt.natAbs)), (0, .long xx), (2, .long yy)]) hx hb dX7_common_26 hl (by decide) rfl (fun ls hl => ?_)
      refine W.widen (k := 0) (n := 0) (Nat.le_refl _) (Nat.le_refl _) ?_
      refine g_while (σ := Nat × Nat) (st := []) (nL := 10) (fun z => match z with | (U, V) => [])
        (fun z => match z with | (U, V) => [(0, .long xx), (2, .long yy), (4, .long (lN U)), (6, .long (lN V))])
        (fun z => match z with | (U, V) => U < 4611686018427387904 ∧ V < 4611686018427387904 ∧ Nat.gcd U V = Nat.gcd xx.toInt.natAbs yy.toInt.natAbs)
        (fun z => match z with | (U, V) => V) (fun z => match z with | (U, V) => 0) (fun z => match z with | (U, V) => 0)
        ?_ (xx.toInt.natAbs, yy.toInt.natAbs) (by exact ⟨by omega, by omega, rfl⟩) hP hD hS (lv_sub hl [2, 3, 1, 0] rfl)
      rintro ⟨U, V⟩ hI H locs ls hP hD hS hl ih
      have hI : U < 4611686018427387904 ∧ V < 4611686018427387904 ∧ Nat.gcd U V = Nat.gcd xx.toInt.natAbs yy.toInt.natAbs := hI
      have hP : va_P D ccl [] H := hP
      have hD : va_D A [] := hD
      have hl : lv_has ls 10 [(0, .long xx), (2, .long yy), (4, .long (lN U)), (6, .long (lN V))] := hl
      change W p l e _ s m _ below meth c H locs 0 0 _ (F0 m 28 ls [])
      have ih_28 := ih
      clear ih
      obtain ⟨hU, hV9, hG⟩ := hI
      refine lv_lload hx hb dX7_common_28 (lv_at hl 3 rfl) ?_
      refine lv_lconst (v := 0) hx hb dX7_common_30 (by decide) ?_
      refine W.lcmp hx hb dX7_common_31 ?_
      refine lv_if_le (tgt := 53) hx hb dX7_common_32 (by decide) (fun c_32 => ?_) (fun c_32 => ?_)
      · have c_32 : (lN V).toInt ≤ 0 := g_cmp_le.mp c_32
        obtain rfl : V = 0 := by rw [pk_lT (by omega)] at c_32; omega
        refine lv_lload hx hb dX7_common_53 (lv_at hl 2 rfl) ?_
        refine g_lret (v := lN U) hx hb hr hlk hP hK hD hS (Nat.le_of_ble_eq_true rfl) (Nat.le_of_ble_eq_true rfl) dX7_common_55 ?_
        exact ⟨rfl, by rw [← hG, Nat.gcd_zero_right]⟩
      · have c_32 : ¬ (lN V).toInt ≤ 0 := fun h9 => c_32 (g_cmp_le.mpr h9)
        have hV0 : 0 < V := by rw [pk_lT (by omega)] at c_32; omega
        refine lv_lload hx hb dX7_common_35 (lv_at hl 2 rfl) ?_
        refine lv_lload hx hb dX7_common_37 (lv_at hl 3 rfl) ?_
        refine lv_lrem hx hb dX7_common_39 (fun h9 => absurd ((pk_lEQ (b := 0) (by omega) (by decide)).mp h9) (by omega)) ?_
        refine lv_topl (fun f ef => ?_)
        obtain rfl : f = lN (U % V) := ef.trans (pk_lRem (by omega) hV0 (by omega))
        refine lv_lstore (lv' := [(8, .long (lN (U % V))), (0, .long xx), (2, .long yy), (4, .long (lN U)), (6, .long (lN V))]) hx hb dX7_common_40 hl (by decide) rfl (fun ls hl => ?_)
        refine lv_lload hx hb dX7_common_42 (lv_at hl 4 rfl) ?_
        refine lv_lstore (lv' := [(4, .long (lN V)), (8, .long (lN (U % V))), (0, .long xx), (2, .long yy), (6, .long (lN V))]) hx hb dX7_common_44 hl (by decide) rfl (fun ls hl => ?_)
        refine lv_lload hx hb dX7_common_46 (lv_at hl 1 rfl) ?_
        refine lv_lstore (lv' := [(6, .long (lN (U % V))), (4, .long (lN V)), (8, .long (lN (U % V))), (0, .long xx), (2, .long yy)]) hx hb dX7_common_48 hl (by decide) rfl (fun ls hl => ?_)
        refine lv_goto (tgt := 28) hx hb dX7_common_50 (by decide) ?_
        refine W.widen (k := 0) (n := 0) (Nat.le_refl _) (Nat.le_refl _) ?_
        exact ih_28 (V, (U % V)) _ _ _ (show V < 4611686018427387904 ∧ (U % V) < 4611686018427387904 ∧ Nat.gcd V (U % V) = Nat.gcd xx.toInt.natAbs yy.toInt.natAbs from (by exact ⟨hV9, Nat.lt_trans (Nat.mod_lt _ hV0) hV9, by rw [← hG, Nat.gcd_comm U V, Nat.gcd_rec V U, Nat.gcd_comm]⟩)) (show U % V < V from Nat.mod_lt _ hV0) hP hD hS (lv_sub hl [3, 4, 1, 0] rfl)
    · refine lv_if_ge (tgt := 25) hx hb dX7_common_17 (by decide) (fun c_17 => ?_) (fun c_17 => ?_)
      · have c_17 : 0 ≤ yy.toInt := g_cmp_ge.mp c_17
        refine lv_lload_n hx hb dX7_common_25 rfl (lv_at hl 2 rfl) ?_
        exact hJ_26 _ (L_pos (by omega))
      · have c_17 : ¬ 0 ≤ yy.toInt := fun h9 => c_17 (g_cmp_ge.mpr h9)
        refine lv_lload_n hx hb dX7_common_20 rfl (lv_at hl 2 rfl) ?_
        refine lv_lneg hx hb dX7_common_21 ?_
        refine lv_goto (tgt := 26) hx hb dX7_common_22 (by decide) ?_
        exact hJ_26 _ (L_neg (by omega) (by omega))
  · refine lv_if_ge (tgt := 11) hx hb dX7_common_3 (by decide) (fun c_3 => ?_) (fun c_3 => ?_)
    · have c_3 : 0 ≤ xx.toInt := g_cmp_ge.mp c_3
      refine lv_lload_n hx hb dX7_common_11 rfl (lv_at hl 0 rfl) ?_
      exact hJ_12 _ (L_pos (by omega))
    · have c_3 : ¬ 0 ≤ xx.toInt := fun h9 => c_3 (g_cmp_ge.mpr h9)
      refine lv_lload_n hx hb dX7_common_6 rfl (lv_at hl 0 rfl) ?_
      refine lv_lneg hx hb dX7_common_7 ?_
      refine lv_goto (tgt := 12) hx hb dX7_common_8 (by decide) ?_
      exact hJ_12 _ (L_neg (by omega) (by omega))

set_option maxHeartbeats 4000000 in
set_option maxRecDepth 100000 in
theorem c_X7_gains (l : Launch) (D : va_G) (cI cJ cO : ClassId) (df sz : Nat) (M : Nat → Nat) (mc : Nat → Int32) (ms : Nat → Int32) (mw : Nat → Int32) (mn : Int32) (mo : Nat → Int32) (mu : Nat → Int32) (mk : Int32) (mt : Nat → Int32) (mq : Nat → Int32) (mp : Nat → Int32) (my : Int32) (mf : Nat → Int32) (ma : Nat → Int32) (cy : Int32) (lo : Int32) (gr : Int32) (ov : Int64) (un : Int64) (la : Int32) (C : Nat) (w : Nat) (hc : isC mc) (hw : w ≤ 2) (hC : C ≤ 8) (hCw : C ≤ (if w = 2 then 2 else 4)) (hO : ∀ i, i < C → gN (mo i) < 8 ∧ mo i = nI (gN (mo i))) : MetV l yX7_gains wsX7_gains ({ frames := 0, cells := 0, slots := 0, locals := 0 } : Room) D (gTY cI cJ cO) df (mW cI M mc ms mw mn mo (nI C) mu mk mt mq mp my mf ma cy lo gr ov un la) sz [.ref (M 0), .int (nI w)] (fun (wZ : va_W) => ∃ (o1 : Int64), ∃ (u1 : Int64), wZ = mW cI M mc ms mw mn mo (nI C) mu mk mt mq mp my mf ma cy lo gr o1 u1 la ∧ o1.toInt = zO mc mo w C ∧ u1.toInt = zU mc mo w C) := by
  refine g_of (cc := cX7_gains) (nL := 13) (ret := none) (D := D) (TY := (gTY cI cJ cO)) (df := df) (Qc := fun A => va_Qv (fun (wZ : va_W) => ∃ (o1 : Int64), ∃ (u1 : Int64), wZ = mW cI M mc ms mw mn mo (nI C) mu mk mt mq mp my mf ma cy lo gr o1 u1 la ∧ o1.toInt = zO mc mo w C ∧ u1.toInt = zU mc mo w C) (gB D (gTY cI cJ cO) A) A) (by decide +kernel) rfl (Nat.le_of_ble_eq_true rfl) ?_
  intro p e s m below meth c ls A hsz C0 hin hl
  obtain ⟨CF, hr, hlk, hA, hS, hP, hK, hD, hV, hH⟩ := C0
  have CF : CallFix p m c cX7_gains 13 s _ wsX7_gains RX7 := CF
  obtain ⟨hx, hb, hml, hown, hts⟩ := id CF
  subst hsz
  have hfieldLink_RX7_99 : (Cond.fieldLink RX7 99 "TapLoomModel" "over" "J").before _ s = true := hts _ (List.mem_of_getElem? (i := 1) rfl)
  have hfieldLink_RX7_103 : (Cond.fieldLink RX7 103 "TapLoomModel" "under" "J").before _ s = true := hts _ (List.mem_of_getElem? (i := 2) rfl)
  have hfieldLink_RX7_60 : (Cond.fieldLink RX7 60 "TapLoomModel" "chained" "I").before _ s = true := hts _ (List.mem_of_getElem? (i := 3) rfl)
  have hfieldLink_RX7_19 : (Cond.fieldLink RX7 19 "TapLoomModel" "order" "[I").before _ s = true := hts _ (List.mem_of_getElem? (i := 4) rfl)
  have hfieldLink_RX7_7 : (Cond.fieldLink RX7 7 "TapLoomModel" "coefficients" "[I").before _ s = true := hts _ (List.mem_of_getElem? (i := 5) rfl)
  have inX7 : ∀ w ∈ u_ws RX7 TX7 20, w ∈ wsX7_gains := fun w h => (List.mem_cons_of_mem _ (List.mem_append_right _ h))
  have hP : va_P D ccl (mW cI M mc ms mw mn mo (nI C) mu mk mt mq mp my mf ma cy lo gr ov un la) s.heap := hP
  have hl : lv_has ls 13 [(0, .ref (M 0)), (1, .int (nI w))] := hl
  refine lv_aload_n hx hb dX7_gains_0 rfl (lv_at hl 0 rfl) ?_
  refine lv_lconst (v := 1) hx hb dX7_gains_1 (by decide) ?_
  refine va_put (D := D) (ci := 8) (v := .long 1) (ty := .long) (C := RX7) (T := TX7) (N := 20) hx hb hts inX7 tyX7 tyX7_ok nmX7 hown hK hP hD hS 0 rfl rfl 17 (by decide) hfieldLink_RX7_99 (fun _ h9 => h9) rfl (by decide +kernel) rfl rfl (Nat.le_of_ble_eq_true rfl) dX7_gains_2 (fun H locs hP hD hS => ?_)
  have hP : va_P D ccl (mW cI M mc ms mw mn mo (nI C) mu mk mt mq mp my mf ma cy lo gr 1 un la) H := hP
  have hD : va_D A (mW cI M mc ms mw mn mo (nI C) mu mk mt mq mp my mf ma cy lo gr 1 un la) := hD
  refine lv_aload_n hx hb dX7_gains_5 rfl (lv_at hl 0 rfl) ?_
  refine lv_lconst (v := 1) hx hb dX7_gains_6 (by decide) ?_
  refine va_put (D := D) (ci := 8) (v := .long 1) (ty := .long) (C := RX7) (T := TX7) (N := 20) hx hb hts inX7 tyX7 tyX7_ok nmX7 hown hK hP hD hS 0 rfl rfl 18 (by decide) hfieldLink_RX7_103 (fun _ h9 => h9) rfl (by decide +kernel) rfl rfl (Nat.le_of_ble_eq_true rfl) dX7_gains_7 (fun H locs hP hD hS => ?_)
  have hP : va_P D ccl (mW cI M mc ms mw mn mo (nI C) mu mk mt mq mp my mf ma cy lo gr 1 1 la) H := hP
  have hD : va_D A (mW cI M mc ms mw mn mo (nI C) mu mk mt mq mp my mf ma cy lo gr 1 1 la) := hD
  refine lv_iconst (v := 0) hx hb dX7_gains_10 (by decide) ?_
  refine lv_istore_n (lv' := [(2, .int 0), (0, .ref (M 0)), (1, .int (nI w))]) hx hb dX7_gains_11 rfl hl (by decide) rfl (fun ls hl => ?_)
  refine W.widen (k := 0) (n := 0) (Nat.le_refl _) (Nat.le_refl _) ?_
  refine g_while (σ := Nat × Int64 × Int64) (st := []) (nL := 13) (fun z => match z with | (i, o1, u1) => mW cI M mc ms mw mn mo (nI C) mu mk mt mq mp my mf ma cy lo gr o1 u1 la)
    (fun z => match z with | (i, o1, u1) => [(0, .ref (M 0)), (1, .int (nI w)), (2, .int (nI i))])
    (fun z => match z with | (i, o1, u1) => i ≤ C ∧ o1.toInt = zO mc mo w i ∧ u1.toInt = zU mc mo w i)
    (fun z => match z with | (i, o1, u1) => C - i) (fun z => match z with | (i, o1, u1) => 0) (fun z => match z with | (i, o1, u1) => 0)
    ?_ (0, 1, 1) ⟨Nat.zero_le _, rfl, rfl⟩ hP hD hS (lv_sub hl [1, 2, 0] rfl)
  rintro ⟨i, o1, u1⟩ hI H locs ls hP hD hS hl ih
  have hI : i ≤ C ∧ o1.toInt = zO mc mo w i ∧ u1.toInt = zU mc mo w i := hI
  have hP : va_P D ccl (mW cI M mc ms mw mn mo (nI C) mu mk mt mq mp my mf ma cy lo gr o1 u1 la) H := hP
  have hD : va_D A (mW cI M mc ms mw mn mo (nI C) mu mk mt mq mp my mf ma cy lo gr o1 u1 la) := hD
  have hl : lv_has ls 13 [(0, .ref (M 0)), (1, .int (nI w)), (2, .int (nI i))] := hl
  change W p l e _ s m _ below meth c H locs 0 0 _ (F0 m 12 ls [])
  have ih_12 := ih
  clear ih
  obtain ⟨hi, eo, eu⟩ := hI
  refine lv_iload_n hx hb dX7_gains_12 rfl (lv_at hl 2 rfl) ?_
  refine lv_aload_n hx hb dX7_gains_13 rfl (lv_at hl 0 rfl) ?_
  refine va_get (D := D) (ci := 8) (v := .int (nI C)) (C := RX7) (T := TX7) (N := 20) hx hb hts inX7 hown hK hP 0 rfl rfl 5 (by decide) hfieldLink_RX7_60 (fun _ h9 => h9) rfl dX7_gains_14 ?_
  refine lv_icmp_ge (tgt := 199) hx hb dX7_gains_17 (by decide) (fun c_17 => ?_) (fun c_17 => ?_)
  · have c_17 : C ≤ i := g_le (a := C) (b := i) c_17 (by omega) (by omega)
    obtain rfl : i = C := by omega
    refine g_vret hx hb hr hlk hP hK hD hS (Nat.le_of_ble_eq_true rfl) (Nat.le_of_ble_eq_true rfl) dX7_gains_199 ?_
    exact ⟨_, _, rfl, eo, eu⟩
  · have c_17 : i < C := g_nle (a := C) (b := i) c_17 (by omega) (by omega)
    refine lv_iconst (v := 5) hx hb dX7_gains_20 (by decide) ?_
    refine lv_aload_n hx hb dX7_gains_21 rfl (lv_at hl 0 rfl) ?_
    refine va_get (D := D) (ci := 8) (v := .ref (M 4)) (C := RX7) (T := TX7) (N := 20) hx hb hts inX7 hown hK hP 0 rfl rfl 4 (by decide) hfieldLink_RX7_19 (fun _ h9 => h9) rfl dX7_gains_22 ?_
    refine lv_iload_n hx hb dX7_gains_25 rfl (lv_at hl 2 rfl) ?_
    refine va_iald hx hb hK hP 4 0 rfl rfl (vp_in_nI (by omega) (by omega)) dX7_gains_26 ?_
    refine lv_topi (fun f ef => ?_)
    obtain rfl : f = mo i := ef.trans (congrArg mo (nI_clamp (n := i) (by omega)))
    refine lv_topi (fun f ef => ?_)
    obtain rfl : f = nI (gN (mo i)) := ef.trans ((hO i c_17).2)
    refine lv_imul hx hb dX7_gains_27 ?_
    refine lv_topi (fun f ef => ?_)
    obtain rfl : f = nI (5 * (gN (mo i))) := ef.trans (pk_mul _ _)
    have hJ := (hO i c_17).1
    have hb9 := zOU_le (k := i) hc hCw hi (fun j hj => (hO j hj).1)
    have hb8 := zOU_le (k := i + 1) hc hCw c_17 (fun j hj => (hO j hj).1)
    have hq9 : (if w = 2 then 6503616025 else 21071715921) ≤ 21071715921 := by split <;> decide
    refine lv_istore_n (lv' := [(3, .int (nI (5 * (gN (mo i))))), (0, .ref (M 0)), (1, .int (nI w)), (2, .int (nI i))]) hx hb dX7_gains_28 rfl hl (by decide) rfl (fun ls hl => ?_)
    refine lv_iload_n hx hb dX7_gains_29 rfl (lv_at hl 2 rfl) ?_
    refine lv_iconst (v := 1) hx hb dX7_gains_30 (by decide) ?_
    refine g_phii (ls := ls) (J := 39) (st1 := []) (REL := fun b => b = if w = 1 then (-1 : Int32) else 1) (fun b hb_39 => ?_) (fun hJ_39 => ?_)
    · subst hb_39
      refine lv_istore (lv' := [(4, .int (if w = 1 then (-1 : Int32) else 1)), (3, .int (nI (5 * (gN (mo i))))), (0, .ref (M 0)), (1, .int (nI w)), (2, .int (nI i))]) hx hb dX7_gains_39 hl (by decide) rfl (fun ls hl => ?_)
      refine lv_aload_n hx hb dX7_gains_41 rfl (lv_at hl 2 rfl) ?_
      refine va_get (D := D) (ci := 8) (v := .ref (M 1)) (C := RX7) (T := TX7) (N := 20) hx hb hts inX7 hown hK hP 0 rfl rfl 0 (by decide) hfieldLink_RX7_7 (fun _ h9 => h9) rfl dX7_gains_42 ?_
      refine lv_iload_n hx hb dX7_gains_45 rfl (lv_at hl 1 rfl) ?_
      refine lv_iconst (v := 1) hx hb dX7_gains_46 (by decide) ?_
      refine lv_iadd hx hb dX7_gains_47 ?_
      refine lv_topi (fun f ef => ?_)
      obtain rfl : f = nI ((5 * (gN (mo i))) + 1) := ef.trans (nI_add _ _)
      refine va_iald hx hb hK hP 1 0 rfl rfl (vp_in_nI (by omega) (by omega)) dX7_gains_48 ?_
      refine lv_topi (fun f ef => ?_)
      obtain rfl : f = mc ((5 * (gN (mo i))) + 1) := ef.trans (congrArg mc (nI_clamp (n := (5 * (gN (mo i))) + 1) (by omega)))
      refine lv_i2l (v := (mc ((5 * (gN (mo i))) + 1)).toInt64) hx hb dX7_gains_49 rfl ?_
      refine lv_lstore (lv' := [(5, .long ((mc ((5 * (gN (mo i))) + 1)).toInt64)), (4, .int (if w = 1 then (-1 : Int32) else 1)), (3, .int (nI (5 * (gN (mo i))))), (0, .ref (M 0)), (1, .int (nI w)), (2, .int (nI i))]) hx hb dX7_gains_50 hl (by decide) rfl (fun ls hl => ?_)
      refine lv_aload_n hx hb dX7_gains_52 rfl (lv_at hl 3 rfl) ?_
      refine va_get (D := D) (ci := 8) (v := .ref (M 1)) (C := RX7) (T := TX7) (N := 20) hx hb hts inX7 hown hK hP 0 rfl rfl 0 (by decide) hfieldLink_RX7_7 (fun _ h9 => h9) rfl dX7_gains_53 ?_
      refine lv_iload_n hx hb dX7_gains_56 rfl (lv_at hl 2 rfl) ?_
      refine lv_iconst (v := 3) hx hb dX7_gains_57 (by decide) ?_
      refine lv_iadd hx hb dX7_gains_58 ?_
      refine lv_topi (fun f ef => ?_)
      obtain rfl : f = nI ((5 * (gN (mo i))) + 3) := ef.trans (nI_add _ _)
      refine va_iald hx hb hK hP 1 0 rfl rfl (vp_in_nI (by omega) (by omega)) dX7_gains_59 ?_
      refine lv_topi (fun f ef => ?_)
      obtain rfl : f = mc ((5 * (gN (mo i))) + 3) := ef.trans (congrArg mc (nI_clamp (n := (5 * (gN (mo i))) + 3) (by omega)))
      refine lv_i2l (v := (mc ((5 * (gN (mo i))) + 3)).toInt64) hx hb dX7_gains_60 rfl ?_
      refine lv_lstore (lv' := [(7, .long ((mc ((5 * (gN (mo i))) + 3)).toInt64)), (5, .long ((mc ((5 * (gN (mo i))) + 1)).toInt64)), (4, .int (if w = 1 then (-1 : Int32) else 1)), (3, .int (nI (5 * (gN (mo i))))), (0, .ref (M 0)), (1, .int (nI w)), (2, .int (nI i))]) hx hb dX7_gains_61 hl (by decide) rfl (fun ls hl => ?_)
      refine lv_aload_n hx hb dX7_gains_63 rfl (lv_at hl 4 rfl) ?_
      refine va_get (D := D) (ci := 8) (v := .ref (M 1)) (C := RX7) (T := TX7) (N := 20) hx hb hts inX7 hown hK hP 0 rfl rfl 0 (by decide) hfieldLink_RX7_7 (fun _ h9 => h9) rfl dX7_gains_64 ?_
      refine lv_iload_n hx hb dX7_gains_67 rfl (lv_at hl 3 rfl) ?_
      refine va_iald hx hb hK hP 1 0 rfl rfl (vp_in_nI (by omega) (by omega)) dX7_gains_68 ?_
      refine lv_topi (fun f ef => ?_)
      obtain rfl : f = mc (5 * (gN (mo i))) := ef.trans (congrArg mc (nI_clamp (n := 5 * (gN (mo i))) (by omega)))
      refine lv_aload_n hx hb dX7_gains_69 rfl (lv_at hl 4 rfl) ?_
      refine va_get (D := D) (ci := 8) (v := .ref (M 1)) (C := RX7) (T := TX7) (N := 20) hx hb hts inX7 hown hK hP 0 rfl rfl 0 (by decide) hfieldLink_RX7_7 (fun _ h9 => h9) rfl dX7_gains_70 ?_
      refine lv_iload_n hx hb dX7_gains_73 rfl (lv_at hl 3 rfl) ?_
      refine lv_iconst (v := 2) hx hb dX7_gains_74 (by decide) ?_
      refine lv_iadd hx hb dX7_gains_75 ?_
      refine lv_topi (fun f ef => ?_)
      obtain rfl : f = nI ((5 * (gN (mo i))) + 2) := ef.trans (nI_add _ _)
      refine va_iald hx hb hK hP 1 0 rfl rfl (vp_in_nI (by omega) (by omega)) dX7_gains_76 ?_
      refine lv_topi (fun f ef => ?_)
      obtain rfl : f = mc ((5 * (gN (mo i))) + 2) := ef.trans (congrArg mc (nI_clamp (n := (5 * (gN (mo i))) + 2) (by omega)))
      refine lv_isub hx hb dX7_gains_77 ?_
      refine lv_i2l (v := ((mc (5 * (gN (mo i)))) - (mc ((5 * (gN (mo i))) + 2))).toInt64) hx hb dX7_gains_78 rfl ?_
      refine lv_lstore (lv' := [(9, .long (((mc (5 * (gN (mo i)))) - (mc ((5 * (gN (mo i))) + 2))).toInt64)), (7, .long ((mc ((5 * (gN (mo i))) + 3)).toInt64)), (5, .long ((mc ((5 * (gN (mo i))) + 1)).toInt64)), (4, .int (if w = 1 then (-1 : Int32) else 1)), (3, .int (nI (5 * (gN (mo i))))), (0, .ref (M 0)), (1, .int (nI w)), (2, .int (nI i))]) hx hb dX7_gains_79 hl (by decide) rfl (fun ls hl => ?_)
      refine lv_bipush (v := 64) hx hb dX7_gains_81 (by decide) ?_
      refine lv_aload_n hx hb dX7_gains_83 rfl (lv_at hl 5 rfl) ?_
      refine va_get (D := D) (ci := 8) (v := .ref (M 1)) (C := RX7) (T := TX7) (N := 20) hx hb hts inX7 hown hK hP 0 rfl rfl 0 (by decide) hfieldLink_RX7_7 (fun _ h9 => h9) rfl dX7_gains_84 ?_
      refine lv_iload_n hx hb dX7_gains_87 rfl (lv_at hl 4 rfl) ?_
      refine lv_iconst (v := 4) hx hb dX7_gains_88 (by decide) ?_
      refine lv_iadd hx hb dX7_gains_89 ?_
      refine lv_topi (fun f ef => ?_)
      obtain rfl : f = nI ((5 * (gN (mo i))) + 4) := ef.trans (nI_add _ _)
      refine va_iald hx hb hK hP 1 0 rfl rfl (vp_in_nI (by omega) (by omega)) dX7_gains_90 ?_
      refine lv_topi (fun f ef => ?_)
      obtain rfl : f = mc ((5 * (gN (mo i))) + 4) := ef.trans (congrArg mc (nI_clamp (n := (5 * (gN (mo i))) + 4) (by omega)))
      refine lv_isub hx hb dX7_gains_91 ?_
      refine lv_i2l (v := (64 - (mc ((5 * (gN (mo i))) + 4))).toInt64) hx hb dX7_gains_92 rfl ?_
      refine lv_lstore (lv' := [(11, .long ((64 - (mc ((5 * (gN (mo i))) + 4))).toInt64)), (9, .long (((mc (5 * (gN (mo i)))) - (mc ((5 * (gN (mo i))) + 2))).toInt64)), (7, .long ((mc ((5 * (gN (mo i))) + 3)).toInt64)), (5, .long ((mc ((5 * (gN (mo i))) + 1)).toInt64)), (4, .int (if w = 1 then (-1 : Int32) else 1)), (3, .int (nI (5 * (gN (mo i))))), (0, .ref (M 0)), (1, .int (nI w)), (2, .int (nI i))]) hx hb dX7_gains_93 hl (by decide) rfl (fun ls hl => ?_)
      refine lv_aload_n hx hb dX7_gains_95 rfl (lv_at hl 6 rfl) ?_
      refine lv_dup hx hb dX7_gains_96 rfl ?_
      refine va_get (D := D) (ci := 8) (v := .long o1) (C := RX7) (T := TX7) (N := 20) hx hb hts inX7 hown hK hP 0 rfl rfl 17 (by decide) hfieldLink_RX7_99 (fun _ h9 => h9) rfl dX7_gains_97 ?_
      refine lv_iload_n hx hb dX7_gains_100 rfl (lv_at hl 7 rfl) ?_
      refine lv_iconst (v := 2) hx hb dX7_gains_101 (by decide) ?_
      refine g_phil (ls := ls) (J := 142) (st1 := [.long o1, .ref (M 0)]) (REL := fun F => F.toInt = zN w (mc (5 * gN (mo i))).toInt (mc (5 * gN (mo i) + 1)).toInt (mc (5 * gN (mo i) + 2)).toInt) (fun F hb_142 => ?_) (fun hJ_142 => ?_)
      · refine lv_lmul hx hb dX7_gains_142 ?_
        refine lv_topl (fun o2 eo2 => ?_)
        refine va_put (D := D) (ci := 8) (v := .long o2) (ty := .long) (C := RX7) (T := TX7) (N := 20) hx hb hts inX7 tyX7 tyX7_ok nmX7 hown hK hP hD hS 0 rfl rfl 17 (by decide) hfieldLink_RX7_99 (fun _ h9 => h9) rfl (by decide +kernel) rfl rfl (Nat.le_of_ble_eq_true rfl) dX7_gains_143 (fun H locs hP hD hS => ?_)
        have hP : va_P D ccl (mW cI M mc ms mw mn mo (nI C) mu mk mt mq mp my mf ma cy lo gr o2 u1 la) H := hP
        have hD : va_D A (mW cI M mc ms mw mn mo (nI C) mu mk mt mq mp my mf ma cy lo gr o2 u1 la) := hD
        have eo2 : o2.toInt = zO mc mo w (i + 1) := by
          have e9 : o1.toInt * F.toInt = zO mc mo w (i + 1) := by rw [eo, hb_142]; rfl
          rw [eo2, fb_mulL (by rw [e9]; omega) (by rw [e9]; omega), e9]
        refine lv_aload_n hx hb dX7_gains_146 rfl (lv_at hl 6 rfl) ?_
        refine lv_dup hx hb dX7_gains_147 rfl ?_
        refine va_get (D := D) (ci := 8) (v := .long u1) (C := RX7) (T := TX7) (N := 20) hx hb hts inX7 hown hK hP 0 rfl rfl 18 (by decide) hfieldLink_RX7_103 (fun _ h9 => h9) rfl dX7_gains_148 ?_
        refine lv_iload_n hx hb dX7_gains_151 rfl (lv_at hl 7 rfl) ?_
        refine lv_iconst (v := 2) hx hb dX7_gains_152 (by decide) ?_
        refine g_phil (ls := ls) (J := 189) (st1 := [.long u1, .ref (M 0)]) (REL := fun G => G.toInt = zN w 64 (mc (5 * gN (mo i) + 3)).toInt (mc (5 * gN (mo i) + 4)).toInt) (fun G hb_189 => ?_) (fun hJ_189 => ?_)
        · refine lv_lmul hx hb dX7_gains_189 ?_
          refine lv_topl (fun u2 eu2 => ?_)
          refine va_put (D := D) (ci := 8) (v := .long u2) (ty := .long) (C := RX7) (T := TX7) (N := 20) hx hb hts inX7 tyX7 tyX7_ok nmX7 hown hK hP hD hS 0 rfl rfl 18 (by decide) hfieldLink_RX7_103 (fun _ h9 => h9) rfl (by decide +kernel) rfl rfl (Nat.le_of_ble_eq_true rfl) dX7_gains_190 (fun H locs hP hD hS => ?_)
          have hP : va_P D ccl (mW cI M mc ms mw mn mo (nI C) mu mk mt mq mp my mf ma cy lo gr o2 u2 la) H := hP
          have hD : va_D A (mW cI M mc ms mw mn mo (nI C) mu mk mt mq mp my mf ma cy lo gr o2 u2 la) := hD
          have eu2 : u2.toInt = zU mc mo w (i + 1) := by
            have e9 : u1.toInt * G.toInt = zU mc mo w (i + 1) := by rw [eu, hb_189]; rfl
            rw [eu2, fb_mulL (by rw [e9]; omega) (by rw [e9]; omega), e9]
          refine lv_iinc (v := nI (i + 1)) (lv' := [(2, .int (nI (i + 1))), (11, .long ((64 - (mc ((5 * (gN (mo i))) + 4))).toInt64)), (9, .long (((mc (5 * (gN (mo i)))) - (mc ((5 * (gN (mo i))) + 2))).toInt64)), (7, .long ((mc ((5 * (gN (mo i))) + 3)).toInt64)), (5, .long ((mc ((5 * (gN (mo i))) + 1)).toInt64)), (4, .int (if w = 1 then (-1 : Int32) else 1)), (3, .int (nI (5 * (gN (mo i))))), (0, .ref (M 0)), (1, .int (nI w))]) hx hb dX7_gains_193 hl (k := 8) rfl (by exact nI_1 _) (by decide) rfl (fun ls hl => ?_)
          refine lv_goto (tgt := 12) hx hb dX7_gains_196 (by decide) ?_
          refine W.widen (k := 0) (n := 0) (Nat.le_refl _) (Nat.le_refl _) ?_
          exact ih_12 (i + 1, o2, u2) _ _ _ (show (i + 1) ≤ C ∧ o2.toInt = zO mc mo w (i + 1) ∧ u2.toInt = zU mc mo w (i + 1) from (by exact ⟨c_17, eo2, eu2⟩)) (show C - (i + 1) < C - i by omega) hP hD hS (lv_sub hl [7, 8, 0] rfl)
        · refine lv_icmp_ne (tgt := 170) hx hb dX7_gains_153 (by decide) (fun c_153 => ?_) (fun c_153 => ?_)
          · have c_153 : w ≠ 2 := g_ne (a := w) (b := 2) c_153 (by omega) (by omega)
            refine lv_bipush (v := 64) hx hb dX7_gains_170 (by decide) ?_
            refine lv_aload_n hx hb dX7_gains_172 rfl (lv_at hl 6 rfl) ?_
            refine va_get (D := D) (ci := 8) (v := .ref (M 1)) (C := RX7) (T := TX7) (N := 20) hx hb hts inX7 hown hK hP 0 rfl rfl 0 (by decide) hfieldLink_RX7_7 (fun _ h9 => h9) rfl dX7_gains_173 ?_
            refine lv_iload_n hx hb dX7_gains_176 rfl (lv_at hl 5 rfl) ?_
            refine lv_iconst (v := 4) hx hb dX7_gains_177 (by decide) ?_
            refine lv_iadd hx hb dX7_gains_178 ?_
            refine lv_topi (fun f ef => ?_)
            obtain rfl : f = nI ((5 * (gN (mo i))) + 4) := ef.trans (nI_add _ _)
            refine va_iald hx hb hK hP 1 0 rfl rfl (vp_in_nI (by omega) (by omega)) dX7_gains_179 ?_
            refine lv_topi (fun f ef => ?_)
            obtain rfl : f = mc ((5 * (gN (mo i))) + 4) := ef.trans (congrArg mc (nI_clamp (n := (5 * (gN (mo i))) + 4) (by omega)))
            refine lv_iadd hx hb dX7_gains_180 ?_
            refine lv_i2l (v := (64 + (mc ((5 * (gN (mo i))) + 4))).toInt64) hx hb dX7_gains_181 rfl ?_
            refine lv_iload hx hb dX7_gains_182 (lv_at hl 4 rfl) ?_
            refine lv_i2l (v := (if w = 1 then (-1 : Int32) else 1).toInt64) hx hb dX7_gains_184 rfl ?_
            refine lv_lload hx hb dX7_gains_185 (lv_at hl 2 rfl) ?_
            refine lv_lmul hx hb dX7_gains_187 ?_
            refine lv_ladd hx hb dX7_gains_188 ?_
            exact hJ_189 _ (by first | (rw [c_153]; exact gF2 (c0 := 64) ⟨by decide, by decide⟩ (hc _ (by omega)) (hc _ (by omega))) | exact gF1 (c0 := 64) c_153 ⟨by decide, by decide⟩ (hc _ (by omega)) (hc _ (by omega)))
          · have c_153 : w = 2 := g_eq (a := w) (b := 2) c_153 (by omega) (by omega)
            refine lv_lload hx hb dX7_gains_156 (lv_at hl 0 rfl) ?_
            refine lv_lload hx hb dX7_gains_158 (lv_at hl 0 rfl) ?_
            refine lv_lmul hx hb dX7_gains_160 ?_
            refine lv_lload hx hb dX7_gains_161 (lv_at hl 2 rfl) ?_
            refine lv_lload hx hb dX7_gains_163 (lv_at hl 2 rfl) ?_
            refine lv_lmul hx hb dX7_gains_165 ?_
            refine lv_ladd hx hb dX7_gains_166 ?_
            refine lv_goto (tgt := 189) hx hb dX7_gains_167 (by decide) ?_
            exact hJ_189 _ (by first | (rw [c_153]; exact gF2 (c0 := 64) ⟨by decide, by decide⟩ (hc _ (by omega)) (hc _ (by omega))) | exact gF1 (c0 := 64) c_153 ⟨by decide, by decide⟩ (hc _ (by omega)) (hc _ (by omega)))
      · refine lv_icmp_ne (tgt := 119) hx hb dX7_gains_102 (by decide) (fun c_102 => ?_) (fun c_102 => ?_)
        · have c_102 : w ≠ 2 := g_ne (a := w) (b := 2) c_102 (by omega) (by omega)
          refine lv_aload_n hx hb dX7_gains_119 rfl (lv_at hl 6 rfl) ?_
          refine va_get (D := D) (ci := 8) (v := .ref (M 1)) (C := RX7) (T := TX7) (N := 20) hx hb hts inX7 hown hK hP 0 rfl rfl 0 (by decide) hfieldLink_RX7_7 (fun _ h9 => h9) rfl dX7_gains_120 ?_
          refine lv_iload_n hx hb dX7_gains_123 rfl (lv_at hl 5 rfl) ?_
          refine va_iald hx hb hK hP 1 0 rfl rfl (vp_in_nI (by omega) (by omega)) dX7_gains_124 ?_
          refine lv_topi (fun f ef => ?_)
          obtain rfl : f = mc (5 * (gN (mo i))) := ef.trans (congrArg mc (nI_clamp (n := 5 * (gN (mo i))) (by omega)))
          refine lv_aload_n hx hb dX7_gains_125 rfl (lv_at hl 6 rfl) ?_
          refine va_get (D := D) (ci := 8) (v := .ref (M 1)) (C := RX7) (T := TX7) (N := 20) hx hb hts inX7 hown hK hP 0 rfl rfl 0 (by decide) hfieldLink_RX7_7 (fun _ h9 => h9) rfl dX7_gains_126 ?_
          refine lv_iload_n hx hb dX7_gains_129 rfl (lv_at hl 5 rfl) ?_
          refine lv_iconst (v := 2) hx hb dX7_gains_130 (by decide) ?_
          refine lv_iadd hx hb dX7_gains_131 ?_
          refine lv_topi (fun f ef => ?_)
          obtain rfl : f = nI ((5 * (gN (mo i))) + 2) := ef.trans (nI_add _ _)
          refine va_iald hx hb hK hP 1 0 rfl rfl (vp_in_nI (by omega) (by omega)) dX7_gains_132 ?_
          refine lv_topi (fun f ef => ?_)
          obtain rfl : f = mc ((5 * (gN (mo i))) + 2) := ef.trans (congrArg mc (nI_clamp (n := (5 * (gN (mo i))) + 2) (by omega)))
          refine lv_iadd hx hb dX7_gains_133 ?_
          refine lv_i2l (v := ((mc (5 * (gN (mo i)))) + (mc ((5 * (gN (mo i))) + 2))).toInt64) hx hb dX7_gains_134 rfl ?_
          refine lv_iload hx hb dX7_gains_135 (lv_at hl 4 rfl) ?_
          refine lv_i2l (v := (if w = 1 then (-1 : Int32) else 1).toInt64) hx hb dX7_gains_137 rfl ?_
          refine lv_lload hx hb dX7_gains_138 (lv_at hl 3 rfl) ?_
          refine lv_lmul hx hb dX7_gains_140 ?_
          refine lv_ladd hx hb dX7_gains_141 ?_
          exact hJ_142 _ (by first | (rw [c_102]; exact gF2 (hc _ (by omega)) (hc _ (by omega)) (hc _ (by omega))) | exact gF1 c_102 (hc _ (by omega)) (hc _ (by omega)) (hc _ (by omega)))
        · have c_102 : w = 2 := g_eq (a := w) (b := 2) c_102 (by omega) (by omega)
          refine lv_lload hx hb dX7_gains_105 (lv_at hl 1 rfl) ?_
          refine lv_lload hx hb dX7_gains_107 (lv_at hl 1 rfl) ?_
          refine lv_lmul hx hb dX7_gains_109 ?_
          refine lv_lload hx hb dX7_gains_110 (lv_at hl 3 rfl) ?_
          refine lv_lload hx hb dX7_gains_112 (lv_at hl 3 rfl) ?_
          refine lv_lmul hx hb dX7_gains_114 ?_
          refine lv_ladd hx hb dX7_gains_115 ?_
          refine lv_goto (tgt := 142) hx hb dX7_gains_116 (by decide) ?_
          exact hJ_142 _ (by first | (rw [c_102]; exact gF2 (hc _ (by omega)) (hc _ (by omega)) (hc _ (by omega))) | exact gF1 c_102 (hc _ (by omega)) (hc _ (by omega)) (hc _ (by omega)))
    · refine lv_icmp_ne (tgt := 38) hx hb dX7_gains_31 (by decide) (fun c_31 => ?_) (fun c_31 => ?_)
      · have c_31 : w ≠ 1 := g_ne (a := w) (b := 1) c_31 (by omega) (by omega)
        refine lv_iconst (v := 1) hx hb dX7_gains_38 (by decide) ?_
        exact hJ_39 _ (by first | rw [if_pos c_31] | rw [if_neg c_31])
      · have c_31 : w = 1 := g_eq (a := w) (b := 1) c_31 (by omega) (by omega)
        refine lv_iconst (v := (-1)) hx hb dX7_gains_34 (by decide) ?_
        refine lv_goto (tgt := 39) hx hb dX7_gains_35 (by decide) ?_
        exact hJ_39 _ (by first | rw [if_pos c_31] | rw [if_neg c_31])
