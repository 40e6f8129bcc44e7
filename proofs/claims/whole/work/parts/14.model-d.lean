set_option maxHeartbeats 4000000 in
set_option maxRecDepth 100000 in
theorem c_X7_root (l : Launch) (D : va_G) (cI cJ cO : ClassId) (df sz : Nat) (T : Nat) (hT : T < 2147483648) : MetI l yX7_root wsX7_root ({ frames := 0, cells := 0, slots := 0, locals := 0 } : Room) D (gTY cI cJ cO) df [] sz [.int (nI T)] (fun (r : Int32) (w : va_W) => w = [] ∧ r = nI (pw (T % 32))) := by
  refine g_of (cc := cX7_root) (nL := 3) (ret := (some .int)) (D := D) (TY := (gTY cI cJ cO)) (df := df) (Qc := fun A => va_Qi (fun (r : Int32) (w : va_W) => w = [] ∧ r = nI (pw (T % 32))) (gB D (gTY cI cJ cO) A) A) (by decide +kernel) rfl (Nat.le_of_ble_eq_true rfl) ?_
  intro p e s m below meth c ls A hsz C0 hin hl
  obtain ⟨CF, hr, hlk, hA, hS, hP, hK, hD, hV, hH⟩ := C0
  have CF : CallFix p m c cX7_root 3 s _ wsX7_root RX7 := CF
  obtain ⟨hx, hb, hml, hown, hts⟩ := id CF
  subst hsz
  have hP : va_P D ccl [] s.heap := hP
  have hl : lv_has ls 3 [(0, .int (nI T))] := hl
  refine lv_iconst (v := 1) hx hb dX7_root_0 (by decide) ?_
  refine lv_istore_n (lv' := [(1, .int 1), (0, .int (nI T))]) hx hb dX7_root_1 rfl hl (by decide) rfl (fun ls hl => ?_)
  refine lv_iconst (v := 0) hx hb dX7_root_2 (by decide) ?_
  refine lv_istore_n (lv' := [(2, .int 0), (1, .int 1), (0, .int (nI T))]) hx hb dX7_root_3 rfl hl (by decide) rfl (fun ls hl => ?_)
  refine W.widen (k := 0) (n := 0) (Nat.le_refl _) (Nat.le_refl _) ?_
  refine g_while (σ := Nat) (st := []) (nL := 3) (fun i => [])
    (fun i => [(0, .int (nI T)), (1, .int (nI (pw i))), (2, .int (nI i))])
    (fun i => i ≤ T % 32)
    (fun i => T % 32 - i) (fun i => 0) (fun i => 0)
    ?_ 0 (Nat.zero_le _) hP hD hS (lv_sub hl [2, 1, 0] rfl)
  intro i hI H locs ls hP hD hS hl ih
  have hI : i ≤ T % 32 := hI
  have hP : va_P D ccl [] H := hP
  have hD : va_D A [] := hD
  have hl : lv_has ls 3 [(0, .int (nI T)), (1, .int (nI (pw i))), (2, .int (nI i))] := hl
  change W p l e _ s m _ below meth c H locs 0 0 _ (F0 m 4 ls [])
  have ih_4 := ih
  clear ih
  refine lv_iload_n hx hb dX7_root_4 rfl (lv_at hl 2 rfl) ?_
  refine lv_iload_n hx hb dX7_root_5 rfl (lv_at hl 0 rfl) ?_
  refine lv_bipush (v := 32) hx hb dX7_root_6 (by decide) ?_
  refine lv_irem hx hb dX7_root_8 (by decide) ?_
  refine lv_topi (fun f ef => ?_)
  obtain rfl : f = nI (T % 32) := ef.trans (pk_rem (a := T) (d := 32) (by omega) (by omega) (by omega))
  refine lv_icmp_ge (tgt := 26) hx hb dX7_root_9 (by decide) (fun c_9 => ?_) (fun c_9 => ?_)
  · have c_9 : T % 32 ≤ i := g_le (a := T % 32) (b := i) c_9 (by omega) (by omega)
    refine lv_iload_n hx hb dX7_root_26 rfl (lv_at hl 1 rfl) ?_
    obtain rfl : i = T % 32 := by omega
    refine g_iret (v := nI (pw (T % 32))) hx hb hr hlk hP hK hD hS (Nat.le_of_ble_eq_true rfl) (Nat.le_of_ble_eq_true rfl) dX7_root_27 ?_
    exact ⟨rfl, (by first | rfl | (simp [c_9]; done))⟩
  · have c_9 : i < T % 32 := g_nle (a := T % 32) (b := i) c_9 (by omega) (by omega)
    refine lv_iload_n hx hb dX7_root_12 rfl (lv_at hl 1 rfl) ?_
    refine lv_bipush (v := 28) hx hb dX7_root_13 (by decide) ?_
    refine lv_imul hx hb dX7_root_15 ?_
    refine lv_topi (fun f ef => ?_)
    obtain rfl : f = nI ((pw i) * 28) := ef.trans (pk_mul _ _)
    refine lv_bipush (v := 97) hx hb dX7_root_16 (by decide) ?_
    have hpw := pw_lt i
    refine lv_irem hx hb dX7_root_18 (by decide) ?_
    refine lv_topi (fun f ef => ?_)
    obtain rfl : f = nI (((pw i) * 28) % 97) := ef.trans (pk_rem (a := (pw i) * 28) (d := 97) (by omega) (by omega) (by omega))
    refine lv_istore_n (lv' := [(1, .int (nI (((pw i) * 28) % 97))), (0, .int (nI T)), (2, .int (nI i))]) hx hb dX7_root_19 rfl hl (by decide) rfl (fun ls hl => ?_)
    refine lv_iinc (v := nI (i + 1)) (lv' := [(2, .int (nI (i + 1))), (1, .int (nI (((pw i) * 28) % 97))), (0, .int (nI T))]) hx hb dX7_root_20 hl (k := 2) rfl (by exact nI_1 _) (by decide) rfl (fun ls hl => ?_)
    refine lv_goto (tgt := 4) hx hb dX7_root_23 (by decide) ?_
    refine W.widen (k := 0) (n := 0) (Nat.le_refl _) (Nat.le_refl _) ?_
    exact ih_4 (i + 1) _ _ _ (show (i + 1) ≤ T % 32 from (by exact c_9)) (show T % 32 - (i + 1) < T % 32 - i by omega) hP hD hS (lv_sub hl [2, 1, 0] rfl)

set_option maxHeartbeats 4000000 in
set_option maxRecDepth 100000 in
theorem c_X7_design (l : Launch) (D : va_G) (cI cJ cO : ClassId) (df sz : Nat) (M : Nat → Nat) (mc : Nat → Int32) (ms : Nat → Int32) (mw : Nat → Int32) (mn : Int32) (mo : Nat → Int32) (mh : Int32) (mu : Nat → Int32) (mk : Int32) (mt : Nat → Int32) (mq : Nat → Int32) (mp : Nat → Int32) (my : Int32) (mf : Nat → Int32) (ma : Nat → Int32) (cy : Int32) (lo : Int32) (gr : Int32) (ov : Int64) (un : Int64) (la : Int32) (hq : isR mq 32) : MetI l yX7_design wsX7_design ({ frames := 1, cells := 0, slots := 0, locals := 22 } : Room) D (gTY cI cJ cO) df (mW cI M mc ms mw mn mo mh mu mk mt mq mp my mf ma cy lo gr ov un la) sz [.ref (M 0)] (fun (r : Int32) (w : va_W) => w = mW cI M mc ms mw mn mo mh mu mk (desA mq mt 32) mq mp my mf ma cy lo gr ov un 0 ∧ r = nI (desN mq mt 32)) := by
  refine g_of (cc := cX7_design) (nL := 5) (ret := (some .int)) (D := D) (TY := (gTY cI cJ cO)) (df := df) (Qc := fun A => va_Qi (fun (r : Int32) (w : va_W) => w = mW cI M mc ms mw mn mo mh mu mk (desA mq mt 32) mq mp my mf ma cy lo gr ov un 0 ∧ r = nI (desN mq mt 32)) (gB D (gTY cI cJ cO) A) A) (by decide +kernel) rfl (Nat.le_of_ble_eq_true rfl) ?_
  intro p e s m below meth c ls A hsz C0 hin hl
  obtain ⟨CF, hr, hlk, hA, hS, hP, hK, hD, hV, hH⟩ := C0
  have CF : CallFix p m c cX7_design 5 s _ wsX7_design RX7 := CF
  obtain ⟨hx, hb, hml, hown, hts⟩ := id CF
  subst hsz
  have hfieldLink_RX7_41 : (Cond.fieldLink RX7 41 "TapLoomModel" "last" "I").before _ s = true := hts _ (List.mem_of_getElem? (i := 1) rfl)
  have hfieldLink_RX7_25 : (Cond.fieldLink RX7 25 "TapLoomModel" "taps" "[I").before _ s = true := hts _ (List.mem_of_getElem? (i := 3) rfl)
  have hfieldLink_RX7_28 : (Cond.fieldLink RX7 28 "TapLoomModel" "asked" "[I").before _ s = true := hts _ (List.mem_of_getElem? (i := 2) rfl)
  have hmethodLink_RX7_90 : (Cond.methodLink RX7 90 yX7_root).before _ s = true := hts _ (List.mem_of_getElem? (i := 4) rfl)
  have inX7 : ∀ w ∈ u_ws RX7 TX7 20, w ∈ wsX7_design := fun w h => (List.mem_cons_of_mem _ (List.mem_append_right _ h))
  have hP : va_P D ccl (mW cI M mc ms mw mn mo mh mu mk mt mq mp my mf ma cy lo gr ov un la) s.heap := hP
  have hl : lv_has ls 5 [(0, .ref (M 0))] := hl
  refine lv_aload_n hx hb dX7_design_0 rfl (lv_at hl 0 rfl) ?_
  refine lv_iconst (v := 0) hx hb dX7_design_1 (by decide) ?_
  refine va_put (D := D) (ci := 8) (v := .int 0) (ty := .int) (C := RX7) (T := TX7) (N := 20) hx hb hts inX7 tyX7 tyX7_ok nmX7 hown hK hP hD hS 0 rfl rfl 19 (by decide) hfieldLink_RX7_41 (fun _ h9 => h9) rfl (by decide +kernel) rfl rfl (Nat.le_of_ble_eq_true rfl) dX7_design_2 (fun H locs hP hD hS => ?_)
  have hP : va_P D ccl (mW cI M mc ms mw mn mo mh mu mk mt mq mp my mf ma cy lo gr ov un 0) H := hP
  have hD : va_D A (mW cI M mc ms mw mn mo mh mu mk mt mq mp my mf ma cy lo gr ov un 0) := hD
  refine lv_iconst (v := 0) hx hb dX7_design_5 (by decide) ?_
  refine lv_istore_n (lv' := [(1, .int 0), (0, .ref (M 0))]) hx hb dX7_design_6 rfl hl (by decide) rfl (fun ls hl => ?_)
  refine lv_iconst (v := 0) hx hb dX7_design_7 (by decide) ?_
  refine lv_istore_n (lv' := [(2, .int 0), (1, .int 0), (0, .ref (M 0))]) hx hb dX7_design_8 rfl hl (by decide) rfl (fun ls hl => ?_)
  rw [show mt = desA mq mt 0 from desA_0] at hP hD
  refine W.widen (k := 0) (n := 0) (Nat.le_refl _) (Nat.le_refl _) ?_
  refine g_while (σ := Nat) (st := []) (nL := 5) (fun t => mW cI M mc ms mw mn mo mh mu mk (desA mq mt t) mq mp my mf ma cy lo gr ov un 0)
    (fun t => [(0, .ref (M 0)), (1, .int (nI (desN mq mt t))), (2, .int (nI t))])
    (fun t => t ≤ 32)
    (fun t => 32 - t) (fun t => 0) (fun t => 0)
    ?_ 0 (Nat.zero_le _) hP hD hS (lv_sub hl [2, 1, 0] rfl)
  intro t hI H locs ls hP hD hS hl ih
  have hI : t ≤ 32 := hI
  have hP : va_P D ccl (mW cI M mc ms mw mn mo mh mu mk (desA mq mt t) mq mp my mf ma cy lo gr ov un 0) H := hP
  have hD : va_D A (mW cI M mc ms mw mn mo mh mu mk (desA mq mt t) mq mp my mf ma cy lo gr ov un 0) := hD
  have hl : lv_has ls 5 [(0, .ref (M 0)), (1, .int (nI (desN mq mt t))), (2, .int (nI t))] := hl
  change W p l e _ s m _ below meth c H locs 0 0 _ (F0 m 9 ls [])
  have ih_9 := ih
  clear ih
  refine lv_iload_n hx hb dX7_design_9 rfl (lv_at hl 2 rfl) ?_
  refine lv_bipush (v := 32) hx hb dX7_design_10 (by decide) ?_
  refine lv_icmp_ge (tgt := 99) hx hb dX7_design_12 (by decide) (fun c_12 => ?_) (fun c_12 => ?_)
  · have c_12 : 32 ≤ t := g_le (a := 32) (b := t) c_12 (by omega) (by omega)
    obtain rfl : t = 32 := by omega
    refine lv_iload_n hx hb dX7_design_99 rfl (lv_at hl 1 rfl) ?_
    refine g_iret (v := nI (desN mq mt 32)) hx hb hr hlk hP hK hD hS (Nat.le_of_ble_eq_true rfl) (Nat.le_of_ble_eq_true rfl) dX7_design_100 ?_
    exact ⟨rfl, rfl⟩
  · have c_12 : t < 32 := g_nle (a := 32) (b := t) c_12 (by omega) (by omega)
    refine lv_iconst (v := 0) hx hb dX7_design_15 (by decide) ?_
    refine lv_istore_n (lv' := [(3, .int 0), (0, .ref (M 0)), (1, .int (nI (desN mq mt t))), (2, .int (nI t))]) hx hb dX7_design_16 rfl hl (by decide) rfl (fun ls hl => ?_)
    refine lv_iconst (v := 0) hx hb dX7_design_17 (by decide) ?_
    refine lv_istore (lv' := [(4, .int 0), (3, .int 0), (0, .ref (M 0)), (1, .int (nI (desN mq mt t))), (2, .int (nI t))]) hx hb dX7_design_18 hl (by decide) rfl (fun ls hl => ?_)
    refine W.widen (k := 0) (n := 0) (Nat.le_refl _) (Nat.le_refl _) ?_
    refine g_while (σ := Nat) (st := []) (nL := 5) (fun k => mW cI M mc ms mw mn mo mh mu mk (desA mq mt t) mq mp my mf ma cy lo gr ov un 0)
      (fun k => [(0, .ref (M 0)), (1, .int (nI (desN mq mt t))), (2, .int (nI t)), (3, .int (nI (dsum mq t k))), (4, .int (nI k))])
      (fun k => k ≤ 32)
      (fun k => 32 - k) (fun k => 0) (fun k => 0)
      ?_ 0 (Nat.zero_le _) hP hD hS (lv_sub hl [2, 3, 4, 1, 0] rfl)
    intro k hI H locs ls hP hD hS hl ih
    have hI : k ≤ 32 := hI
    have hP : va_P D ccl (mW cI M mc ms mw mn mo mh mu mk (desA mq mt t) mq mp my mf ma cy lo gr ov un 0) H := hP
    have hD : va_D A (mW cI M mc ms mw mn mo mh mu mk (desA mq mt t) mq mp my mf ma cy lo gr ov un 0) := hD
    have hl : lv_has ls 5 [(0, .ref (M 0)), (1, .int (nI (desN mq mt t))), (2, .int (nI t)), (3, .int (nI (dsum mq t k))), (4, .int (nI k))] := hl
    change W p l e _ s m _ below meth c H locs 0 0 _ (F0 m 20 ls [])
    have ih_20 := ih
    clear ih
    refine lv_iload hx hb dX7_design_20 (lv_at hl 4 rfl) ?_
    refine lv_bipush (v := 32) hx hb dX7_design_22 (by decide) ?_
    refine lv_icmp_ge (tgt := 57) hx hb dX7_design_24 (by decide) (fun c_24 => ?_) (fun c_24 => ?_)
    · have c_24 : 32 ≤ k := g_le (a := 32) (b := k) c_24 (by omega) (by omega)
      obtain rfl : k = 32 := by omega
      refine lv_iload_n hx hb dX7_design_57 rfl (lv_at hl 3 rfl) ?_
      refine lv_bipush (v := 94) hx hb dX7_design_58 (by decide) ?_
      refine lv_imul hx hb dX7_design_60 ?_
      refine lv_topi (fun f ef => ?_)
      obtain rfl : f = nI ((dsum mq t 32) * 94) := ef.trans (pk_mul _ _)
      refine lv_bipush (v := 97) hx hb dX7_design_61 (by decide) ?_
      have hd9 := dsum_lt mq t 32
      refine lv_irem hx hb dX7_design_63 (by decide) ?_
      refine lv_topi (fun f ef => ?_)
      obtain rfl : f = nI (((dsum mq t 32) * 94) % 97) := ef.trans (pk_rem (a := (dsum mq t 32) * 94) (d := 97) (by omega) (by omega) (by omega))
      refine lv_topi (fun f ef => ?_)
      obtain rfl : f = nI (desT mq t) := ef.trans (rfl)
      refine lv_istore (lv' := [(4, .int (nI (desT mq t))), (0, .ref (M 0)), (1, .int (nI (desN mq mt t))), (2, .int (nI t)), (3, .int (nI (dsum mq t 32)))]) hx hb dX7_design_64 hl (by decide) rfl (fun ls hl => ?_)
      refine lv_iload_n hx hb dX7_design_66 rfl (lv_at hl 2 rfl) ?_
      refine lv_aload_n hx hb dX7_design_67 rfl (lv_at hl 1 rfl) ?_
      refine va_get (D := D) (ci := 8) (v := .ref (M 6)) (C := RX7) (T := TX7) (N := 20) hx hb hts inX7 hown hK hP 0 rfl rfl 8 (by decide) hfieldLink_RX7_25 (fun _ h9 => h9) rfl dX7_design_68 ?_
      refine lv_iload_n hx hb dX7_design_71 rfl (lv_at hl 3 rfl) ?_
      refine va_iald hx hb hK hP 6 0 rfl rfl (vp_in_nI (by omega) (by omega)) dX7_design_72 ?_
      refine lv_topi (fun f ef => ?_)
      obtain rfl : f = (desA mq mt t) t := ef.trans (congrArg (desA mq mt t) (nI_clamp (n := t) (by omega)))
      refine lv_topi (fun f ef => ?_)
      obtain rfl : f = mt t := ef.trans (if_neg (Nat.lt_irrefl t))
      refine lv_iload hx hb dX7_design_73 (lv_at hl 0 rfl) ?_
      refine lv_icmp_ne (tgt := 82) hx hb dX7_design_75 (by decide) (fun c_75 => ?_) (fun c_75 => ?_)
      · refine lv_iconst (v := 1) hx hb dX7_design_82 (by decide) ?_
        refine lv_iadd hx hb dX7_design_83 ?_
        refine lv_topi (fun f ef => ?_)
        obtain rfl : f = nI ((desN mq mt t) + 1) := ef.trans (nI_add _ _)
        refine lv_topi (fun f ef => ?_)
        obtain rfl : f = nI (desN mq mt (t + 1)) := ef.trans (by rw [desN_s]; first | rw [if_pos c_75] | rw [if_neg c_75])
        refine lv_istore_n (lv' := [(1, .int (nI (desN mq mt (t + 1)))), (4, .int (nI (desT mq t))), (0, .ref (M 0)), (2, .int (nI t)), (3, .int (nI (dsum mq t 32)))]) hx hb dX7_design_84 rfl hl (by decide) rfl (fun ls hl => ?_)
        refine lv_aload_n hx hb dX7_design_85 rfl (lv_at hl 2 rfl) ?_
        refine va_get (D := D) (ci := 8) (v := .ref (M 6)) (C := RX7) (T := TX7) (N := 20) hx hb hts inX7 hown hK hP 0 rfl rfl 8 (by decide) hfieldLink_RX7_25 (fun _ h9 => h9) rfl dX7_design_86 ?_
        refine lv_iload_n hx hb dX7_design_89 rfl (lv_at hl 3 rfl) ?_
        refine lv_iload hx hb dX7_design_90 (lv_at hl 1 rfl) ?_
        refine va_iast hx hb hK hP hD hS 6 0 rfl rfl (vp_in_nI (by omega) (by omega)) dX7_design_92 (fun H locs hP hD hS => ?_)
        rw [show (nI t).toNatClampNeg = t from (nI_clamp (by omega))] at hP hD
        rw [show upd (desA mq mt t) t (nI (desT mq t)) = desA mq mt (t + 1) from desA_s] at hP hD
        have hP : va_P D ccl (mW cI M mc ms mw mn mo mh mu mk (desA mq mt (t + 1)) mq mp my mf ma cy lo gr ov un 0) H := hP
        have hD : va_D A (mW cI M mc ms mw mn mo mh mu mk (desA mq mt (t + 1)) mq mp my mf ma cy lo gr ov un 0) := hD
        refine lv_iinc (v := nI (t + 1)) (lv' := [(2, .int (nI (t + 1))), (1, .int (nI (desN mq mt (t + 1)))), (4, .int (nI (desT mq t))), (0, .ref (M 0)), (3, .int (nI (dsum mq t 32)))]) hx hb dX7_design_93 hl (k := 3) rfl (by exact nI_1 _) (by decide) rfl (fun ls hl => ?_)
        refine lv_goto (tgt := 9) hx hb dX7_design_96 (by decide) ?_
        refine W.widen (k := 0) (n := 0) (Nat.le_refl _) (Nat.le_refl _) ?_
        exact ih_9 (t + 1) _ _ _ (show (t + 1) ≤ 32 from (by exact c_12)) (show 32 - (t + 1) < 32 - t by omega) hP hD hS (lv_sub hl [3, 1, 0] rfl)
      · refine lv_iconst (v := 0) hx hb dX7_design_78 (by decide) ?_
        refine lv_goto (tgt := 83) hx hb dX7_design_79 (by decide) ?_
        refine lv_iadd hx hb dX7_design_83 ?_
        refine lv_topi (fun f ef => ?_)
        obtain rfl : f = nI ((desN mq mt t) + 0) := ef.trans (nI_add _ _)
        refine lv_topi (fun f ef => ?_)
        obtain rfl : f = nI (desN mq mt (t + 1)) := ef.trans (by rw [desN_s]; first | rw [if_pos c_75] | rw [if_neg c_75])
        refine lv_istore_n (lv' := [(1, .int (nI (desN mq mt (t + 1)))), (4, .int (nI (desT mq t))), (0, .ref (M 0)), (2, .int (nI t)), (3, .int (nI (dsum mq t 32)))]) hx hb dX7_design_84 rfl hl (by decide) rfl (fun ls hl => ?_)
        refine lv_aload_n hx hb dX7_design_85 rfl (lv_at hl 2 rfl) ?_
        refine va_get (D := D) (ci := 8) (v := .ref (M 6)) (C := RX7) (T := TX7) (N := 20) hx hb hts inX7 hown hK hP 0 rfl rfl 8 (by decide) hfieldLink_RX7_25 (fun _ h9 => h9) rfl dX7_design_86 ?_
        refine lv_iload_n hx hb dX7_design_89 rfl (lv_at hl 3 rfl) ?_
        refine lv_iload hx hb dX7_design_90 (lv_at hl 1 rfl) ?_
        refine va_iast hx hb hK hP hD hS 6 0 rfl rfl (vp_in_nI (by omega) (by omega)) dX7_design_92 (fun H locs hP hD hS => ?_)
        rw [show (nI t).toNatClampNeg = t from (nI_clamp (by omega))] at hP hD
        rw [show upd (desA mq mt t) t (nI (desT mq t)) = desA mq mt (t + 1) from desA_s] at hP hD
        have hP : va_P D ccl (mW cI M mc ms mw mn mo mh mu mk (desA mq mt (t + 1)) mq mp my mf ma cy lo gr ov un 0) H := hP
        have hD : va_D A (mW cI M mc ms mw mn mo mh mu mk (desA mq mt (t + 1)) mq mp my mf ma cy lo gr ov un 0) := hD
        refine lv_iinc (v := nI (t + 1)) (lv' := [(2, .int (nI (t + 1))), (1, .int (nI (desN mq mt (t + 1)))), (4, .int (nI (desT mq t))), (0, .ref (M 0)), (3, .int (nI (dsum mq t 32)))]) hx hb dX7_design_93 hl (k := 3) rfl (by exact nI_1 _) (by decide) rfl (fun ls hl => ?_)
        refine lv_goto (tgt := 9) hx hb dX7_design_96 (by decide) ?_
        refine W.widen (k := 0) (n := 0) (Nat.le_refl _) (Nat.le_refl _) ?_
        exact ih_9 (t + 1) _ _ _ (show (t + 1) ≤ 32 from (by exact c_12)) (show 32 - (t + 1) < 32 - t by omega) hP hD hS (lv_sub hl [3, 1, 0] rfl)
    · have c_24 : k < 32 := g_nle (a := 32) (b := k) c_24 (by omega) (by omega)
      refine lv_iload_n hx hb dX7_design_27 rfl (lv_at hl 3 rfl) ?_
      refine lv_aload_n hx hb dX7_design_28 rfl (lv_at hl 0 rfl) ?_
      refine va_get (D := D) (ci := 8) (v := .ref (M 7)) (C := RX7) (T := TX7) (N := 20) hx hb hts inX7 hown hK hP 0 rfl rfl 9 (by decide) hfieldLink_RX7_28 (fun _ h9 => h9) rfl dX7_design_29 ?_
      refine lv_iload hx hb dX7_design_32 (lv_at hl 4 rfl) ?_
      refine va_iald hx hb hK hP 7 0 rfl rfl (vp_in_nI (by omega) (by omega)) dX7_design_34 ?_
      refine lv_topi (fun f ef => ?_)
      obtain rfl : f = mq k := ef.trans (congrArg mq (nI_clamp (n := k) (by omega)))
      refine lv_topi (fun f ef => ?_)
      obtain rfl : f = nI (gN (mq k)) := ef.trans ((hq k c_24).1)
      refine lv_iload hx hb dX7_design_35 (lv_at hl 4 rfl) ?_
      refine lv_bipush (v := 32) hx hb dX7_design_37 (by decide) ?_
      refine lv_iload_n hx hb dX7_design_39 rfl (lv_at hl 2 rfl) ?_
      refine lv_isub hx hb dX7_design_40 ?_
      refine lv_topi (fun f ef => ?_)
      obtain rfl : f = nI (32 - t) := ef.trans (pk_sub (a := 32) (b := t) (by omega))
      refine lv_imul hx hb dX7_design_41 ?_
      refine lv_topi (fun f ef => ?_)
      obtain rfl : f = nI (k * (32 - t)) := ef.trans (pk_mul _ _)
      have hPc : va_P D ccl [] H := fun k q h => by simp at h
      have hDc : va_D A [] := ⟨fun i j p q h => by simp at h, fun k q h => by simp at h⟩
      have hFc := va_free (wc := []) hD hS hA [] rfl
      refine g_Si (As := [.int (nI (k * (32 - t)))]) (rest := [.int (nI (gN (mq k))), .int (nI (dsum mq t k))]) CF (c_X7_root l D cI cJ cO df H.size (k * (32 - t)) (Nat.lt_of_le_of_lt (Nat.mul_le_mul (show k ≤ 32 by omega) (show 32 - t ≤ 32 by omega)) (by decide))) (va_cwS 1 hts gX7_design_X7_root rfl rfl rfl (by decide +kernel) ⟨Nat.le_of_ble_eq_true rfl, Nat.le_of_ble_eq_true rfl⟩)  hPc hK hDc hV hH hS hFc rfl hl.1 rfl (Nat.le_of_ble_eq_true rfl) dX7_design_42 ⟨Nat.le_of_ble_eq_true rfl, Nat.le_of_ble_eq_true rfl⟩ (fun r_42 w1 H1 locs1 hq hP1 hD1 hk hS hz => ?_)
      obtain ⟨rfl, hr_42⟩ := hq
      have hP := g_keep0 hP hk
      clear hPc hDc hFc hP1 hD1 hk hz
      generalize H1 = H at hP hS ⊢
      have hP : va_P D ccl (mW cI M mc ms mw mn mo mh mu mk (desA mq mt t) mq mp my mf ma cy lo gr ov un 0) H := hP
      have hD : va_D A (mW cI M mc ms mw mn mo mh mu mk (desA mq mt t) mq mp my mf ma cy lo gr ov un 0) := hD
      subst hr_42
      refine lv_imul hx hb dX7_design_45 ?_
      refine lv_topi (fun f ef => ?_)
      obtain rfl : f = nI ((gN (mq k)) * (pw ((k * (32 - t)) % 32))) := ef.trans (pk_mul _ _)
      refine lv_iadd hx hb dX7_design_46 ?_
      refine lv_topi (fun f ef => ?_)
      obtain rfl : f = nI ((dsum mq t k) + ((gN (mq k)) * (pw ((k * (32 - t)) % 32)))) := ef.trans (nI_add _ _)
      refine lv_bipush (v := 97) hx hb dX7_design_47 (by decide) ?_
      have hm9 := mul97 (hq k c_24).2 (pw_lt (k * (32 - t) % 32))
      have hd9 := dsum_lt mq t k
      refine lv_irem hx hb dX7_design_49 (by decide) ?_
      refine lv_topi (fun f ef => ?_)
      obtain rfl : f = nI (((dsum mq t k) + ((gN (mq k)) * (pw ((k * (32 - t)) % 32)))) % 97) := ef.trans (pk_rem (a := (dsum mq t k) + ((gN (mq k)) * (pw ((k * (32 - t)) % 32)))) (d := 97) (by omega) (by omega) (by omega))
      refine lv_istore_n (lv' := [(3, .int (nI (((dsum mq t k) + ((gN (mq k)) * (pw ((k * (32 - t)) % 32)))) % 97))), (0, .ref (M 0)), (1, .int (nI (desN mq mt t))), (2, .int (nI t)), (4, .int (nI k))]) hx hb dX7_design_50 rfl hl (by decide) rfl (fun ls hl => ?_)
      refine lv_iinc (v := nI (k + 1)) (lv' := [(4, .int (nI (k + 1))), (3, .int (nI (((dsum mq t k) + ((gN (mq k)) * (pw ((k * (32 - t)) % 32)))) % 97))), (0, .ref (M 0)), (1, .int (nI (desN mq mt t))), (2, .int (nI t))]) hx hb dX7_design_51 hl (k := 4) rfl (by exact nI_1 _) (by decide) rfl (fun ls hl => ?_)
      refine lv_goto (tgt := 20) hx hb dX7_design_54 (by decide) ?_
      refine W.widen (k := 0) (n := 0) (Nat.le_refl _) (Nat.le_refl _) ?_
      exact ih_20 (k + 1) _ _ _ (show (k + 1) ≤ 32 from (by exact c_24)) (show 32 - (k + 1) < 32 - k by omega) hP hD hS (lv_sub hl [2, 3, 4, 1, 0] rfl)

set_option maxHeartbeats 4000000 in
set_option maxRecDepth 100000 in
theorem c_X7_answer (l : Launch) (D : va_G) (cI cJ cO : ClassId) (df sz : Nat) (M : Nat → Nat) (mc : Nat → Int32) (ms : Nat → Int32) (mw : Nat → Int32) (mn : Int32) (mo : Nat → Int32) (mh : Int32) (mu : Nat → Int32) (mk : Int32) (mt : Nat → Int32) (mq : Nat → Int32) (mp : Nat → Int32) (my : Int32) (mf : Nat → Int32) (ma : Nat → Int32) (cy : Int32) (lo : Int32) (gr : Int32) (ov : Int64) (un : Int64) (la : Int32) (tp : Int32) (ht : isR mt 32) : MetI l yX7_answer wsX7_answer ({ frames := 1, cells := 0, slots := 0, locals := 23 } : Room) D (gTY cI cJ cO) df (mW cI M mc ms mw mn mo mh mu mk mt mq mp my mf ma cy lo gr ov un la) sz [.ref (M 0), .int tp] (fun (r : Int32) (w : va_W) => w = mW cI M mc ms mw mn mo mh mu mk mt mq mp my mf ma cy lo gr ov un (gGo (isIn tp 0 31) 1 1) ∧ (gGo (isIn tp 0 31) 1 1 = 0 → r = nI (asum mt (gN tp) 32))) := by
  refine g_of (cc := cX7_answer) (nL := 5) (ret := (some .int)) (D := D) (TY := (gTY cI cJ cO)) (df := df) (Qc := fun A => va_Qi (fun (r : Int32) (w : va_W) => w = mW cI M mc ms mw mn mo mh mu mk mt mq mp my mf ma cy lo gr ov un (gGo (isIn tp 0 31) 1 1) ∧ (gGo (isIn tp 0 31) 1 1 = 0 → r = nI (asum mt (gN tp) 32))) (gB D (gTY cI cJ cO) A) A) (by decide +kernel) rfl (Nat.le_of_ble_eq_true rfl) ?_
  intro p e s m below meth c ls A hsz C0 hin hl
  obtain ⟨CF, hr, hlk, hA, hS, hP, hK, hD, hV, hH⟩ := C0
  have CF : CallFix p m c cX7_answer 5 s _ wsX7_answer RX7 := CF
  obtain ⟨hx, hb, hml, hown, hts⟩ := id CF
  subst hsz
  have hmethodLink_RX7_48 : (Cond.methodLink RX7 48 yX7_in).before _ s = true := hts _ (List.mem_of_getElem? (i := 2) rfl)
  have hmethodLink_RX7_52 : (Cond.methodLink RX7 52 yX7_goes).before _ s = true := hts _ (List.mem_of_getElem? (i := 6) rfl)
  have hfieldLink_RX7_25 : (Cond.fieldLink RX7 25 "TapLoomModel" "taps" "[I").before _ s = true := hts _ (List.mem_of_getElem? (i := 1) rfl)
  have hmethodLink_RX7_90 : (Cond.methodLink RX7 90 yX7_root).before _ s = true := hts _ (List.mem_of_getElem? (i := 11) rfl)
  have inX7 : ∀ w ∈ u_ws RX7 TX7 20, w ∈ wsX7_answer := fun w h => (List.mem_cons_of_mem _ (List.mem_append_right _ h))
  have hP : va_P D ccl (mW cI M mc ms mw mn mo mh mu mk mt mq mp my mf ma cy lo gr ov un la) s.heap := hP
  have hl : lv_has ls 5 [(0, .ref (M 0)), (1, .int tp)] := hl
  refine lv_iconst (v := 0) hx hb dX7_answer_0 (by decide) ?_
  refine lv_istore_n (lv' := [(2, .int 0), (0, .ref (M 0)), (1, .int tp)]) hx hb dX7_answer_1 rfl hl (by decide) rfl (fun ls hl => ?_)
  refine lv_aload_n hx hb dX7_answer_2 rfl (lv_at hl 1 rfl) ?_
  refine lv_iload_n hx hb dX7_answer_3 rfl (lv_at hl 2 rfl) ?_
  refine lv_iconst (v := 0) hx hb dX7_answer_4 (by decide) ?_
  refine lv_bipush (v := 31) hx hb dX7_answer_5 (by decide) ?_
  have hPc : va_P D ccl [] s.heap := fun k q h => by simp at h
  have hDc : va_D A [] := ⟨fun i j p q h => by simp at h, fun k q h => by simp at h⟩
  have hFc := va_free (wc := []) hD hS hA [] rfl
  refine g_Si (As := [.int tp, .int 0, .int 31]) (rest := [.ref (M 0)]) CF (c_X7_in l D cI cJ cO df s.heap.size tp 0 31 ) (va_cwS 3 hts gX7_answer_X7_in rfl rfl rfl (by decide +kernel) ⟨Nat.le_of_ble_eq_true rfl, Nat.le_of_ble_eq_true rfl⟩)  hPc hK hDc hV hH hS hFc rfl hl.1 rfl (Nat.le_of_ble_eq_true rfl) dX7_answer_7 ⟨Nat.le_of_ble_eq_true rfl, Nat.le_of_ble_eq_true rfl⟩ (fun r_7 w1 H1 locs1 hq hP1 hD1 hk hS hz => ?_)
  obtain ⟨rfl, hr_7⟩ := hq
  have hP := g_keep0 hP hk
  clear hPc hDc hFc hP1 hD1 hk hz
  generalize H1 = H at hP hS ⊢
  have hP : va_P D ccl (mW cI M mc ms mw mn mo mh mu mk mt mq mp my mf ma cy lo gr ov un la) H := hP
  have hD : va_D A (mW cI M mc ms mw mn mo mh mu mk mt mq mp my mf ma cy lo gr ov un la) := hD
  subst hr_7
  refine lv_iconst (v := 1) hx hb dX7_answer_10 (by decide) ?_
  refine lv_iconst (v := 1) hx hb dX7_answer_11 (by decide) ?_
  have hPc := hP.sub (ws' := [(M 0, .inr (8, [.ref (M 1), .ref (M 2), .ref (M 3), .int mn, .ref (M 4), .int mh, .ref (M 5), .int mk, .ref (M 6), .ref (M 7), .ref (M 8), .int my, .ref (M 9), .ref (M 10), .int cy, .int lo, .int gr, .long ov, .long un, .int la])), (M 1, .inl (cI, 40, .inl mc)), (M 2, .inl (cI, 32, .inl ms)), (M 3, .inl (cI, 8, .inl mw)), (M 4, .inl (cI, 8, .inl mo)), (M 5, .inl (cI, 16, .inl mu)), (M 6, .inl (cI, 32, .inl mt)), (M 7, .inl (cI, 32, .inl mq)), (M 8, .inl (cI, 64, .inl mp)), (M 9, .inl (cI, 40401, .inl mf)), (M 10, .inl (cI, 40401, .inl ma))]) [0, 1, 2, 3, 4, 5, 6, 7, 8, 9, 10] rfl
  have hDc := hD.sub (ws' := [(M 0, .inr (8, [.ref (M 1), .ref (M 2), .ref (M 3), .int mn, .ref (M 4), .int mh, .ref (M 5), .int mk, .ref (M 6), .ref (M 7), .ref (M 8), .int my, .ref (M 9), .ref (M 10), .int cy, .int lo, .int gr, .long ov, .long un, .int la])), (M 1, .inl (cI, 40, .inl mc)), (M 2, .inl (cI, 32, .inl ms)), (M 3, .inl (cI, 8, .inl mw)), (M 4, .inl (cI, 8, .inl mo)), (M 5, .inl (cI, 16, .inl mu)), (M 6, .inl (cI, 32, .inl mt)), (M 7, .inl (cI, 32, .inl mq)), (M 8, .inl (cI, 64, .inl mp)), (M 9, .inl (cI, 40401, .inl mf)), (M 10, .inl (cI, 40401, .inl ma))]) [0, 1, 2, 3, 4, 5, 6, 7, 8, 9, 10] (by decide) rfl
  have hFc := va_free (wc := [(M 0, .inr (8, [.ref (M 1), .ref (M 2), .ref (M 3), .int mn, .ref (M 4), .int mh, .ref (M 5), .int mk, .ref (M 6), .ref (M 7), .ref (M 8), .int my, .ref (M 9), .ref (M 10), .int cy, .int lo, .int gr, .long ov, .long un, .int la])), (M 1, .inl (cI, 40, .inl mc)), (M 2, .inl (cI, 32, .inl ms)), (M 3, .inl (cI, 8, .inl mw)), (M 4, .inl (cI, 8, .inl mo)), (M 5, .inl (cI, 16, .inl mu)), (M 6, .inl (cI, 32, .inl mt)), (M 7, .inl (cI, 32, .inl mq)), (M 8, .inl (cI, 64, .inl mp)), (M 9, .inl (cI, 40401, .inl mf)), (M 10, .inl (cI, 40401, .inl ma))]) hD hS hA [0, 1, 2, 3, 4, 5, 6, 7, 8, 9, 10] rfl
  refine g_Vi (As := [.int (isIn tp 0 31), .int 1, .int 1]) (rest := []) CF (c_X7_goes l D cI cJ cO df H.size M mc ms mw mn mo mh mu mk mt mq mp my mf ma cy lo gr ov un la (isIn tp 0 31) 1 1 ) (cwV 3 hts gX7_answer_X7_goes rfl rfl rfl (by decide +kernel) ⟨Nat.le_of_ble_eq_true rfl, Nat.le_of_ble_eq_true rfl⟩) (va_recv hK hP (ci := 8) (q0 := 0) rfl rfl) hPc hK hDc hV hH hS hFc rfl hl.1 rfl (Nat.le_of_ble_eq_true rfl) dX7_answer_12 ⟨Nat.le_of_ble_eq_true rfl, Nat.le_of_ble_eq_true rfl⟩ (fun r_12 w1 H1 locs1 hq hP1 hD1 hk hS hz => ?_)
  obtain ⟨rfl, hr_12⟩ := hq
  obtain ⟨hP, hD⟩ := g_join (ws' := (mW cI M mc ms mw mn mo mh mu mk mt mq mp my mf ma cy lo gr ov un (gGo (isIn tp 0 31) 1 1))) hP hD hk hFc hP1 hD1 [0, 1, 2, 3, 4, 5, 6, 7, 8, 9, 10] [] [0, 1, 2, 3, 4, 5, 6, 7, 8, 9, 10] rfl rfl (by decide) (by decide) (by decide) rfl
  clear hPc hDc hFc hP1 hD1 hk hz
  generalize H1 = H at hP hS ⊢
  have hP : va_P D ccl (mW cI M mc ms mw mn mo mh mu mk mt mq mp my mf ma cy lo gr ov un (gGo (isIn tp 0 31) 1 1)) H := hP
  have hD : va_D A (mW cI M mc ms mw mn mo mh mu mk mt mq mp my mf ma cy lo gr ov un (gGo (isIn tp 0 31) 1 1)) := hD
  subst hr_12
  by_cases hk0 : gGo (isIn tp 0 31) 1 1 = 0
  · have hv0 := gGo_0 hk0
    obtain ⟨T, hT, rfl⟩ := isIn_nat 31 (by decide) hv0.1
    refine lv_topi (fun f ef => ?_)
    obtain rfl : f = 1 := ef.trans (if_pos hk0)
    refine lv_istore_n (lv' := [(3, .int 1), (2, .int 0), (0, .ref (M 0)), (1, .int (nI T))]) hx hb dX7_answer_15 rfl hl (by decide) rfl (fun ls hl => ?_)
    refine lv_iconst (v := 0) hx hb dX7_answer_16 (by decide) ?_
    refine lv_istore (lv' := [(4, .int 0), (3, .int 1), (2, .int 0), (0, .ref (M 0)), (1, .int (nI T))]) hx hb dX7_answer_17 hl (by decide) rfl (fun ls hl => ?_)
    refine W.widen (k := 0) (n := 0) (Nat.le_refl _) (Nat.le_refl _) ?_
    refine g_while (σ := Nat) (st := []) (nL := 5) (fun i => mW cI M mc ms mw mn mo mh mu mk mt mq mp my mf ma cy lo gr ov un (gGo (isIn (nI T) 0 31) 1 1))
      (fun i => [(0, .ref (M 0)), (1, .int (nI T)), (2, .int (nI (asum mt T i))), (3, .int 1), (4, .int (nI i))])
      (fun i => i ≤ 32)
      (fun i => 32 - i) (fun i => 0) (fun i => 0)
      ?_ 0 (Nat.zero_le _) hP hD hS (lv_sub hl [3, 4, 2, 1, 0] rfl)
    intro i hI H locs ls hP hD hS hl ih
    have hI : i ≤ 32 := hI
    have hP : va_P D ccl (mW cI M mc ms mw mn mo mh mu mk mt mq mp my mf ma cy lo gr ov un (gGo (isIn (nI T) 0 31) 1 1)) H := hP
    have hD : va_D A (mW cI M mc ms mw mn mo mh mu mk mt mq mp my mf ma cy lo gr ov un (gGo (isIn (nI T) 0 31) 1 1)) := hD
    have hl : lv_has ls 5 [(0, .ref (M 0)), (1, .int (nI T)), (2, .int (nI (asum mt T i))), (3, .int 1), (4, .int (nI i))] := hl
    change W p l e _ s m _ below meth c H locs 0 0 _ (F0 m 19 ls [])
    have ih_19 := ih
    clear ih
    refine lv_iload hx hb dX7_answer_19 (lv_at hl 4 rfl) ?_
    refine lv_bipush (v := 32) hx hb dX7_answer_21 (by decide) ?_
    refine lv_icmp_ge (tgt := 57) hx hb dX7_answer_23 (by decide) (fun c_23 => ?_) (fun c_23 => ?_)
    · have c_23 : 32 ≤ i := g_le (a := 32) (b := i) c_23 (by omega) (by omega)
      obtain rfl : i = 32 := by omega
      refine lv_iload_n hx hb dX7_answer_57 rfl (lv_at hl 2 rfl) ?_
      refine g_iret (v := nI (asum mt T 32)) hx hb hr hlk hP hK hD hS (Nat.le_of_ble_eq_true rfl) (Nat.le_of_ble_eq_true rfl) dX7_answer_58 ?_
      exact ⟨rfl, fun _ => by rw [gN_nI (by omega)]⟩
    · have c_23 : i < 32 := g_nle (a := 32) (b := i) c_23 (by omega) (by omega)
      refine lv_iload_n hx hb dX7_answer_26 rfl (lv_at hl 3 rfl) ?_
      refine lv_if_eq (tgt := 57) hx hb dX7_answer_27 (by decide) (fun c_27 => ?_) (fun c_27 => ?_)
      · exact absurd c_27 (by decide)
      · refine lv_iload_n hx hb dX7_answer_30 rfl (lv_at hl 2 rfl) ?_
        refine lv_aload_n hx hb dX7_answer_31 rfl (lv_at hl 0 rfl) ?_
        refine va_get (D := D) (ci := 8) (v := .ref (M 6)) (C := RX7) (T := TX7) (N := 20) hx hb hts inX7 hown hK hP 0 rfl rfl 8 (by decide) hfieldLink_RX7_25 (fun _ h9 => h9) rfl dX7_answer_32 ?_
        refine lv_iload hx hb dX7_answer_35 (lv_at hl 4 rfl) ?_
        refine va_iald hx hb hK hP 6 0 rfl rfl (vp_in_nI (by omega) (by omega)) dX7_answer_37 ?_
        refine lv_topi (fun f ef => ?_)
        obtain rfl : f = mt i := ef.trans (congrArg mt (nI_clamp (n := i) (by omega)))
        refine lv_topi (fun f ef => ?_)
        obtain rfl : f = nI (gN (mt i)) := ef.trans ((ht i c_23).1)
        refine lv_iload_n hx hb dX7_answer_38 rfl (lv_at hl 1 rfl) ?_
        refine lv_iload hx hb dX7_answer_39 (lv_at hl 4 rfl) ?_
        refine lv_imul hx hb dX7_answer_41 ?_
        refine lv_topi (fun f ef => ?_)
        obtain rfl : f = nI (T * i) := ef.trans (pk_mul _ _)
        have hPc : va_P D ccl [] H := fun k q h => by simp at h
        have hDc : va_D A [] := ⟨fun i j p q h => by simp at h, fun k q h => by simp at h⟩
        have hFc := va_free (wc := []) hD hS hA [] rfl
        refine g_Si (As := [.int (nI (T * i))]) (rest := [.int (nI (gN (mt i))), .int (nI (asum mt T i))]) CF (c_X7_root l D cI cJ cO df H.size (T * i) (Nat.lt_of_le_of_lt (Nat.mul_le_mul (show T ≤ 32 by omega) (show i ≤ 32 by omega)) (by decide))) (va_cwS 1 hts gX7_answer_X7_root rfl rfl rfl (by decide +kernel) ⟨Nat.le_of_ble_eq_true rfl, Nat.le_of_ble_eq_true rfl⟩)  hPc hK hDc hV hH hS hFc rfl hl.1 rfl (Nat.le_of_ble_eq_true rfl) dX7_answer_42 ⟨Nat.le_of_ble_eq_true rfl, Nat.le_of_ble_eq_true rfl⟩ (fun r_42 w1 H1 locs1 hq hP1 hD1 hk hS hz => ?_)
        obtain ⟨rfl, hr_42⟩ := hq
        have hP := g_keep0 hP hk
        clear hPc hDc hFc hP1 hD1 hk hz
        generalize H1 = H at hP hS ⊢
        have hP : va_P D ccl (mW cI M mc ms mw mn mo mh mu mk mt mq mp my mf ma cy lo gr ov un (gGo (isIn (nI T) 0 31) 1 1)) H := hP
        have hD : va_D A (mW cI M mc ms mw mn mo mh mu mk mt mq mp my mf ma cy lo gr ov un (gGo (isIn (nI T) 0 31) 1 1)) := hD
        subst hr_42
        refine lv_imul hx hb dX7_answer_45 ?_
        refine lv_topi (fun f ef => ?_)
        obtain rfl : f = nI ((gN (mt i)) * (pw ((T * i) % 32))) := ef.trans (pk_mul _ _)
        refine lv_iadd hx hb dX7_answer_46 ?_
        refine lv_topi (fun f ef => ?_)
        obtain rfl : f = nI ((asum mt T i) + ((gN (mt i)) * (pw ((T * i) % 32)))) := ef.trans (nI_add _ _)
        refine lv_bipush (v := 97) hx hb dX7_answer_47 (by decide) ?_
        have hm9 := mul97 (ht i c_23).2 (pw_lt (T * i % 32))
        have hd9 := asum_lt mt T i
        refine lv_irem hx hb dX7_answer_49 (by decide) ?_
        refine lv_topi (fun f ef => ?_)
        obtain rfl : f = nI (((asum mt T i) + ((gN (mt i)) * (pw ((T * i) % 32)))) % 97) := ef.trans (pk_rem (a := (asum mt T i) + ((gN (mt i)) * (pw ((T * i) % 32)))) (d := 97) (by omega) (by omega) (by omega))
        refine lv_istore_n (lv' := [(2, .int (nI (((asum mt T i) + ((gN (mt i)) * (pw ((T * i) % 32)))) % 97))), (0, .ref (M 0)), (1, .int (nI T)), (3, .int 1), (4, .int (nI i))]) hx hb dX7_answer_50 rfl hl (by decide) rfl (fun ls hl => ?_)
        refine lv_iinc (v := nI (i + 1)) (lv' := [(4, .int (nI (i + 1))), (2, .int (nI (((asum mt T i) + ((gN (mt i)) * (pw ((T * i) % 32)))) % 97))), (0, .ref (M 0)), (1, .int (nI T)), (3, .int 1)]) hx hb dX7_answer_51 hl (k := 4) rfl (by exact nI_1 _) (by decide) rfl (fun ls hl => ?_)
        refine lv_goto (tgt := 19) hx hb dX7_answer_54 (by decide) ?_
        refine W.widen (k := 0) (n := 0) (Nat.le_refl _) (Nat.le_refl _) ?_
        exact ih_19 (i + 1) _ _ _ (show (i + 1) ≤ 32 from (by exact c_23)) (show 32 - (i + 1) < 32 - i by omega) hP hD hS (lv_sub hl [2, 3, 1, 4, 0] rfl)
  · refine lv_topi (fun f ef => ?_)
    obtain rfl : f = 0 := ef.trans (if_neg hk0)
    refine lv_istore_n (lv' := [(3, .int 0), (2, .int 0), (0, .ref (M 0)), (1, .int tp)]) hx hb dX7_answer_15 rfl hl (by decide) rfl (fun ls hl => ?_)
    refine lv_iconst (v := 0) hx hb dX7_answer_16 (by decide) ?_
    refine lv_istore (lv' := [(4, .int 0), (3, .int 0), (2, .int 0), (0, .ref (M 0)), (1, .int tp)]) hx hb dX7_answer_17 hl (by decide) rfl (fun ls hl => ?_)
    refine lv_iload hx hb dX7_answer_19 (lv_at hl 0 rfl) ?_
    refine lv_bipush (v := 32) hx hb dX7_answer_21 (by decide) ?_
    refine lv_icmp_ge (tgt := 57) hx hb dX7_answer_23 (by decide) (fun c_23 => ?_) (fun c_23 => ?_)
    · exact absurd c_23 (by decide)
    · refine lv_iload_n hx hb dX7_answer_26 rfl (lv_at hl 1 rfl) ?_
      refine lv_if_eq (tgt := 57) hx hb dX7_answer_27 (by decide) (fun c_27 => ?_) (fun c_27 => ?_)
      · refine lv_iload_n hx hb dX7_answer_57 rfl (lv_at hl 2 rfl) ?_
        refine g_iret (v := 0) hx hb hr hlk hP hK hD hS (Nat.le_of_ble_eq_true rfl) (Nat.le_of_ble_eq_true rfl) dX7_answer_58 ?_
        exact ⟨rfl, fun h => absurd h hk0⟩
      · exact absurd c_27 (by decide)

set_option maxHeartbeats 4000000 in
set_option maxRecDepth 100000 in
theorem c_X7_answerAnew (l : Launch) (D : va_G) (cI cJ cO : ClassId) (df sz : Nat) (M : Nat → Nat) (mc : Nat → Int32) (ms : Nat → Int32) (mw : Nat → Int32) (mn : Int32) (mo : Nat → Int32) (mh : Int32) (mu : Nat → Int32) (mk : Int32) (mt : Nat → Int32) (mq : Nat → Int32) (mp : Nat → Int32) (my : Int32) (mf : Nat → Int32) (ma : Nat → Int32) (cy : Int32) (lo : Int32) (gr : Int32) (ov : Int64) (un : Int64) (la : Int32) (tp : Int32) (ht : isR mt 32) : MetI l yX7_answerAnew wsX7_answerAnew ({ frames := 2, cells := 0, slots := 0, locals := 47 } : Room) D (gTY cI cJ cO) df (mW cI M mc ms mw mn mo mh mu mk mt mq mp my mf ma cy lo gr ov un la) sz [.ref (M 0), .int tp] (fun (r : Int32) (w : va_W) => w = mW cI M mc ms mw mn mo mh mu mk mt mq mp my mf ma cy lo gr ov un (gGo (isIn tp 0 31) 1 1) ∧ (gGo (isIn tp 0 31) 1 1 = 0 → r = nI (asum mt (gN tp) 32))) := by
  refine g_of (cc := cX7_answerAnew) (nL := 2) (ret := (some .int)) (D := D) (TY := (gTY cI cJ cO)) (df := df) (Qc := fun A => va_Qi (fun (r : Int32) (w : va_W) => w = mW cI M mc ms mw mn mo mh mu mk mt mq mp my mf ma cy lo gr ov un (gGo (isIn tp 0 31) 1 1) ∧ (gGo (isIn tp 0 31) 1 1 = 0 → r = nI (asum mt (gN tp) 32))) (gB D (gTY cI cJ cO) A) A) (by decide +kernel) rfl (Nat.le_of_ble_eq_true rfl) ?_
  intro p e s m below meth c ls A hsz C0 hin hl
  obtain ⟨CF, hr, hlk, hA, hS, hP, hK, hD, hV, hH⟩ := C0
  have CF : CallFix p m c cX7_answerAnew 2 s _ wsX7_answerAnew RX7 := CF
  obtain ⟨hx, hb, hml, hown, hts⟩ := id CF
  subst hsz
  have hmethodLink_RX7_137 : (Cond.methodLink RX7 137 yX7_answer).before _ s = true := hts _ (List.mem_of_getElem? (i := 1) rfl)
  have hP : va_P D ccl (mW cI M mc ms mw mn mo mh mu mk mt mq mp my mf ma cy lo gr ov un la) s.heap := hP
  have hl : lv_has ls 2 [(0, .ref (M 0)), (1, .int tp)] := hl
  refine lv_aload_n hx hb dX7_answerAnew_0 rfl (lv_at hl 0 rfl) ?_
  refine lv_iload_n hx hb dX7_answerAnew_1 rfl (lv_at hl 1 rfl) ?_
  have hPc := hP.sub (ws' := [(M 0, .inr (8, [.ref (M 1), .ref (M 2), .ref (M 3), .int mn, .ref (M 4), .int mh, .ref (M 5), .int mk, .ref (M 6), .ref (M 7), .ref (M 8), .int my, .ref (M 9), .ref (M 10), .int cy, .int lo, .int gr, .long ov, .long un, .int la])), (M 1, .inl (cI, 40, .inl mc)), (M 2, .inl (cI, 32, .inl ms)), (M 3, .inl (cI, 8, .inl mw)), (M 4, .inl (cI, 8, .inl mo)), (M 5, .inl (cI, 16, .inl mu)), (M 6, .inl (cI, 32, .inl mt)), (M 7, .inl (cI, 32, .inl mq)), (M 8, .inl (cI, 64, .inl mp)), (M 9, .inl (cI, 40401, .inl mf)), (M 10, .inl (cI, 40401, .inl ma))]) [0, 1, 2, 3, 4, 5, 6, 7, 8, 9, 10] rfl
  have hDc := hD.sub (ws' := [(M 0, .inr (8, [.ref (M 1), .ref (M 2), .ref (M 3), .int mn, .ref (M 4), .int mh, .ref (M 5), .int mk, .ref (M 6), .ref (M 7), .ref (M 8), .int my, .ref (M 9), .ref (M 10), .int cy, .int lo, .int gr, .long ov, .long un, .int la])), (M 1, .inl (cI, 40, .inl mc)), (M 2, .inl (cI, 32, .inl ms)), (M 3, .inl (cI, 8, .inl mw)), (M 4, .inl (cI, 8, .inl mo)), (M 5, .inl (cI, 16, .inl mu)), (M 6, .inl (cI, 32, .inl mt)), (M 7, .inl (cI, 32, .inl mq)), (M 8, .inl (cI, 64, .inl mp)), (M 9, .inl (cI, 40401, .inl mf)), (M 10, .inl (cI, 40401, .inl ma))]) [0, 1, 2, 3, 4, 5, 6, 7, 8, 9, 10] (by decide) rfl
  have hFc := va_free (wc := [(M 0, .inr (8, [.ref (M 1), .ref (M 2), .ref (M 3), .int mn, .ref (M 4), .int mh, .ref (M 5), .int mk, .ref (M 6), .ref (M 7), .ref (M 8), .int my, .ref (M 9), .ref (M 10), .int cy, .int lo, .int gr, .long ov, .long un, .int la])), (M 1, .inl (cI, 40, .inl mc)), (M 2, .inl (cI, 32, .inl ms)), (M 3, .inl (cI, 8, .inl mw)), (M 4, .inl (cI, 8, .inl mo)), (M 5, .inl (cI, 16, .inl mu)), (M 6, .inl (cI, 32, .inl mt)), (M 7, .inl (cI, 32, .inl mq)), (M 8, .inl (cI, 64, .inl mp)), (M 9, .inl (cI, 40401, .inl mf)), (M 10, .inl (cI, 40401, .inl ma))]) hD hS hA [0, 1, 2, 3, 4, 5, 6, 7, 8, 9, 10] rfl
  refine g_Vi (As := [.int tp]) (rest := []) CF (c_X7_answer l D cI cJ cO df s.heap.size M mc ms mw mn mo mh mu mk mt mq mp my mf ma cy lo gr ov un la tp ht) (cwV 1 hts gX7_answerAnew_X7_answer rfl rfl rfl (by decide +kernel) ⟨Nat.le_of_ble_eq_true rfl, Nat.le_of_ble_eq_true rfl⟩) (va_recv hK hP (ci := 8) (q0 := 0) rfl rfl) hPc hK hDc hV hH hS hFc rfl hl.1 rfl (Nat.le_of_ble_eq_true rfl) dX7_answerAnew_2 ⟨Nat.le_of_ble_eq_true rfl, Nat.le_of_ble_eq_true rfl⟩ (fun r_2 w1 H1 locs1 hq hP1 hD1 hk hS hz => ?_)
  obtain ⟨rfl, hq_2⟩ := hq
  obtain ⟨hP, hD⟩ := g_join (ws' := (mW cI M mc ms mw mn mo mh mu mk mt mq mp my mf ma cy lo gr ov un (gGo (isIn tp 0 31) 1 1))) hP hD hk hFc hP1 hD1 [0, 1, 2, 3, 4, 5, 6, 7, 8, 9, 10] [] [0, 1, 2, 3, 4, 5, 6, 7, 8, 9, 10] rfl rfl (by decide) (by decide) (by decide) rfl
  clear hPc hDc hFc hP1 hD1 hk hz
  generalize H1 = H at hP hS ⊢
  have hP : va_P D ccl (mW cI M mc ms mw mn mo mh mu mk mt mq mp my mf ma cy lo gr ov un (gGo (isIn tp 0 31) 1 1)) H := hP
  have hD : va_D A (mW cI M mc ms mw mn mo mh mu mk mt mq mp my mf ma cy lo gr ov un (gGo (isIn tp 0 31) 1 1)) := hD
  refine g_iret (v := r_2) hx hb hr hlk hP hK hD hS (Nat.le_of_ble_eq_true rfl) (Nat.le_of_ble_eq_true rfl) dX7_answerAnew_5 ?_
  exact ⟨rfl, hq_2⟩

set_option maxHeartbeats 4000000 in
set_option maxRecDepth 100000 in
theorem c_X7_sifted (l : Launch) (D : va_G) (cI cJ cO : ClassId) (df sz : Nat) (M : Nat → Nat) (mc : Nat → Int32) (ms : Nat → Int32) (mw : Nat → Int32) (mn : Int32) (mo : Nat → Int32) (mh : Int32) (mu : Nat → Int32) (mk : Int32) (mt : Nat → Int32) (mq : Nat → Int32) (mp : Nat → Int32) (mf : Nat → Int32) (ma : Nat → Int32) (cy : Int32) (lo : Int32) (gr : Int32) (ov : Int64) (un : Int64) (la : Int32) (Y : Nat) (back : Int32) (hY : Y ≤ 64) (ht : isR mt 32) (hp : isR mp 64) : MetI l yX7_sifted wsX7_sifted ({ frames := 1, cells := 0, slots := 0, locals := 23 } : Room) D (gTY cI cJ cO) df (mW cI M mc ms mw mn mo mh mu mk mt mq mp (nI Y) mf ma cy lo gr ov un la) sz [.ref (M 0), .int back] (fun (r : Int32) (w : va_W) => w = mW cI M mc ms mw mn mo mh mu mk mt mq mp (nI Y) mf ma cy lo gr ov un (gGo (if back < 0 then 0 else 1) 1 1) ∧ (gGo (if back < 0 then 0 else 1) 1 1 = 0 → r = if gN back < Y then nI (ssum mt mp (gN back) Y 32) else -1)) := by
  refine g_of (cc := cX7_sifted) (nL := 4) (ret := (some .int)) (D := D) (TY := (gTY cI cJ cO)) (df := df) (Qc := fun A => va_Qi (fun (r : Int32) (w : va_W) => w = mW cI M mc ms mw mn mo mh mu mk mt mq mp (nI Y) mf ma cy lo gr ov un (gGo (if back < 0 then 0 else 1) 1 1) ∧ (gGo (if back < 0 then 0 else 1) 1 1 = 0 → r = if gN back < Y then nI (ssum mt mp (gN back) Y 32) else -1)) (gB D (gTY cI cJ cO) A) A) (by decide +kernel) rfl (Nat.le_of_ble_eq_true rfl) ?_
  intro p e s m below meth c ls A hsz C0 hin hl
  obtain ⟨CF, hr, hlk, hA, hS, hP, hK, hD, hV, hH⟩ := C0
  have CF : CallFix p m c cX7_sifted 4 s _ wsX7_sifted RX7 := CF
  obtain ⟨hx, hb, hml, hown, hts⟩ := id CF
  subst hsz
  have hmethodLink_RX7_52 : (Cond.methodLink RX7 52 yX7_goes).before _ s = true := hts _ (List.mem_of_getElem? (i := 4) rfl)
  have hfieldLink_RX7_93 : (Cond.fieldLink RX7 93 "TapLoomModel" "many" "I").before _ s = true := hts _ (List.mem_of_getElem? (i := 1) rfl)
  have hfieldLink_RX7_25 : (Cond.fieldLink RX7 25 "TapLoomModel" "taps" "[I").before _ s = true := hts _ (List.mem_of_getElem? (i := 2) rfl)
  have hfieldLink_RX7_31 : (Cond.fieldLink RX7 31 "TapLoomModel" "samples" "[I").before _ s = true := hts _ (List.mem_of_getElem? (i := 3) rfl)
  have inX7 : ∀ w ∈ u_ws RX7 TX7 20, w ∈ wsX7_sifted := fun w h => (List.mem_cons_of_mem _ (List.mem_append_right _ h))
  have hP : va_P D ccl (mW cI M mc ms mw mn mo mh mu mk mt mq mp (nI Y) mf ma cy lo gr ov un la) s.heap := hP
  have hl : lv_has ls 4 [(0, .ref (M 0)), (1, .int back)] := hl
  refine lv_aload_n hx hb dX7_sifted_0 rfl (lv_at hl 0 rfl) ?_
  refine lv_iload_n hx hb dX7_sifted_1 rfl (lv_at hl 1 rfl) ?_
  refine g_phii (ls := ls) (J := 10) (st1 := [.ref (M 0)]) (REL := fun b => b = if back < 0 then (0 : Int32) else 1) (fun b hb_10 => ?_) (fun hJ_10 => ?_)
  · subst hb_10
    refine lv_iconst (v := 1) hx hb dX7_sifted_10 (by decide) ?_
    refine lv_iconst (v := 1) hx hb dX7_sifted_11 (by decide) ?_
    have hPc := hP.sub (ws' := [(M 0, .inr (8, [.ref (M 1), .ref (M 2), .ref (M 3), .int mn, .ref (M 4), .int mh, .ref (M 5), .int mk, .ref (M 6), .ref (M 7), .ref (M 8), .int (nI Y), .ref (M 9), .ref (M 10), .int cy, .int lo, .int gr, .long ov, .long un, .int la])), (M 1, .inl (cI, 40, .inl mc)), (M 2, .inl (cI, 32, .inl ms)), (M 3, .inl (cI, 8, .inl mw)), (M 4, .inl (cI, 8, .inl mo)), (M 5, .inl (cI, 16, .inl mu)), (M 6, .inl (cI, 32, .inl mt)), (M 7, .inl (cI, 32, .inl mq)), (M 8, .inl (cI, 64, .inl mp)), (M 9, .inl (cI, 40401, .inl mf)), (M 10, .inl (cI, 40401, .inl ma))]) [0, 1, 2, 3, 4, 5, 6, 7, 8, 9, 10] rfl
    have hDc := hD.sub (ws' := [(M 0, .inr (8, [.ref (M 1), .ref (M 2), .ref (M 3), .int mn, .ref (M 4), .int mh, .ref (M 5), .int mk, .ref (M 6), .ref (M 7), .ref (M 8), .int (nI Y), .ref (M 9), .ref (M 10), .int cy, .int lo, .int gr, .long ov, .long un, .int la])), (M 1, .inl (cI, 40, .inl mc)), (M 2, .inl (cI, 32, .inl ms)), (M 3, .inl (cI, 8, .inl mw)), (M 4, .inl (cI, 8, .inl mo)), (M 5, .inl (cI, 16, .inl mu)), (M 6, .inl (cI, 32, .inl mt)), (M 7, .inl (cI, 32, .inl mq)), (M 8, .inl (cI, 64, .inl mp)), (M 9, .inl (cI, 40401, .inl mf)), (M 10, .inl (cI, 40401, .inl ma))]) [0, 1, 2, 3, 4, 5, 6, 7, 8, 9, 10] (by decide) rfl
    have hFc := va_free (wc := [(M 0, .inr (8, [.ref (M 1), .ref (M 2), .ref (M 3), .int mn, .ref (M 4), .int mh, .ref (M 5), .int mk, .ref (M 6), .ref (M 7), .ref (M 8), .int (nI Y), .ref (M 9), .ref (M 10), .int cy, .int lo, .int gr, .long ov, .long un, .int la])), (M 1, .inl (cI, 40, .inl mc)), (M 2, .inl (cI, 32, .inl ms)), (M 3, .inl (cI, 8, .inl mw)), (M 4, .inl (cI, 8, .inl mo)), (M 5, .inl (cI, 16, .inl mu)), (M 6, .inl (cI, 32, .inl mt)), (M 7, .inl (cI, 32, .inl mq)), (M 8, .inl (cI, 64, .inl mp)), (M 9, .inl (cI, 40401, .inl mf)), (M 10, .inl (cI, 40401, .inl ma))]) hD hS hA [0, 1, 2, 3, 4, 5, 6, 7, 8, 9, 10] rfl
    refine g_Vi (As := [.int (if back < 0 then (0 : Int32) else 1), .int 1, .int 1]) (rest := []) CF (c_X7_goes l D cI cJ cO df s.heap.size M mc ms mw mn mo mh mu mk mt mq mp (nI Y) mf ma cy lo gr ov un la (if back < 0 then (0 : Int32) else 1) 1 1 ) (cwV 3 hts gX7_sifted_X7_goes rfl rfl rfl (by decide +kernel) ⟨Nat.le_of_ble_eq_true rfl, Nat.le_of_ble_eq_true rfl⟩) (va_recv hK hP (ci := 8) (q0 := 0) rfl rfl) hPc hK hDc hV hH hS hFc rfl hl.1 rfl (Nat.le_of_ble_eq_true rfl) dX7_sifted_12 ⟨Nat.le_of_ble_eq_true rfl, Nat.le_of_ble_eq_true rfl⟩ (fun r_12 w1 H1 locs1 hq hP1 hD1 hk hS hz => ?_)
    obtain ⟨rfl, hr_12⟩ := hq
    obtain ⟨hP, hD⟩ := g_join (ws' := (mW cI M mc ms mw mn mo mh mu mk mt mq mp (nI Y) mf ma cy lo gr ov un (gGo (if back < 0 then (0 : Int32) else 1) 1 1))) hP hD hk hFc hP1 hD1 [0, 1, 2, 3, 4, 5, 6, 7, 8, 9, 10] [] [0, 1, 2, 3, 4, 5, 6, 7, 8, 9, 10] rfl rfl (by decide) (by decide) (by decide) rfl
    clear hPc hDc hFc hP1 hD1 hk hz
    generalize H1 = H at hP hS ⊢
    have hP : va_P D ccl (mW cI M mc ms mw mn mo mh mu mk mt mq mp (nI Y) mf ma cy lo gr ov un (gGo (if back < 0 then (0 : Int32) else 1) 1 1)) H := hP
    have hD : va_D A (mW cI M mc ms mw mn mo mh mu mk mt mq mp (nI Y) mf ma cy lo gr ov un (gGo (if back < 0 then (0 : Int32) else 1) 1 1)) := hD
    subst hr_12
    refine lv_if_ne (tgt := 20) hx hb dX7_sifted_15 (by decide) (fun c_15 => ?_) (fun c_15 => ?_)
    · have c_15 : gGo (if back < 0 then (0 : Int32) else 1) 1 1 = 0 := g_b1 c_15
      have hv0 := (gGo_0 c_15).1
      have hb0 : ¬ back < 0 := fun h => hv0 (by rw [if_pos h])
      obtain ⟨B, hB, rfl⟩ := nI_of hb0
      refine lv_iconst (v := 0) hx hb dX7_sifted_20 (by decide) ?_
      refine lv_istore_n (lv' := [(2, .int 0), (0, .ref (M 0)), (1, .int (nI B))]) hx hb dX7_sifted_21 rfl hl (by decide) rfl (fun ls hl => ?_)
      refine lv_iconst (v := 0) hx hb dX7_sifted_22 (by decide) ?_
      refine lv_istore_n (lv' := [(3, .int 0), (2, .int 0), (0, .ref (M 0)), (1, .int (nI B))]) hx hb dX7_sifted_23 rfl hl (by decide) rfl (fun ls hl => ?_)
      refine W.widen (k := 0) (n := 0) (Nat.le_refl _) (Nat.le_refl _) ?_
      refine g_while (σ := Nat) (st := []) (nL := 4) (fun i => mW cI M mc ms mw mn mo mh mu mk mt mq mp (nI Y) mf ma cy lo gr ov un (gGo (if (nI B) < 0 then (0 : Int32) else 1) 1 1))
        (fun i => [(0, .ref (M 0)), (1, .int (nI B)), (2, .int (nI (ssum mt mp B Y i))), (3, .int (nI i))])
        (fun i => i ≤ 32)
        (fun i => 32 - i) (fun i => 0) (fun i => 0)
        ?_ 0 (Nat.zero_le _) hP hD hS (lv_sub hl [2, 3, 1, 0] rfl)
      intro i hI H locs ls hP hD hS hl ih
      have hI : i ≤ 32 := hI
      have hP : va_P D ccl (mW cI M mc ms mw mn mo mh mu mk mt mq mp (nI Y) mf ma cy lo gr ov un (gGo (if (nI B) < 0 then (0 : Int32) else 1) 1 1)) H := hP
      have hD : va_D A (mW cI M mc ms mw mn mo mh mu mk mt mq mp (nI Y) mf ma cy lo gr ov un (gGo (if (nI B) < 0 then (0 : Int32) else 1) 1 1)) := hD
      have hl : lv_has ls 4 [(0, .ref (M 0)), (1, .int (nI B)), (2, .int (nI (ssum mt mp B Y i))), (3, .int (nI i))] := hl
      change W p l e _ s m _ below meth c H locs 0 0 _ (F0 m 24 ls [])
      have ih_24 := ih
      clear ih
      refine lv_iload_n hx hb dX7_sifted_24 rfl (lv_at hl 3 rfl) ?_
      refine lv_bipush (v := 32) hx hb dX7_sifted_25 (by decide) ?_
      refine lv_icmp_ge (tgt := 75) hx hb dX7_sifted_27 (by decide) (fun c_27 => ?_) (fun c_27 => ?_)
      · have c_27 : 32 ≤ i := g_le (a := 32) (b := i) c_27 (by omega) (by omega)
        refine lv_iload_n hx hb dX7_sifted_75 rfl (lv_at hl 1 rfl) ?_
        refine lv_aload_n hx hb dX7_sifted_76 rfl (lv_at hl 0 rfl) ?_
        refine va_get (D := D) (ci := 8) (v := .int (nI Y)) (C := RX7) (T := TX7) (N := 20) hx hb hts inX7 hown hK hP 0 rfl rfl 11 (by decide) hfieldLink_RX7_93 (fun _ h9 => h9) rfl dX7_sifted_77 ?_
        refine lv_icmp_ge (tgt := 87) hx hb dX7_sifted_80 (by decide) (fun c_80 => ?_) (fun c_80 => ?_)
        · have c_80 : Y ≤ B := g_le (a := Y) (b := B) c_80 (by omega) (by omega)
          refine lv_iconst (v := (-1)) hx hb dX7_sifted_87 (by decide) ?_
          refine g_iret (v := (-1)) hx hb hr hlk hP hK hD hS (Nat.le_of_ble_eq_true rfl) (Nat.le_of_ble_eq_true rfl) dX7_sifted_88 ?_
          exact ⟨rfl, fun _ => by rw [gN_nI hB, if_neg (by omega)]⟩
        · have c_80 : B < Y := g_nle (a := Y) (b := B) c_80 (by omega) (by omega)
          refine lv_iload_n hx hb dX7_sifted_83 rfl (lv_at hl 2 rfl) ?_
          refine lv_goto (tgt := 88) hx hb dX7_sifted_84 (by decide) ?_
          refine g_iret (v := nI (ssum mt mp B Y i)) hx hb hr hlk hP hK hD hS (Nat.le_of_ble_eq_true rfl) (Nat.le_of_ble_eq_true rfl) dX7_sifted_88 ?_
          exact ⟨rfl, fun _ => by rw [gN_nI hB, if_pos c_80, show i = 32 by omega]⟩
      · have c_27 : i < 32 := g_nle (a := 32) (b := i) c_27 (by omega) (by omega)
        refine lv_iload_n hx hb dX7_sifted_30 rfl (lv_at hl 1 rfl) ?_
        refine lv_aload_n hx hb dX7_sifted_31 rfl (lv_at hl 0 rfl) ?_
        refine va_get (D := D) (ci := 8) (v := .int (nI Y)) (C := RX7) (T := TX7) (N := 20) hx hb hts inX7 hown hK hP 0 rfl rfl 11 (by decide) hfieldLink_RX7_93 (fun _ h9 => h9) rfl dX7_sifted_32 ?_
        refine lv_icmp_ge (tgt := 75) hx hb dX7_sifted_35 (by decide) (fun c_35 => ?_) (fun c_35 => ?_)
        · have c_35 : Y ≤ B := g_le (a := Y) (b := B) c_35 (by omega) (by omega)
          refine lv_iload_n hx hb dX7_sifted_75 rfl (lv_at hl 1 rfl) ?_
          refine lv_aload_n hx hb dX7_sifted_76 rfl (lv_at hl 0 rfl) ?_
          refine va_get (D := D) (ci := 8) (v := .int (nI Y)) (C := RX7) (T := TX7) (N := 20) hx hb hts inX7 hown hK hP 0 rfl rfl 11 (by decide) hfieldLink_RX7_93 (fun _ h9 => h9) rfl dX7_sifted_77 ?_
          refine lv_icmp_ge (tgt := 87) hx hb dX7_sifted_80 (by decide) (fun c_80 => ?_) (fun c_80 => ?_)
          · have c_80 : Y ≤ B := g_le (a := Y) (b := B) c_80 (by omega) (by omega)
            refine lv_iconst (v := (-1)) hx hb dX7_sifted_87 (by decide) ?_
            refine g_iret (v := (-1)) hx hb hr hlk hP hK hD hS (Nat.le_of_ble_eq_true rfl) (Nat.le_of_ble_eq_true rfl) dX7_sifted_88 ?_
            exact ⟨rfl, fun _ => by rw [gN_nI hB, if_neg (by omega)]⟩
          · have c_80 : B < Y := g_nle (a := Y) (b := B) c_80 (by omega) (by omega)
            refine lv_iload_n hx hb dX7_sifted_83 rfl (lv_at hl 2 rfl) ?_
            refine lv_goto (tgt := 88) hx hb dX7_sifted_84 (by decide) ?_
            refine g_iret (v := nI (ssum mt mp B Y i)) hx hb hr hlk hP hK hD hS (Nat.le_of_ble_eq_true rfl) (Nat.le_of_ble_eq_true rfl) dX7_sifted_88 ?_
            exact ⟨rfl, fun _ => by omega⟩
        · have c_35 : B < Y := g_nle (a := Y) (b := B) c_35 (by omega) (by omega)
          refine lv_iload_n hx hb dX7_sifted_38 rfl (lv_at hl 1 rfl) ?_
          refine lv_iload_n hx hb dX7_sifted_39 rfl (lv_at hl 3 rfl) ?_
          refine lv_iadd hx hb dX7_sifted_40 ?_
          refine lv_topi (fun f ef => ?_)
          obtain rfl : f = nI (B + i) := ef.trans (nI_add _ _)
          refine lv_aload_n hx hb dX7_sifted_41 rfl (lv_at hl 0 rfl) ?_
          refine va_get (D := D) (ci := 8) (v := .int (nI Y)) (C := RX7) (T := TX7) (N := 20) hx hb hts inX7 hown hK hP 0 rfl rfl 11 (by decide) hfieldLink_RX7_93 (fun _ h9 => h9) rfl dX7_sifted_42 ?_
          refine lv_icmp_ge (tgt := 75) hx hb dX7_sifted_45 (by decide) (fun c_45 => ?_) (fun c_45 => ?_)
          · have c_45 : Y ≤ B + i := g_le (a := Y) (b := B + i) c_45 (by omega) (by omega)
            refine lv_iload_n hx hb dX7_sifted_75 rfl (lv_at hl 1 rfl) ?_
            refine lv_aload_n hx hb dX7_sifted_76 rfl (lv_at hl 0 rfl) ?_
            refine va_get (D := D) (ci := 8) (v := .int (nI Y)) (C := RX7) (T := TX7) (N := 20) hx hb hts inX7 hown hK hP 0 rfl rfl 11 (by decide) hfieldLink_RX7_93 (fun _ h9 => h9) rfl dX7_sifted_77 ?_
            refine lv_icmp_ge (tgt := 87) hx hb dX7_sifted_80 (by decide) (fun c_80 => ?_) (fun c_80 => ?_)
            · have c_80 : Y ≤ B := g_le (a := Y) (b := B) c_80 (by omega) (by omega)
              refine lv_iconst (v := (-1)) hx hb dX7_sifted_87 (by decide) ?_
              refine g_iret (v := (-1)) hx hb hr hlk hP hK hD hS (Nat.le_of_ble_eq_true rfl) (Nat.le_of_ble_eq_true rfl) dX7_sifted_88 ?_
              exact ⟨rfl, fun _ => by rw [gN_nI hB, if_neg (by omega)]⟩
            · have c_80 : B < Y := g_nle (a := Y) (b := B) c_80 (by omega) (by omega)
              refine lv_iload_n hx hb dX7_sifted_83 rfl (lv_at hl 2 rfl) ?_
              refine lv_goto (tgt := 88) hx hb dX7_sifted_84 (by decide) ?_
              refine g_iret (v := nI (ssum mt mp B Y i)) hx hb hr hlk hP hK hD hS (Nat.le_of_ble_eq_true rfl) (Nat.le_of_ble_eq_true rfl) dX7_sifted_88 ?_
              exact ⟨rfl, fun _ => by
                rw [gN_nI hB, if_pos c_80]
                have h9 := ssum_stop (f := mt) (g := mp) c_45 (32 - i)
                rw [show i + (32 - i) = 32 by omega] at h9
                rw [h9]⟩
          · have c_45 : B + i < Y := g_nle (a := Y) (b := B + i) c_45 (by omega) (by omega)
            refine lv_iload_n hx hb dX7_sifted_48 rfl (lv_at hl 2 rfl) ?_
            refine lv_aload_n hx hb dX7_sifted_49 rfl (lv_at hl 0 rfl) ?_
            refine va_get (D := D) (ci := 8) (v := .ref (M 6)) (C := RX7) (T := TX7) (N := 20) hx hb hts inX7 hown hK hP 0 rfl rfl 8 (by decide) hfieldLink_RX7_25 (fun _ h9 => h9) rfl dX7_sifted_50 ?_
            refine lv_iload_n hx hb dX7_sifted_53 rfl (lv_at hl 3 rfl) ?_
            refine va_iald hx hb hK hP 6 0 rfl rfl (vp_in_nI (by omega) (by omega)) dX7_sifted_54 ?_
            refine lv_topi (fun f ef => ?_)
            obtain rfl : f = mt i := ef.trans (congrArg mt (nI_clamp (n := i) (by omega)))
            refine lv_topi (fun f ef => ?_)
            obtain rfl : f = nI (gN (mt i)) := ef.trans ((ht i c_27).1)
            refine lv_aload_n hx hb dX7_sifted_55 rfl (lv_at hl 0 rfl) ?_
            refine va_get (D := D) (ci := 8) (v := .ref (M 8)) (C := RX7) (T := TX7) (N := 20) hx hb hts inX7 hown hK hP 0 rfl rfl 10 (by decide) hfieldLink_RX7_31 (fun _ h9 => h9) rfl dX7_sifted_56 ?_
            refine lv_iload_n hx hb dX7_sifted_59 rfl (lv_at hl 1 rfl) ?_
            refine lv_iload_n hx hb dX7_sifted_60 rfl (lv_at hl 3 rfl) ?_
            refine lv_iadd hx hb dX7_sifted_61 ?_
            refine lv_topi (fun f ef => ?_)
            obtain rfl : f = nI (B + i) := ef.trans (nI_add _ _)
            refine va_iald hx hb hK hP 8 0 rfl rfl (vp_in_nI (by omega) (by omega)) dX7_sifted_62 ?_
            refine lv_topi (fun f ef => ?_)
            obtain rfl : f = mp (B + i) := ef.trans (congrArg mp (nI_clamp (n := B + i) (by omega)))
            refine lv_topi (fun f ef => ?_)
            obtain rfl : f = nI (gN (mp (B + i))) := ef.trans ((hp (B + i) (by omega)).1)
            refine lv_imul hx hb dX7_sifted_63 ?_
            refine lv_topi (fun f ef => ?_)
            obtain rfl : f = nI ((gN (mt i)) * (gN (mp (B + i)))) := ef.trans (pk_mul _ _)
            refine lv_iadd hx hb dX7_sifted_64 ?_
            refine lv_topi (fun f ef => ?_)
            obtain rfl : f = nI ((ssum mt mp B Y i) + ((gN (mt i)) * (gN (mp (B + i))))) := ef.trans (nI_add _ _)
            refine lv_bipush (v := 97) hx hb dX7_sifted_65 (by decide) ?_
            have hm9 := mul97 (ht i c_27).2 (hp (B + i) (by omega)).2
            have hd9 := ssum_lt mt mp B Y i
            refine lv_irem hx hb dX7_sifted_67 (by decide) ?_
            refine lv_topi (fun f ef => ?_)
            obtain rfl : f = nI (((ssum mt mp B Y i) + ((gN (mt i)) * (gN (mp (B + i))))) % 97) := ef.trans (pk_rem (a := (ssum mt mp B Y i) + ((gN (mt i)) * (gN (mp (B + i))))) (d := 97) (by omega) (by omega) (by omega))
            refine lv_topi (fun f ef => ?_)
            obtain rfl : f = nI (ssum mt mp B Y (i + 1)) := ef.trans (congrArg nI (ssum_s c_45).symm)
            refine lv_istore_n (lv' := [(2, .int (nI (ssum mt mp B Y (i + 1)))), (0, .ref (M 0)), (1, .int (nI B)), (3, .int (nI i))]) hx hb dX7_sifted_68 rfl hl (by decide) rfl (fun ls hl => ?_)
            refine lv_iinc (v := nI (i + 1)) (lv' := [(3, .int (nI (i + 1))), (2, .int (nI (ssum mt mp B Y (i + 1)))), (0, .ref (M 0)), (1, .int (nI B))]) hx hb dX7_sifted_69 hl (k := 3) rfl (by exact nI_1 _) (by decide) rfl (fun ls hl => ?_)
            refine lv_goto (tgt := 24) hx hb dX7_sifted_72 (by decide) ?_
            refine W.widen (k := 0) (n := 0) (Nat.le_refl _) (Nat.le_refl _) ?_
            exact ih_24 (i + 1) _ _ _ (show (i + 1) ≤ 32 from (by exact c_27)) (show 32 - (i + 1) < 32 - i by omega) hP hD hS (lv_sub hl [2, 3, 1, 0] rfl)
    · have c_15 : ¬ (gGo (if back < 0 then (0 : Int32) else 1) 1 1 = 0) := g_b0 c_15
      refine lv_iconst (v := 0) hx hb dX7_sifted_18 (by decide) ?_
      refine g_iret (v := 0) hx hb hr hlk hP hK hD hS (Nat.le_of_ble_eq_true rfl) (Nat.le_of_ble_eq_true rfl) dX7_sifted_19 ?_
      exact ⟨rfl, fun h => absurd h c_15⟩
  · refine lv_if_lt (tgt := 9) hx hb dX7_sifted_2 (by decide) (fun c_2 => ?_) (fun c_2 => ?_)
    · refine lv_iconst (v := 0) hx hb dX7_sifted_9 (by decide) ?_
      exact hJ_10 _ (by simp [c_2])
    · refine lv_iconst (v := 1) hx hb dX7_sifted_5 (by decide) ?_
      refine lv_goto (tgt := 10) hx hb dX7_sifted_6 (by decide) ?_
      exact hJ_10 _ (by simp [c_2])
