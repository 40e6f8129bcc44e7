set_option maxHeartbeats 4000000 in
set_option maxRecDepth 100000 in
theorem c_L_isActed (l : Launch) (hfl : l.stackTraces = false) (D : va_G) (cI cJ cO : ClassId) (df sz : Nat) (t0 : Nat) (w : va_W) (kc : Nat) (kq : Nat) (ku : Nat) (kt : Nat) (ka : Nat) (kp : Nat) (km : Nat) (fc : Nat → Int32) (N : Nat) (mc : Nat → Int32) (ms : Nat → Int32) (mw : Nat → Int32) (C : Nat) (mo : Nat → Int32) (K : Nat) (mu : Nat → Int32) (Y : Nat) (rw0 : Nat → Int32) (tf : Nat → Int32) (qf : Nat → Int32) (mp : Nat → Int32) (WY : Nat) (Z : Nat) (hCL : CLS cI cJ cO df t0 w N mc ms mw C mo K mu Y rw0 tf qf) (hW : WF N mc ms mw C mo K Y rw0 mp tf qf) (hN4 : N ≤ 4) (hR : RC fc mc ms mw N) (hZ : Z < 1000000000) (hWY : WY < 27) : MetI l yL_isActed wsL_isActed ({ frames := 14, cells := 8, slots := 50, locals := 448 } : Room) D (gTY cI cJ cO) df (([(kc, .inl (cI, 40, .inl fc)), (kq, .inl (cI, 4, .inl mo)), (ku, .inl (cI, 16, .inl mu)), (kt, .inl (cI, 32, .inl tf)), (ka, .inl (cI, 32, .inl qf)), (kp, .inl (cI, 64, .inl mp)), (km, .inl (cI, 4, .inl (mF N C K Y)))] : va_W) ++ w) sz [.ref t0, .ref kc, .ref kq, .ref ku, .ref kt, .ref ka, .ref kp, .ref km, .int (nI WY), .int (nI Z)] (fun (r : Int32) (wZ : va_W) => ∃ (N1 : Nat), ∃ (mc1 : Nat → Int32), ∃ (ms1 : Nat → Int32), ∃ (mw1 : Nat → Int32), ∃ (C1 : Nat), ∃ (mo1 : Nat → Int32), ∃ (K1 : Nat), ∃ (mu1 : Nat → Int32), ∃ (Y1 : Nat), ∃ (rw1 : Nat → Int32), ∃ (tf1 : Nat → Int32), ∃ (qf1 : Nat → Int32), ∃ (mp1 : Nat → Int32), ∃ (fc1 : Nat → Int32), ∃ (w1 : va_W), wZ = ([(kc, .inl (cI, 40, .inl fc1)), (kq, .inl (cI, 4, .inl mo1)), (ku, .inl (cI, 16, .inl mu1)), (kt, .inl (cI, 32, .inl tf1)), (ka, .inl (cI, 32, .inl qf1)), (kp, .inl (cI, 64, .inl mp1)), (km, .inl (cI, 4, .inl (mF N1 C1 K1 Y1)))] : va_W) ++ w1 ∧ r = 1 ∧ CLS cI cJ cO df t0 w1 N1 mc1 ms1 mw1 C1 mo1 K1 mu1 Y1 rw1 tf1 qf1 ∧ WF N1 mc1 ms1 mw1 C1 mo1 K1 Y1 rw1 mp1 tf1 qf1 ∧ RC fc1 mc1 ms1 mw1 N1 ∧ N1 ≤ 4 ∧ 0 < N1) := by
  refine g_of (cc := cL_isActed) (nL := 14) (ret := (some .boolean)) (D := D) (TY := (gTY cI cJ cO)) (df := df) (Qc := fun A => va_Qi (fun (r : Int32) (wZ : va_W) => ∃ (N1 : Nat), ∃ (mc1 : Nat → Int32), ∃ (ms1 : Nat → Int32), ∃ (mw1 : Nat → Int32), ∃ (C1 : Nat), ∃ (mo1 : Nat → Int32), ∃ (K1 : Nat), ∃ (mu1 : Nat → Int32), ∃ (Y1 : Nat), ∃ (rw1 : Nat → Int32), ∃ (tf1 : Nat → Int32), ∃ (qf1 : Nat → Int32), ∃ (mp1 : Nat → Int32), ∃ (fc1 : Nat → Int32), ∃ (w1 : va_W), wZ = ([(kc, .inl (cI, 40, .inl fc1)), (kq, .inl (cI, 4, .inl mo1)), (ku, .inl (cI, 16, .inl mu1)), (kt, .inl (cI, 32, .inl tf1)), (ka, .inl (cI, 32, .inl qf1)), (kp, .inl (cI, 64, .inl mp1)), (km, .inl (cI, 4, .inl (mF N1 C1 K1 Y1)))] : va_W) ++ w1 ∧ r = 1 ∧ CLS cI cJ cO df t0 w1 N1 mc1 ms1 mw1 C1 mo1 K1 mu1 Y1 rw1 tf1 qf1 ∧ WF N1 mc1 ms1 mw1 C1 mo1 K1 Y1 rw1 mp1 tf1 qf1 ∧ RC fc1 mc1 ms1 mw1 N1 ∧ N1 ≤ 4 ∧ 0 < N1) (gB D (gTY cI cJ cO) A) A) (by decide +kernel) rfl (Nat.le_of_ble_eq_true rfl) ?_
  intro p e s m below meth c ls A hsz C0 hin hl
  obtain ⟨CF, hr, hlk, hA, hS, hP, hK, hD, hV, hH⟩ := C0
  have CF : CallFix p m c cL_isActed 14 s _ wsL_isActed RL := CF
  obtain ⟨hx, hb, hml, hown, hts⟩ := id CF
  subst hsz
  have hmethodLink_RL_94 : (Cond.methodLink RL 94 yX6_section).before _ s = true := hts _ (List.mem_of_getElem? (i := 2) rfl)
  have hmethodLink_RL_118 : (Cond.methodLink RL 118 yL_rest).before _ s = true := hts _ (List.mem_of_getElem? (i := 263) rfl)
  have hmethodLink_RL_130 : (Cond.methodLink RL 130 yX6_sample).before _ s = true := hts _ (List.mem_of_getElem? (i := 318) rfl)
  have hmethodLink_RL_126 : (Cond.methodLink RL 126 yL_isDesigned).before _ s = true := hts _ (List.mem_of_getElem? (i := 295) rfl)
  have hmethodLink_RL_123 : (Cond.methodLink RL 123 yX6_ask).before _ s = true := hts _ (List.mem_of_getElem? (i := 286) rfl)
  have hmethodLink_RL_120 : (Cond.methodLink RL 120 yX6_tap).before _ s = true := hts _ (List.mem_of_getElem? (i := 266) rfl)
  have hmethodLink_RL_115 : (Cond.methodLink RL 115 yX6_rest).before _ s = true := hts _ (List.mem_of_getElem? (i := 247) rfl)
  have hmethodLink_RL_109 : (Cond.methodLink RL 109 yX6_run).before _ s = true := hts _ (List.mem_of_getElem? (i := 201) rfl)
  have hmethodLink_RL_112 : (Cond.methodLink RL 112 yL_run).before _ s = true := hts _ (List.mem_of_getElem? (i := 241) rfl)
  have hconstant_RL_108 : (Cond.constant RL 108 (65535)).before _ s = true := hts _ (List.mem_of_getElem? (i := 1) rfl)
  have hmethodLink_RL_104 : (Cond.methodLink RL 104 yL_isArranged).before _ s = true := hts _ (List.mem_of_getElem? (i := 153) rfl)
  have hmethodLink_RL_100 : (Cond.methodLink RL 100 yL_isChained).before _ s = true := hts _ (List.mem_of_getElem? (i := 122) rfl)
  have hmethodLink_RL_97 : (Cond.methodLink RL 97 yX6_set).before _ s = true := hts _ (List.mem_of_getElem? (i := 88) rfl)
  have hP : va_P D ccl (([(kc, .inl (cI, 40, .inl fc)), (kq, .inl (cI, 4, .inl mo)), (ku, .inl (cI, 16, .inl mu)), (kt, .inl (cI, 32, .inl tf)), (ka, .inl (cI, 32, .inl qf)), (kp, .inl (cI, 64, .inl mp)), (km, .inl (cI, 4, .inl (mF N C K Y)))] : va_W) ++ w) s.heap := hP
  have hl : lv_has ls 14 [(0, .ref t0), (1, .ref kc), (2, .ref kq), (3, .ref ku), (4, .ref kt), (5, .ref ka), (6, .ref kp), (7, .ref km), (8, .int (nI WY)), (9, .int (nI Z))] := hl
  obtain ⟨hN8, hC8, hmz, hsz9, hc, hs, hw, hO, hiM, hK6, hY, hrw, hm8, hp, ht, hq⟩ := id hW
  have hCN := wf_CN hW
  have hm1 : (-32767 : Int32).toInt = -32767 := by decide
  have hm2 : (32767 : Int32).toInt = 32767 := by decide
  have hm3 : (-96 : Int32).toInt = -96 := by decide
  have hm4 : (96 : Int32).toInt = 96 := by decide
  have hm5 : (-127 : Int32).toInt = -127 := by decide
  have hm6 : (127 : Int32).toInt = 127 := by decide
  refine lv_aload hx hb dL_isActed_0 (lv_at hl 7 rfl) ?_
  refine lv_iconst (v := 0) hx hb dL_isActed_2 (by decide) ?_
  refine va_iald hx hb hK hP 6 0 rfl rfl (by unfold vp_in; decide) dL_isActed_3 ?_
  refine lv_topi (fun f ef => ?_)
  obtain rfl : f = (mF N C K Y) 0 := ef.trans (congrArg (mF N C K Y) (show (0 : Int32).toNatClampNeg = 0 by decide))
  refine lv_topi (fun f ef => ?_)
  obtain rfl : f = nI N := ef.trans (rfl)
  refine g_phii (ls := ls) (J := 18) (st1 := []) (REL := fun v9 => ∃ J, v9 = nI J ∧ (0 < N → J < N) ∧ J ≤ 4) (fun v9 hb_18 => ?_) (fun hJ_18 => ?_)
  · obtain ⟨J, rfl, hJ9, hJ4⟩ := hb_18
    refine lv_istore (lv' := [(10, .int (nI J)), (0, .ref t0), (1, .ref kc), (2, .ref kq), (3, .ref ku), (4, .ref kt), (5, .ref ka), (6, .ref kp), (7, .ref km), (8, .int (nI WY)), (9, .int (nI Z))]) hx hb dL_isActed_18 hl (by decide) rfl (fun ls hl => ?_)
    refine lv_iload hx hb dL_isActed_20 (lv_at hl 9 rfl) ?_
    refine lv_iconst (v := 2) hx hb dL_isActed_22 (by decide) ?_
    refine lv_icmp_lt (tgt := 33) hx hb dL_isActed_23 (by decide) (fun c_23 => ?_) (fun c_23 => ?_)
    · have c_23 : WY < 2 := g_lt (a := WY) (b := 2) c_23 (by omega) (by omega)
      refine lv_aload hx hb dL_isActed_33 (lv_at hl 8 rfl) ?_
      refine lv_iconst (v := 0) hx hb dL_isActed_35 (by decide) ?_
      refine va_iald hx hb hK hP 6 0 rfl rfl (by unfold vp_in; decide) dL_isActed_36 ?_
      refine lv_topi (fun f ef => ?_)
      obtain rfl : f = (mF N C K Y) 0 := ef.trans (congrArg (mF N C K Y) (show (0 : Int32).toNatClampNeg = 0 by decide))
      refine lv_topi (fun f ef => ?_)
      obtain rfl : f = nI N := ef.trans (rfl)
      refine lv_iconst (v := 4) hx hb dL_isActed_37 (by decide) ?_
      refine lv_icmp_ne (tgt := 43) hx hb dL_isActed_38 (by decide) (fun c_38 => ?_) (fun c_38 => ?_)
      · have c_38 : N ≠ 4 := g_ne (a := N) (b := 4) c_38 (by omega) (by omega)
        refine lv_aload_n hx hb dL_isActed_43 rfl (lv_at hl 2 rfl) ?_
        refine lv_bipush (v := 10) hx hb dL_isActed_44 (by decide) ?_
        refine lv_aload hx hb dL_isActed_46 (lv_at hl 8 rfl) ?_
        refine lv_iconst (v := 0) hx hb dL_isActed_48 (by decide) ?_
        refine va_iald hx hb hK hP 6 0 rfl rfl (by unfold vp_in; decide) dL_isActed_49 ?_
        refine lv_topi (fun f ef => ?_)
        obtain rfl : f = (mF N C K Y) 0 := ef.trans (congrArg (mF N C K Y) (show (0 : Int32).toNatClampNeg = 0 by decide))
        refine lv_topi (fun f ef => ?_)
        obtain rfl : f = nI N := ef.trans (rfl)
        refine lv_imul hx hb dL_isActed_50 ?_
        refine lv_topi (fun f ef => ?_)
        obtain rfl : f = nI (10 * N) := ef.trans (pk_mul _ _)
        refine lv_bipush (v := 64) hx hb dL_isActed_51 (by decide) ?_
        refine va_iast hx hb hK hP hD hS 0 0 rfl rfl (vp_in_nI (by omega) (by omega)) dL_isActed_53 (fun H locs hP hD hS => ?_)
        rw [show (nI (10 * N)).toNatClampNeg = 10 * N from (nI_clamp (by omega))] at hP hD
        have hP : va_P D ccl (([(kc, .inl (cI, 40, .inl (upd fc (10 * N) 64))), (kq, .inl (cI, 4, .inl mo)), (ku, .inl (cI, 16, .inl mu)), (kt, .inl (cI, 32, .inl tf)), (ka, .inl (cI, 32, .inl qf)), (kp, .inl (cI, 64, .inl mp)), (km, .inl (cI, 4, .inl (mF N C K Y)))] : va_W) ++ w) H := hP
        have hD : va_D A (([(kc, .inl (cI, 40, .inl (upd fc (10 * N) 64))), (kq, .inl (cI, 4, .inl mo)), (ku, .inl (cI, 16, .inl mu)), (kt, .inl (cI, 32, .inl tf)), (ka, .inl (cI, 32, .inl qf)), (kp, .inl (cI, 64, .inl mp)), (km, .inl (cI, 4, .inl (mF N C K Y)))] : va_W) ++ w) := hD
        refine lv_aload_n hx hb dL_isActed_54 rfl (lv_at hl 2 rfl) ?_
        refine lv_bipush (v := 10) hx hb dL_isActed_55 (by decide) ?_
        refine lv_aload hx hb dL_isActed_57 (lv_at hl 8 rfl) ?_
        refine lv_iconst (v := 0) hx hb dL_isActed_59 (by decide) ?_
        refine va_iald hx hb hK hP 6 0 rfl rfl (by unfold vp_in; decide) dL_isActed_60 ?_
        refine lv_topi (fun f ef => ?_)
        obtain rfl : f = (mF N C K Y) 0 := ef.trans (congrArg (mF N C K Y) (show (0 : Int32).toNatClampNeg = 0 by decide))
        refine lv_topi (fun f ef => ?_)
        obtain rfl : f = nI N := ef.trans (rfl)
        refine lv_imul hx hb dL_isActed_61 ?_
        refine lv_topi (fun f ef => ?_)
        obtain rfl : f = nI (10 * N) := ef.trans (pk_mul _ _)
        refine lv_iconst (v := 5) hx hb dL_isActed_62 (by decide) ?_
        refine lv_iadd hx hb dL_isActed_63 ?_
        refine lv_topi (fun f ef => ?_)
        obtain rfl : f = nI ((10 * N) + 5) := ef.trans (nI_add _ _)
        refine lv_iload hx hb dL_isActed_64 (lv_at hl 10 rfl) ?_
        refine lv_iconst (v := 3) hx hb dL_isActed_66 (by decide) ?_
        refine lv_irem hx hb dL_isActed_67 (by decide) ?_
        refine lv_topi (fun f ef => ?_)
        obtain rfl : f = nI (Z % 3) := ef.trans (pk_rem (a := Z) (d := 3) (by omega) (by omega) (by omega))
        refine va_iast hx hb hK hP hD hS 0 0 rfl rfl (vp_in_nI (by omega) (by omega)) dL_isActed_68 (fun H locs hP hD hS => ?_)
        rw [show (nI ((10 * N) + 5)).toNatClampNeg = (10 * N) + 5 from (nI_clamp (by omega))] at hP hD
        have hP : va_P D ccl (([(kc, .inl (cI, 40, .inl (upd (upd fc (10 * N) 64) ((10 * N) + 5) (nI (Z % 3))))), (kq, .inl (cI, 4, .inl mo)), (ku, .inl (cI, 16, .inl mu)), (kt, .inl (cI, 32, .inl tf)), (ka, .inl (cI, 32, .inl qf)), (kp, .inl (cI, 64, .inl mp)), (km, .inl (cI, 4, .inl (mF N C K Y)))] : va_W) ++ w) H := hP
        have hD : va_D A (([(kc, .inl (cI, 40, .inl (upd (upd fc (10 * N) 64) ((10 * N) + 5) (nI (Z % 3))))), (kq, .inl (cI, 4, .inl mo)), (ku, .inl (cI, 16, .inl mu)), (kt, .inl (cI, 32, .inl tf)), (ka, .inl (cI, 32, .inl qf)), (kp, .inl (cI, 64, .inl mp)), (km, .inl (cI, 4, .inl (mF N C K Y)))] : va_W) ++ w) := hD
        refine lv_aload hx hb dL_isActed_69 (lv_at hl 8 rfl) ?_
        refine lv_iconst (v := 0) hx hb dL_isActed_71 (by decide) ?_
        refine lv_dup2_11 hx hb dL_isActed_72 rfl rfl ?_
        refine va_iald hx hb hK hP 6 0 rfl rfl (by unfold vp_in; decide) dL_isActed_73 ?_
        refine lv_topi (fun f ef => ?_)
        obtain rfl : f = (mF N C K Y) 0 := ef.trans (congrArg (mF N C K Y) (show (0 : Int32).toNatClampNeg = 0 by decide))
        refine lv_topi (fun f ef => ?_)
        obtain rfl : f = nI N := ef.trans (rfl)
        refine lv_iconst (v := 1) hx hb dL_isActed_74 (by decide) ?_
        refine lv_iadd hx hb dL_isActed_75 ?_
        refine lv_topi (fun f ef => ?_)
        obtain rfl : f = nI (N + 1) := ef.trans (nI_add _ _)
        refine va_iast hx hb hK hP hD hS 6 0 rfl rfl (by unfold vp_in; decide) dL_isActed_76 (fun H locs hP hD hS => ?_)
        rw [show ((0 : Int32)).toNatClampNeg = 0 from (by decide)] at hP hD
        rw [show upd (mF N C K Y) 0 (nI (N + 1)) = mF (N + 1) C K Y from mF_0 rfl] at hP hD
        have hP : va_P D ccl (([(kc, .inl (cI, 40, .inl (upd (upd fc (10 * N) 64) ((10 * N) + 5) (nI (Z % 3))))), (kq, .inl (cI, 4, .inl mo)), (ku, .inl (cI, 16, .inl mu)), (kt, .inl (cI, 32, .inl tf)), (ka, .inl (cI, 32, .inl qf)), (kp, .inl (cI, 64, .inl mp)), (km, .inl (cI, 4, .inl (mF (N + 1) C K Y)))] : va_W) ++ w) H := hP
        have hD : va_D A (([(kc, .inl (cI, 40, .inl (upd (upd fc (10 * N) 64) ((10 * N) + 5) (nI (Z % 3))))), (kq, .inl (cI, 4, .inl mo)), (ku, .inl (cI, 16, .inl mu)), (kt, .inl (cI, 32, .inl tf)), (ka, .inl (cI, 32, .inl qf)), (kp, .inl (cI, 64, .inl mp)), (km, .inl (cI, 4, .inl (mF (N + 1) C K Y)))] : va_W) ++ w) := hD
        refine lv_aload_n hx hb dL_isActed_77 rfl (lv_at hl 1 rfl) ?_
        refine lv_iload hx hb dL_isActed_78 (lv_at hl 10 rfl) ?_
        refine lv_iconst (v := 3) hx hb dL_isActed_80 (by decide) ?_
        refine lv_irem hx hb dL_isActed_81 (by decide) ?_
        refine lv_topi (fun f ef => ?_)
        obtain rfl : f = nI (Z % 3) := ef.trans (pk_rem (a := Z) (d := 3) (by omega) (by omega) (by omega))
        have hPc := hP.part (X := [(kc, .inl (cI, 40, .inl (upd (upd fc (10 * N) 64) ((10 * N) + 5) (nI (Z % 3))))), (kq, .inl (cI, 4, .inl mo)), (ku, .inl (cI, 16, .inl mu)), (kt, .inl (cI, 32, .inl tf)), (ka, .inl (cI, 32, .inl qf)), (kp, .inl (cI, 64, .inl mp)), (km, .inl (cI, 4, .inl (mF (N + 1) C K Y)))]) (cx := []) [] rfl
        have hDc := hD.part (X := [(kc, .inl (cI, 40, .inl (upd (upd fc (10 * N) 64) ((10 * N) + 5) (nI (Z % 3))))), (kq, .inl (cI, 4, .inl mo)), (ku, .inl (cI, 16, .inl mu)), (kt, .inl (cI, 32, .inl tf)), (ka, .inl (cI, 32, .inl qf)), (kp, .inl (cI, 64, .inl mp)), (km, .inl (cI, 4, .inl (mF (N + 1) C K Y)))]) (cx := []) [] (by decide) rfl
        have hFc := va_freeP (X := [(kc, .inl (cI, 40, .inl (upd (upd fc (10 * N) 64) ((10 * N) + 5) (nI (Z % 3))))), (kq, .inl (cI, 4, .inl mo)), (ku, .inl (cI, 16, .inl mu)), (kt, .inl (cI, 32, .inl tf)), (ka, .inl (cI, 32, .inl qf)), (kp, .inl (cI, 64, .inl mp)), (km, .inl (cI, 4, .inl (mF (N + 1) C K Y)))]) (cx := []) hD hS hA [] rfl
        refine g_Vi (As := [.int (nI (Z % 3))]) (rest := []) CF (c3_X6_section l hfl D cI cJ cO df H.size t0 w N mc ms mw C mo K mu Y rw0 tf qf mp (nI (Z % 3)) hCL hW (k_two (k_in (n := 2) (by omega) (by decide)) (by rw [if_pos (by omega)]; decide))) (cwV 1 hts gL_isActed_X6_section rfl rfl rfl (by decide +kernel) ⟨Nat.le_of_ble_eq_true rfl, Nat.le_of_ble_eq_true rfl⟩) (cls_recv (X := [(kc, .inl (cI, 40, .inl (upd (upd fc (10 * N) 64) ((10 * N) + 5) (nI (Z % 3))))), (kq, .inl (cI, 4, .inl mo)), (ku, .inl (cI, 16, .inl mu)), (kt, .inl (cI, 32, .inl tf)), (ka, .inl (cI, 32, .inl qf)), (kp, .inl (cI, 64, .inl mp)), (km, .inl (cI, 4, .inl (mF (N + 1) C K Y)))]) hCL hK hP) hPc hK hDc hV hH hS hFc rfl hl.1 rfl (Nat.le_of_ble_eq_true rfl) dL_isActed_82 ⟨Nat.le_of_ble_eq_true rfl, Nat.le_of_ble_eq_true rfl⟩ (fun r_82 w1 H1 locs1 hq hP1 hD1 hk hS hz => ?_)
        obtain ⟨w2, ew_82, hq_82⟩ := hq
        rw [ew_82] at hP1 hD1
        obtain ⟨hP, hD⟩ := g_joinP (X := [(kc, .inl (cI, 40, .inl (upd (upd fc (10 * N) 64) ((10 * N) + 5) (nI (Z % 3))))), (kq, .inl (cI, 4, .inl mo)), (ku, .inl (cI, 16, .inl mu)), (kt, .inl (cI, 32, .inl tf)), (ka, .inl (cI, 32, .inl qf)), (kp, .inl (cI, 64, .inl mp)), (km, .inl (cI, 4, .inl (mF (N + 1) C K Y)))]) (cx := []) (rx := []) (X' := [(kc, .inl (cI, 40, .inl (upd (upd fc (10 * N) 64) ((10 * N) + 5) (nI (Z % 3))))), (kq, .inl (cI, 4, .inl mo)), (ku, .inl (cI, 16, .inl mu)), (kt, .inl (cI, 32, .inl tf)), (ka, .inl (cI, 32, .inl qf)), (kp, .inl (cI, 64, .inl mp)), (km, .inl (cI, 4, .inl (mF (N + 1) C K Y)))]) hP hD hk hFc hP1 hD1 [] [0, 1, 2, 3, 4, 5, 6] [0, 1, 2, 3, 4, 5, 6] rfl rfl (by decide) (by decide) (by decide) rfl
        clear hPc hDc hFc hP1 hD1 hk hz
        generalize H1 = H at hP hS ⊢
        have hP : va_P D ccl (([(kc, .inl (cI, 40, .inl (upd (upd fc (10 * N) 64) ((10 * N) + 5) (nI (Z % 3))))), (kq, .inl (cI, 4, .inl mo)), (ku, .inl (cI, 16, .inl mu)), (kt, .inl (cI, 32, .inl tf)), (ka, .inl (cI, 32, .inl qf)), (kp, .inl (cI, 64, .inl mp)), (km, .inl (cI, 4, .inl (mF (N + 1) C K Y)))] : va_W) ++ w2) H := hP
        have hD : va_D A (([(kc, .inl (cI, 40, .inl (upd (upd fc (10 * N) 64) ((10 * N) + 5) (nI (Z % 3))))), (kq, .inl (cI, 4, .inl mo)), (ku, .inl (cI, 16, .inl mu)), (kt, .inl (cI, 32, .inl tf)), (ka, .inl (cI, 32, .inl qf)), (kp, .inl (cI, 64, .inl mp)), (km, .inl (cI, 4, .inl (mF (N + 1) C K Y)))] : va_W) ++ w2) := hD
        obtain ⟨hCL, hq_82⟩ := hq_82
        have er_82 := hq_82
        have hK9 : gGo (isIn (nI (Z % 3)) 0 2) (if N < 8 then 1 else 0) 1 = 0 := k_two (k_in (n := 2) (by omega) (by decide)) (by rw [if_pos (by omega)]; decide)
        refine lv_aload hx hb dL_isActed_85 (lv_at hl 8 rfl) ?_
        refine lv_iconst (v := 0) hx hb dL_isActed_87 (by decide) ?_
        refine va_iald hx hb hK hP 6 0 rfl rfl (by unfold vp_in; decide) dL_isActed_88 ?_
        refine lv_topi (fun f ef => ?_)
        obtain rfl : f = (mF (N + 1) C K Y) 0 := ef.trans (congrArg (mF (N + 1) C K Y) (show (0 : Int32).toNatClampNeg = 0 by decide))
        refine lv_topi (fun f ef => ?_)
        obtain rfl : f = nI (N + 1) := ef.trans (rfl)
        refine lv_iconst (v := 1) hx hb dL_isActed_89 (by decide) ?_
        refine lv_isub hx hb dL_isActed_90 ?_
        refine lv_topi (fun f ef => ?_)
        obtain rfl : f = nI N := ef.trans ((pk_sub (a := N + 1) (b := 1) (by omega)).trans (by rw [Nat.add_sub_cancel]))
        refine lv_icmp_ne (tgt := 98) hx hb dL_isActed_91 (by decide) (fun c_91 => ?_) (fun c_91 => ?_)
        · exact absurd er_82 c_91
        · refine lv_iconst (v := 1) hx hb dL_isActed_94 (by decide) ?_
          refine lv_goto (tgt := 99) hx hb dL_isActed_95 (by decide) ?_
          refine g_zret (v := 1) hx hb hr hlk hP hK hD hS (Nat.le_of_ble_eq_true rfl) (Nat.le_of_ble_eq_true rfl) dL_isActed_99 (by decide +kernel) ?_
          exact ⟨_, _, _, _, _, _, _, _, _, _, _, _, _, _, _, rfl, rfl, hCL, wf_section hW hK9, rc_section hR (by omega), (by omega), (by omega)⟩
      · have c_38 : N = 4 := g_eq (a := N) (b := 4) c_38 (by omega) (by omega)
        refine lv_iconst (v := 1) hx hb dL_isActed_41 (by decide) ?_
        refine g_zret (v := 1) hx hb hr hlk hP hK hD hS (Nat.le_of_ble_eq_true rfl) (Nat.le_of_ble_eq_true rfl) dL_isActed_42 (by decide +kernel) ?_
        exact ⟨_, _, _, _, _, _, _, _, _, _, _, _, _, _, _, rfl, rfl, hCL, hW, hR, hN4, (by omega)⟩
    · have c_23 : 2 ≤ WY := g_nlt (a := WY) (b := 2) c_23 (by omega) (by omega)
      refine lv_aload hx hb dL_isActed_26 (lv_at hl 8 rfl) ?_
      refine lv_iconst (v := 0) hx hb dL_isActed_28 (by decide) ?_
      refine va_iald hx hb hK hP 6 0 rfl rfl (by unfold vp_in; decide) dL_isActed_29 ?_
      refine lv_topi (fun f ef => ?_)
      obtain rfl : f = (mF N C K Y) 0 := ef.trans (congrArg (mF N C K Y) (show (0 : Int32).toNatClampNeg = 0 by decide))
      refine lv_topi (fun f ef => ?_)
      obtain rfl : f = nI N := ef.trans (rfl)
      refine lv_if_ne (tgt := 100) hx hb dL_isActed_30 (by decide) (fun c_30 => ?_) (fun c_30 => ?_)
      · have c_30 : N ≠ 0 := g_ne (a := N) (b := 0) c_30 (by omega) (by omega)
        have hJ9 := hJ9 (by omega)
        have hJ4 : J < 4 := by omega
        refine lv_iload hx hb dL_isActed_100 (lv_at hl 9 rfl) ?_
        refine lv_bipush (v := 8) hx hb dL_isActed_102 (by decide) ?_
        refine lv_icmp_ge (tgt := 198) hx hb dL_isActed_104 (by decide) (fun c_104 => ?_) (fun c_104 => ?_)
        · have c_104 : 8 ≤ WY := g_le (a := 8) (b := WY) c_104 (by omega) (by omega)
          refine lv_iload hx hb dL_isActed_198 (lv_at hl 9 rfl) ?_
          refine lv_bipush (v := 11) hx hb dL_isActed_200 (by decide) ?_
          refine lv_icmp_ge (tgt := 215) hx hb dL_isActed_202 (by decide) (fun c_202 => ?_) (fun c_202 => ?_)
          · have c_202 : 11 ≤ WY := g_le (a := 11) (b := WY) c_202 (by omega) (by omega)
            refine lv_iload hx hb dL_isActed_215 (lv_at hl 9 rfl) ?_
            refine lv_bipush (v := 11) hx hb dL_isActed_217 (by decide) ?_
            refine lv_icmp_ne (tgt := 231) hx hb dL_isActed_219 (by decide) (fun c_219 => ?_) (fun c_219 => ?_)
            · have c_219 : WY ≠ 11 := g_ne (a := WY) (b := 11) c_219 (by omega) (by omega)
              refine lv_iload hx hb dL_isActed_231 (lv_at hl 9 rfl) ?_
              refine lv_bipush (v := 18) hx hb dL_isActed_233 (by decide) ?_
              refine lv_icmp_ge (tgt := 297) hx hb dL_isActed_235 (by decide) (fun c_235 => ?_) (fun c_235 => ?_)
              · have c_235 : 18 ≤ WY := g_le (a := 18) (b := WY) c_235 (by omega) (by omega)
                refine lv_iload hx hb dL_isActed_297 (lv_at hl 9 rfl) ?_
                refine lv_bipush (v := 18) hx hb dL_isActed_299 (by decide) ?_
                refine lv_icmp_ne (tgt := 392) hx hb dL_isActed_301 (by decide) (fun c_301 => ?_) (fun c_301 => ?_)
                · have c_301 : WY ≠ 18 := g_ne (a := WY) (b := 18) c_301 (by omega) (by omega)
                  refine lv_iload hx hb dL_isActed_392 (lv_at hl 10 rfl) ?_
                  refine lv_bipush (v := 32) hx hb dL_isActed_394 (by decide) ?_
                  refine lv_idiv hx hb dL_isActed_396 (by decide) ?_
                  refine lv_topi (fun f ef => ?_)
                  obtain rfl : f = nI (Z / 32) := ef.trans (pk_div (a := Z) (d := 32) (by omega) (by omega) (by omega))
                  refine lv_sipush (v := 193) hx hb dL_isActed_397 (by decide) ?_
                  refine lv_irem hx hb dL_isActed_400 (by decide) ?_
                  refine lv_topi (fun f ef => ?_)
                  obtain rfl : f = nI ((Z / 32) % 193) := ef.trans (pk_rem (a := Z / 32) (d := 193) (by omega) (by omega) (by omega))
                  refine lv_bipush (v := 96) hx hb dL_isActed_401 (by decide) ?_
                  refine lv_isub hx hb dL_isActed_403 ?_
                  refine lv_topi (fun v9 ev9 => ?_)
                  have hv9 : -96 ≤ v9.toInt ∧ v9.toInt ≤ 96 := by
                    have h8 := pk_sub_toInt (a := Z / 32 % 193) (b := 96) (by omega) (by decide)
                    rw [show (nI 96 : Int32) = 96 from rfl] at h8
                    rw [ev9]
                    exact ⟨by omega, by omega⟩
                  refine lv_istore (lv' := [(11, .int v9), (10, .int (nI J)), (0, .ref t0), (1, .ref kc), (2, .ref kq), (3, .ref ku), (4, .ref kt), (5, .ref ka), (6, .ref kp), (7, .ref km), (8, .int (nI WY)), (9, .int (nI Z))]) hx hb dL_isActed_404 hl (by decide) rfl (fun ls hl => ?_)
                  refine lv_iload hx hb dL_isActed_406 (lv_at hl 10 rfl) ?_
                  refine lv_bipush (v := 22) hx hb dL_isActed_408 (by decide) ?_
                  refine lv_icmp_ge (tgt := 518) hx hb dL_isActed_410 (by decide) (fun c_410 => ?_) (fun c_410 => ?_)
                  · have c_410 : 22 ≤ WY := g_le (a := 22) (b := WY) c_410 (by omega) (by omega)
                    refine lv_iload hx hb dL_isActed_518 (lv_at hl 10 rfl) ?_
                    refine lv_bipush (v := 22) hx hb dL_isActed_520 (by decide) ?_
                    refine lv_icmp_ne (tgt := 534) hx hb dL_isActed_522 (by decide) (fun c_522 => ?_) (fun c_522 => ?_)
                    · have c_522 : WY ≠ 22 := g_ne (a := WY) (b := 22) c_522 (by omega) (by omega)
                      refine lv_bipush (v := 63) hx hb dL_isActed_534 (by decide) ?_
                      refine lv_istore (lv' := [(12, .int 63), (11, .int v9), (10, .int (nI J)), (0, .ref t0), (1, .ref kc), (2, .ref kq), (3, .ref ku), (4, .ref kt), (5, .ref ka), (6, .ref kp), (7, .ref km), (8, .int (nI WY)), (9, .int (nI Z))]) hx hb dL_isActed_536 hl (by decide) rfl (fun ls hl => ?_)
                      refine W.widen (k := 0) (n := 0) (Nat.le_refl _) (Nat.le_refl _) ?_
                      refine g_while (σ := Nat × (Nat → Int32)) (st := []) (nL := 14) (fun z => match z with | (j, p1) => ([(kc, .inl (cI, 40, .inl fc)), (kq, .inl (cI, 4, .inl mo)), (ku, .inl (cI, 16, .inl mu)), (kt, .inl (cI, 32, .inl tf)), (ka, .inl (cI, 32, .inl qf)), (kp, .inl (cI, 64, .inl p1)), (km, .inl (cI, 4, .inl (mF N C K Y)))] : va_W) ++ w)
                        (fun z => match z with | (j, p1) => [(0, .ref t0), (1, .ref kc), (2, .ref kq), (3, .ref ku), (4, .ref kt), (5, .ref ka), (6, .ref kp), (7, .ref km), (8, .int (nI WY)), (9, .int (nI Z)), (10, .int (nI J)), (11, .int v9), (12, .int (nI j))])
                        (fun z => match z with | (j, p1) => j ≤ 63 ∧ p1 = shAt 64 mp j)
                        (fun z => match z with | (j, p1) => j) (fun z => match z with | (j, p1) => 0) (fun z => match z with | (j, p1) => 0)
                        ?_ (63, mp) ⟨Nat.le_refl 63, shAt_0⟩ hP hD hS (lv_sub hl [3, 4, 5, 6, 7, 8, 9, 10, 11, 12, 2, 1, 0] rfl)
                      rintro ⟨j, p1⟩ hI H locs ls hP hD hS hl ih
                      have hI : j ≤ 63 ∧ p1 = shAt 64 mp j := hI
                      have hP : va_P D ccl (([(kc, .inl (cI, 40, .inl fc)), (kq, .inl (cI, 4, .inl mo)), (ku, .inl (cI, 16, .inl mu)), (kt, .inl (cI, 32, .inl tf)), (ka, .inl (cI, 32, .inl qf)), (kp, .inl (cI, 64, .inl p1)), (km, .inl (cI, 4, .inl (mF N C K Y)))] : va_W) ++ w) H := hP
                      have hD : va_D A (([(kc, .inl (cI, 40, .inl fc)), (kq, .inl (cI, 4, .inl mo)), (ku, .inl (cI, 16, .inl mu)), (kt, .inl (cI, 32, .inl tf)), (ka, .inl (cI, 32, .inl qf)), (kp, .inl (cI, 64, .inl p1)), (km, .inl (cI, 4, .inl (mF N C K Y)))] : va_W) ++ w) := hD
                      have hl : lv_has ls 14 [(0, .ref t0), (1, .ref kc), (2, .ref kq), (3, .ref ku), (4, .ref kt), (5, .ref ka), (6, .ref kp), (7, .ref km), (8, .int (nI WY)), (9, .int (nI Z)), (10, .int (nI J)), (11, .int v9), (12, .int (nI j))] := hl
                      change W p l e _ s m _ below meth c H locs 0 0 _ (F0 m 538 ls [])
                      have ih_538 := ih
                      clear ih
                      obtain ⟨hj, rfl⟩ := hI
                      refine lv_iload hx hb dL_isActed_538 (lv_at hl 12 rfl) ?_
                      refine lv_if_le (tgt := 561) hx hb dL_isActed_540 (by decide) (fun c_540 => ?_) (fun c_540 => ?_)
                      · have c_540 : j ≤ 0 := g_le (a := j) (b := 0) c_540 (by omega) (by omega)
                        obtain rfl : j = 0 := by omega
                        refine lv_aload hx hb dL_isActed_561 (lv_at hl 6 rfl) ?_
                        refine lv_iconst (v := 0) hx hb dL_isActed_563 (by decide) ?_
                        refine lv_iload hx hb dL_isActed_564 (lv_at hl 11 rfl) ?_
                        have hPc : va_P D ccl [] H := fun k q h => by simp at h
                        have hDc : va_D A [] := ⟨fun i j p q h => by simp at h, fun k q h => by simp at h⟩
                        have hFc := va_free (wc := []) hD hS hA [] rfl
                        refine g_Si (As := [.int v9]) (rest := [.int 0, .ref kp]) CF (c_L_rest l D cI cJ cO df H.size v9 ) (va_cwS 1 hts gL_isActed_L_rest rfl rfl rfl (by decide +kernel) ⟨Nat.le_of_ble_eq_true rfl, Nat.le_of_ble_eq_true rfl⟩)  hPc hK hDc hV hH hS hFc rfl hl.1 rfl (Nat.le_of_ble_eq_true rfl) dL_isActed_566 ⟨Nat.le_of_ble_eq_true rfl, Nat.le_of_ble_eq_true rfl⟩ (fun r_566 w1 H1 locs1 hq hP1 hD1 hk hS hz => ?_)
                        obtain ⟨rfl, hr_566⟩ := hq
                        have hP := g_keep0 hP hk
                        clear hPc hDc hFc hP1 hD1 hk hz
                        generalize H1 = H at hP hS ⊢
                        have hP : va_P D ccl (([(kc, .inl (cI, 40, .inl fc)), (kq, .inl (cI, 4, .inl mo)), (ku, .inl (cI, 16, .inl mu)), (kt, .inl (cI, 32, .inl tf)), (ka, .inl (cI, 32, .inl qf)), (kp, .inl (cI, 64, .inl (shAt 64 mp 0))), (km, .inl (cI, 4, .inl (mF N C K Y)))] : va_W) ++ w) H := hP
                        have hD : va_D A (([(kc, .inl (cI, 40, .inl fc)), (kq, .inl (cI, 4, .inl mo)), (ku, .inl (cI, 16, .inl mu)), (kt, .inl (cI, 32, .inl tf)), (ka, .inl (cI, 32, .inl qf)), (kp, .inl (cI, 64, .inl (shAt 64 mp 0))), (km, .inl (cI, 4, .inl (mF N C K Y)))] : va_W) ++ w) := hD
                        subst hr_566
                        refine va_iast hx hb hK hP hD hS 5 0 rfl rfl (by unfold vp_in; decide) dL_isActed_569 (fun H locs hP hD hS => ?_)
                        rw [show ((0 : Int32)).toNatClampNeg = 0 from (by decide)] at hP hD
                        rw [show upd (shAt 64 mp 0) 0 (rs97 v9) = shiftIn 64 mp (rs97 v9) from shAt_end] at hP hD
                        have hP : va_P D ccl (([(kc, .inl (cI, 40, .inl fc)), (kq, .inl (cI, 4, .inl mo)), (ku, .inl (cI, 16, .inl mu)), (kt, .inl (cI, 32, .inl tf)), (ka, .inl (cI, 32, .inl qf)), (kp, .inl (cI, 64, .inl (shiftIn 64 mp (rs97 v9)))), (km, .inl (cI, 4, .inl (mF N C K Y)))] : va_W) ++ w) H := hP
                        have hD : va_D A (([(kc, .inl (cI, 40, .inl fc)), (kq, .inl (cI, 4, .inl mo)), (ku, .inl (cI, 16, .inl mu)), (kt, .inl (cI, 32, .inl tf)), (ka, .inl (cI, 32, .inl qf)), (kp, .inl (cI, 64, .inl (shiftIn 64 mp (rs97 v9)))), (km, .inl (cI, 4, .inl (mF N C K Y)))] : va_W) ++ w) := hD
                        refine lv_aload hx hb dL_isActed_570 (lv_at hl 7 rfl) ?_
                        refine lv_iconst (v := 3) hx hb dL_isActed_572 (by decide) ?_
                        refine lv_dup2_11 hx hb dL_isActed_573 rfl rfl ?_
                        refine va_iald hx hb hK hP 6 0 rfl rfl (by unfold vp_in; decide) dL_isActed_574 ?_
                        refine lv_topi (fun f ef => ?_)
                        obtain rfl : f = (mF N C K Y) 3 := ef.trans (congrArg (mF N C K Y) (show (3 : Int32).toNatClampNeg = 3 by decide))
                        refine lv_topi (fun f ef => ?_)
                        obtain rfl : f = nI Y := ef.trans (rfl)
                        refine lv_aload hx hb dL_isActed_575 (lv_at hl 7 rfl) ?_
                        refine lv_iconst (v := 3) hx hb dL_isActed_577 (by decide) ?_
                        refine va_iald hx hb hK hP 6 0 rfl rfl (by unfold vp_in; decide) dL_isActed_578 ?_
                        refine lv_topi (fun f ef => ?_)
                        obtain rfl : f = (mF N C K Y) 3 := ef.trans (congrArg (mF N C K Y) (show (3 : Int32).toNatClampNeg = 3 by decide))
                        refine lv_topi (fun f ef => ?_)
                        obtain rfl : f = nI Y := ef.trans (rfl)
                        refine lv_bipush (v := 64) hx hb dL_isActed_579 (by decide) ?_
                        refine g_phii (ls := ls) (J := 589) (st1 := [.int (nI Y), .int 3, .ref km]) (REL := fun u9 => u9 = if Y < 64 then (1 : Int32) else 0) (fun u9 hb_589 => ?_) (fun hJ_589 => ?_)
                        · subst hb_589
                          refine lv_iadd hx hb dL_isActed_589 ?_
                          refine lv_topi (fun f ef => ?_)
                          obtain rfl : f = nI (if Y < 64 then Y + 1 else Y) := ef.trans (by by_cases h : Y < 64 <;> simp [h, nI_1])
                          refine va_iast hx hb hK hP hD hS 6 0 rfl rfl (by unfold vp_in; decide) dL_isActed_590 (fun H locs hP hD hS => ?_)
                          rw [show ((3 : Int32)).toNatClampNeg = 3 from (by decide)] at hP hD
                          rw [show upd (mF N C K Y) 3 (nI (if Y < 64 then Y + 1 else Y)) = mF N C K (if Y < 64 then Y + 1 else Y) from mF_3 rfl] at hP hD
                          have hP : va_P D ccl (([(kc, .inl (cI, 40, .inl fc)), (kq, .inl (cI, 4, .inl mo)), (ku, .inl (cI, 16, .inl mu)), (kt, .inl (cI, 32, .inl tf)), (ka, .inl (cI, 32, .inl qf)), (kp, .inl (cI, 64, .inl (shiftIn 64 mp (rs97 v9)))), (km, .inl (cI, 4, .inl (mF N C K (if Y < 64 then Y + 1 else Y))))] : va_W) ++ w) H := hP
                          have hD : va_D A (([(kc, .inl (cI, 40, .inl fc)), (kq, .inl (cI, 4, .inl mo)), (ku, .inl (cI, 16, .inl mu)), (kt, .inl (cI, 32, .inl tf)), (ka, .inl (cI, 32, .inl qf)), (kp, .inl (cI, 64, .inl (shiftIn 64 mp (rs97 v9)))), (km, .inl (cI, 4, .inl (mF N C K (if Y < 64 then Y + 1 else Y))))] : va_W) ++ w) := hD
                          refine lv_aload_n hx hb dL_isActed_591 rfl (lv_at hl 0 rfl) ?_
                          refine lv_iload hx hb dL_isActed_592 (lv_at hl 11 rfl) ?_
                          have hPc := hP.part (X := [(kc, .inl (cI, 40, .inl fc)), (kq, .inl (cI, 4, .inl mo)), (ku, .inl (cI, 16, .inl mu)), (kt, .inl (cI, 32, .inl tf)), (ka, .inl (cI, 32, .inl qf)), (kp, .inl (cI, 64, .inl (shiftIn 64 mp (rs97 v9)))), (km, .inl (cI, 4, .inl (mF N C K (if Y < 64 then Y + 1 else Y))))]) (cx := []) [] rfl
                          have hDc := hD.part (X := [(kc, .inl (cI, 40, .inl fc)), (kq, .inl (cI, 4, .inl mo)), (ku, .inl (cI, 16, .inl mu)), (kt, .inl (cI, 32, .inl tf)), (ka, .inl (cI, 32, .inl qf)), (kp, .inl (cI, 64, .inl (shiftIn 64 mp (rs97 v9)))), (km, .inl (cI, 4, .inl (mF N C K (if Y < 64 then Y + 1 else Y))))]) (cx := []) [] (by decide) rfl
                          have hFc := va_freeP (X := [(kc, .inl (cI, 40, .inl fc)), (kq, .inl (cI, 4, .inl mo)), (ku, .inl (cI, 16, .inl mu)), (kt, .inl (cI, 32, .inl tf)), (ka, .inl (cI, 32, .inl qf)), (kp, .inl (cI, 64, .inl (shiftIn 64 mp (rs97 v9)))), (km, .inl (cI, 4, .inl (mF N C K (if Y < 64 then Y + 1 else Y))))]) (cx := []) hD hS hA [] rfl
                          refine g_Vi (As := [.int v9]) (rest := []) CF (c3_X6_sample l hfl D cI cJ cO df H.size t0 w N mc ms mw C mo K mu Y rw0 tf qf mp v9 hCL hW (k_one (k_int (lo := -96) (hi := 96) (by rw [hm3]; exact hv9.1) (by rw [hm4]; exact hv9.2)))) (cwV 1 hts gL_isActed_X6_sample rfl rfl rfl (by decide +kernel) ⟨Nat.le_of_ble_eq_true rfl, Nat.le_of_ble_eq_true rfl⟩) (cls_recv (X := [(kc, .inl (cI, 40, .inl fc)), (kq, .inl (cI, 4, .inl mo)), (ku, .inl (cI, 16, .inl mu)), (kt, .inl (cI, 32, .inl tf)), (ka, .inl (cI, 32, .inl qf)), (kp, .inl (cI, 64, .inl (shiftIn 64 mp (rs97 v9)))), (km, .inl (cI, 4, .inl (mF N C K (if Y < 64 then Y + 1 else Y))))]) hCL hK hP) hPc hK hDc hV hH hS hFc rfl hl.1 rfl (Nat.le_of_ble_eq_true rfl) dL_isActed_594 ⟨Nat.le_of_ble_eq_true rfl, Nat.le_of_ble_eq_true rfl⟩ (fun r_594 w1 H1 locs1 hq hP1 hD1 hk hS hz => ?_)
                          obtain ⟨w2, ew_594, hq_594⟩ := hq
                          rw [ew_594] at hP1 hD1
                          obtain ⟨hP, hD⟩ := g_joinP (X := [(kc, .inl (cI, 40, .inl fc)), (kq, .inl (cI, 4, .inl mo)), (ku, .inl (cI, 16, .inl mu)), (kt, .inl (cI, 32, .inl tf)), (ka, .inl (cI, 32, .inl qf)), (kp, .inl (cI, 64, .inl (shiftIn 64 mp (rs97 v9)))), (km, .inl (cI, 4, .inl (mF N C K (if Y < 64 then Y + 1 else Y))))]) (cx := []) (rx := []) (X' := [(kc, .inl (cI, 40, .inl fc)), (kq, .inl (cI, 4, .inl mo)), (ku, .inl (cI, 16, .inl mu)), (kt, .inl (cI, 32, .inl tf)), (ka, .inl (cI, 32, .inl qf)), (kp, .inl (cI, 64, .inl (shiftIn 64 mp (rs97 v9)))), (km, .inl (cI, 4, .inl (mF N C K (if Y < 64 then Y + 1 else Y))))]) hP hD hk hFc hP1 hD1 [] [0, 1, 2, 3, 4, 5, 6] [0, 1, 2, 3, 4, 5, 6] rfl rfl (by decide) (by decide) (by decide) rfl
                          clear hPc hDc hFc hP1 hD1 hk hz
                          generalize H1 = H at hP hS ⊢
                          have hP : va_P D ccl (([(kc, .inl (cI, 40, .inl fc)), (kq, .inl (cI, 4, .inl mo)), (ku, .inl (cI, 16, .inl mu)), (kt, .inl (cI, 32, .inl tf)), (ka, .inl (cI, 32, .inl qf)), (kp, .inl (cI, 64, .inl (shiftIn 64 mp (rs97 v9)))), (km, .inl (cI, 4, .inl (mF N C K (if Y < 64 then Y + 1 else Y))))] : va_W) ++ w2) H := hP
                          have hD : va_D A (([(kc, .inl (cI, 40, .inl fc)), (kq, .inl (cI, 4, .inl mo)), (ku, .inl (cI, 16, .inl mu)), (kt, .inl (cI, 32, .inl tf)), (ka, .inl (cI, 32, .inl qf)), (kp, .inl (cI, 64, .inl (shiftIn 64 mp (rs97 v9)))), (km, .inl (cI, 4, .inl (mF N C K (if Y < 64 then Y + 1 else Y))))] : va_W) ++ w2) := hD
                          obtain ⟨hCL, hq_594⟩ := hq_594
                          have er_594 := hq_594
                          have hW2 := wf_sample (v := v9) hW (k_one (k_int (lo := -96) (hi := 96) (by rw [hm3]; exact hv9.1) (by rw [hm4]; exact hv9.2)))
                          refine lv_aload hx hb dL_isActed_597 (lv_at hl 7 rfl) ?_
                          refine lv_iconst (v := 3) hx hb dL_isActed_599 (by decide) ?_
                          refine va_iald hx hb hK hP 6 0 rfl rfl (by unfold vp_in; decide) dL_isActed_600 ?_
                          refine lv_topi (fun f ef => ?_)
                          obtain rfl : f = (mF N C K (if Y < 64 then Y + 1 else Y)) 3 := ef.trans (congrArg (mF N C K (if Y < 64 then Y + 1 else Y)) (show (3 : Int32).toNatClampNeg = 3 by decide))
                          refine lv_topi (fun f ef => ?_)
                          obtain rfl : f = nI (if Y < 64 then Y + 1 else Y) := ef.trans (rfl)
                          refine lv_icmp_ne (tgt := 608) hx hb dL_isActed_601 (by decide) (fun c_601 => ?_) (fun c_601 => ?_)
                          · exact absurd er_594 c_601
                          · refine lv_iconst (v := 1) hx hb dL_isActed_604 (by decide) ?_
                            refine lv_goto (tgt := 609) hx hb dL_isActed_605 (by decide) ?_
                            refine g_zret (v := 1) hx hb hr hlk hP hK hD hS (Nat.le_of_ble_eq_true rfl) (Nat.le_of_ble_eq_true rfl) dL_isActed_609 (by decide +kernel) ?_
                            exact ⟨_, _, _, _, _, _, _, _, _, _, _, _, _, _, _, rfl, rfl, hCL, hW2, hR, hN4, (by omega)⟩
                        · refine lv_icmp_ge (tgt := 588) hx hb dL_isActed_581 (by decide) (fun c_581 => ?_) (fun c_581 => ?_)
                          · have c_581 : 64 ≤ Y := g_le (a := 64) (b := Y) c_581 (by omega) (by omega)
                            refine lv_iconst (v := 0) hx hb dL_isActed_588 (by decide) ?_
                            exact hJ_589 _ (by first | rw [if_pos (by omega)] | rw [if_neg (by omega)])
                          · have c_581 : Y < 64 := g_nle (a := 64) (b := Y) c_581 (by omega) (by omega)
                            refine lv_iconst (v := 1) hx hb dL_isActed_584 (by decide) ?_
                            refine lv_goto (tgt := 589) hx hb dL_isActed_585 (by decide) ?_
                            exact hJ_589 _ (by first | rw [if_pos (by omega)] | rw [if_neg (by omega)])
                      · have c_540 : 0 < j := g_nle (a := j) (b := 0) c_540 (by omega) (by omega)
                        refine lv_aload hx hb dL_isActed_543 (lv_at hl 6 rfl) ?_
                        refine lv_iload hx hb dL_isActed_545 (lv_at hl 12 rfl) ?_
                        refine lv_aload hx hb dL_isActed_547 (lv_at hl 6 rfl) ?_
                        refine lv_iload hx hb dL_isActed_549 (lv_at hl 12 rfl) ?_
                        refine lv_iconst (v := 1) hx hb dL_isActed_551 (by decide) ?_
                        refine lv_isub hx hb dL_isActed_552 ?_
                        refine lv_topi (fun f ef => ?_)
                        obtain rfl : f = nI (j - 1) := ef.trans (pk_sub (a := j) (b := 1) (by omega))
                        refine va_iald hx hb hK hP 5 0 rfl rfl (vp_in_nI (by omega) (by omega)) dL_isActed_553 ?_
                        refine lv_topi (fun f ef => ?_)
                        obtain rfl : f = (shAt 64 mp j) (j - 1) := ef.trans (congrArg (shAt 64 mp j) (nI_clamp (n := j - 1) (by omega)))
                        refine va_iast hx hb hK hP hD hS 5 0 rfl rfl (vp_in_nI (by omega) (by omega)) dL_isActed_554 (fun H locs hP hD hS => ?_)
                        rw [show (nI j).toNatClampNeg = j from (nI_clamp (by omega))] at hP hD
                        have hP : va_P D ccl (([(kc, .inl (cI, 40, .inl fc)), (kq, .inl (cI, 4, .inl mo)), (ku, .inl (cI, 16, .inl mu)), (kt, .inl (cI, 32, .inl tf)), (ka, .inl (cI, 32, .inl qf)), (kp, .inl (cI, 64, .inl (upd (shAt 64 mp j) j ((shAt 64 mp j) (j - 1))))), (km, .inl (cI, 4, .inl (mF N C K Y)))] : va_W) ++ w) H := hP
                        have hD : va_D A (([(kc, .inl (cI, 40, .inl fc)), (kq, .inl (cI, 4, .inl mo)), (ku, .inl (cI, 16, .inl mu)), (kt, .inl (cI, 32, .inl tf)), (ka, .inl (cI, 32, .inl qf)), (kp, .inl (cI, 64, .inl (upd (shAt 64 mp j) j ((shAt 64 mp j) (j - 1))))), (km, .inl (cI, 4, .inl (mF N C K Y)))] : va_W) ++ w) := hD
                        refine lv_iinc (v := nI (j - 1)) (lv' := [(12, .int (nI (j - 1))), (0, .ref t0), (1, .ref kc), (2, .ref kq), (3, .ref ku), (4, .ref kt), (5, .ref ka), (6, .ref kp), (7, .ref km), (8, .int (nI WY)), (9, .int (nI Z)), (10, .int (nI J)), (11, .int v9)]) hx hb dL_isActed_555 hl (k := 12) rfl (by exact sb_m1 (by omega)) (by decide) rfl (fun ls hl => ?_)
                        refine lv_goto (tgt := 538) hx hb dL_isActed_558 (by decide) ?_
                        refine W.widen (k := 0) (n := 0) (Nat.le_refl _) (Nat.le_refl _) ?_
                        exact ih_538 (j - 1, (upd (shAt 64 mp j) j ((shAt 64 mp j) (j - 1)))) _ _ _ (show (j - 1) ≤ 63 ∧ (upd (shAt 64 mp j) j ((shAt 64 mp j) (j - 1))) = shAt 64 mp (j - 1) from (by exact ⟨by omega, shAt_step (by omega) (by omega)⟩)) (show (j - 1) < j by omega) hP hD hS (lv_sub hl [1, 2, 3, 4, 5, 6, 7, 8, 9, 10, 11, 12, 0] rfl)
                    · have c_522 : WY = 22 := g_eq (a := WY) (b := 22) c_522 (by omega) (by omega)
                      refine lv_aload_n hx hb dL_isActed_525 rfl (lv_at hl 2 rfl) ?_
                      refine lv_aload hx hb dL_isActed_526 (lv_at hl 6 rfl) ?_
                      refine lv_aload hx hb dL_isActed_528 (lv_at hl 7 rfl) ?_
                      have hPc := hP.part (X := [(kc, .inl (cI, 40, .inl fc)), (kq, .inl (cI, 4, .inl mo)), (ku, .inl (cI, 16, .inl mu)), (kt, .inl (cI, 32, .inl tf)), (ka, .inl (cI, 32, .inl qf)), (kp, .inl (cI, 64, .inl mp)), (km, .inl (cI, 4, .inl (mF N C K Y)))]) (cx := [(kt, .inl (cI, 32, .inl tf)), (ka, .inl (cI, 32, .inl qf))]) [3, 4] rfl
                      have hDc := hD.part (X := [(kc, .inl (cI, 40, .inl fc)), (kq, .inl (cI, 4, .inl mo)), (ku, .inl (cI, 16, .inl mu)), (kt, .inl (cI, 32, .inl tf)), (ka, .inl (cI, 32, .inl qf)), (kp, .inl (cI, 64, .inl mp)), (km, .inl (cI, 4, .inl (mF N C K Y)))]) (cx := [(kt, .inl (cI, 32, .inl tf)), (ka, .inl (cI, 32, .inl qf))]) [3, 4] (by decide) rfl
                      have hFc := va_freeP (X := [(kc, .inl (cI, 40, .inl fc)), (kq, .inl (cI, 4, .inl mo)), (ku, .inl (cI, 16, .inl mu)), (kt, .inl (cI, 32, .inl tf)), (ka, .inl (cI, 32, .inl qf)), (kp, .inl (cI, 64, .inl mp)), (km, .inl (cI, 4, .inl (mF N C K Y)))]) (cx := [(kt, .inl (cI, 32, .inl tf)), (ka, .inl (cI, 32, .inl qf))]) hD hS hA [3, 4] rfl
                      refine g_Si (As := [.ref t0, .ref kt, .ref ka]) (rest := []) CF (c_L_isDesigned l hfl D cI cJ cO df s.heap.size t0 w kt ka N mc ms mw C mo K mu Y rw0 tf qf mp hCL hW) (va_cwS 3 hts gL_isActed_L_isDesigned rfl rfl rfl (by decide +kernel) ⟨Nat.le_of_ble_eq_true rfl, Nat.le_of_ble_eq_true rfl⟩)  hPc hK hDc hV hH hS hFc rfl hl.1 rfl (Nat.le_of_ble_eq_true rfl) dL_isActed_530 ⟨Nat.le_of_ble_eq_true rfl, Nat.le_of_ble_eq_true rfl⟩ (fun r_530 w1 H1 locs1 hq hP1 hD1 hk hS hz => ?_)
                      obtain ⟨w2, rfl, hr_530, hq_530⟩ := hq
                      obtain ⟨hP, hD⟩ := g_joinP (X := [(kc, .inl (cI, 40, .inl fc)), (kq, .inl (cI, 4, .inl mo)), (ku, .inl (cI, 16, .inl mu)), (kt, .inl (cI, 32, .inl tf)), (ka, .inl (cI, 32, .inl qf)), (kp, .inl (cI, 64, .inl mp)), (km, .inl (cI, 4, .inl (mF N C K Y)))]) (cx := [(kt, .inl (cI, 32, .inl tf)), (ka, .inl (cI, 32, .inl qf))]) (rx := [(kt, .inl (cI, 32, .inl (desA qf tf 32))), (ka, .inl (cI, 32, .inl qf))]) (X' := [(kc, .inl (cI, 40, .inl fc)), (kq, .inl (cI, 4, .inl mo)), (ku, .inl (cI, 16, .inl mu)), (kt, .inl (cI, 32, .inl (desA qf tf 32))), (ka, .inl (cI, 32, .inl qf)), (kp, .inl (cI, 64, .inl mp)), (km, .inl (cI, 4, .inl (mF N C K Y)))]) hP hD hk hFc hP1 hD1 [3, 4] [0, 1, 2, 5, 6] [0, 1, 2, 5, 6, 3, 4] rfl rfl (by decide) (by decide) (by decide) rfl
                      clear hPc hDc hFc hP1 hD1 hk hz
                      generalize H1 = H at hP hS ⊢
                      have hP : va_P D ccl (([(kc, .inl (cI, 40, .inl fc)), (kq, .inl (cI, 4, .inl mo)), (ku, .inl (cI, 16, .inl mu)), (kt, .inl (cI, 32, .inl (desA qf tf 32))), (ka, .inl (cI, 32, .inl qf)), (kp, .inl (cI, 64, .inl mp)), (km, .inl (cI, 4, .inl (mF N C K Y)))] : va_W) ++ w2) H := hP
                      have hD : va_D A (([(kc, .inl (cI, 40, .inl fc)), (kq, .inl (cI, 4, .inl mo)), (ku, .inl (cI, 16, .inl mu)), (kt, .inl (cI, 32, .inl (desA qf tf 32))), (ka, .inl (cI, 32, .inl qf)), (kp, .inl (cI, 64, .inl mp)), (km, .inl (cI, 4, .inl (mF N C K Y)))] : va_W) ++ w2) := hD
                      subst hr_530
                      refine g_zret (v := 1) hx hb hr hlk hP hK hD hS (Nat.le_of_ble_eq_true rfl) (Nat.le_of_ble_eq_true rfl) dL_isActed_533 (by decide +kernel) ?_
                      exact ⟨_, _, _, _, _, _, _, _, _, _, _, _, _, _, _, rfl, rfl, hq_530, wf_design hW, hR, hN4, (by omega)⟩
                  · have c_410 : WY < 22 := g_nle (a := 22) (b := WY) c_410 (by omega) (by omega)
                    refine lv_iload hx hb dL_isActed_413 (lv_at hl 10 rfl) ?_
                    refine lv_bipush (v := 19) hx hb dL_isActed_415 (by decide) ?_
                    refine lv_icmp_ne (tgt := 431) hx hb dL_isActed_417 (by decide) (fun c_417 => ?_) (fun c_417 => ?_)
                    · have c_417 : WY ≠ 19 := g_ne (a := WY) (b := 19) c_417 (by omega) (by omega)
                      refine lv_aload hx hb dL_isActed_431 (lv_at hl 7 rfl) ?_
                      refine lv_iload hx hb dL_isActed_433 (lv_at hl 11 rfl) ?_
                      refine lv_bipush (v := 32) hx hb dL_isActed_435 (by decide) ?_
                      refine lv_irem hx hb dL_isActed_437 (by decide) ?_
                      refine lv_topi (fun f ef => ?_)
                      obtain rfl : f = nI (Z % 32) := ef.trans (pk_rem (a := Z) (d := 32) (by omega) (by omega) (by omega))
                      refine va_iald hx hb hK hP 4 0 rfl rfl (vp_in_nI (by omega) (by omega)) dL_isActed_438 ?_
                      refine lv_topi (fun f ef => ?_)
                      obtain rfl : f = qf (Z % 32) := ef.trans (congrArg qf (nI_clamp (n := Z % 32) (by omega)))
                      refine lv_istore (lv' := [(12, .int (qf (Z % 32))), (11, .int v9), (10, .int (nI J)), (0, .ref t0), (1, .ref kc), (2, .ref kq), (3, .ref ku), (4, .ref kt), (5, .ref ka), (6, .ref kp), (7, .ref km), (8, .int (nI WY)), (9, .int (nI Z))]) hx hb dL_isActed_439 hl (by decide) rfl (fun ls hl => ?_)
                      refine lv_iload hx hb dL_isActed_441 (lv_at hl 11 rfl) ?_
                      refine lv_bipush (v := 19) hx hb dL_isActed_443 (by decide) ?_
                      refine lv_icmp_ne (tgt := 483) hx hb dL_isActed_445 (by decide) (fun c_445 => ?_) (fun c_445 => ?_)
                      · have c_445 : WY ≠ 19 := g_ne (a := WY) (b := 19) c_445 (by omega) (by omega)
                        refine lv_aload hx hb dL_isActed_483 (lv_at hl 8 rfl) ?_
                        refine lv_iload hx hb dL_isActed_485 (lv_at hl 12 rfl) ?_
                        refine lv_bipush (v := 32) hx hb dL_isActed_487 (by decide) ?_
                        refine lv_irem hx hb dL_isActed_489 (by decide) ?_
                        refine lv_topi (fun f ef => ?_)
                        obtain rfl : f = nI (Z % 32) := ef.trans (pk_rem (a := Z) (d := 32) (by omega) (by omega) (by omega))
                        refine lv_iload hx hb dL_isActed_490 (lv_at hl 1 rfl) ?_
                        have hPc : va_P D ccl [] s.heap := fun k q h => by simp at h
                        have hDc : va_D A [] := ⟨fun i j p q h => by simp at h, fun k q h => by simp at h⟩
                        have hFc := va_free (wc := []) hD hS hA [] rfl
                        refine g_Si (As := [.int v9]) (rest := [.int (nI (Z % 32)), .ref ka]) CF (c_L_rest l D cI cJ cO df s.heap.size v9 ) (va_cwS 1 hts gL_isActed_L_rest rfl rfl rfl (by decide +kernel) ⟨Nat.le_of_ble_eq_true rfl, Nat.le_of_ble_eq_true rfl⟩)  hPc hK hDc hV hH hS hFc rfl hl.1 rfl (Nat.le_of_ble_eq_true rfl) dL_isActed_492 ⟨Nat.le_of_ble_eq_true rfl, Nat.le_of_ble_eq_true rfl⟩ (fun r_492 w1 H1 locs1 hq hP1 hD1 hk hS hz => ?_)
                        obtain ⟨rfl, hr_492⟩ := hq
                        have hP := g_keep0 hP hk
                        clear hPc hDc hFc hP1 hD1 hk hz
                        generalize H1 = H at hP hS ⊢
                        have hP : va_P D ccl (([(kc, .inl (cI, 40, .inl fc)), (kq, .inl (cI, 4, .inl mo)), (ku, .inl (cI, 16, .inl mu)), (kt, .inl (cI, 32, .inl tf)), (ka, .inl (cI, 32, .inl qf)), (kp, .inl (cI, 64, .inl mp)), (km, .inl (cI, 4, .inl (mF N C K Y)))] : va_W) ++ w) H := hP
                        have hD : va_D A (([(kc, .inl (cI, 40, .inl fc)), (kq, .inl (cI, 4, .inl mo)), (ku, .inl (cI, 16, .inl mu)), (kt, .inl (cI, 32, .inl tf)), (ka, .inl (cI, 32, .inl qf)), (kp, .inl (cI, 64, .inl mp)), (km, .inl (cI, 4, .inl (mF N C K Y)))] : va_W) ++ w) := hD
                        subst hr_492
                        refine va_iast hx hb hK hP hD hS 4 0 rfl rfl (vp_in_nI (by omega) (by omega)) dL_isActed_495 (fun H locs hP hD hS => ?_)
                        rw [show (nI (Z % 32)).toNatClampNeg = Z % 32 from (nI_clamp (by omega))] at hP hD
                        have hP : va_P D ccl (([(kc, .inl (cI, 40, .inl fc)), (kq, .inl (cI, 4, .inl mo)), (ku, .inl (cI, 16, .inl mu)), (kt, .inl (cI, 32, .inl tf)), (ka, .inl (cI, 32, .inl (upd qf (Z % 32) (rs97 v9)))), (kp, .inl (cI, 64, .inl mp)), (km, .inl (cI, 4, .inl (mF N C K Y)))] : va_W) ++ w) H := hP
                        have hD : va_D A (([(kc, .inl (cI, 40, .inl fc)), (kq, .inl (cI, 4, .inl mo)), (ku, .inl (cI, 16, .inl mu)), (kt, .inl (cI, 32, .inl tf)), (ka, .inl (cI, 32, .inl (upd qf (Z % 32) (rs97 v9)))), (kp, .inl (cI, 64, .inl mp)), (km, .inl (cI, 4, .inl (mF N C K Y)))] : va_W) ++ w) := hD
                        refine lv_aload_n hx hb dL_isActed_496 rfl (lv_at hl 3 rfl) ?_
                        refine lv_iload hx hb dL_isActed_497 (lv_at hl 12 rfl) ?_
                        refine lv_bipush (v := 32) hx hb dL_isActed_499 (by decide) ?_
                        refine lv_irem hx hb dL_isActed_501 (by decide) ?_
                        refine lv_topi (fun f ef => ?_)
                        obtain rfl : f = nI (Z % 32) := ef.trans (pk_rem (a := Z) (d := 32) (by omega) (by omega) (by omega))
                        refine lv_iload hx hb dL_isActed_502 (lv_at hl 1 rfl) ?_
                        have hPc := hP.part (X := [(kc, .inl (cI, 40, .inl fc)), (kq, .inl (cI, 4, .inl mo)), (ku, .inl (cI, 16, .inl mu)), (kt, .inl (cI, 32, .inl tf)), (ka, .inl (cI, 32, .inl (upd qf (Z % 32) (rs97 v9)))), (kp, .inl (cI, 64, .inl mp)), (km, .inl (cI, 4, .inl (mF N C K Y)))]) (cx := []) [] rfl
                        have hDc := hD.part (X := [(kc, .inl (cI, 40, .inl fc)), (kq, .inl (cI, 4, .inl mo)), (ku, .inl (cI, 16, .inl mu)), (kt, .inl (cI, 32, .inl tf)), (ka, .inl (cI, 32, .inl (upd qf (Z % 32) (rs97 v9)))), (kp, .inl (cI, 64, .inl mp)), (km, .inl (cI, 4, .inl (mF N C K Y)))]) (cx := []) [] (by decide) rfl
                        have hFc := va_freeP (X := [(kc, .inl (cI, 40, .inl fc)), (kq, .inl (cI, 4, .inl mo)), (ku, .inl (cI, 16, .inl mu)), (kt, .inl (cI, 32, .inl tf)), (ka, .inl (cI, 32, .inl (upd qf (Z % 32) (rs97 v9)))), (kp, .inl (cI, 64, .inl mp)), (km, .inl (cI, 4, .inl (mF N C K Y)))]) (cx := []) hD hS hA [] rfl
                        refine g_Vi (As := [.int (nI (Z % 32)), .int v9]) (rest := []) CF (c3_X6_ask l hfl D cI cJ cO df H.size t0 w N mc ms mw C mo K mu Y rw0 tf qf mp (nI (Z % 32)) v9 hCL hW (k_two (k_in (n := 31) (by omega) (by decide)) (k_int (lo := -96) (hi := 96) (by rw [hm3]; exact hv9.1) (by rw [hm4]; exact hv9.2)))) (cwV 2 hts gL_isActed_X6_ask rfl rfl rfl (by decide +kernel) ⟨Nat.le_of_ble_eq_true rfl, Nat.le_of_ble_eq_true rfl⟩) (cls_recv (X := [(kc, .inl (cI, 40, .inl fc)), (kq, .inl (cI, 4, .inl mo)), (ku, .inl (cI, 16, .inl mu)), (kt, .inl (cI, 32, .inl tf)), (ka, .inl (cI, 32, .inl (upd qf (Z % 32) (rs97 v9)))), (kp, .inl (cI, 64, .inl mp)), (km, .inl (cI, 4, .inl (mF N C K Y)))]) hCL hK hP) hPc hK hDc hV hH hS hFc rfl hl.1 rfl (Nat.le_of_ble_eq_true rfl) dL_isActed_504 ⟨Nat.le_of_ble_eq_true rfl, Nat.le_of_ble_eq_true rfl⟩ (fun r_504 w1 H1 locs1 hq hP1 hD1 hk hS hz => ?_)
                        obtain ⟨w2, ew_504, hq_504⟩ := hq
                        rw [ew_504] at hP1 hD1
                        obtain ⟨hP, hD⟩ := g_joinP (X := [(kc, .inl (cI, 40, .inl fc)), (kq, .inl (cI, 4, .inl mo)), (ku, .inl (cI, 16, .inl mu)), (kt, .inl (cI, 32, .inl tf)), (ka, .inl (cI, 32, .inl (upd qf (Z % 32) (rs97 v9)))), (kp, .inl (cI, 64, .inl mp)), (km, .inl (cI, 4, .inl (mF N C K Y)))]) (cx := []) (rx := []) (X' := [(kc, .inl (cI, 40, .inl fc)), (kq, .inl (cI, 4, .inl mo)), (ku, .inl (cI, 16, .inl mu)), (kt, .inl (cI, 32, .inl tf)), (ka, .inl (cI, 32, .inl (upd qf (Z % 32) (rs97 v9)))), (kp, .inl (cI, 64, .inl mp)), (km, .inl (cI, 4, .inl (mF N C K Y)))]) hP hD hk hFc hP1 hD1 [] [0, 1, 2, 3, 4, 5, 6] [0, 1, 2, 3, 4, 5, 6] rfl rfl (by decide) (by decide) (by decide) rfl
                        clear hPc hDc hFc hP1 hD1 hk hz
                        generalize H1 = H at hP hS ⊢
                        have hP : va_P D ccl (([(kc, .inl (cI, 40, .inl fc)), (kq, .inl (cI, 4, .inl mo)), (ku, .inl (cI, 16, .inl mu)), (kt, .inl (cI, 32, .inl tf)), (ka, .inl (cI, 32, .inl (upd qf (Z % 32) (rs97 v9)))), (kp, .inl (cI, 64, .inl mp)), (km, .inl (cI, 4, .inl (mF N C K Y)))] : va_W) ++ w2) H := hP
                        have hD : va_D A (([(kc, .inl (cI, 40, .inl fc)), (kq, .inl (cI, 4, .inl mo)), (ku, .inl (cI, 16, .inl mu)), (kt, .inl (cI, 32, .inl tf)), (ka, .inl (cI, 32, .inl (upd qf (Z % 32) (rs97 v9)))), (kp, .inl (cI, 64, .inl mp)), (km, .inl (cI, 4, .inl (mF N C K Y)))] : va_W) ++ w2) := hD
                        obtain ⟨hCL, hq_504⟩ := hq_504
                        have e9 : gN (nI (Z % 32)) = Z % 32 := gN_nI (by omega)
                        rw [e9] at hCL hq_504
                        have er_504 := hq_504
                        refine lv_iload hx hb dL_isActed_507 (lv_at hl 0 rfl) ?_
                        refine lv_icmp_ne (tgt := 516) hx hb dL_isActed_509 (by decide) (fun c_509 => ?_) (fun c_509 => ?_)
                        · exact absurd er_504 c_509
                        · refine lv_iconst (v := 1) hx hb dL_isActed_512 (by decide) ?_
                          refine lv_goto (tgt := 517) hx hb dL_isActed_513 (by decide) ?_
                          refine g_zret (v := 1) hx hb hr hlk hP hK hD hS (Nat.le_of_ble_eq_true rfl) (Nat.le_of_ble_eq_true rfl) dL_isActed_517 (by decide +kernel) ?_
                          exact ⟨_, _, _, _, _, _, _, _, _, _, _, _, _, _, _, rfl, rfl, hCL, wf_ask hW, hR, hN4, (by omega)⟩
                      · have c_445 : WY = 19 := g_eq (a := WY) (b := 19) c_445 (by omega) (by omega)
                        omega
                    · have c_417 : WY = 19 := g_eq (a := WY) (b := 19) c_417 (by omega) (by omega)
                      refine lv_aload hx hb dL_isActed_420 (lv_at hl 6 rfl) ?_
                      refine lv_iload hx hb dL_isActed_422 (lv_at hl 11 rfl) ?_
                      refine lv_bipush (v := 32) hx hb dL_isActed_424 (by decide) ?_
                      refine lv_irem hx hb dL_isActed_426 (by decide) ?_
                      refine lv_topi (fun f ef => ?_)
                      obtain rfl : f = nI (Z % 32) := ef.trans (pk_rem (a := Z) (d := 32) (by omega) (by omega) (by omega))
                      refine va_iald hx hb hK hP 3 0 rfl rfl (vp_in_nI (by omega) (by omega)) dL_isActed_427 ?_
                      refine lv_topi (fun f ef => ?_)
                      obtain rfl : f = tf (Z % 32) := ef.trans (congrArg tf (nI_clamp (n := Z % 32) (by omega)))
                      refine lv_goto (tgt := 439) hx hb dL_isActed_428 (by decide) ?_
                      refine lv_istore (lv' := [(12, .int (tf (Z % 32))), (11, .int v9), (10, .int (nI J)), (0, .ref t0), (1, .ref kc), (2, .ref kq), (3, .ref ku), (4, .ref kt), (5, .ref ka), (6, .ref kp), (7, .ref km), (8, .int (nI WY)), (9, .int (nI Z))]) hx hb dL_isActed_439 hl (by decide) rfl (fun ls hl => ?_)
                      refine lv_iload hx hb dL_isActed_441 (lv_at hl 11 rfl) ?_
                      refine lv_bipush (v := 19) hx hb dL_isActed_443 (by decide) ?_
                      refine lv_icmp_ne (tgt := 483) hx hb dL_isActed_445 (by decide) (fun c_445 => ?_) (fun c_445 => ?_)
                      · have c_445 : WY ≠ 19 := g_ne (a := WY) (b := 19) c_445 (by omega) (by omega)
                        omega
                      · have c_445 : WY = 19 := g_eq (a := WY) (b := 19) c_445 (by omega) (by omega)
                        refine lv_aload hx hb dL_isActed_448 (lv_at hl 7 rfl) ?_
                        refine lv_iload hx hb dL_isActed_450 (lv_at hl 12 rfl) ?_
                        refine lv_bipush (v := 32) hx hb dL_isActed_452 (by decide) ?_
                        refine lv_irem hx hb dL_isActed_454 (by decide) ?_
                        refine lv_topi (fun f ef => ?_)
                        obtain rfl : f = nI (Z % 32) := ef.trans (pk_rem (a := Z) (d := 32) (by omega) (by omega) (by omega))
                        refine lv_iload hx hb dL_isActed_455 (lv_at hl 1 rfl) ?_
                        have hPc : va_P D ccl [] s.heap := fun k q h => by simp at h
                        have hDc : va_D A [] := ⟨fun i j p q h => by simp at h, fun k q h => by simp at h⟩
                        have hFc := va_free (wc := []) hD hS hA [] rfl
                        refine g_Si (As := [.int v9]) (rest := [.int (nI (Z % 32)), .ref kt]) CF (c_L_rest l D cI cJ cO df s.heap.size v9 ) (va_cwS 1 hts gL_isActed_L_rest rfl rfl rfl (by decide +kernel) ⟨Nat.le_of_ble_eq_true rfl, Nat.le_of_ble_eq_true rfl⟩)  hPc hK hDc hV hH hS hFc rfl hl.1 rfl (Nat.le_of_ble_eq_true rfl) dL_isActed_457 ⟨Nat.le_of_ble_eq_true rfl, Nat.le_of_ble_eq_true rfl⟩ (fun r_457 w1 H1 locs1 hq hP1 hD1 hk hS hz => ?_)
                        obtain ⟨rfl, hr_457⟩ := hq
                        have hP := g_keep0 hP hk
                        clear hPc hDc hFc hP1 hD1 hk hz
                        generalize H1 = H at hP hS ⊢
                        have hP : va_P D ccl (([(kc, .inl (cI, 40, .inl fc)), (kq, .inl (cI, 4, .inl mo)), (ku, .inl (cI, 16, .inl mu)), (kt, .inl (cI, 32, .inl tf)), (ka, .inl (cI, 32, .inl qf)), (kp, .inl (cI, 64, .inl mp)), (km, .inl (cI, 4, .inl (mF N C K Y)))] : va_W) ++ w) H := hP
                        have hD : va_D A (([(kc, .inl (cI, 40, .inl fc)), (kq, .inl (cI, 4, .inl mo)), (ku, .inl (cI, 16, .inl mu)), (kt, .inl (cI, 32, .inl tf)), (ka, .inl (cI, 32, .inl qf)), (kp, .inl (cI, 64, .inl mp)), (km, .inl (cI, 4, .inl (mF N C K Y)))] : va_W) ++ w) := hD
                        subst hr_457
                        refine va_iast hx hb hK hP hD hS 3 0 rfl rfl (vp_in_nI (by omega) (by omega)) dL_isActed_460 (fun H locs hP hD hS => ?_)
                        rw [show (nI (Z % 32)).toNatClampNeg = Z % 32 from (nI_clamp (by omega))] at hP hD
                        have hP : va_P D ccl (([(kc, .inl (cI, 40, .inl fc)), (kq, .inl (cI, 4, .inl mo)), (ku, .inl (cI, 16, .inl mu)), (kt, .inl (cI, 32, .inl (upd tf (Z % 32) (rs97 v9)))), (ka, .inl (cI, 32, .inl qf)), (kp, .inl (cI, 64, .inl mp)), (km, .inl (cI, 4, .inl (mF N C K Y)))] : va_W) ++ w) H := hP
                        have hD : va_D A (([(kc, .inl (cI, 40, .inl fc)), (kq, .inl (cI, 4, .inl mo)), (ku, .inl (cI, 16, .inl mu)), (kt, .inl (cI, 32, .inl (upd tf (Z % 32) (rs97 v9)))), (ka, .inl (cI, 32, .inl qf)), (kp, .inl (cI, 64, .inl mp)), (km, .inl (cI, 4, .inl (mF N C K Y)))] : va_W) ++ w) := hD
                        refine lv_aload_n hx hb dL_isActed_461 rfl (lv_at hl 3 rfl) ?_
                        refine lv_iload hx hb dL_isActed_462 (lv_at hl 12 rfl) ?_
                        refine lv_bipush (v := 32) hx hb dL_isActed_464 (by decide) ?_
                        refine lv_irem hx hb dL_isActed_466 (by decide) ?_
                        refine lv_topi (fun f ef => ?_)
                        obtain rfl : f = nI (Z % 32) := ef.trans (pk_rem (a := Z) (d := 32) (by omega) (by omega) (by omega))
                        refine lv_iload hx hb dL_isActed_467 (lv_at hl 1 rfl) ?_
                        have hPc := hP.part (X := [(kc, .inl (cI, 40, .inl fc)), (kq, .inl (cI, 4, .inl mo)), (ku, .inl (cI, 16, .inl mu)), (kt, .inl (cI, 32, .inl (upd tf (Z % 32) (rs97 v9)))), (ka, .inl (cI, 32, .inl qf)), (kp, .inl (cI, 64, .inl mp)), (km, .inl (cI, 4, .inl (mF N C K Y)))]) (cx := []) [] rfl
                        have hDc := hD.part (X := [(kc, .inl (cI, 40, .inl fc)), (kq, .inl (cI, 4, .inl mo)), (ku, .inl (cI, 16, .inl mu)), (kt, .inl (cI, 32, .inl (upd tf (Z % 32) (rs97 v9)))), (ka, .inl (cI, 32, .inl qf)), (kp, .inl (cI, 64, .inl mp)), (km, .inl (cI, 4, .inl (mF N C K Y)))]) (cx := []) [] (by decide) rfl
                        have hFc := va_freeP (X := [(kc, .inl (cI, 40, .inl fc)), (kq, .inl (cI, 4, .inl mo)), (ku, .inl (cI, 16, .inl mu)), (kt, .inl (cI, 32, .inl (upd tf (Z % 32) (rs97 v9)))), (ka, .inl (cI, 32, .inl qf)), (kp, .inl (cI, 64, .inl mp)), (km, .inl (cI, 4, .inl (mF N C K Y)))]) (cx := []) hD hS hA [] rfl
                        refine g_Vi (As := [.int (nI (Z % 32)), .int v9]) (rest := []) CF (c3_X6_tap l hfl D cI cJ cO df H.size t0 w N mc ms mw C mo K mu Y rw0 tf qf mp (nI (Z % 32)) v9 hCL hW (k_two (k_in (n := 31) (by omega) (by decide)) (k_int (lo := -96) (hi := 96) (by rw [hm3]; exact hv9.1) (by rw [hm4]; exact hv9.2)))) (cwV 2 hts gL_isActed_X6_tap rfl rfl rfl (by decide +kernel) ⟨Nat.le_of_ble_eq_true rfl, Nat.le_of_ble_eq_true rfl⟩) (cls_recv (X := [(kc, .inl (cI, 40, .inl fc)), (kq, .inl (cI, 4, .inl mo)), (ku, .inl (cI, 16, .inl mu)), (kt, .inl (cI, 32, .inl (upd tf (Z % 32) (rs97 v9)))), (ka, .inl (cI, 32, .inl qf)), (kp, .inl (cI, 64, .inl mp)), (km, .inl (cI, 4, .inl (mF N C K Y)))]) hCL hK hP) hPc hK hDc hV hH hS hFc rfl hl.1 rfl (Nat.le_of_ble_eq_true rfl) dL_isActed_469 ⟨Nat.le_of_ble_eq_true rfl, Nat.le_of_ble_eq_true rfl⟩ (fun r_469 w1 H1 locs1 hq hP1 hD1 hk hS hz => ?_)
                        obtain ⟨w2, ew_469, hq_469⟩ := hq
                        rw [ew_469] at hP1 hD1
                        obtain ⟨hP, hD⟩ := g_joinP (X := [(kc, .inl (cI, 40, .inl fc)), (kq, .inl (cI, 4, .inl mo)), (ku, .inl (cI, 16, .inl mu)), (kt, .inl (cI, 32, .inl (upd tf (Z % 32) (rs97 v9)))), (ka, .inl (cI, 32, .inl qf)), (kp, .inl (cI, 64, .inl mp)), (km, .inl (cI, 4, .inl (mF N C K Y)))]) (cx := []) (rx := []) (X' := [(kc, .inl (cI, 40, .inl fc)), (kq, .inl (cI, 4, .inl mo)), (ku, .inl (cI, 16, .inl mu)), (kt, .inl (cI, 32, .inl (upd tf (Z % 32) (rs97 v9)))), (ka, .inl (cI, 32, .inl qf)), (kp, .inl (cI, 64, .inl mp)), (km, .inl (cI, 4, .inl (mF N C K Y)))]) hP hD hk hFc hP1 hD1 [] [0, 1, 2, 3, 4, 5, 6] [0, 1, 2, 3, 4, 5, 6] rfl rfl (by decide) (by decide) (by decide) rfl
                        clear hPc hDc hFc hP1 hD1 hk hz
                        generalize H1 = H at hP hS ⊢
                        have hP : va_P D ccl (([(kc, .inl (cI, 40, .inl fc)), (kq, .inl (cI, 4, .inl mo)), (ku, .inl (cI, 16, .inl mu)), (kt, .inl (cI, 32, .inl (upd tf (Z % 32) (rs97 v9)))), (ka, .inl (cI, 32, .inl qf)), (kp, .inl (cI, 64, .inl mp)), (km, .inl (cI, 4, .inl (mF N C K Y)))] : va_W) ++ w2) H := hP
                        have hD : va_D A (([(kc, .inl (cI, 40, .inl fc)), (kq, .inl (cI, 4, .inl mo)), (ku, .inl (cI, 16, .inl mu)), (kt, .inl (cI, 32, .inl (upd tf (Z % 32) (rs97 v9)))), (ka, .inl (cI, 32, .inl qf)), (kp, .inl (cI, 64, .inl mp)), (km, .inl (cI, 4, .inl (mF N C K Y)))] : va_W) ++ w2) := hD
                        obtain ⟨hCL, hq_469⟩ := hq_469
                        have e9 : gN (nI (Z % 32)) = Z % 32 := gN_nI (by omega)
                        rw [e9] at hCL hq_469
                        have er_469 := hq_469
                        refine lv_iload hx hb dL_isActed_472 (lv_at hl 0 rfl) ?_
                        refine lv_icmp_ne (tgt := 481) hx hb dL_isActed_474 (by decide) (fun c_474 => ?_) (fun c_474 => ?_)
                        · exact absurd er_469 c_474
                        · refine lv_iconst (v := 1) hx hb dL_isActed_477 (by decide) ?_
                          refine lv_goto (tgt := 482) hx hb dL_isActed_478 (by decide) ?_
                          refine g_zret (v := 1) hx hb hr hlk hP hK hD hS (Nat.le_of_ble_eq_true rfl) (Nat.le_of_ble_eq_true rfl) dL_isActed_482 (by decide +kernel) ?_
                          exact ⟨_, _, _, _, _, _, _, _, _, _, _, _, _, _, _, rfl, rfl, hCL, wf_tap hW, hR, hN4, (by omega)⟩
                · have c_301 : WY = 18 := g_eq (a := WY) (b := 18) c_301 (by omega) (by omega)
                  refine lv_aload hx hb dL_isActed_304 (lv_at hl 8 rfl) ?_
                  refine lv_iconst (v := 2) hx hb dL_isActed_306 (by decide) ?_
                  refine va_iald hx hb hK hP 6 0 rfl rfl (by unfold vp_in; decide) dL_isActed_307 ?_
                  refine lv_topi (fun f ef => ?_)
                  obtain rfl : f = (mF N C K Y) 2 := ef.trans (congrArg (mF N C K Y) (show (2 : Int32).toNatClampNeg = 2 by decide))
                  refine lv_topi (fun f ef => ?_)
                  obtain rfl : f = nI K := ef.trans (rfl)
                  refine lv_istore (lv' := [(11, .int (nI K)), (10, .int (nI J)), (0, .ref t0), (1, .ref kc), (2, .ref kq), (3, .ref ku), (4, .ref kt), (5, .ref ka), (6, .ref kp), (7, .ref km), (8, .int (nI WY)), (9, .int (nI Z))]) hx hb dL_isActed_308 hl (by decide) rfl (fun ls hl => ?_)
                  refine lv_aload hx hb dL_isActed_310 (lv_at hl 9 rfl) ?_
                  refine lv_iconst (v := 2) hx hb dL_isActed_312 (by decide) ?_
                  refine lv_iconst (v := 0) hx hb dL_isActed_313 (by decide) ?_
                  refine va_iast hx hb hK hP hD hS 6 0 rfl rfl (by unfold vp_in; decide) dL_isActed_314 (fun H locs hP hD hS => ?_)
                  rw [show ((2 : Int32)).toNatClampNeg = 2 from (by decide)] at hP hD
                  rw [show upd (mF N C K Y) 2 0 = mF N C 0 Y from mF_2 rfl] at hP hD
                  have hP : va_P D ccl (([(kc, .inl (cI, 40, .inl fc)), (kq, .inl (cI, 4, .inl mo)), (ku, .inl (cI, 16, .inl mu)), (kt, .inl (cI, 32, .inl tf)), (ka, .inl (cI, 32, .inl qf)), (kp, .inl (cI, 64, .inl mp)), (km, .inl (cI, 4, .inl (mF N C 0 Y)))] : va_W) ++ w) H := hP
                  have hD : va_D A (([(kc, .inl (cI, 40, .inl fc)), (kq, .inl (cI, 4, .inl mo)), (ku, .inl (cI, 16, .inl mu)), (kt, .inl (cI, 32, .inl tf)), (ka, .inl (cI, 32, .inl qf)), (kp, .inl (cI, 64, .inl mp)), (km, .inl (cI, 4, .inl (mF N C 0 Y)))] : va_W) ++ w) := hD
                  refine lv_iconst (v := 0) hx hb dL_isActed_315 (by decide) ?_
                  refine lv_istore (lv' := [(12, .int 0), (11, .int (nI K)), (10, .int (nI J)), (0, .ref t0), (1, .ref kc), (2, .ref kq), (3, .ref ku), (4, .ref kt), (5, .ref ka), (6, .ref kp), (7, .ref km), (8, .int (nI WY)), (9, .int (nI Z))]) hx hb dL_isActed_316 hl (by decide) rfl (fun ls hl => ?_)
                  have hRz : RC fc mc (zeroTo ms (4 * 0)) mw N := by rw [← zeroTo_0]; exact hR
                  refine W.widen (k := 0) (n := 0) (Nat.le_refl _) (Nat.le_refl _) ?_
                  refine g_while (σ := Nat × (Nat → Int32)) (st := []) (nL := 14) (fun z => match z with | (i, f1) => ([(kc, .inl (cI, 40, .inl f1)), (kq, .inl (cI, 4, .inl mo)), (ku, .inl (cI, 16, .inl mu)), (kt, .inl (cI, 32, .inl tf)), (ka, .inl (cI, 32, .inl qf)), (kp, .inl (cI, 64, .inl mp)), (km, .inl (cI, 4, .inl (mF N C 0 Y)))] : va_W) ++ w)
                    (fun z => match z with | (i, f1) => [(0, .ref t0), (1, .ref kc), (2, .ref kq), (3, .ref ku), (4, .ref kt), (5, .ref ka), (6, .ref kp), (7, .ref km), (8, .int (nI WY)), (9, .int (nI Z)), (10, .int (nI J)), (11, .int (nI K)), (12, .int (nI i))])
                    (fun z => match z with | (i, f1) => i ≤ N ∧ RC f1 mc (zeroTo ms (4 * i)) mw N)
                    (fun z => match z with | (i, f1) => N - i) (fun z => match z with | (i, f1) => 0) (fun z => match z with | (i, f1) => 0)
                    ?_ (0, fc) ⟨Nat.zero_le N, hRz⟩ hP hD hS (lv_sub hl [3, 4, 5, 6, 7, 8, 9, 10, 11, 12, 2, 1, 0] rfl)
                  rintro ⟨i, f1⟩ hI H locs ls hP hD hS hl ih
                  have hI : i ≤ N ∧ RC f1 mc (zeroTo ms (4 * i)) mw N := hI
                  have hP : va_P D ccl (([(kc, .inl (cI, 40, .inl f1)), (kq, .inl (cI, 4, .inl mo)), (ku, .inl (cI, 16, .inl mu)), (kt, .inl (cI, 32, .inl tf)), (ka, .inl (cI, 32, .inl qf)), (kp, .inl (cI, 64, .inl mp)), (km, .inl (cI, 4, .inl (mF N C 0 Y)))] : va_W) ++ w) H := hP
                  have hD : va_D A (([(kc, .inl (cI, 40, .inl f1)), (kq, .inl (cI, 4, .inl mo)), (ku, .inl (cI, 16, .inl mu)), (kt, .inl (cI, 32, .inl tf)), (ka, .inl (cI, 32, .inl qf)), (kp, .inl (cI, 64, .inl mp)), (km, .inl (cI, 4, .inl (mF N C 0 Y)))] : va_W) ++ w) := hD
                  have hl : lv_has ls 14 [(0, .ref t0), (1, .ref kc), (2, .ref kq), (3, .ref ku), (4, .ref kt), (5, .ref ka), (6, .ref kp), (7, .ref km), (8, .int (nI WY)), (9, .int (nI Z)), (10, .int (nI J)), (11, .int (nI K)), (12, .int (nI i))] := hl
                  change W p l e _ s m _ below meth c H locs 0 0 _ (F0 m 318 ls [])
                  have ih_318 := ih
                  clear ih
                  obtain ⟨hi, hR1⟩ := hI
                  refine lv_iload hx hb dL_isActed_318 (lv_at hl 12 rfl) ?_
                  refine lv_aload hx hb dL_isActed_320 (lv_at hl 7 rfl) ?_
                  refine lv_iconst (v := 0) hx hb dL_isActed_322 (by decide) ?_
                  refine va_iald hx hb hK hP 6 0 rfl rfl (by unfold vp_in; decide) dL_isActed_323 ?_
                  refine lv_topi (fun f ef => ?_)
                  obtain rfl : f = (mF N C 0 Y) 0 := ef.trans (congrArg (mF N C 0 Y) (show (0 : Int32).toNatClampNeg = 0 by decide))
                  refine lv_topi (fun f ef => ?_)
                  obtain rfl : f = nI N := ef.trans (rfl)
                  refine lv_icmp_ge (tgt := 377) hx hb dL_isActed_324 (by decide) (fun c_324 => ?_) (fun c_324 => ?_)
                  · have c_324 : N ≤ i := g_le (a := N) (b := i) c_324 (by omega) (by omega)
                    obtain rfl : N = i := by omega
                    refine lv_aload_n hx hb dL_isActed_377 rfl (lv_at hl 0 rfl) ?_
                    have hPc := hP.part (X := [(kc, .inl (cI, 40, .inl f1)), (kq, .inl (cI, 4, .inl mo)), (ku, .inl (cI, 16, .inl mu)), (kt, .inl (cI, 32, .inl tf)), (ka, .inl (cI, 32, .inl qf)), (kp, .inl (cI, 64, .inl mp)), (km, .inl (cI, 4, .inl (mF N C 0 Y)))]) (cx := []) [] rfl
                    have hDc := hD.part (X := [(kc, .inl (cI, 40, .inl f1)), (kq, .inl (cI, 4, .inl mo)), (ku, .inl (cI, 16, .inl mu)), (kt, .inl (cI, 32, .inl tf)), (ka, .inl (cI, 32, .inl qf)), (kp, .inl (cI, 64, .inl mp)), (km, .inl (cI, 4, .inl (mF N C 0 Y)))]) (cx := []) [] (by decide) rfl
                    have hFc := va_freeP (X := [(kc, .inl (cI, 40, .inl f1)), (kq, .inl (cI, 4, .inl mo)), (ku, .inl (cI, 16, .inl mu)), (kt, .inl (cI, 32, .inl tf)), (ka, .inl (cI, 32, .inl qf)), (kp, .inl (cI, 64, .inl mp)), (km, .inl (cI, 4, .inl (mF N C 0 Y)))]) (cx := []) hD hS hA [] rfl
                    refine g_Vi (As := []) (rest := []) CF (c3_X6_rest l hfl D cI cJ cO df H.size t0 w N mc ms mw C mo K mu Y rw0 tf qf mp hCL hW) (cwV 0 hts gL_isActed_X6_rest rfl rfl rfl (by decide +kernel) ⟨Nat.le_of_ble_eq_true rfl, Nat.le_of_ble_eq_true rfl⟩) (cls_recv (X := [(kc, .inl (cI, 40, .inl f1)), (kq, .inl (cI, 4, .inl mo)), (ku, .inl (cI, 16, .inl mu)), (kt, .inl (cI, 32, .inl tf)), (ka, .inl (cI, 32, .inl qf)), (kp, .inl (cI, 64, .inl mp)), (km, .inl (cI, 4, .inl (mF N C 0 Y)))]) hCL hK hP) hPc hK hDc hV hH hS hFc rfl hl.1 rfl (Nat.le_of_ble_eq_true rfl) dL_isActed_378 ⟨Nat.le_of_ble_eq_true rfl, Nat.le_of_ble_eq_true rfl⟩ (fun r_378 w1 H1 locs1 hq hP1 hD1 hk hS hz => ?_)
                    obtain ⟨w2, ew_378, hq_378⟩ := hq
                    rw [ew_378] at hP1 hD1
                    obtain ⟨hP, hD⟩ := g_joinP (X := [(kc, .inl (cI, 40, .inl f1)), (kq, .inl (cI, 4, .inl mo)), (ku, .inl (cI, 16, .inl mu)), (kt, .inl (cI, 32, .inl tf)), (ka, .inl (cI, 32, .inl qf)), (kp, .inl (cI, 64, .inl mp)), (km, .inl (cI, 4, .inl (mF N C 0 Y)))]) (cx := []) (rx := []) (X' := [(kc, .inl (cI, 40, .inl f1)), (kq, .inl (cI, 4, .inl mo)), (ku, .inl (cI, 16, .inl mu)), (kt, .inl (cI, 32, .inl tf)), (ka, .inl (cI, 32, .inl qf)), (kp, .inl (cI, 64, .inl mp)), (km, .inl (cI, 4, .inl (mF N C 0 Y)))]) hP hD hk hFc hP1 hD1 [] [0, 1, 2, 3, 4, 5, 6] [0, 1, 2, 3, 4, 5, 6] rfl rfl (by decide) (by decide) (by decide) rfl
                    clear hPc hDc hFc hP1 hD1 hk hz
                    generalize H1 = H at hP hS ⊢
                    have hP : va_P D ccl (([(kc, .inl (cI, 40, .inl f1)), (kq, .inl (cI, 4, .inl mo)), (ku, .inl (cI, 16, .inl mu)), (kt, .inl (cI, 32, .inl tf)), (ka, .inl (cI, 32, .inl qf)), (kp, .inl (cI, 64, .inl mp)), (km, .inl (cI, 4, .inl (mF N C 0 Y)))] : va_W) ++ w2) H := hP
                    have hD : va_D A (([(kc, .inl (cI, 40, .inl f1)), (kq, .inl (cI, 4, .inl mo)), (ku, .inl (cI, 16, .inl mu)), (kt, .inl (cI, 32, .inl tf)), (ka, .inl (cI, 32, .inl qf)), (kp, .inl (cI, 64, .inl mp)), (km, .inl (cI, 4, .inl (mF N C 0 Y)))] : va_W) ++ w2) := hD
                    obtain ⟨hCL, hq_378⟩ := hq_378
                    have er_378 := hq_378
                    have hwr := wf_rest hW
                    rw [hwr.1] at hR1
                    refine lv_iload hx hb dL_isActed_381 (lv_at hl 11 rfl) ?_
                    refine lv_icmp_ne (tgt := 390) hx hb dL_isActed_383 (by decide) (fun c_383 => ?_) (fun c_383 => ?_)
                    · exact absurd er_378 c_383
                    · refine lv_iconst (v := 1) hx hb dL_isActed_386 (by decide) ?_
                      refine lv_goto (tgt := 391) hx hb dL_isActed_387 (by decide) ?_
                      refine g_zret (v := 1) hx hb hr hlk hP hK hD hS (Nat.le_of_ble_eq_true rfl) (Nat.le_of_ble_eq_true rfl) dL_isActed_391 (by decide +kernel) ?_
                      exact ⟨_, _, _, _, _, _, _, _, _, _, _, _, _, _, _, rfl, rfl, hCL, hwr.2, hR1, hN4, (by omega)⟩
                  · have c_324 : i < N := g_nle (a := N) (b := i) c_324 (by omega) (by omega)
                    refine lv_aload_n hx hb dL_isActed_327 rfl (lv_at hl 1 rfl) ?_
                    refine lv_bipush (v := 10) hx hb dL_isActed_328 (by decide) ?_
                    refine lv_iload hx hb dL_isActed_330 (lv_at hl 12 rfl) ?_
                    refine lv_imul hx hb dL_isActed_332 ?_
                    refine lv_topi (fun f ef => ?_)
                    obtain rfl : f = nI (10 * i) := ef.trans (pk_mul _ _)
                    refine lv_bipush (v := 6) hx hb dL_isActed_333 (by decide) ?_
                    refine lv_iadd hx hb dL_isActed_335 ?_
                    refine lv_topi (fun f ef => ?_)
                    obtain rfl : f = nI ((10 * i) + 6) := ef.trans (nI_add _ _)
                    refine lv_iconst (v := 0) hx hb dL_isActed_336 (by decide) ?_
                    refine va_iast hx hb hK hP hD hS 0 0 rfl rfl (vp_in_nI (by omega) (by omega)) dL_isActed_337 (fun H locs hP hD hS => ?_)
                    rw [show (nI ((10 * i) + 6)).toNatClampNeg = (10 * i) + 6 from (nI_clamp (by omega))] at hP hD
                    have hP : va_P D ccl (([(kc, .inl (cI, 40, .inl (upd f1 ((10 * i) + 6) 0))), (kq, .inl (cI, 4, .inl mo)), (ku, .inl (cI, 16, .inl mu)), (kt, .inl (cI, 32, .inl tf)), (ka, .inl (cI, 32, .inl qf)), (kp, .inl (cI, 64, .inl mp)), (km, .inl (cI, 4, .inl (mF N C 0 Y)))] : va_W) ++ w) H := hP
                    have hD : va_D A (([(kc, .inl (cI, 40, .inl (upd f1 ((10 * i) + 6) 0))), (kq, .inl (cI, 4, .inl mo)), (ku, .inl (cI, 16, .inl mu)), (kt, .inl (cI, 32, .inl tf)), (ka, .inl (cI, 32, .inl qf)), (kp, .inl (cI, 64, .inl mp)), (km, .inl (cI, 4, .inl (mF N C 0 Y)))] : va_W) ++ w) := hD
                    refine lv_aload_n hx hb dL_isActed_338 rfl (lv_at hl 1 rfl) ?_
                    refine lv_bipush (v := 10) hx hb dL_isActed_339 (by decide) ?_
                    refine lv_iload hx hb dL_isActed_341 (lv_at hl 12 rfl) ?_
                    refine lv_imul hx hb dL_isActed_343 ?_
                    refine lv_topi (fun f ef => ?_)
                    obtain rfl : f = nI (10 * i) := ef.trans (pk_mul _ _)
                    refine lv_bipush (v := 7) hx hb dL_isActed_344 (by decide) ?_
                    refine lv_iadd hx hb dL_isActed_346 ?_
                    refine lv_topi (fun f ef => ?_)
                    obtain rfl : f = nI ((10 * i) + 7) := ef.trans (nI_add _ _)
                    refine lv_iconst (v := 0) hx hb dL_isActed_347 (by decide) ?_
                    refine va_iast hx hb hK hP hD hS 0 0 rfl rfl (vp_in_nI (by omega) (by omega)) dL_isActed_348 (fun H locs hP hD hS => ?_)
                    rw [show (nI ((10 * i) + 7)).toNatClampNeg = (10 * i) + 7 from (nI_clamp (by omega))] at hP hD
                    have hP : va_P D ccl (([(kc, .inl (cI, 40, .inl (upd (upd f1 ((10 * i) + 6) 0) ((10 * i) + 7) 0))), (kq, .inl (cI, 4, .inl mo)), (ku, .inl (cI, 16, .inl mu)), (kt, .inl (cI, 32, .inl tf)), (ka, .inl (cI, 32, .inl qf)), (kp, .inl (cI, 64, .inl mp)), (km, .inl (cI, 4, .inl (mF N C 0 Y)))] : va_W) ++ w) H := hP
                    have hD : va_D A (([(kc, .inl (cI, 40, .inl (upd (upd f1 ((10 * i) + 6) 0) ((10 * i) + 7) 0))), (kq, .inl (cI, 4, .inl mo)), (ku, .inl (cI, 16, .inl mu)), (kt, .inl (cI, 32, .inl tf)), (ka, .inl (cI, 32, .inl qf)), (kp, .inl (cI, 64, .inl mp)), (km, .inl (cI, 4, .inl (mF N C 0 Y)))] : va_W) ++ w) := hD
                    refine lv_aload_n hx hb dL_isActed_349 rfl (lv_at hl 1 rfl) ?_
                    refine lv_bipush (v := 10) hx hb dL_isActed_350 (by decide) ?_
                    refine lv_iload hx hb dL_isActed_352 (lv_at hl 12 rfl) ?_
                    refine lv_imul hx hb dL_isActed_354 ?_
                    refine lv_topi (fun f ef => ?_)
                    obtain rfl : f = nI (10 * i) := ef.trans (pk_mul _ _)
                    refine lv_bipush (v := 8) hx hb dL_isActed_355 (by decide) ?_
                    refine lv_iadd hx hb dL_isActed_357 ?_
                    refine lv_topi (fun f ef => ?_)
                    obtain rfl : f = nI ((10 * i) + 8) := ef.trans (nI_add _ _)
                    refine lv_iconst (v := 0) hx hb dL_isActed_358 (by decide) ?_
                    refine va_iast hx hb hK hP hD hS 0 0 rfl rfl (vp_in_nI (by omega) (by omega)) dL_isActed_359 (fun H locs hP hD hS => ?_)
                    rw [show (nI ((10 * i) + 8)).toNatClampNeg = (10 * i) + 8 from (nI_clamp (by omega))] at hP hD
                    have hP : va_P D ccl (([(kc, .inl (cI, 40, .inl (upd (upd (upd f1 ((10 * i) + 6) 0) ((10 * i) + 7) 0) ((10 * i) + 8) 0))), (kq, .inl (cI, 4, .inl mo)), (ku, .inl (cI, 16, .inl mu)), (kt, .inl (cI, 32, .inl tf)), (ka, .inl (cI, 32, .inl qf)), (kp, .inl (cI, 64, .inl mp)), (km, .inl (cI, 4, .inl (mF N C 0 Y)))] : va_W) ++ w) H := hP
                    have hD : va_D A (([(kc, .inl (cI, 40, .inl (upd (upd (upd f1 ((10 * i) + 6) 0) ((10 * i) + 7) 0) ((10 * i) + 8) 0))), (kq, .inl (cI, 4, .inl mo)), (ku, .inl (cI, 16, .inl mu)), (kt, .inl (cI, 32, .inl tf)), (ka, .inl (cI, 32, .inl qf)), (kp, .inl (cI, 64, .inl mp)), (km, .inl (cI, 4, .inl (mF N C 0 Y)))] : va_W) ++ w) := hD
                    refine lv_aload_n hx hb dL_isActed_360 rfl (lv_at hl 1 rfl) ?_
                    refine lv_bipush (v := 10) hx hb dL_isActed_361 (by decide) ?_
                    refine lv_iload hx hb dL_isActed_363 (lv_at hl 12 rfl) ?_
                    refine lv_imul hx hb dL_isActed_365 ?_
                    refine lv_topi (fun f ef => ?_)
                    obtain rfl : f = nI (10 * i) := ef.trans (pk_mul _ _)
                    refine lv_bipush (v := 9) hx hb dL_isActed_366 (by decide) ?_
                    refine lv_iadd hx hb dL_isActed_368 ?_
                    refine lv_topi (fun f ef => ?_)
                    obtain rfl : f = nI ((10 * i) + 9) := ef.trans (nI_add _ _)
                    refine lv_iconst (v := 0) hx hb dL_isActed_369 (by decide) ?_
                    refine va_iast hx hb hK hP hD hS 0 0 rfl rfl (vp_in_nI (by omega) (by omega)) dL_isActed_370 (fun H locs hP hD hS => ?_)
                    rw [show (nI ((10 * i) + 9)).toNatClampNeg = (10 * i) + 9 from (nI_clamp (by omega))] at hP hD
                    have hP : va_P D ccl (([(kc, .inl (cI, 40, .inl (upd (upd (upd (upd f1 ((10 * i) + 6) 0) ((10 * i) + 7) 0) ((10 * i) + 8) 0) ((10 * i) + 9) 0))), (kq, .inl (cI, 4, .inl mo)), (ku, .inl (cI, 16, .inl mu)), (kt, .inl (cI, 32, .inl tf)), (ka, .inl (cI, 32, .inl qf)), (kp, .inl (cI, 64, .inl mp)), (km, .inl (cI, 4, .inl (mF N C 0 Y)))] : va_W) ++ w) H := hP
                    have hD : va_D A (([(kc, .inl (cI, 40, .inl (upd (upd (upd (upd f1 ((10 * i) + 6) 0) ((10 * i) + 7) 0) ((10 * i) + 8) 0) ((10 * i) + 9) 0))), (kq, .inl (cI, 4, .inl mo)), (ku, .inl (cI, 16, .inl mu)), (kt, .inl (cI, 32, .inl tf)), (ka, .inl (cI, 32, .inl qf)), (kp, .inl (cI, 64, .inl mp)), (km, .inl (cI, 4, .inl (mF N C 0 Y)))] : va_W) ++ w) := hD
                    refine lv_iinc (v := nI (i + 1)) (lv' := [(12, .int (nI (i + 1))), (0, .ref t0), (1, .ref kc), (2, .ref kq), (3, .ref ku), (4, .ref kt), (5, .ref ka), (6, .ref kp), (7, .ref km), (8, .int (nI WY)), (9, .int (nI Z)), (10, .int (nI J)), (11, .int (nI K))]) hx hb dL_isActed_371 hl (k := 12) rfl (by exact nI_1 _) (by decide) rfl (fun ls hl => ?_)
                    refine lv_goto (tgt := 318) hx hb dL_isActed_374 (by decide) ?_
                    refine W.widen (k := 0) (n := 0) (Nat.le_refl _) (Nat.le_refl _) ?_
                    exact ih_318 (i + 1, (upd (upd (upd (upd f1 ((10 * i) + 6) 0) ((10 * i) + 7) 0) ((10 * i) + 8) 0) ((10 * i) + 9) 0)) _ _ _ (show (i + 1) ≤ N ∧ RC (upd (upd (upd (upd f1 ((10 * i) + 6) 0) ((10 * i) + 7) 0) ((10 * i) + 8) 0) ((10 * i) + 9) 0) mc (zeroTo ms (4 * (i + 1))) mw N from (by exact ⟨c_324, rc_zero hR1 (by omega)⟩)) (show N - (i + 1) < N - i by omega) hP hD hS (lv_sub hl [1, 2, 3, 4, 5, 6, 7, 8, 9, 10, 11, 12, 0] rfl)
              · have c_235 : WY < 18 := g_nle (a := 18) (b := WY) c_235 (by omega) (by omega)
                refine lv_iload hx hb dL_isActed_238 (lv_at hl 10 rfl) ?_
                refine lv_iconst (v := 3) hx hb dL_isActed_240 (by decide) ?_
                refine lv_irem hx hb dL_isActed_241 (by decide) ?_
                refine lv_topi (fun f ef => ?_)
                obtain rfl : f = nI (Z % 3) := ef.trans (pk_rem (a := Z) (d := 3) (by omega) (by omega) (by omega))
                refine g_phii (ls := ls) (J := 270) (st1 := []) (REL := fun v9 => -32767 ≤ v9.toInt ∧ v9.toInt ≤ 32767) (fun v9 hb_270 => ?_) (fun hJ_270 => ?_)
                · have hv9 := hb_270
                  refine lv_istore (lv' := [(11, .int v9), (10, .int (nI J)), (0, .ref t0), (1, .ref kc), (2, .ref kq), (3, .ref ku), (4, .ref kt), (5, .ref ka), (6, .ref kp), (7, .ref km), (8, .int (nI WY)), (9, .int (nI Z))]) hx hb dL_isActed_270 hl (by decide) rfl (fun ls hl => ?_)
                  refine lv_aload_n hx hb dL_isActed_272 rfl (lv_at hl 2 rfl) ?_
                  refine lv_iload hx hb dL_isActed_273 (lv_at hl 0 rfl) ?_
                  have hPc := hP.part (X := [(kc, .inl (cI, 40, .inl fc)), (kq, .inl (cI, 4, .inl mo)), (ku, .inl (cI, 16, .inl mu)), (kt, .inl (cI, 32, .inl tf)), (ka, .inl (cI, 32, .inl qf)), (kp, .inl (cI, 64, .inl mp)), (km, .inl (cI, 4, .inl (mF N C K Y)))]) (cx := []) [] rfl
                  have hDc := hD.part (X := [(kc, .inl (cI, 40, .inl fc)), (kq, .inl (cI, 4, .inl mo)), (ku, .inl (cI, 16, .inl mu)), (kt, .inl (cI, 32, .inl tf)), (ka, .inl (cI, 32, .inl qf)), (kp, .inl (cI, 64, .inl mp)), (km, .inl (cI, 4, .inl (mF N C K Y)))]) (cx := []) [] (by decide) rfl
                  have hFc := va_freeP (X := [(kc, .inl (cI, 40, .inl fc)), (kq, .inl (cI, 4, .inl mo)), (ku, .inl (cI, 16, .inl mu)), (kt, .inl (cI, 32, .inl tf)), (ka, .inl (cI, 32, .inl qf)), (kp, .inl (cI, 64, .inl mp)), (km, .inl (cI, 4, .inl (mF N C K Y)))]) (cx := []) hD hS hA [] rfl
                  refine g_Vi (As := [.int v9]) (rest := []) CF (c3_X6_run l hfl D cI cJ cO df s.heap.size t0 w N mc ms mw C mo K mu Y rw0 tf qf mp v9 hCL hW (k_one (k_int (lo := -32767) (hi := 32767) (by rw [hm1]; exact hv9.1) (by rw [hm2]; exact hv9.2)))) (cwV 1 hts gL_isActed_X6_run rfl rfl rfl (by decide +kernel) ⟨Nat.le_of_ble_eq_true rfl, Nat.le_of_ble_eq_true rfl⟩) (cls_recv (X := [(kc, .inl (cI, 40, .inl fc)), (kq, .inl (cI, 4, .inl mo)), (ku, .inl (cI, 16, .inl mu)), (kt, .inl (cI, 32, .inl tf)), (ka, .inl (cI, 32, .inl qf)), (kp, .inl (cI, 64, .inl mp)), (km, .inl (cI, 4, .inl (mF N C K Y)))]) hCL hK hP) hPc hK hDc hV hH hS hFc rfl hl.1 rfl (Nat.le_of_ble_eq_true rfl) dL_isActed_275 ⟨Nat.le_of_ble_eq_true rfl, Nat.le_of_ble_eq_true rfl⟩ (fun r_275 w1 H1 locs1 hq hP1 hD1 hk hS hz => ?_)
                  obtain ⟨w2, ew_275, hq_275⟩ := hq
                  rw [ew_275] at hP1 hD1
                  obtain ⟨hP, hD⟩ := g_joinP (X := [(kc, .inl (cI, 40, .inl fc)), (kq, .inl (cI, 4, .inl mo)), (ku, .inl (cI, 16, .inl mu)), (kt, .inl (cI, 32, .inl tf)), (ka, .inl (cI, 32, .inl qf)), (kp, .inl (cI, 64, .inl mp)), (km, .inl (cI, 4, .inl (mF N C K Y)))]) (cx := []) (rx := []) (X' := [(kc, .inl (cI, 40, .inl fc)), (kq, .inl (cI, 4, .inl mo)), (ku, .inl (cI, 16, .inl mu)), (kt, .inl (cI, 32, .inl tf)), (ka, .inl (cI, 32, .inl qf)), (kp, .inl (cI, 64, .inl mp)), (km, .inl (cI, 4, .inl (mF N C K Y)))]) hP hD hk hFc hP1 hD1 [] [0, 1, 2, 3, 4, 5, 6] [0, 1, 2, 3, 4, 5, 6] rfl rfl (by decide) (by decide) (by decide) rfl
                  clear hPc hDc hFc hP1 hD1 hk hz
                  generalize H1 = H at hP hS ⊢
                  have hP : va_P D ccl (([(kc, .inl (cI, 40, .inl fc)), (kq, .inl (cI, 4, .inl mo)), (ku, .inl (cI, 16, .inl mu)), (kt, .inl (cI, 32, .inl tf)), (ka, .inl (cI, 32, .inl qf)), (kp, .inl (cI, 64, .inl mp)), (km, .inl (cI, 4, .inl (mF N C K Y)))] : va_W) ++ w2) H := hP
                  have hD : va_D A (([(kc, .inl (cI, 40, .inl fc)), (kq, .inl (cI, 4, .inl mo)), (ku, .inl (cI, 16, .inl mu)), (kt, .inl (cI, 32, .inl tf)), (ka, .inl (cI, 32, .inl qf)), (kp, .inl (cI, 64, .inl mp)), (km, .inl (cI, 4, .inl (mF N C K Y)))] : va_W) ++ w2) := hD
                  obtain ⟨hCL, hq_275⟩ := hq_275
                  have er_275 := hq_275
                  have hW2 := wf_run (x := v9) hW (k_one (k_int (lo := -32767) (hi := 32767) (by rw [hm1]; exact hv9.1) (by rw [hm2]; exact hv9.2)))
                  refine lv_aload_n hx hb dL_isActed_278 rfl (lv_at hl 3 rfl) ?_
                  refine lv_aload_n hx hb dL_isActed_279 rfl (lv_at hl 4 rfl) ?_
                  refine lv_aload_n hx hb dL_isActed_280 rfl (lv_at hl 5 rfl) ?_
                  refine lv_aload hx hb dL_isActed_281 (lv_at hl 9 rfl) ?_
                  refine lv_iload hx hb dL_isActed_283 (lv_at hl 0 rfl) ?_
                  have hPc := hP.sub (ws' := [(kc, .inl (cI, 40, .inl fc)), (kq, .inl (cI, 4, .inl mo)), (ku, .inl (cI, 16, .inl mu)), (km, .inl (cI, 4, .inl (mF N C K Y)))]) [0, 1, 2, 6] rfl
                  have hDc := hD.sub (ws' := [(kc, .inl (cI, 40, .inl fc)), (kq, .inl (cI, 4, .inl mo)), (ku, .inl (cI, 16, .inl mu)), (km, .inl (cI, 4, .inl (mF N C K Y)))]) [0, 1, 2, 6] (by decide) rfl
                  have hFc := va_free (wc := [(kc, .inl (cI, 40, .inl fc)), (kq, .inl (cI, 4, .inl mo)), (ku, .inl (cI, 16, .inl mu)), (km, .inl (cI, 4, .inl (mF N C K Y)))]) hD hS hA [0, 1, 2, 6] rfl
                  refine g_Si (As := [.ref kc, .ref kq, .ref ku, .ref km, .int v9]) (rest := [.int r_275]) CF (c_L_run l D cI cJ cO df H.size kc kq ku km fc mc ms mw mo mu N C K Y v9 hR hN4 (by omega) hK6 hO hc hw hs hv9) (va_cwS 5 hts gL_isActed_L_run rfl rfl rfl (by decide +kernel) ⟨Nat.le_of_ble_eq_true rfl, Nat.le_of_ble_eq_true rfl⟩)  hPc hK hDc hV hH hS hFc rfl hl.1 rfl (Nat.le_of_ble_eq_true rfl) dL_isActed_285 ⟨Nat.le_of_ble_eq_true rfl, Nat.le_of_ble_eq_true rfl⟩ (fun r_285 w1 H1 locs1 hq hP1 hD1 hk hS hz => ?_)
                  obtain ⟨f2, rfl, hr_285, hq_285⟩ := hq
                  obtain ⟨hP, hD⟩ := g_joinQ (X := [(kc, .inl (cI, 40, .inl fc)), (kq, .inl (cI, 4, .inl mo)), (ku, .inl (cI, 16, .inl mu)), (kt, .inl (cI, 32, .inl tf)), (ka, .inl (cI, 32, .inl qf)), (kp, .inl (cI, 64, .inl mp)), (km, .inl (cI, 4, .inl (mF N C K Y)))]) (X' := [(kc, .inl (cI, 40, .inl f2)), (kq, .inl (cI, 4, .inl mo)), (ku, .inl (cI, 16, .inl (shiftIn 16 mu (rnM mc mw mo ms v9 C).2))), (kt, .inl (cI, 32, .inl tf)), (ka, .inl (cI, 32, .inl qf)), (kp, .inl (cI, 64, .inl mp)), (km, .inl (cI, 4, .inl (mF N C (if K < 16 then K + 1 else K) Y)))]) hP hD hk hFc hP1 hD1 [0, 1, 2, 6] [3, 4, 5] [3, 4, 5, 0, 1, 2, 6] rfl rfl (by decide) (by decide) (by decide) rfl
                  clear hPc hDc hFc hP1 hD1 hk hz
                  generalize H1 = H at hP hS ⊢
                  have hP : va_P D ccl (([(kc, .inl (cI, 40, .inl f2)), (kq, .inl (cI, 4, .inl mo)), (ku, .inl (cI, 16, .inl (shiftIn 16 mu (rnM mc mw mo ms v9 C).2))), (kt, .inl (cI, 32, .inl tf)), (ka, .inl (cI, 32, .inl qf)), (kp, .inl (cI, 64, .inl mp)), (km, .inl (cI, 4, .inl (mF N C (if K < 16 then K + 1 else K) Y)))] : va_W) ++ w2) H := hP
                  have hD : va_D A (([(kc, .inl (cI, 40, .inl f2)), (kq, .inl (cI, 4, .inl mo)), (ku, .inl (cI, 16, .inl (shiftIn 16 mu (rnM mc mw mo ms v9 C).2))), (kt, .inl (cI, 32, .inl tf)), (ka, .inl (cI, 32, .inl qf)), (kp, .inl (cI, 64, .inl mp)), (km, .inl (cI, 4, .inl (mF N C (if K < 16 then K + 1 else K) Y)))] : va_W) ++ w2) := hD
                  subst hr_285
                  refine lv_icmp_ne (tgt := 295) hx hb dL_isActed_288 (by decide) (fun c_288 => ?_) (fun c_288 => ?_)
                  · exact absurd er_275 c_288
                  · refine lv_iconst (v := 1) hx hb dL_isActed_291 (by decide) ?_
                    refine lv_goto (tgt := 296) hx hb dL_isActed_292 (by decide) ?_
                    refine g_zret (v := 1) hx hb hr hlk hP hK hD hS (Nat.le_of_ble_eq_true rfl) (Nat.le_of_ble_eq_true rfl) dL_isActed_296 (by decide +kernel) ?_
                    exact ⟨_, _, _, _, _, _, _, _, _, _, _, _, _, _, _, rfl, rfl, hCL, hW2, hq_285, hN4, (by omega)⟩
                · refine lv_if_ne (tgt := 259) hx hb dL_isActed_242 (by decide) (fun c_242 => ?_) (fun c_242 => ?_)
                  · have c_242 : Z % 3 ≠ 0 := g_ne (a := Z % 3) (b := 0) c_242 (by omega) (by omega)
                    refine lv_iload hx hb dL_isActed_259 (lv_at hl 10 rfl) ?_
                    refine lv_iconst (v := 3) hx hb dL_isActed_261 (by decide) ?_
                    refine lv_idiv hx hb dL_isActed_262 (by decide) ?_
                    refine lv_topi (fun f ef => ?_)
                    obtain rfl : f = nI (Z / 3) := ef.trans (pk_div (a := Z) (d := 3) (by omega) (by omega) (by omega))
                    refine lv_sipush (v := 201) hx hb dL_isActed_263 (by decide) ?_
                    refine lv_irem hx hb dL_isActed_266 (by decide) ?_
                    refine lv_topi (fun f ef => ?_)
                    obtain rfl : f = nI ((Z / 3) % 201) := ef.trans (pk_rem (a := Z / 3) (d := 201) (by omega) (by omega) (by omega))
                    refine lv_bipush (v := 100) hx hb dL_isActed_267 (by decide) ?_
                    refine lv_isub hx hb dL_isActed_269 ?_
                    exact hJ_270 _ (by have h8 := pk_sub_toInt (a := Z / 3 % 201) (b := 100) (by omega) (by decide); rw [show (nI 100 : Int32) = 100 from rfl] at h8; exact ⟨by omega, by omega⟩)
                  · have c_242 : Z % 3 = 0 := g_eq (a := Z % 3) (b := 0) c_242 (by omega) (by omega)
                    refine lv_iload hx hb dL_isActed_245 (lv_at hl 10 rfl) ?_
                    refine lv_iconst (v := 3) hx hb dL_isActed_247 (by decide) ?_
                    refine lv_idiv hx hb dL_isActed_248 (by decide) ?_
                    refine lv_topi (fun f ef => ?_)
                    obtain rfl : f = nI (Z / 3) := ef.trans (pk_div (a := Z) (d := 3) (by omega) (by omega) (by omega))
                    refine lv_ldc (v := 65535) hx hb hown hconstant_RL_108 dL_isActed_249 ?_
                    refine lv_irem hx hb dL_isActed_251 (by decide) ?_
                    refine lv_topi (fun f ef => ?_)
                    obtain rfl : f = nI ((Z / 3) % 65535) := ef.trans (pk_rem (a := Z / 3) (d := 65535) (by omega) (by omega) (by omega))
                    refine lv_sipush (v := 32767) hx hb dL_isActed_252 (by decide) ?_
                    refine lv_isub hx hb dL_isActed_255 ?_
                    refine lv_goto (tgt := 270) hx hb dL_isActed_256 (by decide) ?_
                    exact hJ_270 _ (by have h8 := pk_sub_toInt (a := Z / 3 % 65535) (b := 32767) (by omega) (by decide); rw [show (nI 32767 : Int32) = 32767 from rfl] at h8; exact ⟨by omega, by omega⟩)
            · have c_219 : WY = 11 := g_eq (a := WY) (b := 11) c_219 (by omega) (by omega)
              refine lv_aload_n hx hb dL_isActed_222 rfl (lv_at hl 1 rfl) ?_
              refine lv_aload_n hx hb dL_isActed_223 rfl (lv_at hl 2 rfl) ?_
              refine lv_aload_n hx hb dL_isActed_224 rfl (lv_at hl 3 rfl) ?_
              refine lv_aload hx hb dL_isActed_225 (lv_at hl 8 rfl) ?_
              have hPc := hP.part (X := [(kc, .inl (cI, 40, .inl fc)), (kq, .inl (cI, 4, .inl mo)), (ku, .inl (cI, 16, .inl mu)), (kt, .inl (cI, 32, .inl tf)), (ka, .inl (cI, 32, .inl qf)), (kp, .inl (cI, 64, .inl mp)), (km, .inl (cI, 4, .inl (mF N C K Y)))]) (cx := [(kc, .inl (cI, 40, .inl fc)), (kq, .inl (cI, 4, .inl mo)), (km, .inl (cI, 4, .inl (mF N C K Y)))]) [0, 1, 6] rfl
              have hDc := hD.part (X := [(kc, .inl (cI, 40, .inl fc)), (kq, .inl (cI, 4, .inl mo)), (ku, .inl (cI, 16, .inl mu)), (kt, .inl (cI, 32, .inl tf)), (ka, .inl (cI, 32, .inl qf)), (kp, .inl (cI, 64, .inl mp)), (km, .inl (cI, 4, .inl (mF N C K Y)))]) (cx := [(kc, .inl (cI, 40, .inl fc)), (kq, .inl (cI, 4, .inl mo)), (km, .inl (cI, 4, .inl (mF N C K Y)))]) [0, 1, 6] (by decide) rfl
              have hFc := va_freeP (X := [(kc, .inl (cI, 40, .inl fc)), (kq, .inl (cI, 4, .inl mo)), (ku, .inl (cI, 16, .inl mu)), (kt, .inl (cI, 32, .inl tf)), (ka, .inl (cI, 32, .inl qf)), (kp, .inl (cI, 64, .inl mp)), (km, .inl (cI, 4, .inl (mF N C K Y)))]) (cx := [(kc, .inl (cI, 40, .inl fc)), (kq, .inl (cI, 4, .inl mo)), (km, .inl (cI, 4, .inl (mF N C K Y)))]) hD hS hA [0, 1, 6] rfl
              refine g_Si (As := [.ref t0, .ref kc, .ref kq, .ref km]) (rest := []) CF (c_L_isArranged l hfl D cI cJ cO df s.heap.size t0 w kc kq km fc N mc ms mw C mo K mu Y rw0 tf qf mp hCL hW hN4 hR) (va_cwS 4 hts gL_isActed_L_isArranged rfl rfl rfl (by decide +kernel) ⟨Nat.le_of_ble_eq_true rfl, Nat.le_of_ble_eq_true rfl⟩)  hPc hK hDc hV hH hS hFc rfl hl.1 rfl (Nat.le_of_ble_eq_true rfl) dL_isActed_227 ⟨Nat.le_of_ble_eq_true rfl, Nat.le_of_ble_eq_true rfl⟩ (fun r_227 w1 H1 locs1 hq hP1 hD1 hk hS hz => ?_)
              obtain ⟨w2, rfl, hr_227, hq_227⟩ := hq
              obtain ⟨hP, hD⟩ := g_joinP (X := [(kc, .inl (cI, 40, .inl fc)), (kq, .inl (cI, 4, .inl mo)), (ku, .inl (cI, 16, .inl mu)), (kt, .inl (cI, 32, .inl tf)), (ka, .inl (cI, 32, .inl qf)), (kp, .inl (cI, 64, .inl mp)), (km, .inl (cI, 4, .inl (mF N C K Y)))]) (cx := [(kc, .inl (cI, 40, .inl fc)), (kq, .inl (cI, 4, .inl mo)), (km, .inl (cI, 4, .inl (mF N C K Y)))]) (rx := [(kc, .inl (cI, 40, .inl fc)), (kq, .inl (cI, 4, .inl (arO mc mo C C))), (km, .inl (cI, 4, .inl (mF N C K Y)))]) (X' := [(kc, .inl (cI, 40, .inl fc)), (kq, .inl (cI, 4, .inl (arO mc mo C C))), (ku, .inl (cI, 16, .inl mu)), (kt, .inl (cI, 32, .inl tf)), (ka, .inl (cI, 32, .inl qf)), (kp, .inl (cI, 64, .inl mp)), (km, .inl (cI, 4, .inl (mF N C K Y)))]) hP hD hk hFc hP1 hD1 [0, 1, 6] [2, 3, 4, 5] [4, 5, 0, 1, 2, 3, 6] rfl rfl (by decide) (by decide) (by decide) rfl
              clear hPc hDc hFc hP1 hD1 hk hz
              generalize H1 = H at hP hS ⊢
              have hP : va_P D ccl (([(kc, .inl (cI, 40, .inl fc)), (kq, .inl (cI, 4, .inl (arO mc mo C C))), (ku, .inl (cI, 16, .inl mu)), (kt, .inl (cI, 32, .inl tf)), (ka, .inl (cI, 32, .inl qf)), (kp, .inl (cI, 64, .inl mp)), (km, .inl (cI, 4, .inl (mF N C K Y)))] : va_W) ++ w2) H := hP
              have hD : va_D A (([(kc, .inl (cI, 40, .inl fc)), (kq, .inl (cI, 4, .inl (arO mc mo C C))), (ku, .inl (cI, 16, .inl mu)), (kt, .inl (cI, 32, .inl tf)), (ka, .inl (cI, 32, .inl qf)), (kp, .inl (cI, 64, .inl mp)), (km, .inl (cI, 4, .inl (mF N C K Y)))] : va_W) ++ w2) := hD
              subst hr_227
              refine g_zret (v := 1) hx hb hr hlk hP hK hD hS (Nat.le_of_ble_eq_true rfl) (Nat.le_of_ble_eq_true rfl) dL_isActed_230 (by decide +kernel) ?_
              exact ⟨_, _, _, _, _, _, _, _, _, _, _, _, _, _, _, rfl, rfl, hq_227.1, hq_227.2, hR, hN4, (by omega)⟩
          · have c_202 : WY < 11 := g_nle (a := 11) (b := WY) c_202 (by omega) (by omega)
            refine lv_aload_n hx hb dL_isActed_205 rfl (lv_at hl 1 rfl) ?_
            refine lv_aload_n hx hb dL_isActed_206 rfl (lv_at hl 3 rfl) ?_
            refine lv_aload hx hb dL_isActed_207 (lv_at hl 8 rfl) ?_
            refine lv_iload hx hb dL_isActed_209 (lv_at hl 0 rfl) ?_
            have hPc := hP.part (X := [(kc, .inl (cI, 40, .inl fc)), (kq, .inl (cI, 4, .inl mo)), (ku, .inl (cI, 16, .inl mu)), (kt, .inl (cI, 32, .inl tf)), (ka, .inl (cI, 32, .inl qf)), (kp, .inl (cI, 64, .inl mp)), (km, .inl (cI, 4, .inl (mF N C K Y)))]) (cx := [(kq, .inl (cI, 4, .inl mo)), (km, .inl (cI, 4, .inl (mF N C K Y)))]) [1, 6] rfl
            have hDc := hD.part (X := [(kc, .inl (cI, 40, .inl fc)), (kq, .inl (cI, 4, .inl mo)), (ku, .inl (cI, 16, .inl mu)), (kt, .inl (cI, 32, .inl tf)), (ka, .inl (cI, 32, .inl qf)), (kp, .inl (cI, 64, .inl mp)), (km, .inl (cI, 4, .inl (mF N C K Y)))]) (cx := [(kq, .inl (cI, 4, .inl mo)), (km, .inl (cI, 4, .inl (mF N C K Y)))]) [1, 6] (by decide) rfl
            have hFc := va_freeP (X := [(kc, .inl (cI, 40, .inl fc)), (kq, .inl (cI, 4, .inl mo)), (ku, .inl (cI, 16, .inl mu)), (kt, .inl (cI, 32, .inl tf)), (ka, .inl (cI, 32, .inl qf)), (kp, .inl (cI, 64, .inl mp)), (km, .inl (cI, 4, .inl (mF N C K Y)))]) (cx := [(kq, .inl (cI, 4, .inl mo)), (km, .inl (cI, 4, .inl (mF N C K Y)))]) hD hS hA [1, 6] rfl
            refine g_Si (As := [.ref t0, .ref kq, .ref km, .int (nI J)]) (rest := []) CF (c_L_isChained l hfl D cI cJ cO df s.heap.size t0 w kq km N mc ms mw C mo K mu Y rw0 tf qf mp J hCL hW hN4 hJ9) (va_cwS 4 hts gL_isActed_L_isChained rfl rfl rfl (by decide +kernel) ⟨Nat.le_of_ble_eq_true rfl, Nat.le_of_ble_eq_true rfl⟩)  hPc hK hDc hV hH hS hFc rfl hl.1 rfl (Nat.le_of_ble_eq_true rfl) dL_isActed_211 ⟨Nat.le_of_ble_eq_true rfl, Nat.le_of_ble_eq_true rfl⟩ (fun r_211 w1 H1 locs1 hq hP1 hD1 hk hS hz => ?_)
            obtain ⟨C2, mo2, w2, rfl, hr_211, hq_211⟩ := hq
            obtain ⟨hP, hD⟩ := g_joinP (X := [(kc, .inl (cI, 40, .inl fc)), (kq, .inl (cI, 4, .inl mo)), (ku, .inl (cI, 16, .inl mu)), (kt, .inl (cI, 32, .inl tf)), (ka, .inl (cI, 32, .inl qf)), (kp, .inl (cI, 64, .inl mp)), (km, .inl (cI, 4, .inl (mF N C K Y)))]) (cx := [(kq, .inl (cI, 4, .inl mo)), (km, .inl (cI, 4, .inl (mF N C K Y)))]) (rx := [(kq, .inl (cI, 4, .inl mo2)), (km, .inl (cI, 4, .inl (mF N C2 K Y)))]) (X' := [(kc, .inl (cI, 40, .inl fc)), (kq, .inl (cI, 4, .inl mo2)), (ku, .inl (cI, 16, .inl mu)), (kt, .inl (cI, 32, .inl tf)), (ka, .inl (cI, 32, .inl qf)), (kp, .inl (cI, 64, .inl mp)), (km, .inl (cI, 4, .inl (mF N C2 K Y)))]) hP hD hk hFc hP1 hD1 [1, 6] [0, 2, 3, 4, 5] [0, 5, 1, 2, 3, 4, 6] rfl rfl (by decide) (by decide) (by decide) rfl
            clear hPc hDc hFc hP1 hD1 hk hz
            generalize H1 = H at hP hS ⊢
            have hP : va_P D ccl (([(kc, .inl (cI, 40, .inl fc)), (kq, .inl (cI, 4, .inl mo2)), (ku, .inl (cI, 16, .inl mu)), (kt, .inl (cI, 32, .inl tf)), (ka, .inl (cI, 32, .inl qf)), (kp, .inl (cI, 64, .inl mp)), (km, .inl (cI, 4, .inl (mF N C2 K Y)))] : va_W) ++ w2) H := hP
            have hD : va_D A (([(kc, .inl (cI, 40, .inl fc)), (kq, .inl (cI, 4, .inl mo2)), (ku, .inl (cI, 16, .inl mu)), (kt, .inl (cI, 32, .inl tf)), (ka, .inl (cI, 32, .inl qf)), (kp, .inl (cI, 64, .inl mp)), (km, .inl (cI, 4, .inl (mF N C2 K Y)))] : va_W) ++ w2) := hD
            subst hr_211
            refine g_zret (v := 1) hx hb hr hlk hP hK hD hS (Nat.le_of_ble_eq_true rfl) (Nat.le_of_ble_eq_true rfl) dL_isActed_214 (by decide +kernel) ?_
            exact ⟨_, _, _, _, _, _, _, _, _, _, _, _, _, _, _, rfl, rfl, hq_211.1, hq_211.2, hR, hN4, (by omega)⟩
        · have c_104 : WY < 8 := g_nle (a := 8) (b := WY) c_104 (by omega) (by omega)
          refine lv_iload hx hb dL_isActed_107 (lv_at hl 10 rfl) ?_
          refine lv_iconst (v := 4) hx hb dL_isActed_109 (by decide) ?_
          refine lv_idiv hx hb dL_isActed_110 (by decide) ?_
          refine lv_topi (fun f ef => ?_)
          obtain rfl : f = nI (Z / 4) := ef.trans (pk_div (a := Z) (d := 4) (by omega) (by omega) (by omega))
          refine lv_iconst (v := 5) hx hb dL_isActed_111 (by decide) ?_
          refine lv_irem hx hb dL_isActed_112 (by decide) ?_
          refine lv_topi (fun f ef => ?_)
          obtain rfl : f = nI ((Z / 4) % 5) := ef.trans (pk_rem (a := Z / 4) (d := 5) (by omega) (by omega) (by omega))
          refine lv_istore (lv' := [(11, .int (nI ((Z / 4) % 5))), (10, .int (nI J)), (0, .ref t0), (1, .ref kc), (2, .ref kq), (3, .ref ku), (4, .ref kt), (5, .ref ka), (6, .ref kp), (7, .ref km), (8, .int (nI WY)), (9, .int (nI Z))]) hx hb dL_isActed_113 hl (by decide) rfl (fun ls hl => ?_)
          refine lv_iload hx hb dL_isActed_115 (lv_at hl 11 rfl) ?_
          refine lv_bipush (v := 20) hx hb dL_isActed_117 (by decide) ?_
          refine lv_idiv hx hb dL_isActed_119 (by decide) ?_
          refine lv_topi (fun f ef => ?_)
          obtain rfl : f = nI (Z / 20) := ef.trans (pk_div (a := Z) (d := 20) (by omega) (by omega) (by omega))
          refine lv_sipush (v := 255) hx hb dL_isActed_120 (by decide) ?_
          refine lv_irem hx hb dL_isActed_123 (by decide) ?_
          refine lv_topi (fun f ef => ?_)
          obtain rfl : f = nI ((Z / 20) % 255) := ef.trans (pk_rem (a := Z / 20) (d := 255) (by omega) (by omega) (by omega))
          refine lv_bipush (v := 127) hx hb dL_isActed_124 (by decide) ?_
          refine lv_isub hx hb dL_isActed_126 ?_
          refine lv_istore (lv' := [(12, .int ((nI ((Z / 20) % 255)) - 127)), (11, .int (nI ((Z / 4) % 5))), (10, .int (nI J)), (0, .ref t0), (1, .ref kc), (2, .ref kq), (3, .ref ku), (4, .ref kt), (5, .ref ka), (6, .ref kp), (7, .ref km), (8, .int (nI WY)), (9, .int (nI Z))]) hx hb dL_isActed_127 hl (by decide) rfl (fun ls hl => ?_)
          refine lv_iload hx hb dL_isActed_129 (lv_at hl 1 rfl) ?_
          refine lv_iconst (v := 4) hx hb dL_isActed_131 (by decide) ?_
          refine g_phii (ls := ls) (J := 151) (st1 := []) (REL := fun v9 => -127 ≤ v9.toInt ∧ v9.toInt ≤ 127) (fun v9 hb_151 => ?_) (fun hJ_151 => ?_)
          · have hv9 := hb_151
            refine lv_istore (lv' := [(12, .int v9), (11, .int (nI ((Z / 4) % 5))), (10, .int (nI J)), (0, .ref t0), (1, .ref kc), (2, .ref kq), (3, .ref ku), (4, .ref kt), (5, .ref ka), (6, .ref kp), (7, .ref km), (8, .int (nI WY)), (9, .int (nI Z))]) hx hb dL_isActed_151 hl (by decide) rfl (fun ls hl => ?_)
            refine lv_aload_n hx hb dL_isActed_153 rfl (lv_at hl 4 rfl) ?_
            refine lv_bipush (v := 10) hx hb dL_isActed_154 (by decide) ?_
            refine lv_iload hx hb dL_isActed_156 (lv_at hl 2 rfl) ?_
            refine lv_imul hx hb dL_isActed_158 ?_
            refine lv_topi (fun f ef => ?_)
            obtain rfl : f = nI (10 * J) := ef.trans (pk_mul _ _)
            refine lv_iload hx hb dL_isActed_159 (lv_at hl 1 rfl) ?_
            refine lv_iadd hx hb dL_isActed_161 ?_
            refine lv_topi (fun f ef => ?_)
            obtain rfl : f = nI ((10 * J) + ((Z / 4) % 5)) := ef.trans (nI_add _ _)
            refine va_iald hx hb hK hP 0 0 rfl rfl (vp_in_nI (by omega) (by omega)) dL_isActed_162 ?_
            refine lv_topi (fun f ef => ?_)
            obtain rfl : f = fc ((10 * J) + ((Z / 4) % 5)) := ef.trans (congrArg fc (nI_clamp (n := (10 * J) + ((Z / 4) % 5)) (by omega)))
            refine lv_topi (fun f ef => ?_)
            obtain rfl : f = mc (5 * J + Z / 4 % 5) := ef.trans ((hR J hJ4).1 _ (by omega))
            refine lv_istore (lv' := [(13, .int (mc (5 * J + Z / 4 % 5))), (12, .int v9), (11, .int (nI ((Z / 4) % 5))), (10, .int (nI J)), (0, .ref t0), (1, .ref kc), (2, .ref kq), (3, .ref ku), (4, .ref kt), (5, .ref ka), (6, .ref kp), (7, .ref km), (8, .int (nI WY)), (9, .int (nI Z))]) hx hb dL_isActed_163 hl (by decide) rfl (fun ls hl => ?_)
            refine lv_aload_n hx hb dL_isActed_165 rfl (lv_at hl 5 rfl) ?_
            refine lv_bipush (v := 10) hx hb dL_isActed_166 (by decide) ?_
            refine lv_iload hx hb dL_isActed_168 (lv_at hl 3 rfl) ?_
            refine lv_imul hx hb dL_isActed_170 ?_
            refine lv_topi (fun f ef => ?_)
            obtain rfl : f = nI (10 * J) := ef.trans (pk_mul _ _)
            refine lv_iload hx hb dL_isActed_171 (lv_at hl 2 rfl) ?_
            refine lv_iadd hx hb dL_isActed_173 ?_
            refine lv_topi (fun f ef => ?_)
            obtain rfl : f = nI ((10 * J) + ((Z / 4) % 5)) := ef.trans (nI_add _ _)
            refine lv_iload hx hb dL_isActed_174 (lv_at hl 1 rfl) ?_
            refine va_iast hx hb hK hP hD hS 0 0 rfl rfl (vp_in_nI (by omega) (by omega)) dL_isActed_176 (fun H locs hP hD hS => ?_)
            rw [show (nI ((10 * J) + ((Z / 4) % 5))).toNatClampNeg = (10 * J) + ((Z / 4) % 5) from (nI_clamp (by omega))] at hP hD
            have hP : va_P D ccl (([(kc, .inl (cI, 40, .inl (upd fc ((10 * J) + ((Z / 4) % 5)) v9))), (kq, .inl (cI, 4, .inl mo)), (ku, .inl (cI, 16, .inl mu)), (kt, .inl (cI, 32, .inl tf)), (ka, .inl (cI, 32, .inl qf)), (kp, .inl (cI, 64, .inl mp)), (km, .inl (cI, 4, .inl (mF N C K Y)))] : va_W) ++ w) H := hP
            have hD : va_D A (([(kc, .inl (cI, 40, .inl (upd fc ((10 * J) + ((Z / 4) % 5)) v9))), (kq, .inl (cI, 4, .inl mo)), (ku, .inl (cI, 16, .inl mu)), (kt, .inl (cI, 32, .inl tf)), (ka, .inl (cI, 32, .inl qf)), (kp, .inl (cI, 64, .inl mp)), (km, .inl (cI, 4, .inl (mF N C K Y)))] : va_W) ++ w) := hD
            refine lv_aload_n hx hb dL_isActed_177 rfl (lv_at hl 4 rfl) ?_
            refine lv_iload hx hb dL_isActed_178 (lv_at hl 3 rfl) ?_
            refine lv_iload hx hb dL_isActed_180 (lv_at hl 2 rfl) ?_
            refine lv_iload hx hb dL_isActed_182 (lv_at hl 1 rfl) ?_
            have hPc := hP.part (X := [(kc, .inl (cI, 40, .inl (upd fc ((10 * J) + ((Z / 4) % 5)) v9))), (kq, .inl (cI, 4, .inl mo)), (ku, .inl (cI, 16, .inl mu)), (kt, .inl (cI, 32, .inl tf)), (ka, .inl (cI, 32, .inl qf)), (kp, .inl (cI, 64, .inl mp)), (km, .inl (cI, 4, .inl (mF N C K Y)))]) (cx := []) [] rfl
            have hDc := hD.part (X := [(kc, .inl (cI, 40, .inl (upd fc ((10 * J) + ((Z / 4) % 5)) v9))), (kq, .inl (cI, 4, .inl mo)), (ku, .inl (cI, 16, .inl mu)), (kt, .inl (cI, 32, .inl tf)), (ka, .inl (cI, 32, .inl qf)), (kp, .inl (cI, 64, .inl mp)), (km, .inl (cI, 4, .inl (mF N C K Y)))]) (cx := []) [] (by decide) rfl
            have hFc := va_freeP (X := [(kc, .inl (cI, 40, .inl (upd fc ((10 * J) + ((Z / 4) % 5)) v9))), (kq, .inl (cI, 4, .inl mo)), (ku, .inl (cI, 16, .inl mu)), (kt, .inl (cI, 32, .inl tf)), (ka, .inl (cI, 32, .inl qf)), (kp, .inl (cI, 64, .inl mp)), (km, .inl (cI, 4, .inl (mF N C K Y)))]) (cx := []) hD hS hA [] rfl
            refine g_Vi (As := [.int (nI J), .int (nI ((Z / 4) % 5)), .int v9]) (rest := []) CF (c3_X6_set l hfl D cI cJ cO df H.size t0 w N mc ms mw C mo K mu Y rw0 tf qf mp (nI J) (nI ((Z / 4) % 5)) v9 hCL hW (k_two (k_sec hJ9 hN8) (k_iif (k_in (n := 4) (by omega) (by decide)) (k_int (lo := -127) (hi := 127) (by rw [hm5]; exact hv9.1) (by rw [hm6]; exact hv9.2))))) (cwV 3 hts gL_isActed_X6_set rfl rfl rfl (by decide +kernel) ⟨Nat.le_of_ble_eq_true rfl, Nat.le_of_ble_eq_true rfl⟩) (cls_recv (X := [(kc, .inl (cI, 40, .inl (upd fc ((10 * J) + ((Z / 4) % 5)) v9))), (kq, .inl (cI, 4, .inl mo)), (ku, .inl (cI, 16, .inl mu)), (kt, .inl (cI, 32, .inl tf)), (ka, .inl (cI, 32, .inl qf)), (kp, .inl (cI, 64, .inl mp)), (km, .inl (cI, 4, .inl (mF N C K Y)))]) hCL hK hP) hPc hK hDc hV hH hS hFc rfl hl.1 rfl (Nat.le_of_ble_eq_true rfl) dL_isActed_184 ⟨Nat.le_of_ble_eq_true rfl, Nat.le_of_ble_eq_true rfl⟩ (fun r_184 w1 H1 locs1 hq hP1 hD1 hk hS hz => ?_)
            obtain ⟨w2, ew_184, hq_184⟩ := hq
            rw [ew_184] at hP1 hD1
            obtain ⟨hP, hD⟩ := g_joinP (X := [(kc, .inl (cI, 40, .inl (upd fc ((10 * J) + ((Z / 4) % 5)) v9))), (kq, .inl (cI, 4, .inl mo)), (ku, .inl (cI, 16, .inl mu)), (kt, .inl (cI, 32, .inl tf)), (ka, .inl (cI, 32, .inl qf)), (kp, .inl (cI, 64, .inl mp)), (km, .inl (cI, 4, .inl (mF N C K Y)))]) (cx := []) (rx := []) (X' := [(kc, .inl (cI, 40, .inl (upd fc ((10 * J) + ((Z / 4) % 5)) v9))), (kq, .inl (cI, 4, .inl mo)), (ku, .inl (cI, 16, .inl mu)), (kt, .inl (cI, 32, .inl tf)), (ka, .inl (cI, 32, .inl qf)), (kp, .inl (cI, 64, .inl mp)), (km, .inl (cI, 4, .inl (mF N C K Y)))]) hP hD hk hFc hP1 hD1 [] [0, 1, 2, 3, 4, 5, 6] [0, 1, 2, 3, 4, 5, 6] rfl rfl (by decide) (by decide) (by decide) rfl
            clear hPc hDc hFc hP1 hD1 hk hz
            generalize H1 = H at hP hS ⊢
            have hP : va_P D ccl (([(kc, .inl (cI, 40, .inl (upd fc ((10 * J) + ((Z / 4) % 5)) v9))), (kq, .inl (cI, 4, .inl mo)), (ku, .inl (cI, 16, .inl mu)), (kt, .inl (cI, 32, .inl tf)), (ka, .inl (cI, 32, .inl qf)), (kp, .inl (cI, 64, .inl mp)), (km, .inl (cI, 4, .inl (mF N C K Y)))] : va_W) ++ w2) H := hP
            have hD : va_D A (([(kc, .inl (cI, 40, .inl (upd fc ((10 * J) + ((Z / 4) % 5)) v9))), (kq, .inl (cI, 4, .inl mo)), (ku, .inl (cI, 16, .inl mu)), (kt, .inl (cI, 32, .inl tf)), (ka, .inl (cI, 32, .inl qf)), (kp, .inl (cI, 64, .inl mp)), (km, .inl (cI, 4, .inl (mF N C K Y)))] : va_W) ++ w2) := hD
            obtain ⟨hCL, hq_184⟩ := hq_184
            have e8 : gN (nI J) = J := gN_nI (by omega)
            have e9 : gN (nI (Z / 4 % 5)) = Z / 4 % 5 := gN_nI (by omega)
            have hW2 := wf_set (j := nI J) (wh := nI (Z / 4 % 5)) (v := v9) hW (k_two (k_sec hJ9 hN8) (k_iif (k_in (n := 4) (by omega) (by decide)) (k_int (lo := -127) (hi := 127) (by rw [hm5]; exact hv9.1) (by rw [hm6]; exact hv9.2))))
            rw [e8, e9] at hCL hq_184 hW2
            have er_184 := hq_184
            refine lv_iload hx hb dL_isActed_187 (lv_at hl 0 rfl) ?_
            refine lv_icmp_ne (tgt := 196) hx hb dL_isActed_189 (by decide) (fun c_189 => ?_) (fun c_189 => ?_)
            · exact absurd er_184 c_189
            · refine lv_iconst (v := 1) hx hb dL_isActed_192 (by decide) ?_
              refine lv_goto (tgt := 197) hx hb dL_isActed_193 (by decide) ?_
              refine g_zret (v := 1) hx hb hr hlk hP hK hD hS (Nat.le_of_ble_eq_true rfl) (Nat.le_of_ble_eq_true rfl) dL_isActed_197 (by decide +kernel) ?_
              exact ⟨_, _, _, _, _, _, _, _, _, _, _, _, _, _, _, rfl, rfl, hCL, hW2, rc_set hR hJ4 (by omega), hN4, (by omega)⟩
          · refine lv_icmp_ne (tgt := 149) hx hb dL_isActed_132 (by decide) (fun c_132 => ?_) (fun c_132 => ?_)
            · have c_132 : (Z / 4) % 5 ≠ 4 := g_ne (a := (Z / 4) % 5) (b := 4) c_132 (by omega) (by omega)
              refine lv_iload hx hb dL_isActed_149 (lv_at hl 0 rfl) ?_
              exact hJ_151 _ (by have h8 := pk_sub_toInt (a := Z / 20 % 255) (b := 127) (by omega) (by decide); rw [show (nI 127 : Int32) = 127 from rfl] at h8; exact ⟨by omega, by omega⟩)
            · have c_132 : (Z / 4) % 5 = 4 := g_eq (a := (Z / 4) % 5) (b := 4) c_132 (by omega) (by omega)
              refine lv_iload hx hb dL_isActed_135 (lv_at hl 12 rfl) ?_
              refine lv_iconst (v := 3) hx hb dL_isActed_137 (by decide) ?_
              refine lv_irem hx hb dL_isActed_138 (by decide) ?_
              refine lv_topi (fun f ef => ?_)
              obtain rfl : f = nI (Z % 3) := ef.trans (pk_rem (a := Z) (d := 3) (by omega) (by omega) (by omega))
              refine lv_if_le (tgt := 149) hx hb dL_isActed_139 (by decide) (fun c_139 => ?_) (fun c_139 => ?_)
              · have c_139 : Z % 3 ≤ 0 := g_le (a := Z % 3) (b := 0) c_139 (by omega) (by omega)
                refine lv_iload hx hb dL_isActed_149 (lv_at hl 0 rfl) ?_
                exact hJ_151 _ (by have h8 := pk_sub_toInt (a := Z / 20 % 255) (b := 127) (by omega) (by decide); rw [show (nI 127 : Int32) = 127 from rfl] at h8; exact ⟨by omega, by omega⟩)
              · have c_139 : 0 < Z % 3 := g_nle (a := Z % 3) (b := 0) c_139 (by omega) (by omega)
                refine lv_iload hx hb dL_isActed_142 (lv_at hl 0 rfl) ?_
                refine lv_iconst (v := 2) hx hb dL_isActed_144 (by decide) ?_
                refine lv_idiv hx hb dL_isActed_145 (by decide) ?_
                refine lv_goto (tgt := 151) hx hb dL_isActed_146 (by decide) ?_
                exact hJ_151 _ (by have h8 := pk_sub_toInt (a := Z / 20 % 255) (b := 127) (by omega) (by decide); rw [show (nI 127 : Int32) = 127 from rfl] at h8; rw [(qr_toInt (x := nI (Z / 20 % 255) - 127) (y := 2) (by decide)).1, show (2 : Int32).toInt = 2 by decide]; have t1 := Int.tmod_add_mul_tdiv (nI (Z / 20 % 255) - 127).toInt 2; have t2 := Int.tmod_lt_of_pos (nI (Z / 20 % 255) - 127).toInt (show (0 : Int) < 2 by decide); have t3 := Int.lt_tmod_of_pos (nI (Z / 20 % 255) - 127).toInt (show (0 : Int) < 2 by decide); omega)
      · have c_30 : N = 0 := g_eq (a := N) (b := 0) c_30 (by omega) (by omega)
        refine lv_aload hx hb dL_isActed_33 (lv_at hl 8 rfl) ?_
        refine lv_iconst (v := 0) hx hb dL_isActed_35 (by decide) ?_
        refine va_iald hx hb hK hP 6 0 rfl rfl (by unfold vp_in; decide) dL_isActed_36 ?_
        refine lv_topi (fun f ef => ?_)
        obtain rfl : f = (mF N C K Y) 0 := ef.trans (congrArg (mF N C K Y) (show (0 : Int32).toNatClampNeg = 0 by decide))
        refine lv_topi (fun f ef => ?_)
        obtain rfl : f = nI N := ef.trans (rfl)
        refine lv_iconst (v := 4) hx hb dL_isActed_37 (by decide) ?_
        refine lv_icmp_ne (tgt := 43) hx hb dL_isActed_38 (by decide) (fun c_38 => ?_) (fun c_38 => ?_)
        · have c_38 : N ≠ 4 := g_ne (a := N) (b := 4) c_38 (by omega) (by omega)
          refine lv_aload_n hx hb dL_isActed_43 rfl (lv_at hl 2 rfl) ?_
          refine lv_bipush (v := 10) hx hb dL_isActed_44 (by decide) ?_
          refine lv_aload hx hb dL_isActed_46 (lv_at hl 8 rfl) ?_
          refine lv_iconst (v := 0) hx hb dL_isActed_48 (by decide) ?_
          refine va_iald hx hb hK hP 6 0 rfl rfl (by unfold vp_in; decide) dL_isActed_49 ?_
          refine lv_topi (fun f ef => ?_)
          obtain rfl : f = (mF N C K Y) 0 := ef.trans (congrArg (mF N C K Y) (show (0 : Int32).toNatClampNeg = 0 by decide))
          refine lv_topi (fun f ef => ?_)
          obtain rfl : f = nI N := ef.trans (rfl)
          refine lv_imul hx hb dL_isActed_50 ?_
          refine lv_topi (fun f ef => ?_)
          obtain rfl : f = nI (10 * N) := ef.trans (pk_mul _ _)
          refine lv_bipush (v := 64) hx hb dL_isActed_51 (by decide) ?_
          refine va_iast hx hb hK hP hD hS 0 0 rfl rfl (vp_in_nI (by omega) (by omega)) dL_isActed_53 (fun H locs hP hD hS => ?_)
          rw [show (nI (10 * N)).toNatClampNeg = 10 * N from (nI_clamp (by omega))] at hP hD
          have hP : va_P D ccl (([(kc, .inl (cI, 40, .inl (upd fc (10 * N) 64))), (kq, .inl (cI, 4, .inl mo)), (ku, .inl (cI, 16, .inl mu)), (kt, .inl (cI, 32, .inl tf)), (ka, .inl (cI, 32, .inl qf)), (kp, .inl (cI, 64, .inl mp)), (km, .inl (cI, 4, .inl (mF N C K Y)))] : va_W) ++ w) H := hP
          have hD : va_D A (([(kc, .inl (cI, 40, .inl (upd fc (10 * N) 64))), (kq, .inl (cI, 4, .inl mo)), (ku, .inl (cI, 16, .inl mu)), (kt, .inl (cI, 32, .inl tf)), (ka, .inl (cI, 32, .inl qf)), (kp, .inl (cI, 64, .inl mp)), (km, .inl (cI, 4, .inl (mF N C K Y)))] : va_W) ++ w) := hD
          refine lv_aload_n hx hb dL_isActed_54 rfl (lv_at hl 2 rfl) ?_
          refine lv_bipush (v := 10) hx hb dL_isActed_55 (by decide) ?_
          refine lv_aload hx hb dL_isActed_57 (lv_at hl 8 rfl) ?_
          refine lv_iconst (v := 0) hx hb dL_isActed_59 (by decide) ?_
          refine va_iald hx hb hK hP 6 0 rfl rfl (by unfold vp_in; decide) dL_isActed_60 ?_
          refine lv_topi (fun f ef => ?_)
          obtain rfl : f = (mF N C K Y) 0 := ef.trans (congrArg (mF N C K Y) (show (0 : Int32).toNatClampNeg = 0 by decide))
          refine lv_topi (fun f ef => ?_)
          obtain rfl : f = nI N := ef.trans (rfl)
          refine lv_imul hx hb dL_isActed_61 ?_
          refine lv_topi (fun f ef => ?_)
          obtain rfl : f = nI (10 * N) := ef.trans (pk_mul _ _)
          refine lv_iconst (v := 5) hx hb dL_isActed_62 (by decide) ?_
          refine lv_iadd hx hb dL_isActed_63 ?_
          refine lv_topi (fun f ef => ?_)
          obtain rfl : f = nI ((10 * N) + 5) := ef.trans (nI_add _ _)
          refine lv_iload hx hb dL_isActed_64 (lv_at hl 10 rfl) ?_
          refine lv_iconst (v := 3) hx hb dL_isActed_66 (by decide) ?_
          refine lv_irem hx hb dL_isActed_67 (by decide) ?_
          refine lv_topi (fun f ef => ?_)
          obtain rfl : f = nI (Z % 3) := ef.trans (pk_rem (a := Z) (d := 3) (by omega) (by omega) (by omega))
          refine va_iast hx hb hK hP hD hS 0 0 rfl rfl (vp_in_nI (by omega) (by omega)) dL_isActed_68 (fun H locs hP hD hS => ?_)
          rw [show (nI ((10 * N) + 5)).toNatClampNeg = (10 * N) + 5 from (nI_clamp (by omega))] at hP hD
          have hP : va_P D ccl (([(kc, .inl (cI, 40, .inl (upd (upd fc (10 * N) 64) ((10 * N) + 5) (nI (Z % 3))))), (kq, .inl (cI, 4, .inl mo)), (ku, .inl (cI, 16, .inl mu)), (kt, .inl (cI, 32, .inl tf)), (ka, .inl (cI, 32, .inl qf)), (kp, .inl (cI, 64, .inl mp)), (km, .inl (cI, 4, .inl (mF N C K Y)))] : va_W) ++ w) H := hP
          have hD : va_D A (([(kc, .inl (cI, 40, .inl (upd (upd fc (10 * N) 64) ((10 * N) + 5) (nI (Z % 3))))), (kq, .inl (cI, 4, .inl mo)), (ku, .inl (cI, 16, .inl mu)), (kt, .inl (cI, 32, .inl tf)), (ka, .inl (cI, 32, .inl qf)), (kp, .inl (cI, 64, .inl mp)), (km, .inl (cI, 4, .inl (mF N C K Y)))] : va_W) ++ w) := hD
          refine lv_aload hx hb dL_isActed_69 (lv_at hl 8 rfl) ?_
          refine lv_iconst (v := 0) hx hb dL_isActed_71 (by decide) ?_
          refine lv_dup2_11 hx hb dL_isActed_72 rfl rfl ?_
          refine va_iald hx hb hK hP 6 0 rfl rfl (by unfold vp_in; decide) dL_isActed_73 ?_
          refine lv_topi (fun f ef => ?_)
          obtain rfl : f = (mF N C K Y) 0 := ef.trans (congrArg (mF N C K Y) (show (0 : Int32).toNatClampNeg = 0 by decide))
          refine lv_topi (fun f ef => ?_)
          obtain rfl : f = nI N := ef.trans (rfl)
          refine lv_iconst (v := 1) hx hb dL_isActed_74 (by decide) ?_
          refine lv_iadd hx hb dL_isActed_75 ?_
          refine lv_topi (fun f ef => ?_)
          obtain rfl : f = nI (N + 1) := ef.trans (nI_add _ _)
          refine va_iast hx hb hK hP hD hS 6 0 rfl rfl (by unfold vp_in; decide) dL_isActed_76 (fun H locs hP hD hS => ?_)
          rw [show ((0 : Int32)).toNatClampNeg = 0 from (by decide)] at hP hD
          rw [show upd (mF N C K Y) 0 (nI (N + 1)) = mF (N + 1) C K Y from mF_0 rfl] at hP hD
          have hP : va_P D ccl (([(kc, .inl (cI, 40, .inl (upd (upd fc (10 * N) 64) ((10 * N) + 5) (nI (Z % 3))))), (kq, .inl (cI, 4, .inl mo)), (ku, .inl (cI, 16, .inl mu)), (kt, .inl (cI, 32, .inl tf)), (ka, .inl (cI, 32, .inl qf)), (kp, .inl (cI, 64, .inl mp)), (km, .inl (cI, 4, .inl (mF (N + 1) C K Y)))] : va_W) ++ w) H := hP
          have hD : va_D A (([(kc, .inl (cI, 40, .inl (upd (upd fc (10 * N) 64) ((10 * N) + 5) (nI (Z % 3))))), (kq, .inl (cI, 4, .inl mo)), (ku, .inl (cI, 16, .inl mu)), (kt, .inl (cI, 32, .inl tf)), (ka, .inl (cI, 32, .inl qf)), (kp, .inl (cI, 64, .inl mp)), (km, .inl (cI, 4, .inl (mF (N + 1) C K Y)))] : va_W) ++ w) := hD
          refine lv_aload_n hx hb dL_isActed_77 rfl (lv_at hl 1 rfl) ?_
          refine lv_iload hx hb dL_isActed_78 (lv_at hl 10 rfl) ?_
          refine lv_iconst (v := 3) hx hb dL_isActed_80 (by decide) ?_
          refine lv_irem hx hb dL_isActed_81 (by decide) ?_
          refine lv_topi (fun f ef => ?_)
          obtain rfl : f = nI (Z % 3) := ef.trans (pk_rem (a := Z) (d := 3) (by omega) (by omega) (by omega))
          have hPc := hP.part (X := [(kc, .inl (cI, 40, .inl (upd (upd fc (10 * N) 64) ((10 * N) + 5) (nI (Z % 3))))), (kq, .inl (cI, 4, .inl mo)), (ku, .inl (cI, 16, .inl mu)), (kt, .inl (cI, 32, .inl tf)), (ka, .inl (cI, 32, .inl qf)), (kp, .inl (cI, 64, .inl mp)), (km, .inl (cI, 4, .inl (mF (N + 1) C K Y)))]) (cx := []) [] rfl
          have hDc := hD.part (X := [(kc, .inl (cI, 40, .inl (upd (upd fc (10 * N) 64) ((10 * N) + 5) (nI (Z % 3))))), (kq, .inl (cI, 4, .inl mo)), (ku, .inl (cI, 16, .inl mu)), (kt, .inl (cI, 32, .inl tf)), (ka, .inl (cI, 32, .inl qf)), (kp, .inl (cI, 64, .inl mp)), (km, .inl (cI, 4, .inl (mF (N + 1) C K Y)))]) (cx := []) [] (by decide) rfl
          have hFc := va_freeP (X := [(kc, .inl (cI, 40, .inl (upd (upd fc (10 * N) 64) ((10 * N) + 5) (nI (Z % 3))))), (kq, .inl (cI, 4, .inl mo)), (ku, .inl (cI, 16, .inl mu)), (kt, .inl (cI, 32, .inl tf)), (ka, .inl (cI, 32, .inl qf)), (kp, .inl (cI, 64, .inl mp)), (km, .inl (cI, 4, .inl (mF (N + 1) C K Y)))]) (cx := []) hD hS hA [] rfl
          refine g_Vi (As := [.int (nI (Z % 3))]) (rest := []) CF (c3_X6_section l hfl D cI cJ cO df H.size t0 w N mc ms mw C mo K mu Y rw0 tf qf mp (nI (Z % 3)) hCL hW (k_two (k_in (n := 2) (by omega) (by decide)) (by rw [if_pos (by omega)]; decide))) (cwV 1 hts gL_isActed_X6_section rfl rfl rfl (by decide +kernel) ⟨Nat.le_of_ble_eq_true rfl, Nat.le_of_ble_eq_true rfl⟩) (cls_recv (X := [(kc, .inl (cI, 40, .inl (upd (upd fc (10 * N) 64) ((10 * N) + 5) (nI (Z % 3))))), (kq, .inl (cI, 4, .inl mo)), (ku, .inl (cI, 16, .inl mu)), (kt, .inl (cI, 32, .inl tf)), (ka, .inl (cI, 32, .inl qf)), (kp, .inl (cI, 64, .inl mp)), (km, .inl (cI, 4, .inl (mF (N + 1) C K Y)))]) hCL hK hP) hPc hK hDc hV hH hS hFc rfl hl.1 rfl (Nat.le_of_ble_eq_true rfl) dL_isActed_82 ⟨Nat.le_of_ble_eq_true rfl, Nat.le_of_ble_eq_true rfl⟩ (fun r_82 w1 H1 locs1 hq hP1 hD1 hk hS hz => ?_)
          obtain ⟨w2, ew_82, hq_82⟩ := hq
          rw [ew_82] at hP1 hD1
          obtain ⟨hP, hD⟩ := g_joinP (X := [(kc, .inl (cI, 40, .inl (upd (upd fc (10 * N) 64) ((10 * N) + 5) (nI (Z % 3))))), (kq, .inl (cI, 4, .inl mo)), (ku, .inl (cI, 16, .inl mu)), (kt, .inl (cI, 32, .inl tf)), (ka, .inl (cI, 32, .inl qf)), (kp, .inl (cI, 64, .inl mp)), (km, .inl (cI, 4, .inl (mF (N + 1) C K Y)))]) (cx := []) (rx := []) (X' := [(kc, .inl (cI, 40, .inl (upd (upd fc (10 * N) 64) ((10 * N) + 5) (nI (Z % 3))))), (kq, .inl (cI, 4, .inl mo)), (ku, .inl (cI, 16, .inl mu)), (kt, .inl (cI, 32, .inl tf)), (ka, .inl (cI, 32, .inl qf)), (kp, .inl (cI, 64, .inl mp)), (km, .inl (cI, 4, .inl (mF (N + 1) C K Y)))]) hP hD hk hFc hP1 hD1 [] [0, 1, 2, 3, 4, 5, 6] [0, 1, 2, 3, 4, 5, 6] rfl rfl (by decide) (by decide) (by decide) rfl
          clear hPc hDc hFc hP1 hD1 hk hz
          generalize H1 = H at hP hS ⊢
          have hP : va_P D ccl (([(kc, .inl (cI, 40, .inl (upd (upd fc (10 * N) 64) ((10 * N) + 5) (nI (Z % 3))))), (kq, .inl (cI, 4, .inl mo)), (ku, .inl (cI, 16, .inl mu)), (kt, .inl (cI, 32, .inl tf)), (ka, .inl (cI, 32, .inl qf)), (kp, .inl (cI, 64, .inl mp)), (km, .inl (cI, 4, .inl (mF (N + 1) C K Y)))] : va_W) ++ w2) H := hP
          have hD : va_D A (([(kc, .inl (cI, 40, .inl (upd (upd fc (10 * N) 64) ((10 * N) + 5) (nI (Z % 3))))), (kq, .inl (cI, 4, .inl mo)), (ku, .inl (cI, 16, .inl mu)), (kt, .inl (cI, 32, .inl tf)), (ka, .inl (cI, 32, .inl qf)), (kp, .inl (cI, 64, .inl mp)), (km, .inl (cI, 4, .inl (mF (N + 1) C K Y)))] : va_W) ++ w2) := hD
          obtain ⟨hCL, hq_82⟩ := hq_82
          have er_82 := hq_82
          have hK9 : gGo (isIn (nI (Z % 3)) 0 2) (if N < 8 then 1 else 0) 1 = 0 := k_two (k_in (n := 2) (by omega) (by decide)) (by rw [if_pos (by omega)]; decide)
          refine lv_aload hx hb dL_isActed_85 (lv_at hl 8 rfl) ?_
          refine lv_iconst (v := 0) hx hb dL_isActed_87 (by decide) ?_
          refine va_iald hx hb hK hP 6 0 rfl rfl (by unfold vp_in; decide) dL_isActed_88 ?_
          refine lv_topi (fun f ef => ?_)
          obtain rfl : f = (mF (N + 1) C K Y) 0 := ef.trans (congrArg (mF (N + 1) C K Y) (show (0 : Int32).toNatClampNeg = 0 by decide))
          refine lv_topi (fun f ef => ?_)
          obtain rfl : f = nI (N + 1) := ef.trans (rfl)
          refine lv_iconst (v := 1) hx hb dL_isActed_89 (by decide) ?_
          refine lv_isub hx hb dL_isActed_90 ?_
          refine lv_topi (fun f ef => ?_)
          obtain rfl : f = nI N := ef.trans ((pk_sub (a := N + 1) (b := 1) (by omega)).trans (by rw [Nat.add_sub_cancel]))
          refine lv_icmp_ne (tgt := 98) hx hb dL_isActed_91 (by decide) (fun c_91 => ?_) (fun c_91 => ?_)
          · exact absurd er_82 c_91
          · refine lv_iconst (v := 1) hx hb dL_isActed_94 (by decide) ?_
            refine lv_goto (tgt := 99) hx hb dL_isActed_95 (by decide) ?_
            refine g_zret (v := 1) hx hb hr hlk hP hK hD hS (Nat.le_of_ble_eq_true rfl) (Nat.le_of_ble_eq_true rfl) dL_isActed_99 (by decide +kernel) ?_
            exact ⟨_, _, _, _, _, _, _, _, _, _, _, _, _, _, _, rfl, rfl, hCL, wf_section hW hK9, rc_section hR (by omega), (by omega), (by omega)⟩
        · have c_38 : N = 4 := g_eq (a := N) (b := 4) c_38 (by omega) (by omega)
          refine lv_iconst (v := 1) hx hb dL_isActed_41 (by decide) ?_
          refine g_zret (v := 1) hx hb hr hlk hP hK hD hS (Nat.le_of_ble_eq_true rfl) (Nat.le_of_ble_eq_true rfl) dL_isActed_42 (by decide +kernel) ?_
          exact ⟨_, _, _, _, _, _, _, _, _, _, _, _, _, _, _, rfl, rfl, hCL, hW, hR, hN4, (by omega)⟩
  · refine lv_if_ne (tgt := 11) hx hb dL_isActed_4 (by decide) (fun c_4 => ?_) (fun c_4 => ?_)
    · have c_4 : N ≠ 0 := g_ne (a := N) (b := 0) c_4 (by omega) (by omega)
      refine lv_iload hx hb dL_isActed_11 (lv_at hl 9 rfl) ?_
      refine lv_aload hx hb dL_isActed_13 (lv_at hl 7 rfl) ?_
      refine lv_iconst (v := 0) hx hb dL_isActed_15 (by decide) ?_
      refine va_iald hx hb hK hP 6 0 rfl rfl (by unfold vp_in; decide) dL_isActed_16 ?_
      refine lv_topi (fun f ef => ?_)
      obtain rfl : f = (mF N C K Y) 0 := ef.trans (congrArg (mF N C K Y) (show (0 : Int32).toNatClampNeg = 0 by decide))
      refine lv_topi (fun f ef => ?_)
      obtain rfl : f = nI N := ef.trans (rfl)
      refine lv_irem hx hb dL_isActed_17 (nI_ne0 (by omega) (by omega)) ?_
      refine lv_topi (fun f ef => ?_)
      obtain rfl : f = nI (Z % N) := ef.trans (pk_rem (a := Z) (d := N) (by omega) (by omega) (by omega))
      exact hJ_18 _ (by first | exact ⟨0, rfl, fun h9 => h9, by omega⟩ | exact ⟨Z % N, rfl, fun h9 => Nat.mod_lt _ h9, by have := Nat.mod_lt Z (show 0 < N by omega); omega⟩)
    · have c_4 : N = 0 := g_eq (a := N) (b := 0) c_4 (by omega) (by omega)
      refine lv_iconst (v := 0) hx hb dL_isActed_7 (by decide) ?_
      refine lv_goto (tgt := 18) hx hb dL_isActed_8 (by decide) ?_
      exact hJ_18 _ (by first | exact ⟨0, rfl, fun h9 => h9, by omega⟩ | exact ⟨Z % N, rfl, fun h9 => Nat.mod_lt _ h9, by have := Nat.mod_lt Z (show 0 < N by omega); omega⟩)
