set_option maxHeartbeats 4000000 in
set_option maxRecDepth 100000 in
theorem c_L_areGains (l : Launch) (hfl : l.stackTraces = false) (D : va_G) (cI cJ cO : ClassId) (df sz : Nat) (t0 : Nat) (w : va_W) (kc : Nat) (kq : Nat) (km : Nat) (fc : Nat → Int32) (N : Nat) (mc : Nat → Int32) (ms : Nat → Int32) (mw : Nat → Int32) (C : Nat) (mo : Nat → Int32) (K : Nat) (mu : Nat → Int32) (Y : Nat) (rw0 : Nat → Int32) (tf : Nat → Int32) (qf : Nat → Int32) (mp : Nat → Int32) (Z : Nat) (hCL : CLS cI cJ cO df t0 w N mc ms mw C mo K mu Y rw0 tf qf) (hW : WF N mc ms mw C mo K Y rw0 mp tf qf) (hN4 : N ≤ 4) (hR : RC fc mc ms mw N) (hZ : Z < 1000000000) : MetI l yL_areGains wsL_areGains ({ frames := 13, cells := 18, slots := 120, locals := 424 } : Room) D (gTY cI cJ cO) df (([(kc, .inl (cI, 40, .inl fc)), (kq, .inl (cI, 4, .inl mo)), (km, .inl (cI, 4, .inl (mF N C K Y)))] : va_W) ++ w) sz [.ref t0, .ref kc, .ref kq, .ref km, .int (nI Z)] (fun (r : Int32) (wZ : va_W) => ∃ (w1 : va_W), wZ = ([(kc, .inl (cI, 40, .inl fc)), (kq, .inl (cI, 4, .inl mo)), (km, .inl (cI, 4, .inl (mF N C K Y)))] : va_W) ++ w1 ∧ r = 1 ∧ CLS cI cJ cO df t0 w1 N mc ms mw C mo K mu Y rw0 tf qf) := by
  refine g_of (cc := cL_areGains) (nL := 26) (ret := (some .boolean)) (D := D) (TY := (gTY cI cJ cO)) (df := df) (Qc := fun A => va_Qi (fun (r : Int32) (wZ : va_W) => ∃ (w1 : va_W), wZ = ([(kc, .inl (cI, 40, .inl fc)), (kq, .inl (cI, 4, .inl mo)), (km, .inl (cI, 4, .inl (mF N C K Y)))] : va_W) ++ w1 ∧ r = 1 ∧ CLS cI cJ cO df t0 w1 N mc ms mw C mo K mu Y rw0 tf qf) (gB D (gTY cI cJ cO) A) A) (by decide +kernel) rfl (Nat.le_of_ble_eq_true rfl) ?_
  intro p e s m below meth c ls A hsz C0 hin hl
  obtain ⟨CF, hr, hlk, hA, hS, hP, hK, hD, hV, hH⟩ := C0
  have CF : CallFix p m c cL_areGains 26 s _ wsL_areGains RL := CF
  obtain ⟨hx, hb, hml, hown, hts⟩ := id CF
  subst hsz
  have hmethodLink_RL_21 : (Cond.methodLink RL 21 yL_gain).before _ s = true := hts _ (List.mem_of_getElem? (i := 3) rfl)
  have hmethodLink_RL_33 : (Cond.methodLink RL 33 yX6_gain).before _ s = true := hts _ (List.mem_of_getElem? (i := 17) rfl)
  have hmethodLink_RL_42 : (Cond.methodLink RL 42 yX6_meets).before _ s = true := hts _ (List.mem_of_getElem? (i := 110) rfl)
  have hconstantLong_RL_40 : (Cond.constantLong RL 40 (1000)).before _ s = true := hts _ (List.mem_of_getElem? (i := 2) rfl)
  have hconstantLong_RL_38 : (Cond.constantLong RL 38 (1000000)).before _ s = true := hts _ (List.mem_of_getElem? (i := 1) rfl)
  have hmethodLink_RL_29 : (Cond.methodLink RL 29 yL_common).before _ s = true := hts _ (List.mem_of_getElem? (i := 14) rfl)
  have hmethodLink_RL_25 : (Cond.methodLink RL 25 yL_isStable).before _ s = true := hts _ (List.mem_of_getElem? (i := 8) rfl)
  have hP : va_P D ccl (([(kc, .inl (cI, 40, .inl fc)), (kq, .inl (cI, 4, .inl mo)), (km, .inl (cI, 4, .inl (mF N C K Y)))] : va_W) ++ w) s.heap := hP
  have hl : lv_has ls 26 [(0, .ref t0), (1, .ref kc), (2, .ref kq), (3, .ref km), (4, .int (nI Z))] := hl
  obtain ⟨hN8, hC8, hmz, hsz9, hc, hs, hw, hO, hiM, hK6, hY, hrw, hm8, hp, ht, hq⟩ := id hW
  have hCN := wf_CN hW
  have hC4 : C ≤ 4 := by omega
  have hO8 : ∀ i, i < C → gN (mo i) < 8 := fun i hi => Nat.lt_of_lt_of_le (hO i hi).1 hN8
  have hw3 : Z % 3 ≤ 2 := by omega
  have hq3 : (if Z % 3 = 2 then 2 else 4) ≤ 4 := by split <;> decide
  refine lv_iload hx hb dL_areGains_0 (lv_at hl 4 rfl) ?_
  refine lv_iconst (v := 3) hx hb dL_areGains_2 (by decide) ?_
  refine lv_irem hx hb dL_areGains_3 (by decide) ?_
  refine lv_topi (fun f ef => ?_)
  obtain rfl : f = nI (Z % 3) := ef.trans (pk_rem (a := Z) (d := 3) (by omega) (by omega) (by omega))
  refine lv_istore (lv' := [(5, .int (nI (Z % 3))), (0, .ref t0), (1, .ref kc), (2, .ref kq), (3, .ref km), (4, .int (nI Z))]) hx hb dL_areGains_4 hl (by decide) rfl (fun ls hl => ?_)
  refine lv_aload_n hx hb dL_areGains_6 rfl (lv_at hl 4 rfl) ?_
  refine lv_iconst (v := 1) hx hb dL_areGains_7 (by decide) ?_
  refine va_iald hx hb hK hP 2 0 rfl rfl (by unfold vp_in; decide) dL_areGains_8 ?_
  refine lv_topi (fun f ef => ?_)
  obtain rfl : f = (mF N C K Y) 1 := ef.trans (congrArg (mF N C K Y) (show (1 : Int32).toNatClampNeg = 1 by decide))
  refine lv_topi (fun f ef => ?_)
  obtain rfl : f = nI C := ef.trans (rfl)
  refine lv_iload hx hb dL_areGains_9 (lv_at hl 0 rfl) ?_
  refine lv_iconst (v := 2) hx hb dL_areGains_11 (by decide) ?_
  refine g_phii (ls := ls) (J := 20) (st1 := [.int (nI C)]) (REL := fun v9 => v9 = nI (if Z % 3 = 2 then 2 else 4)) (fun v9 hb_20 => ?_) (fun hJ_20 => ?_)
  · subst hb_20
    refine lv_icmp_le (tgt := 25) hx hb dL_areGains_20 (by decide) (fun c_20 => ?_) (fun c_20 => ?_)
    · have c_20 : C ≤ (if Z % 3 = 2 then 2 else 4) := g_le (a := C) (b := (if Z % 3 = 2 then 2 else 4)) c_20 (by omega) (by omega)
      have hCw : C ≤ (if Z % 3 = 2 then 2 else 4) := c_20
      refine lv_iload hx hb dL_areGains_25 (lv_at hl 5 rfl) ?_
      refine lv_iconst (v := 3) hx hb dL_areGains_27 (by decide) ?_
      refine lv_idiv hx hb dL_areGains_28 (by decide) ?_
      refine lv_topi (fun f ef => ?_)
      obtain rfl : f = nI (Z / 3) := ef.trans (pk_div (a := Z) (d := 3) (by omega) (by omega) (by omega))
      refine lv_sipush (v := 10001) hx hb dL_areGains_29 (by decide) ?_
      refine lv_irem hx hb dL_areGains_32 (by decide) ?_
      refine lv_topi (fun f ef => ?_)
      obtain rfl : f = nI ((Z / 3) % 10001) := ef.trans (pk_rem (a := Z / 3) (d := 10001) (by omega) (by omega) (by omega))
      refine lv_istore (lv' := [(6, .int (nI ((Z / 3) % 10001))), (5, .int (nI (Z % 3))), (0, .ref t0), (1, .ref kc), (2, .ref kq), (3, .ref km), (4, .int (nI Z))]) hx hb dL_areGains_33 hl (by decide) rfl (fun ls hl => ?_)
      refine lv_iload hx hb dL_areGains_35 (lv_at hl 6 rfl) ?_
      refine lv_iconst (v := 2) hx hb dL_areGains_37 (by decide) ?_
      refine lv_irem hx hb dL_areGains_38 (by decide) ?_
      refine lv_topi (fun f ef => ?_)
      obtain rfl : f = nI (Z % 2) := ef.trans (pk_rem (a := Z) (d := 2) (by omega) (by omega) (by omega))
      refine g_phii (ls := ls) (J := 53) (st1 := []) (REL := fun v9 => ∃ L0, L0 ≤ 10000 ∧ v9 = nI L0) (fun v9 hb_53 => ?_) (fun hJ_53 => ?_)
      · obtain ⟨L0, hL0, rfl⟩ := hb_53
        refine lv_istore (lv' := [(6, .int (nI L0)), (5, .int (nI (Z % 3))), (0, .ref t0), (1, .ref kc), (2, .ref kq), (3, .ref km), (4, .int (nI Z))]) hx hb dL_areGains_53 hl (by decide) rfl (fun ls hl => ?_)
        refine lv_iload hx hb dL_areGains_55 (lv_at hl 0 rfl) ?_
        refine lv_iload hx hb dL_areGains_57 (lv_at hl 6 rfl) ?_
        refine lv_bipush (v := 7) hx hb dL_areGains_59 (by decide) ?_
        refine lv_idiv hx hb dL_areGains_61 (by decide) ?_
        refine lv_topi (fun f ef => ?_)
        obtain rfl : f = nI (Z / 7) := ef.trans (pk_div (a := Z) (d := 7) (by omega) (by omega) (by omega))
        refine lv_sipush (v := 10001) hx hb dL_areGains_62 (by decide) ?_
        refine lv_iload hx hb dL_areGains_65 (lv_at hl 0 rfl) ?_
        refine lv_isub hx hb dL_areGains_67 ?_
        refine lv_topi (fun f ef => ?_)
        obtain rfl : f = nI (10001 - L0) := ef.trans (pk_sub (a := 10001) (b := L0) (by omega))
        have hmd9 := Nat.mod_lt (Z / 7) (show 0 < 10001 - L0 by omega)
        refine lv_irem hx hb dL_areGains_68 (nI_ne0 (by omega) (by omega)) ?_
        refine lv_topi (fun f ef => ?_)
        obtain rfl : f = nI ((Z / 7) % (10001 - L0)) := ef.trans (pk_rem (a := Z / 7) (d := 10001 - L0) (by omega) (by omega) (by omega))
        refine lv_iadd hx hb dL_areGains_69 ?_
        refine lv_topi (fun f ef => ?_)
        obtain rfl : f = nI (L0 + ((Z / 7) % (10001 - L0))) := ef.trans (nI_add _ _)
        obtain ⟨H0, eH0⟩ : ∃ H0, H0 = L0 + Z / 7 % (10001 - L0) := ⟨_, rfl⟩
        have hLH : L0 ≤ H0 := by omega
        have hH0 : H0 ≤ 10000 := by omega
        refine lv_topi (fun f ef => ?_)
        obtain rfl : f = nI H0 := ef.trans (congrArg nI eH0.symm)
        refine lv_istore (lv' := [(7, .int (nI H0)), (6, .int (nI L0)), (5, .int (nI (Z % 3))), (0, .ref t0), (1, .ref kc), (2, .ref kq), (3, .ref km), (4, .int (nI Z))]) hx hb dL_areGains_70 hl (by decide) rfl (fun ls hl => ?_)
        refine lv_aload_n hx hb dL_areGains_72 rfl (lv_at hl 4 rfl) ?_
        refine lv_aload_n hx hb dL_areGains_73 rfl (lv_at hl 5 rfl) ?_
        refine lv_aload_n hx hb dL_areGains_74 rfl (lv_at hl 6 rfl) ?_
        refine lv_iload hx hb dL_areGains_75 (lv_at hl 2 rfl) ?_
        refine lv_iconst (v := 0) hx hb dL_areGains_77 (by decide) ?_
        have hPc := hP.sub (ws' := [(kc, .inl (cI, 40, .inl fc)), (kq, .inl (cI, 4, .inl mo)), (km, .inl (cI, 4, .inl (mF N C K Y)))]) [0, 1, 2] rfl
        have hDc := hD.sub (ws' := [(kc, .inl (cI, 40, .inl fc)), (kq, .inl (cI, 4, .inl mo)), (km, .inl (cI, 4, .inl (mF N C K Y)))]) [0, 1, 2] (by decide) rfl
        have hFc := va_free (wc := [(kc, .inl (cI, 40, .inl fc)), (kq, .inl (cI, 4, .inl mo)), (km, .inl (cI, 4, .inl (mF N C K Y)))]) hD hS hA [0, 1, 2] rfl
        refine g_Sl (As := [.ref kc, .ref kq, .ref km, .int (nI (Z % 3)), .int 0]) (rest := []) CF (c_L_gain_o l D cI cJ cO df s.heap.size kc kq km fc mc ms mw mo N C K Y (Z % 3) hR hN4 hC4 hO hc hw3 hCw) (va_cwS 5 hts gL_areGains_L_gain rfl rfl rfl (by decide +kernel) ⟨Nat.le_of_ble_eq_true rfl, Nat.le_of_ble_eq_true rfl⟩)  hPc hK hDc hV hH hS hFc rfl hl.1 rfl (Nat.le_of_ble_eq_true rfl) dL_areGains_78 ⟨Nat.le_of_ble_eq_true rfl, Nat.le_of_ble_eq_true rfl⟩ (fun ov w1 H1 locs1 hq hP1 hD1 hk hS hz => ?_)
        obtain ⟨rfl, hq_78⟩ := hq
        have hP := g_keepR hP hD [0, 1, 2] rfl hk hP1
        clear hPc hDc hFc hP1 hD1 hk hz
        generalize H1 = H at hP hS ⊢
        have hP : va_P D ccl (([(kc, .inl (cI, 40, .inl fc)), (kq, .inl (cI, 4, .inl mo)), (km, .inl (cI, 4, .inl (mF N C K Y)))] : va_W) ++ w) H := hP
        have hD : va_D A (([(kc, .inl (cI, 40, .inl fc)), (kq, .inl (cI, 4, .inl mo)), (km, .inl (cI, 4, .inl (mF N C K Y)))] : va_W) ++ w) := hD
        have eo := hq_78
        refine lv_lstore (lv' := [(8, .long ov), (7, .int (nI H0)), (6, .int (nI L0)), (5, .int (nI (Z % 3))), (0, .ref t0), (1, .ref kc), (2, .ref kq), (3, .ref km), (4, .int (nI Z))]) hx hb dL_areGains_81 hl (by decide) rfl (fun ls hl => ?_)
        refine lv_aload_n hx hb dL_areGains_83 rfl (lv_at hl 5 rfl) ?_
        refine lv_aload_n hx hb dL_areGains_84 rfl (lv_at hl 6 rfl) ?_
        refine lv_aload_n hx hb dL_areGains_85 rfl (lv_at hl 7 rfl) ?_
        refine lv_iload hx hb dL_areGains_86 (lv_at hl 3 rfl) ?_
        refine lv_iconst (v := 1) hx hb dL_areGains_88 (by decide) ?_
        have hPc := hP.sub (ws' := [(kc, .inl (cI, 40, .inl fc)), (kq, .inl (cI, 4, .inl mo)), (km, .inl (cI, 4, .inl (mF N C K Y)))]) [0, 1, 2] rfl
        have hDc := hD.sub (ws' := [(kc, .inl (cI, 40, .inl fc)), (kq, .inl (cI, 4, .inl mo)), (km, .inl (cI, 4, .inl (mF N C K Y)))]) [0, 1, 2] (by decide) rfl
        have hFc := va_free (wc := [(kc, .inl (cI, 40, .inl fc)), (kq, .inl (cI, 4, .inl mo)), (km, .inl (cI, 4, .inl (mF N C K Y)))]) hD hS hA [0, 1, 2] rfl
        refine g_Sl (As := [.ref kc, .ref kq, .ref km, .int (nI (Z % 3)), .int 1]) (rest := []) CF (c_L_gain_u l D cI cJ cO df H.size kc kq km fc mc ms mw mo N C K Y (Z % 3) hR hN4 hC4 hO hc hw3 hCw) (va_cwS 5 hts gL_areGains_L_gain rfl rfl rfl (by decide +kernel) ⟨Nat.le_of_ble_eq_true rfl, Nat.le_of_ble_eq_true rfl⟩)  hPc hK hDc hV hH hS hFc rfl hl.1 rfl (Nat.le_of_ble_eq_true rfl) dL_areGains_89 ⟨Nat.le_of_ble_eq_true rfl, Nat.le_of_ble_eq_true rfl⟩ (fun un w1 H1 locs1 hq hP1 hD1 hk hS hz => ?_)
        obtain ⟨rfl, hq_89⟩ := hq
        have hP := g_keepR hP hD [0, 1, 2] rfl hk hP1
        clear hPc hDc hFc hP1 hD1 hk hz
        generalize H1 = H at hP hS ⊢
        have hP : va_P D ccl (([(kc, .inl (cI, 40, .inl fc)), (kq, .inl (cI, 4, .inl mo)), (km, .inl (cI, 4, .inl (mF N C K Y)))] : va_W) ++ w) H := hP
        have hD : va_D A (([(kc, .inl (cI, 40, .inl fc)), (kq, .inl (cI, 4, .inl mo)), (km, .inl (cI, 4, .inl (mF N C K Y)))] : va_W) ++ w) := hD
        have eu := hq_89
        have hz9 := zOU_le (k := C) hc hCw (Nat.le_refl C) hO8
        have hq9 : (if Z % 3 = 2 then 6503616025 else 21071715921) ≤ 21071715921 := by split <;> decide
        have hzo := hz9.1
        have hzu := hz9.2
        rw [← eo] at hzo
        rw [← eu] at hzu
        have hbL := mt_bd hL0 hzu
        have hbH := mt_bd hH0 hzu
        have hbO := (mt_bd hL0 hzo).2
        refine lv_lstore (lv' := [(10, .long un), (8, .long ov), (7, .int (nI H0)), (6, .int (nI L0)), (5, .int (nI (Z % 3))), (0, .ref t0), (1, .ref kc), (2, .ref kq), (3, .ref km), (4, .int (nI Z))]) hx hb dL_areGains_92 hl (by decide) rfl (fun ls hl => ?_)
        refine lv_iconst (v := 1) hx hb dL_areGains_94 (by decide) ?_
        refine lv_istore (lv' := [(12, .int 1), (10, .long un), (8, .long ov), (7, .int (nI H0)), (6, .int (nI L0)), (5, .int (nI (Z % 3))), (0, .ref t0), (1, .ref kc), (2, .ref kq), (3, .ref km), (4, .int (nI Z))]) hx hb dL_areGains_95 hl (by decide) rfl (fun ls hl => ?_)
        refine lv_iconst (v := 0) hx hb dL_areGains_97 (by decide) ?_
        refine lv_istore (lv' := [(13, .int 0), (12, .int 1), (10, .long un), (8, .long ov), (7, .int (nI H0)), (6, .int (nI L0)), (5, .int (nI (Z % 3))), (0, .ref t0), (1, .ref kc), (2, .ref kq), (3, .ref km), (4, .int (nI Z))]) hx hb dL_areGains_98 hl (by decide) rfl (fun ls hl => ?_)
        refine W.widen (k := 0) (n := 0) (Nat.le_refl _) (Nat.le_refl _) ?_
        refine g_while (σ := Nat) (st := []) (nL := 26) (fun k => ([(kc, .inl (cI, 40, .inl fc)), (kq, .inl (cI, 4, .inl mo)), (km, .inl (cI, 4, .inl (mF N C K Y)))] : va_W) ++ w)
          (fun k => [(0, .ref t0), (1, .ref kc), (2, .ref kq), (3, .ref km), (4, .int (nI Z)), (5, .int (nI (Z % 3))), (6, .int (nI L0)), (7, .int (nI H0)), (8, .long ov), (10, .long un), (12, .int (stM mc mo k)), (13, .int (nI k))])
          (fun k => k ≤ C)
          (fun k => C - k) (fun k => 0) (fun k => 0)
          ?_ 0 (Nat.zero_le C) hP hD hS (lv_sub hl [7, 8, 9, 10, 11, 6, 5, 4, 3, 2, 1, 0] rfl)
        intro k hI H locs ls hP hD hS hl ih
        have hI : k ≤ C := hI
        have hP : va_P D ccl (([(kc, .inl (cI, 40, .inl fc)), (kq, .inl (cI, 4, .inl mo)), (km, .inl (cI, 4, .inl (mF N C K Y)))] : va_W) ++ w) H := hP
        have hD : va_D A (([(kc, .inl (cI, 40, .inl fc)), (kq, .inl (cI, 4, .inl mo)), (km, .inl (cI, 4, .inl (mF N C K Y)))] : va_W) ++ w) := hD
        have hl : lv_has ls 26 [(0, .ref t0), (1, .ref kc), (2, .ref kq), (3, .ref km), (4, .int (nI Z)), (5, .int (nI (Z % 3))), (6, .int (nI L0)), (7, .int (nI H0)), (8, .long ov), (10, .long un), (12, .int (stM mc mo k)), (13, .int (nI k))] := hl
        change W p l e _ s m _ below meth c H locs 0 0 _ (F0 m 100 ls [])
        have ih_100 := ih
        clear ih
        refine lv_iload hx hb dL_areGains_100 (lv_at hl 11 rfl) ?_
        refine lv_aload_n hx hb dL_areGains_102 rfl (lv_at hl 3 rfl) ?_
        refine lv_iconst (v := 1) hx hb dL_areGains_103 (by decide) ?_
        refine va_iald hx hb hK hP 2 0 rfl rfl (by unfold vp_in; decide) dL_areGains_104 ?_
        refine lv_topi (fun f ef => ?_)
        obtain rfl : f = (mF N C K Y) 1 := ef.trans (congrArg (mF N C K Y) (show (1 : Int32).toNatClampNeg = 1 by decide))
        refine lv_topi (fun f ef => ?_)
        obtain rfl : f = nI C := ef.trans (rfl)
        refine lv_icmp_ge (tgt := 137) hx hb dL_areGains_105 (by decide) (fun c_105 => ?_) (fun c_105 => ?_)
        · have c_105 : C ≤ k := g_le (a := C) (b := k) c_105 (by omega) (by omega)
          obtain rfl : C = k := by omega
          refine lv_lload hx hb dL_areGains_137 (lv_at hl 9 rfl) ?_
          refine lv_lconst (v := 0) hx hb dL_areGains_139 (by decide) ?_
          refine W.lcmp hx hb dL_areGains_140 ?_
          refine g_phiHl (ls := ls) (J := 155) (st1 := []) (REL := fun by1 => ¬ un.toInt = 0 → by1 = lN (Nat.gcd ov.toInt.natAbs un.toInt.natAbs)) (D := D) (A := A) (H0 := s.heap) (Ws := (([(kc, .inl (cI, 40, .inl fc)), (kq, .inl (cI, 4, .inl mo)), (km, .inl (cI, 4, .inl (mF N C K Y)))] : va_W) ++ w)) (fun by1 H locs hb_155 hP hD hS => ?_) (fun hJ_155 => ?_)
          · refine lv_lstore (lv' := [(13, .long by1), (0, .ref t0), (1, .ref kc), (2, .ref kq), (3, .ref km), (4, .int (nI Z)), (5, .int (nI (Z % 3))), (6, .int (nI L0)), (7, .int (nI H0)), (8, .long ov), (10, .long un), (12, .int (stM mc mo C))]) hx hb dL_areGains_155 hl (by decide) rfl (fun ls hl => ?_)
            refine lv_lload hx hb dL_areGains_157 (lv_at hl 10 rfl) ?_
            refine lv_lconst (v := 0) hx hb dL_areGains_159 (by decide) ?_
            refine W.lcmp hx hb dL_areGains_160 ?_
            have hGp : ¬ un.toInt = 0 → 0 < Nat.gcd ov.toInt.natAbs un.toInt.natAbs ∧ Nat.gcd ov.toInt.natAbs un.toInt.natAbs ≤ un.toInt.natAbs := fun h9 => ⟨Nat.gcd_pos_of_pos_right _ (by omega), Nat.gcd_le_right _ (by omega)⟩
            refine g_phil (ls := ls) (J := 172) (st1 := []) (REL := fun by2 => ¬ un.toInt = 0 → by2.toInt = (if un.toInt < 0 then -(Nat.gcd ov.toInt.natAbs un.toInt.natAbs : Int) else (Nat.gcd ov.toInt.natAbs un.toInt.natAbs : Int))) (fun by2 hb_172 => ?_) (fun hJ_172 => ?_)
            · refine lv_lstore (lv' := [(13, .long by2), (0, .ref t0), (1, .ref kc), (2, .ref kq), (3, .ref km), (4, .int (nI Z)), (5, .int (nI (Z % 3))), (6, .int (nI L0)), (7, .int (nI H0)), (8, .long ov), (10, .long un), (12, .int (stM mc mo C))]) hx hb dL_areGains_172 hl (by decide) rfl (fun ls hl => ?_)
              have hne2 : ¬ un.toInt = 0 → ¬ by2 = 0 := fun h9 h8 => by
                have g9 := hGp h9
                have e9 := hb_172 h9
                rw [h8, show (0 : Int64).toInt = 0 by decide] at e9
                split at e9 <;> omega
              refine lv_aload_n hx hb dL_areGains_174 rfl (lv_at hl 1 rfl) ?_
              refine lv_iload hx hb dL_areGains_175 (lv_at hl 6 rfl) ?_
              refine lv_iconst (v := 0) hx hb dL_areGains_177 (by decide) ?_
              have hPc := hP.part (X := [(kc, .inl (cI, 40, .inl fc)), (kq, .inl (cI, 4, .inl mo)), (km, .inl (cI, 4, .inl (mF N C K Y)))]) (cx := []) [] rfl
              have hDc := hD.part (X := [(kc, .inl (cI, 40, .inl fc)), (kq, .inl (cI, 4, .inl mo)), (km, .inl (cI, 4, .inl (mF N C K Y)))]) (cx := []) [] (by decide) rfl
              have hFc := va_freeP (X := [(kc, .inl (cI, 40, .inl fc)), (kq, .inl (cI, 4, .inl mo)), (km, .inl (cI, 4, .inl (mF N C K Y)))]) (cx := []) hD hS hA [] rfl
              refine g_Vl (As := [.int (nI (Z % 3)), .int 0]) (rest := []) CF (c3_X6_gain l hfl D cI cJ cO df H.size t0 w N mc ms mw C mo K mu Y rw0 tf qf mp (nI (Z % 3)) 0 hCL hW (k_two (k_in (n := 2) (by omega) (by decide)) (k_short (by omega) hCw))) (cwV 2 hts gL_areGains_X6_gain rfl rfl rfl (by decide +kernel) ⟨Nat.le_of_ble_eq_true rfl, Nat.le_of_ble_eq_true rfl⟩) (cls_recv (X := [(kc, .inl (cI, 40, .inl fc)), (kq, .inl (cI, 4, .inl mo)), (km, .inl (cI, 4, .inl (mF N C K Y)))]) hCL hK hP) hPc hK hDc hV hH hS hFc rfl hl.1 rfl (Nat.le_of_ble_eq_true rfl) dL_areGains_178 ⟨Nat.le_of_ble_eq_true rfl, Nat.le_of_ble_eq_true rfl⟩ (fun r_178 w1 H1 locs1 hq hP1 hD1 hk hS hz => ?_)
              obtain ⟨w2, ew_178, hq_178⟩ := hq
              rw [ew_178] at hP1 hD1
              obtain ⟨hP, hD⟩ := g_joinP (X := [(kc, .inl (cI, 40, .inl fc)), (kq, .inl (cI, 4, .inl mo)), (km, .inl (cI, 4, .inl (mF N C K Y)))]) (cx := []) (rx := []) (X' := [(kc, .inl (cI, 40, .inl fc)), (kq, .inl (cI, 4, .inl mo)), (km, .inl (cI, 4, .inl (mF N C K Y)))]) hP hD hk hFc hP1 hD1 [] [0, 1, 2] [0, 1, 2] rfl rfl (by decide) (by decide) (by decide) rfl
              clear hPc hDc hFc hP1 hD1 hk hz
              generalize H1 = H at hP hS ⊢
              have hP : va_P D ccl (([(kc, .inl (cI, 40, .inl fc)), (kq, .inl (cI, 4, .inl mo)), (km, .inl (cI, 4, .inl (mF N C K Y)))] : va_W) ++ w2) H := hP
              have hD : va_D A (([(kc, .inl (cI, 40, .inl fc)), (kq, .inl (cI, 4, .inl mo)), (km, .inl (cI, 4, .inl (mF N C K Y)))] : va_W) ++ w2) := hD
              obtain ⟨hCL, hq_178⟩ := hq_178
              have eg1 : r_178.toInt = gnR (zO mc mo (Z % 3) C) (zU mc mo (Z % 3) C) 0 := by rw [gN_nI (by omega)] at hq_178; exact hq_178
              refine lv_lload hx hb dL_areGains_181 (lv_at hl 10 rfl) ?_
              refine lv_lconst (v := 0) hx hb dL_areGains_183 (by decide) ?_
              refine W.lcmp hx hb dL_areGains_184 ?_
              refine g_phil (ls := ls) (J := 197) (st1 := [.long r_178]) (REL := fun v9 => v9.toInt = gnR (zO mc mo (Z % 3) C) (zU mc mo (Z % 3) C) 0) (fun v9 hb_197 => ?_) (fun hJ_197 => ?_)
              · refine W.lcmp hx hb dL_areGains_197 ?_
                refine lv_if_ne (tgt := 232) hx hb dL_areGains_198 (by decide) (fun c_198 => ?_) (fun c_198 => ?_)
                · have c_198 : ¬ r_178.toInt = v9.toInt := fun h9 => c_198 (g_cmp_eq.mpr h9)
                  exact absurd (eg1.trans hb_197.symm) c_198
                · have c_198 : r_178.toInt = v9.toInt := g_cmp_eq.mp c_198
                  refine lv_aload_n hx hb dL_areGains_201 rfl (lv_at hl 1 rfl) ?_
                  refine lv_iload hx hb dL_areGains_202 (lv_at hl 6 rfl) ?_
                  refine lv_iconst (v := 1) hx hb dL_areGains_204 (by decide) ?_
                  have hPc := hP.part (X := [(kc, .inl (cI, 40, .inl fc)), (kq, .inl (cI, 4, .inl mo)), (km, .inl (cI, 4, .inl (mF N C K Y)))]) (cx := []) [] rfl
                  have hDc := hD.part (X := [(kc, .inl (cI, 40, .inl fc)), (kq, .inl (cI, 4, .inl mo)), (km, .inl (cI, 4, .inl (mF N C K Y)))]) (cx := []) [] (by decide) rfl
                  have hFc := va_freeP (X := [(kc, .inl (cI, 40, .inl fc)), (kq, .inl (cI, 4, .inl mo)), (km, .inl (cI, 4, .inl (mF N C K Y)))]) (cx := []) hD hS hA [] rfl
                  refine g_Vl (As := [.int (nI (Z % 3)), .int 1]) (rest := []) CF (c3_X6_gain l hfl D cI cJ cO df H.size t0 w2 N mc ms mw C mo K mu Y rw0 tf qf mp (nI (Z % 3)) 1 hCL hW (k_two (k_in (n := 2) (by omega) (by decide)) (k_short (by omega) hCw))) (cwV 2 hts gL_areGains_X6_gain rfl rfl rfl (by decide +kernel) ⟨Nat.le_of_ble_eq_true rfl, Nat.le_of_ble_eq_true rfl⟩) (cls_recv (X := [(kc, .inl (cI, 40, .inl fc)), (kq, .inl (cI, 4, .inl mo)), (km, .inl (cI, 4, .inl (mF N C K Y)))]) hCL hK hP) hPc hK hDc hV hH hS hFc rfl hl.1 rfl (Nat.le_of_ble_eq_true rfl) dL_areGains_205 ⟨Nat.le_of_ble_eq_true rfl, Nat.le_of_ble_eq_true rfl⟩ (fun r_205 w1 H1 locs1 hq hP1 hD1 hk hS hz => ?_)
                  obtain ⟨w3, ew_205, hq_205⟩ := hq
                  rw [ew_205] at hP1 hD1
                  obtain ⟨hP, hD⟩ := g_joinP (X := [(kc, .inl (cI, 40, .inl fc)), (kq, .inl (cI, 4, .inl mo)), (km, .inl (cI, 4, .inl (mF N C K Y)))]) (cx := []) (rx := []) (X' := [(kc, .inl (cI, 40, .inl fc)), (kq, .inl (cI, 4, .inl mo)), (km, .inl (cI, 4, .inl (mF N C K Y)))]) hP hD hk hFc hP1 hD1 [] [0, 1, 2] [0, 1, 2] rfl rfl (by decide) (by decide) (by decide) rfl
                  clear hPc hDc hFc hP1 hD1 hk hz
                  generalize H1 = H at hP hS ⊢
                  have hP : va_P D ccl (([(kc, .inl (cI, 40, .inl fc)), (kq, .inl (cI, 4, .inl mo)), (km, .inl (cI, 4, .inl (mF N C K Y)))] : va_W) ++ w3) H := hP
                  have hD : va_D A (([(kc, .inl (cI, 40, .inl fc)), (kq, .inl (cI, 4, .inl mo)), (km, .inl (cI, 4, .inl (mF N C K Y)))] : va_W) ++ w3) := hD
                  obtain ⟨hCL, hq_205⟩ := hq_205
                  have eg2 : r_205.toInt = gnR (zO mc mo (Z % 3) C) (zU mc mo (Z % 3) C) 1 := by rw [gN_nI (by omega)] at hq_205; exact hq_205
                  refine lv_lload hx hb dL_areGains_208 (lv_at hl 10 rfl) ?_
                  refine lv_lconst (v := 0) hx hb dL_areGains_210 (by decide) ?_
                  refine W.lcmp hx hb dL_areGains_211 ?_
                  refine g_phil (ls := ls) (J := 224) (st1 := [.long r_205]) (REL := fun v9 => v9.toInt = gnR (zO mc mo (Z % 3) C) (zU mc mo (Z % 3) C) 1) (fun v9 hb_224 => ?_) (fun hJ_224 => ?_)
                  · refine W.lcmp hx hb dL_areGains_224 ?_
                    refine lv_if_ne (tgt := 232) hx hb dL_areGains_225 (by decide) (fun c_225 => ?_) (fun c_225 => ?_)
                    · have c_225 : ¬ r_205.toInt = v9.toInt := fun h9 => c_225 (g_cmp_eq.mpr h9)
                      exact absurd (eg2.trans hb_224.symm) c_225
                    · have c_225 : r_205.toInt = v9.toInt := g_cmp_eq.mp c_225
                      refine lv_iconst (v := 1) hx hb dL_areGains_228 (by decide) ?_
                      refine lv_goto (tgt := 233) hx hb dL_areGains_229 (by decide) ?_
                      refine lv_istore (lv' := [(15, .int 1), (13, .long by2), (0, .ref t0), (1, .ref kc), (2, .ref kq), (3, .ref km), (4, .int (nI Z)), (5, .int (nI (Z % 3))), (6, .int (nI L0)), (7, .int (nI H0)), (8, .long ov), (10, .long un), (12, .int (stM mc mo C))]) hx hb dL_areGains_233 hl (by decide) rfl (fun ls hl => ?_)
                      refine lv_lload hx hb dL_areGains_235 (lv_at hl 10 rfl) ?_
                      refine lv_lconst (v := 0) hx hb dL_areGains_237 (by decide) ?_
                      refine W.lcmp hx hb dL_areGains_238 ?_
                      refine g_phil (ls := ls) (J := 250) (st1 := []) (REL := fun v9 => v9 = lN ov.toInt.natAbs) (fun v9 hb_250 => ?_) (fun hJ_250 => ?_)
                      · subst hb_250
                        refine lv_lstore (lv' := [(16, .long (lN ov.toInt.natAbs)), (15, .int 1), (13, .long by2), (0, .ref t0), (1, .ref kc), (2, .ref kq), (3, .ref km), (4, .int (nI Z)), (5, .int (nI (Z % 3))), (6, .int (nI L0)), (7, .int (nI H0)), (8, .long ov), (10, .long un), (12, .int (stM mc mo C))]) hx hb dL_areGains_250 hl (by decide) rfl (fun ls hl => ?_)
                        refine lv_lload hx hb dL_areGains_252 (lv_at hl 12 rfl) ?_
                        refine lv_lconst (v := 0) hx hb dL_areGains_254 (by decide) ?_
                        refine W.lcmp hx hb dL_areGains_255 ?_
                        refine g_phil (ls := ls) (J := 267) (st1 := []) (REL := fun v9 => v9 = lN un.toInt.natAbs) (fun v9 hb_267 => ?_) (fun hJ_267 => ?_)
                        · subst hb_267
                          refine lv_lstore (lv' := [(18, .long (lN un.toInt.natAbs)), (16, .long (lN ov.toInt.natAbs)), (15, .int 1), (13, .long by2), (0, .ref t0), (1, .ref kc), (2, .ref kq), (3, .ref km), (4, .int (nI Z)), (5, .int (nI (Z % 3))), (6, .int (nI L0)), (7, .int (nI H0)), (8, .long ov), (10, .long un), (12, .int (stM mc mo C))]) hx hb dL_areGains_267 hl (by decide) rfl (fun ls hl => ?_)
                          refine lv_iload hx hb dL_areGains_269 (lv_at hl 9 rfl) ?_
                          refine lv_iconst (v := 2) hx hb dL_areGains_271 (by decide) ?_
                          refine g_phil (ls := ls) (J := 288) (st1 := []) (REL := fun v9 => v9 = lN (if Z % 3 = 2 then L0 * L0 else L0)) (fun v9 hb_288 => ?_) (fun hJ_288 => ?_)
                          · subst hb_288
                            refine lv_lstore (lv' := [(20, .long (lN (if Z % 3 = 2 then L0 * L0 else L0))), (18, .long (lN un.toInt.natAbs)), (16, .long (lN ov.toInt.natAbs)), (15, .int 1), (13, .long by2), (0, .ref t0), (1, .ref kc), (2, .ref kq), (3, .ref km), (4, .int (nI Z)), (5, .int (nI (Z % 3))), (6, .int (nI L0)), (7, .int (nI H0)), (8, .long ov), (10, .long un), (12, .int (stM mc mo C))]) hx hb dL_areGains_288 hl (by decide) rfl (fun ls hl => ?_)
                            refine lv_iload hx hb dL_areGains_290 (lv_at hl 10 rfl) ?_
                            refine lv_iconst (v := 2) hx hb dL_areGains_292 (by decide) ?_
                            refine g_phil (ls := ls) (J := 309) (st1 := []) (REL := fun v9 => v9 = lN (if Z % 3 = 2 then H0 * H0 else H0)) (fun v9 hb_309 => ?_) (fun hJ_309 => ?_)
                            · subst hb_309
                              refine lv_lstore (lv' := [(22, .long (lN (if Z % 3 = 2 then H0 * H0 else H0))), (20, .long (lN (if Z % 3 = 2 then L0 * L0 else L0))), (18, .long (lN un.toInt.natAbs)), (16, .long (lN ov.toInt.natAbs)), (15, .int 1), (13, .long by2), (0, .ref t0), (1, .ref kc), (2, .ref kq), (3, .ref km), (4, .int (nI Z)), (5, .int (nI (Z % 3))), (6, .int (nI L0)), (7, .int (nI H0)), (8, .long ov), (10, .long un), (12, .int (stM mc mo C))]) hx hb dL_areGains_309 hl (by decide) rfl (fun ls hl => ?_)
                              refine lv_iload hx hb dL_areGains_311 (lv_at hl 11 rfl) ?_
                              refine lv_iconst (v := 2) hx hb dL_areGains_313 (by decide) ?_
                              refine g_phil (ls := ls) (J := 326) (st1 := []) (REL := fun v9 => v9 = lN (if Z % 3 = 2 then 1000000 else 1000)) (fun v9 hb_326 => ?_) (fun hJ_326 => ?_)
                              · subst hb_326
                                refine lv_lstore (lv' := [(24, .long (lN (if Z % 3 = 2 then 1000000 else 1000))), (22, .long (lN (if Z % 3 = 2 then H0 * H0 else H0))), (20, .long (lN (if Z % 3 = 2 then L0 * L0 else L0))), (18, .long (lN un.toInt.natAbs)), (16, .long (lN ov.toInt.natAbs)), (15, .int 1), (13, .long by2), (0, .ref t0), (1, .ref kc), (2, .ref kq), (3, .ref km), (4, .int (nI Z)), (5, .int (nI (Z % 3))), (6, .int (nI L0)), (7, .int (nI H0)), (8, .long ov), (10, .long un), (12, .int (stM mc mo C))]) hx hb dL_areGains_326 hl (by decide) rfl (fun ls hl => ?_)
                                refine lv_iload hx hb dL_areGains_328 (lv_at hl 5 rfl) ?_
                                refine lv_if_eq (tgt := 388) hx hb dL_areGains_330 (by decide) (fun c_330 => ?_) (fun c_330 => ?_)
                                · exact absurd c_330 (by decide)
                                · refine lv_aload_n hx hb dL_areGains_333 rfl (lv_at hl 7 rfl) ?_
                                  refine lv_iload hx hb dL_areGains_334 (lv_at hl 12 rfl) ?_
                                  refine lv_iload hx hb dL_areGains_336 (lv_at hl 13 rfl) ?_
                                  refine lv_iload hx hb dL_areGains_338 (lv_at hl 14 rfl) ?_
                                  have hPc := hP.part (X := [(kc, .inl (cI, 40, .inl fc)), (kq, .inl (cI, 4, .inl mo)), (km, .inl (cI, 4, .inl (mF N C K Y)))]) (cx := []) [] rfl
                                  have hDc := hD.part (X := [(kc, .inl (cI, 40, .inl fc)), (kq, .inl (cI, 4, .inl mo)), (km, .inl (cI, 4, .inl (mF N C K Y)))]) (cx := []) [] (by decide) rfl
                                  have hFc := va_freeP (X := [(kc, .inl (cI, 40, .inl fc)), (kq, .inl (cI, 4, .inl mo)), (km, .inl (cI, 4, .inl (mF N C K Y)))]) (cx := []) hD hS hA [] rfl
                                  refine g_Vi (As := [.int (nI (Z % 3)), .int (nI L0), .int (nI H0)]) (rest := []) CF (c3_X6_meets l hfl D cI cJ cO df H.size t0 w3 N mc ms mw C mo K mu Y rw0 tf qf mp (nI (Z % 3)) (nI L0) (nI H0) hCL hW (k_two (k_iif (k_in (n := 2) (by omega) (by decide)) (k_iif (k_in (n := 10000) hL0 (by decide)) (k_in2 (n := 10000) hLH hH0 (by decide)))) (k_short (by omega) hCw))) (cwV 3 hts gL_areGains_X6_meets rfl rfl rfl (by decide +kernel) ⟨Nat.le_of_ble_eq_true rfl, Nat.le_of_ble_eq_true rfl⟩) (cls_recv (X := [(kc, .inl (cI, 40, .inl fc)), (kq, .inl (cI, 4, .inl mo)), (km, .inl (cI, 4, .inl (mF N C K Y)))]) hCL hK hP) hPc hK hDc hV hH hS hFc rfl hl.1 rfl (Nat.le_of_ble_eq_true rfl) dL_areGains_340 ⟨Nat.le_of_ble_eq_true rfl, Nat.le_of_ble_eq_true rfl⟩ (fun r_340 w1 H1 locs1 hq hP1 hD1 hk hS hz => ?_)
                                  obtain ⟨w4, ew_340, hq_340⟩ := hq
                                  rw [ew_340] at hP1 hD1
                                  obtain ⟨hP, hD⟩ := g_joinP (X := [(kc, .inl (cI, 40, .inl fc)), (kq, .inl (cI, 4, .inl mo)), (km, .inl (cI, 4, .inl (mF N C K Y)))]) (cx := []) (rx := []) (X' := [(kc, .inl (cI, 40, .inl fc)), (kq, .inl (cI, 4, .inl mo)), (km, .inl (cI, 4, .inl (mF N C K Y)))]) hP hD hk hFc hP1 hD1 [] [0, 1, 2] [0, 1, 2] rfl rfl (by decide) (by decide) (by decide) rfl
                                  clear hPc hDc hFc hP1 hD1 hk hz
                                  generalize H1 = H at hP hS ⊢
                                  have hP : va_P D ccl (([(kc, .inl (cI, 40, .inl fc)), (kq, .inl (cI, 4, .inl mo)), (km, .inl (cI, 4, .inl (mF N C K Y)))] : va_W) ++ w4) H := hP
                                  have hD : va_D A (([(kc, .inl (cI, 40, .inl fc)), (kq, .inl (cI, 4, .inl mo)), (km, .inl (cI, 4, .inl (mF N C K Y)))] : va_W) ++ w4) := hD
                                  obtain ⟨hCL, hq_340⟩ := hq_340
                                  have em : r_340 = if mtP (stM mc mo C) (zO mc mo (Z % 3) C) (zU mc mo (Z % 3) C) (Z % 3) L0 H0 then 1 else 0 := by rw [gN_nI (by omega), gN_nI (by omega), gN_nI (by omega)] at hq_340; exact hq_340
                                  refine lv_iload hx hb dL_areGains_343 (lv_at hl 17 rfl) ?_
                                  refine g_phii (ls := ls) (J := 381) (st1 := [.int r_340]) (REL := fun v9 => v9 = if mtP (stM mc mo C) ov.toInt un.toInt (Z % 3) L0 H0 then 1 else 0) (fun v9 hb_381 => ?_) (fun hJ_381 => ?_)
                                  · refine lv_icmp_ne (tgt := 388) hx hb dL_areGains_381 (by decide) (fun c_381 => ?_) (fun c_381 => ?_)
                                    · exact absurd (em.trans (by rw [hb_381, eo, eu])) c_381
                                    · refine lv_iconst (v := 1) hx hb dL_areGains_384 (by decide) ?_
                                      refine lv_goto (tgt := 389) hx hb dL_areGains_385 (by decide) ?_
                                      refine g_zret (v := 1) hx hb hr hlk hP hK hD hS (Nat.le_of_ble_eq_true rfl) (Nat.le_of_ble_eq_true rfl) dL_areGains_389 (by decide +kernel) ?_
                                      exact ⟨_, rfl, rfl, hCL⟩
                                  · refine lv_if_eq (tgt := 380) hx hb dL_areGains_345 (by decide) (fun c_345 => ?_) (fun c_345 => ?_)
                                    · refine lv_iconst (v := 0) hx hb dL_areGains_380 (by decide) ?_
                                      exact hJ_381 _ (by rw [if_neg (fun h9 => h9.1 c_345)])
                                    · refine lv_lload hx hb dL_areGains_348 (lv_at hl 4 rfl) ?_
                                      refine lv_lload hx hb dL_areGains_350 (lv_at hl 0 rfl) ?_
                                      refine lv_lmul hx hb dL_areGains_352 ?_
                                      refine lv_topl (fun f ef => ?_)
                                      obtain rfl : f = lN (ov.toInt.natAbs * (if Z % 3 = 2 then 1000000 else 1000)) := ef.trans (lN_mul _ _)
                                      refine lv_lload hx hb dL_areGains_353 (lv_at hl 2 rfl) ?_
                                      refine lv_lload hx hb dL_areGains_355 (lv_at hl 3 rfl) ?_
                                      refine lv_lmul hx hb dL_areGains_357 ?_
                                      refine lv_topl (fun f ef => ?_)
                                      obtain rfl : f = lN ((if Z % 3 = 2 then L0 * L0 else L0) * un.toInt.natAbs) := ef.trans (lN_mul _ _)
                                      refine W.lcmp hx hb dL_areGains_358 ?_
                                      refine lv_if_lt (tgt := 380) hx hb dL_areGains_359 (by decide) (fun c_359 => ?_) (fun c_359 => ?_)
                                      · have c_359 : (lN (ov.toInt.natAbs * (if Z % 3 = 2 then 1000000 else 1000))).toInt < (lN ((if Z % 3 = 2 then L0 * L0 else L0) * un.toInt.natAbs)).toInt := g_cmp_lt.mp c_359
                                        refine lv_iconst (v := 0) hx hb dL_areGains_380 (by decide) ?_
                                        exact hJ_381 _ (by rw [pk_lT hbO, pk_lT hbL.1] at c_359; rw [if_neg (fun h9 => absurd h9.2.1 (by omega))])
                                      · have c_359 : ¬ (lN (ov.toInt.natAbs * (if Z % 3 = 2 then 1000000 else 1000))).toInt < (lN ((if Z % 3 = 2 then L0 * L0 else L0) * un.toInt.natAbs)).toInt := fun h9 => c_359 (g_cmp_lt.mpr h9)
                                        refine lv_lload hx hb dL_areGains_362 (lv_at hl 4 rfl) ?_
                                        refine lv_lload hx hb dL_areGains_364 (lv_at hl 0 rfl) ?_
                                        refine lv_lmul hx hb dL_areGains_366 ?_
                                        refine lv_topl (fun f ef => ?_)
                                        obtain rfl : f = lN (ov.toInt.natAbs * (if Z % 3 = 2 then 1000000 else 1000)) := ef.trans (lN_mul _ _)
                                        refine lv_lload hx hb dL_areGains_367 (lv_at hl 1 rfl) ?_
                                        refine lv_lload hx hb dL_areGains_369 (lv_at hl 3 rfl) ?_
                                        refine lv_lmul hx hb dL_areGains_371 ?_
                                        refine lv_topl (fun f ef => ?_)
                                        obtain rfl : f = lN ((if Z % 3 = 2 then H0 * H0 else H0) * un.toInt.natAbs) := ef.trans (lN_mul _ _)
                                        refine W.lcmp hx hb dL_areGains_372 ?_
                                        refine lv_if_gt (tgt := 380) hx hb dL_areGains_373 (by decide) (fun c_373 => ?_) (fun c_373 => ?_)
                                        · have c_373 : (lN ((if Z % 3 = 2 then H0 * H0 else H0) * un.toInt.natAbs)).toInt < (lN (ov.toInt.natAbs * (if Z % 3 = 2 then 1000000 else 1000))).toInt := g_cmp_gt.mp c_373
                                          refine lv_iconst (v := 0) hx hb dL_areGains_380 (by decide) ?_
                                          exact hJ_381 _ (by rw [pk_lT hbO, pk_lT hbL.1] at c_359; rw [pk_lT hbO, pk_lT hbH.1] at c_373; rw [if_neg (fun h9 => absurd h9.2.2 (by omega))])
                                        · have c_373 : ¬ (lN ((if Z % 3 = 2 then H0 * H0 else H0) * un.toInt.natAbs)).toInt < (lN (ov.toInt.natAbs * (if Z % 3 = 2 then 1000000 else 1000))).toInt := fun h9 => c_373 (g_cmp_gt.mpr h9)
                                          refine lv_iconst (v := 1) hx hb dL_areGains_376 (by decide) ?_
                                          refine lv_goto (tgt := 381) hx hb dL_areGains_377 (by decide) ?_
                                          exact hJ_381 _ (by rw [pk_lT hbO, pk_lT hbL.1] at c_359; rw [pk_lT hbO, pk_lT hbH.1] at c_373; rw [if_pos ⟨c_345, by omega, by omega⟩])
                              · refine lv_icmp_ne (tgt := 323) hx hb dL_areGains_314 (by decide) (fun c_314 => ?_) (fun c_314 => ?_)
                                · have c_314 : Z % 3 ≠ 2 := g_ne (a := Z % 3) (b := 2) c_314 (by omega) (by omega)
                                  refine lv_ldc2 (v := 1000) hx hb hown hconstantLong_RL_40 dL_areGains_323 ?_
                                  exact hJ_326 _ (by first | (rw [if_pos c_314]; done) | (rw [if_neg c_314]; done) | (rw [if_pos c_314]; rfl) | (rw [if_neg c_314]; rfl))
                                · have c_314 : Z % 3 = 2 := g_eq (a := Z % 3) (b := 2) c_314 (by omega) (by omega)
                                  refine lv_ldc2 (v := 1000000) hx hb hown hconstantLong_RL_38 dL_areGains_317 ?_
                                  refine lv_goto (tgt := 326) hx hb dL_areGains_320 (by decide) ?_
                                  exact hJ_326 _ (by first | (rw [if_pos c_314]; done) | (rw [if_neg c_314]; done) | (rw [if_pos c_314]; rfl) | (rw [if_neg c_314]; rfl))
                            · refine lv_icmp_ne (tgt := 306) hx hb dL_areGains_293 (by decide) (fun c_293 => ?_) (fun c_293 => ?_)
                              · have c_293 : Z % 3 ≠ 2 := g_ne (a := Z % 3) (b := 2) c_293 (by omega) (by omega)
                                refine lv_iload hx hb dL_areGains_306 (lv_at hl 12 rfl) ?_
                                refine lv_i2l (v := (nI H0).toInt64) hx hb dL_areGains_308 rfl ?_
                                refine lv_topl (fun f ef => ?_)
                                obtain rfl : f = lN H0 := ef.trans (nI_l (by omega))
                                exact hJ_309 _ (by first | (rw [if_pos c_293]; done) | (rw [if_neg c_293]; done) | (rw [if_pos c_293]; rfl) | (rw [if_neg c_293]; rfl))
                              · have c_293 : Z % 3 = 2 := g_eq (a := Z % 3) (b := 2) c_293 (by omega) (by omega)
                                refine lv_iload hx hb dL_areGains_296 (lv_at hl 12 rfl) ?_
                                refine lv_i2l (v := (nI H0).toInt64) hx hb dL_areGains_298 rfl ?_
                                refine lv_topl (fun f ef => ?_)
                                obtain rfl : f = lN H0 := ef.trans (nI_l (by omega))
                                refine lv_iload hx hb dL_areGains_299 (lv_at hl 12 rfl) ?_
                                refine lv_i2l (v := (nI H0).toInt64) hx hb dL_areGains_301 rfl ?_
                                refine lv_topl (fun f ef => ?_)
                                obtain rfl : f = lN H0 := ef.trans (nI_l (by omega))
                                refine lv_lmul hx hb dL_areGains_302 ?_
                                refine lv_topl (fun f ef => ?_)
                                obtain rfl : f = lN (H0 * H0) := ef.trans (lN_mul _ _)
                                refine lv_goto (tgt := 309) hx hb dL_areGains_303 (by decide) ?_
                                exact hJ_309 _ (by first | (rw [if_pos c_293]; done) | (rw [if_neg c_293]; done) | (rw [if_pos c_293]; rfl) | (rw [if_neg c_293]; rfl))
                          · refine lv_icmp_ne (tgt := 285) hx hb dL_areGains_272 (by decide) (fun c_272 => ?_) (fun c_272 => ?_)
                            · have c_272 : Z % 3 ≠ 2 := g_ne (a := Z % 3) (b := 2) c_272 (by omega) (by omega)
                              refine lv_iload hx hb dL_areGains_285 (lv_at hl 10 rfl) ?_
                              refine lv_i2l (v := (nI L0).toInt64) hx hb dL_areGains_287 rfl ?_
                              refine lv_topl (fun f ef => ?_)
                              obtain rfl : f = lN L0 := ef.trans (nI_l (by omega))
                              exact hJ_288 _ (by first | (rw [if_pos c_272]; done) | (rw [if_neg c_272]; done) | (rw [if_pos c_272]; rfl) | (rw [if_neg c_272]; rfl))
                            · have c_272 : Z % 3 = 2 := g_eq (a := Z % 3) (b := 2) c_272 (by omega) (by omega)
                              refine lv_iload hx hb dL_areGains_275 (lv_at hl 10 rfl) ?_
                              refine lv_i2l (v := (nI L0).toInt64) hx hb dL_areGains_277 rfl ?_
                              refine lv_topl (fun f ef => ?_)
                              obtain rfl : f = lN L0 := ef.trans (nI_l (by omega))
                              refine lv_iload hx hb dL_areGains_278 (lv_at hl 10 rfl) ?_
                              refine lv_i2l (v := (nI L0).toInt64) hx hb dL_areGains_280 rfl ?_
                              refine lv_topl (fun f ef => ?_)
                              obtain rfl : f = lN L0 := ef.trans (nI_l (by omega))
                              refine lv_lmul hx hb dL_areGains_281 ?_
                              refine lv_topl (fun f ef => ?_)
                              obtain rfl : f = lN (L0 * L0) := ef.trans (lN_mul _ _)
                              refine lv_goto (tgt := 288) hx hb dL_areGains_282 (by decide) ?_
                              exact hJ_288 _ (by first | (rw [if_pos c_272]; done) | (rw [if_neg c_272]; done) | (rw [if_pos c_272]; rfl) | (rw [if_neg c_272]; rfl))
                        · refine lv_if_ge (tgt := 265) hx hb dL_areGains_256 (by decide) (fun c_256 => ?_) (fun c_256 => ?_)
                          · have c_256 : 0 ≤ un.toInt := g_cmp_ge.mp c_256
                            refine lv_lload hx hb dL_areGains_265 (lv_at hl 12 rfl) ?_
                            exact hJ_267 _ (L_pos (by omega))
                          · have c_256 : ¬ 0 ≤ un.toInt := fun h9 => c_256 (g_cmp_ge.mpr h9)
                            refine lv_lload hx hb dL_areGains_259 (lv_at hl 12 rfl) ?_
                            refine lv_lneg hx hb dL_areGains_261 ?_
                            refine lv_goto (tgt := 267) hx hb dL_areGains_262 (by decide) ?_
                            exact hJ_267 _ (L_neg (by omega) (by omega))
                      · refine lv_if_ge (tgt := 248) hx hb dL_areGains_239 (by decide) (fun c_239 => ?_) (fun c_239 => ?_)
                        · have c_239 : 0 ≤ ov.toInt := g_cmp_ge.mp c_239
                          refine lv_lload hx hb dL_areGains_248 (lv_at hl 10 rfl) ?_
                          exact hJ_250 _ (L_pos (by omega))
                        · have c_239 : ¬ 0 ≤ ov.toInt := fun h9 => c_239 (g_cmp_ge.mpr h9)
                          refine lv_lload hx hb dL_areGains_242 (lv_at hl 10 rfl) ?_
                          refine lv_lneg hx hb dL_areGains_244 ?_
                          refine lv_goto (tgt := 250) hx hb dL_areGains_245 (by decide) ?_
                          exact hJ_250 _ (L_neg (by omega) (by omega))
                  · refine lv_if_ne (tgt := 219) hx hb dL_areGains_212 (by decide) (fun c_212 => ?_) (fun c_212 => ?_)
                    · have c_212 : ¬ un.toInt = 0 := fun h9 => c_212 (g_cmp_eq.mpr h9)
                      refine lv_lload hx hb dL_areGains_219 (lv_at hl 10 rfl) ?_
                      refine lv_lload hx hb dL_areGains_221 (lv_at hl 0 rfl) ?_
                      refine lv_ldiv hx hb dL_areGains_223 (hne2 c_212) ?_
                      exact hJ_224 _ (by unfold gnR; rw [← eo, ← eu]; first | (rw [if_pos c_212, if_neg (by decide)]; rfl) | (rw [if_neg c_212, if_neg (by decide), fb_divL2 (by omega), hb_172 c_212]))
                    · have c_212 : un.toInt = 0 := g_cmp_eq.mp c_212
                      refine lv_lconst (v := 0) hx hb dL_areGains_215 (by decide) ?_
                      refine lv_goto (tgt := 224) hx hb dL_areGains_216 (by decide) ?_
                      exact hJ_224 _ (by unfold gnR; rw [← eo, ← eu]; first | (rw [if_pos c_212, if_neg (by decide)]; rfl) | (rw [if_neg c_212, if_neg (by decide), fb_divL2 (by omega), hb_172 c_212]))
              · refine lv_if_ne (tgt := 192) hx hb dL_areGains_185 (by decide) (fun c_185 => ?_) (fun c_185 => ?_)
                · have c_185 : ¬ un.toInt = 0 := fun h9 => c_185 (g_cmp_eq.mpr h9)
                  refine lv_lload hx hb dL_areGains_192 (lv_at hl 9 rfl) ?_
                  refine lv_lload hx hb dL_areGains_194 (lv_at hl 0 rfl) ?_
                  refine lv_ldiv hx hb dL_areGains_196 (hne2 c_185) ?_
                  exact hJ_197 _ (by unfold gnR; rw [← eo, ← eu]; first | (rw [if_pos c_185, if_pos rfl]; rfl) | (rw [if_neg c_185, if_pos rfl, fb_divL2 (by omega), hb_172 c_185]))
                · have c_185 : un.toInt = 0 := g_cmp_eq.mp c_185
                  refine lv_lconst (v := 1) hx hb dL_areGains_188 (by decide) ?_
                  refine lv_goto (tgt := 197) hx hb dL_areGains_189 (by decide) ?_
                  exact hJ_197 _ (by unfold gnR; rw [← eo, ← eu]; first | (rw [if_pos c_185, if_pos rfl]; rfl) | (rw [if_neg c_185, if_pos rfl, fb_divL2 (by omega), hb_172 c_185]))
            · refine lv_if_ge (tgt := 170) hx hb dL_areGains_161 (by decide) (fun c_161 => ?_) (fun c_161 => ?_)
              · have c_161 : 0 ≤ un.toInt := g_cmp_ge.mp c_161
                refine lv_lload hx hb dL_areGains_170 (lv_at hl 0 rfl) ?_
                exact hJ_172 _ (fun h9 => by have g9 := hGp h9; rw [hb_155 h9]; first | (rw [if_pos c_161, fb_negL (by rw [pk_lT (by omega)]; omega), pk_lT (by omega)]; done) | (rw [if_pos (by omega), fb_negL (by rw [pk_lT (by omega)]; omega), pk_lT (by omega)]; done) | (rw [if_neg (by omega), pk_lT (by omega)]; done))
              · have c_161 : ¬ 0 ≤ un.toInt := fun h9 => c_161 (g_cmp_ge.mpr h9)
                refine lv_lload hx hb dL_areGains_164 (lv_at hl 0 rfl) ?_
                refine lv_lneg hx hb dL_areGains_166 ?_
                refine lv_goto (tgt := 172) hx hb dL_areGains_167 (by decide) ?_
                exact hJ_172 _ (fun h9 => by have g9 := hGp h9; rw [hb_155 h9]; first | (rw [if_pos c_161, fb_negL (by rw [pk_lT (by omega)]; omega), pk_lT (by omega)]; done) | (rw [if_pos (by omega), fb_negL (by rw [pk_lT (by omega)]; omega), pk_lT (by omega)]; done) | (rw [if_neg (by omega), pk_lT (by omega)]; done))
          · refine lv_if_ne (tgt := 148) hx hb dL_areGains_141 (by decide) (fun c_141 => ?_) (fun c_141 => ?_)
            · have c_141 : ¬ un.toInt = 0 := fun h9 => c_141 (g_cmp_eq.mpr h9)
              refine lv_lload hx hb dL_areGains_148 (lv_at hl 8 rfl) ?_
              refine lv_lload hx hb dL_areGains_150 (lv_at hl 9 rfl) ?_
              have hPc : va_P D ccl [] H := fun k q h => by simp at h
              have hDc : va_D A [] := ⟨fun i j p q h => by simp at h, fun k q h => by simp at h⟩
              have hFc := va_free (wc := []) hD hS hA [] rfl
              refine g_Sl (As := [.long ov, .long un]) (rest := []) CF (c_L_common l D cI cJ cO df H.size ov un (by omega) (by omega)) (va_cwS 2 hts gL_areGains_L_common rfl rfl rfl (by decide +kernel) ⟨Nat.le_of_ble_eq_true rfl, Nat.le_of_ble_eq_true rfl⟩)  hPc hK hDc hV hH hS hFc rfl hl.1 rfl (Nat.le_of_ble_eq_true rfl) dL_areGains_152 ⟨Nat.le_of_ble_eq_true rfl, Nat.le_of_ble_eq_true rfl⟩ (fun r_152 w1 H1 locs1 hq hP1 hD1 hk hS hz => ?_)
              obtain ⟨rfl, hr_152⟩ := hq
              have hP := g_keep0 hP hk
              clear hPc hDc hFc hP1 hD1 hk hz
              generalize H1 = H at hP hS ⊢
              have hP : va_P D ccl (([(kc, .inl (cI, 40, .inl fc)), (kq, .inl (cI, 4, .inl mo)), (km, .inl (cI, 4, .inl (mF N C K Y)))] : va_W) ++ w) H := hP
              have hD : va_D A (([(kc, .inl (cI, 40, .inl fc)), (kq, .inl (cI, 4, .inl mo)), (km, .inl (cI, 4, .inl (mF N C K Y)))] : va_W) ++ w) := hD
              subst hr_152
              exact hJ_155 _ _ _ (by first | exact fun h9 => absurd c_141 h9 | exact fun _ => rfl) hP hD hS
            · have c_141 : un.toInt = 0 := g_cmp_eq.mp c_141
              refine lv_lconst (v := 1) hx hb dL_areGains_144 (by decide) ?_
              refine lv_goto (tgt := 155) hx hb dL_areGains_145 (by decide) ?_
              exact hJ_155 _ _ _ (by first | exact fun h9 => absurd c_141 h9 | exact fun _ => rfl) hP hD hS
        · have c_105 : k < C := g_nle (a := C) (b := k) c_105 (by omega) (by omega)
          refine lv_iload hx hb dL_areGains_108 (lv_at hl 10 rfl) ?_
          refine g_phiHi (ls := ls) (J := 129) (st1 := []) (REL := fun v9 => v9 = stM mc mo (k + 1)) (D := D) (A := A) (H0 := s.heap) (Ws := (([(kc, .inl (cI, 40, .inl fc)), (kq, .inl (cI, 4, .inl mo)), (km, .inl (cI, 4, .inl (mF N C K Y)))] : va_W) ++ w)) (fun v9 H locs hb_129 hP hD hS => ?_) (fun hJ_129 => ?_)
          · subst hb_129
            refine lv_istore (lv' := [(12, .int (stM mc mo (k + 1))), (0, .ref t0), (1, .ref kc), (2, .ref kq), (3, .ref km), (4, .int (nI Z)), (5, .int (nI (Z % 3))), (6, .int (nI L0)), (7, .int (nI H0)), (8, .long ov), (10, .long un), (13, .int (nI k))]) hx hb dL_areGains_129 hl (by decide) rfl (fun ls hl => ?_)
            refine lv_iinc (v := nI (k + 1)) (lv' := [(13, .int (nI (k + 1))), (12, .int (stM mc mo (k + 1))), (0, .ref t0), (1, .ref kc), (2, .ref kq), (3, .ref km), (4, .int (nI Z)), (5, .int (nI (Z % 3))), (6, .int (nI L0)), (7, .int (nI H0)), (8, .long ov), (10, .long un)]) hx hb dL_areGains_131 hl (k := 11) rfl (by exact nI_1 _) (by decide) rfl (fun ls hl => ?_)
            refine lv_goto (tgt := 100) hx hb dL_areGains_134 (by decide) ?_
            refine W.widen (k := 0) (n := 0) (Nat.le_refl _) (Nat.le_refl _) ?_
            exact ih_100 (k + 1) _ _ _ (show (k + 1) ≤ C from (by exact c_105)) (show C - (k + 1) < C - k by omega) hP hD hS (lv_sub hl [2, 3, 4, 5, 6, 7, 8, 9, 10, 11, 1, 0] rfl)
          · refine lv_if_eq (tgt := 128) hx hb dL_areGains_110 (by decide) (fun c_110 => ?_) (fun c_110 => ?_)
            · refine lv_iconst (v := 0) hx hb dL_areGains_128 (by decide) ?_
              exact hJ_129 _ _ _ (by first | (rw [stM_s, if_pos c_110]; done) | (rw [stM_s, if_neg c_110]; first | exact c_121.symm | exact ((mStab_01 _ _).resolve_left c_121).symm)) hP hD hS
            · refine lv_aload_n hx hb dL_areGains_113 rfl (lv_at hl 1 rfl) ?_
              refine lv_aload_n hx hb dL_areGains_114 rfl (lv_at hl 2 rfl) ?_
              refine lv_iload hx hb dL_areGains_115 (lv_at hl 11 rfl) ?_
              refine va_iald hx hb hK hP 1 0 rfl rfl (vp_in_nI (by omega) (by omega)) dL_areGains_117 ?_
              refine lv_topi (fun f ef => ?_)
              obtain rfl : f = mo k := ef.trans (congrArg mo (nI_clamp (n := k) (by omega)))
              refine lv_topi (fun f ef => ?_)
              obtain rfl : f = nI (gN (mo k)) := ef.trans ((hO k c_105).2)
              have hPc := hP.sub (ws' := [(kc, .inl (cI, 40, .inl fc))]) [0] rfl
              have hDc := hD.sub (ws' := [(kc, .inl (cI, 40, .inl fc))]) [0] (by decide) rfl
              have hFc := va_free (wc := [(kc, .inl (cI, 40, .inl fc))]) hD hS hA [0] rfl
              refine g_Si (As := [.ref kc, .int (nI (gN (mo k)))]) (rest := []) CF (c_L_isStable l D cI cJ cO df H.size kc fc mc ms mw N (gN (mo k)) hR (by have := (hO k c_105).1; omega) hc) (va_cwS 2 hts gL_areGains_L_isStable rfl rfl rfl (by decide +kernel) ⟨Nat.le_of_ble_eq_true rfl, Nat.le_of_ble_eq_true rfl⟩)  hPc hK hDc hV hH hS hFc rfl hl.1 rfl (Nat.le_of_ble_eq_true rfl) dL_areGains_118 ⟨Nat.le_of_ble_eq_true rfl, Nat.le_of_ble_eq_true rfl⟩ (fun r_118 w1 H1 locs1 hq hP1 hD1 hk hS hz => ?_)
              obtain ⟨rfl, hr_118⟩ := hq
              have hP := g_keepR hP hD [0] rfl hk hP1
              clear hPc hDc hFc hP1 hD1 hk hz
              generalize H1 = H at hP hS ⊢
              have hP : va_P D ccl (([(kc, .inl (cI, 40, .inl fc)), (kq, .inl (cI, 4, .inl mo)), (km, .inl (cI, 4, .inl (mF N C K Y)))] : va_W) ++ w) H := hP
              have hD : va_D A (([(kc, .inl (cI, 40, .inl fc)), (kq, .inl (cI, 4, .inl mo)), (km, .inl (cI, 4, .inl (mF N C K Y)))] : va_W) ++ w) := hD
              subst hr_118
              refine lv_if_eq (tgt := 128) hx hb dL_areGains_121 (by decide) (fun c_121 => ?_) (fun c_121 => ?_)
              · refine lv_iconst (v := 0) hx hb dL_areGains_128 (by decide) ?_
                exact hJ_129 _ _ _ (by first | (rw [stM_s, if_pos c_110]; done) | (rw [stM_s, if_neg c_110]; first | exact c_121.symm | exact ((mStab_01 _ _).resolve_left c_121).symm)) hP hD hS
              · refine lv_iconst (v := 1) hx hb dL_areGains_124 (by decide) ?_
                refine lv_goto (tgt := 129) hx hb dL_areGains_125 (by decide) ?_
                exact hJ_129 _ _ _ (by first | (rw [stM_s, if_pos c_110]; done) | (rw [stM_s, if_neg c_110]; first | exact c_121.symm | exact ((mStab_01 _ _).resolve_left c_121).symm)) hP hD hS
      · refine lv_if_ne (tgt := 51) hx hb dL_areGains_39 (by decide) (fun c_39 => ?_) (fun c_39 => ?_)
        · have c_39 : Z % 2 ≠ 0 := g_ne (a := Z % 2) (b := 0) c_39 (by omega) (by omega)
          refine lv_iload hx hb dL_areGains_51 (lv_at hl 0 rfl) ?_
          exact hJ_53 _ (by exact ⟨_, by omega, rfl⟩)
        · have c_39 : Z % 2 = 0 := g_eq (a := Z % 2) (b := 0) c_39 (by omega) (by omega)
          refine lv_iload hx hb dL_areGains_42 (lv_at hl 0 rfl) ?_
          refine lv_sipush (v := 1500) hx hb dL_areGains_44 (by decide) ?_
          refine lv_irem hx hb dL_areGains_47 (by decide) ?_
          refine lv_topi (fun f ef => ?_)
          obtain rfl : f = nI (((Z / 3) % 10001) % 1500) := ef.trans (pk_rem (a := (Z / 3) % 10001) (d := 1500) (by omega) (by omega) (by omega))
          refine lv_goto (tgt := 53) hx hb dL_areGains_48 (by decide) ?_
          exact hJ_53 _ (by exact ⟨_, by omega, rfl⟩)
    · have c_20 : (if Z % 3 = 2 then 2 else 4) < C := g_nle (a := C) (b := (if Z % 3 = 2 then 2 else 4)) c_20 (by omega) (by omega)
      refine lv_iconst (v := 1) hx hb dL_areGains_23 (by decide) ?_
      refine g_zret (v := 1) hx hb hr hlk hP hK hD hS (Nat.le_of_ble_eq_true rfl) (Nat.le_of_ble_eq_true rfl) dL_areGains_24 (by decide +kernel) ?_
      exact ⟨_, rfl, rfl, hCL⟩
  · refine lv_icmp_ne (tgt := 19) hx hb dL_areGains_12 (by decide) (fun c_12 => ?_) (fun c_12 => ?_)
    · have c_12 : Z % 3 ≠ 2 := g_ne (a := Z % 3) (b := 2) c_12 (by omega) (by omega)
      refine lv_iconst (v := 4) hx hb dL_areGains_19 (by decide) ?_
      exact hJ_20 _ (by first | (rw [if_pos c_12]; rfl) | (rw [if_neg c_12]; rfl))
    · have c_12 : Z % 3 = 2 := g_eq (a := Z % 3) (b := 2) c_12 (by omega) (by omega)
      refine lv_iconst (v := 2) hx hb dL_areGains_15 (by decide) ?_
      refine lv_goto (tgt := 20) hx hb dL_areGains_16 (by decide) ?_
      exact hJ_20 _ (by first | (rw [if_pos c_12]; rfl) | (rw [if_neg c_12]; rfl))

set_option maxHeartbeats 4000000 in
set_option maxRecDepth 100000 in
theorem c_L_isDesigned (l : Launch) (hfl : l.stackTraces = false) (D : va_G) (cI cJ cO : ClassId) (df sz : Nat) (t0 : Nat) (w : va_W) (kt : Nat) (ka : Nat) (N : Nat) (mc : Nat → Int32) (ms : Nat → Int32) (mw : Nat → Int32) (C : Nat) (mo : Nat → Int32) (K : Nat) (mu : Nat → Int32) (Y : Nat) (rw0 : Nat → Int32) (tf : Nat → Int32) (qf : Nat → Int32) (mp : Nat → Int32) (hCL : CLS cI cJ cO df t0 w N mc ms mw C mo K mu Y rw0 tf qf) (hW : WF N mc ms mw C mo K Y rw0 mp tf qf) : MetI l yL_isDesigned wsL_isDesigned ({ frames := 13, cells := 6, slots := 40, locals := 420 } : Room) D (gTY cI cJ cO) df (([(kt, .inl (cI, 32, .inl tf)), (ka, .inl (cI, 32, .inl qf))] : va_W) ++ w) sz [.ref t0, .ref kt, .ref ka] (fun (r : Int32) (wZ : va_W) => ∃ (w1 : va_W), wZ = ([(kt, .inl (cI, 32, .inl (desA qf tf 32))), (ka, .inl (cI, 32, .inl qf))] : va_W) ++ w1 ∧ r = 1 ∧ CLS cI cJ cO df t0 w1 N mc ms mw C mo K mu Y rw0 (desA qf tf 32) qf) := by
  refine g_of (cc := cL_isDesigned) (nL := 8) (ret := (some .boolean)) (D := D) (TY := (gTY cI cJ cO)) (df := df) (Qc := fun A => va_Qi (fun (r : Int32) (wZ : va_W) => ∃ (w1 : va_W), wZ = ([(kt, .inl (cI, 32, .inl (desA qf tf 32))), (ka, .inl (cI, 32, .inl qf))] : va_W) ++ w1 ∧ r = 1 ∧ CLS cI cJ cO df t0 w1 N mc ms mw C mo K mu Y rw0 (desA qf tf 32) qf) (gB D (gTY cI cJ cO) A) A) (by decide +kernel) rfl (Nat.le_of_ble_eq_true rfl) ?_
  intro p e s m below meth c ls A hsz C0 hin hl
  obtain ⟨CF, hr, hlk, hA, hS, hP, hK, hD, hV, hH⟩ := C0
  have CF : CallFix p m c cL_isDesigned 8 s _ wsL_isDesigned RL := CF
  obtain ⟨hx, hb, hml, hown, hts⟩ := id CF
  subst hsz
  have hmethodLink_RL_60 : (Cond.methodLink RL 60 yX6_design).before _ s = true := hts _ (List.mem_of_getElem? (i := 1) rfl)
  have hmethodLink_RL_64 : (Cond.methodLink RL 64 yL_answer).before _ s = true := hts _ (List.mem_of_getElem? (i := 30) rfl)
  have hP : va_P D ccl (([(kt, .inl (cI, 32, .inl tf)), (ka, .inl (cI, 32, .inl qf))] : va_W) ++ w) s.heap := hP
  have hl : lv_has ls 8 [(0, .ref t0), (1, .ref kt), (2, .ref ka)] := hl
  obtain ⟨hN8, hC8, hmz, hsz9, hc, hs, hw, hO, hiM, hK6, hY, hrw, hm8, hp, ht, hq⟩ := id hW
  refine lv_iconst (v := 0) hx hb dL_isDesigned_0 (by decide) ?_
  refine lv_istore_n (lv' := [(3, .int 0), (0, .ref t0), (1, .ref kt), (2, .ref ka)]) hx hb dL_isDesigned_1 rfl hl (by decide) rfl (fun ls hl => ?_)
  refine lv_iconst (v := 0) hx hb dL_isDesigned_2 (by decide) ?_
  refine lv_istore (lv' := [(4, .int 0), (3, .int 0), (0, .ref t0), (1, .ref kt), (2, .ref ka)]) hx hb dL_isDesigned_3 hl (by decide) rfl (fun ls hl => ?_)
  rw [show tf = desA qf tf 0 from desA_0] at hP hD
  refine W.widen (k := 0) (n := 0) (Nat.le_refl _) (Nat.le_refl _) ?_
  refine g_while (σ := Nat) (st := []) (nL := 8) (fun k => ([(kt, .inl (cI, 32, .inl (desA qf tf k))), (ka, .inl (cI, 32, .inl qf))] : va_W) ++ w)
    (fun k => [(0, .ref t0), (1, .ref kt), (2, .ref ka), (3, .int (nI (desN qf tf k))), (4, .int (nI k))])
    (fun k => k ≤ 32)
    (fun k => 32 - k) (fun k => 0) (fun k => 0)
    ?_ 0 (Nat.zero_le _) hP hD hS (lv_sub hl [2, 3, 4, 1, 0] rfl)
  intro k hI H locs ls hP hD hS hl ih
  have hI : k ≤ 32 := hI
  have hP : va_P D ccl (([(kt, .inl (cI, 32, .inl (desA qf tf k))), (ka, .inl (cI, 32, .inl qf))] : va_W) ++ w) H := hP
  have hD : va_D A (([(kt, .inl (cI, 32, .inl (desA qf tf k))), (ka, .inl (cI, 32, .inl qf))] : va_W) ++ w) := hD
  have hl : lv_has ls 8 [(0, .ref t0), (1, .ref kt), (2, .ref ka), (3, .int (nI (desN qf tf k))), (4, .int (nI k))] := hl
  change W p l e _ s m _ below meth c H locs 0 0 _ (F0 m 5 ls [])
  have ih_5 := ih
  clear ih
  refine lv_iload hx hb dL_isDesigned_5 (lv_at hl 4 rfl) ?_
  refine lv_bipush (v := 32) hx hb dL_isDesigned_7 (by decide) ?_
  refine lv_icmp_ge (tgt := 113) hx hb dL_isDesigned_9 (by decide) (fun c_9 => ?_) (fun c_9 => ?_)
  · have c_9 : 32 ≤ k := g_le (a := 32) (b := k) c_9 (by omega) (by omega)
    obtain rfl : k = 32 := by omega
    refine lv_aload_n hx hb dL_isDesigned_113 rfl (lv_at hl 0 rfl) ?_
    have hPc := hP.part (X := [(kt, .inl (cI, 32, .inl (desA qf tf 32))), (ka, .inl (cI, 32, .inl qf))]) (cx := []) [] rfl
    have hDc := hD.part (X := [(kt, .inl (cI, 32, .inl (desA qf tf 32))), (ka, .inl (cI, 32, .inl qf))]) (cx := []) [] (by decide) rfl
    have hFc := va_freeP (X := [(kt, .inl (cI, 32, .inl (desA qf tf 32))), (ka, .inl (cI, 32, .inl qf))]) (cx := []) hD hS hA [] rfl
    refine g_Vi (As := []) (rest := []) CF (c3_X6_design l hfl D cI cJ cO df H.size t0 w N mc ms mw C mo K mu Y rw0 tf qf mp hCL hW) (cwV 0 hts gL_isDesigned_X6_design rfl rfl rfl (by decide +kernel) ⟨Nat.le_of_ble_eq_true rfl, Nat.le_of_ble_eq_true rfl⟩) (cls_recv (X := [(kt, .inl (cI, 32, .inl (desA qf tf 32))), (ka, .inl (cI, 32, .inl qf))]) hCL hK hP) hPc hK hDc hV hH hS hFc rfl hl.1 rfl (Nat.le_of_ble_eq_true rfl) dL_isDesigned_114 ⟨Nat.le_of_ble_eq_true rfl, Nat.le_of_ble_eq_true rfl⟩ (fun r_114 w1 H1 locs1 hq hP1 hD1 hk hS hz => ?_)
    obtain ⟨w2, ew_114, hq_114⟩ := hq
    rw [ew_114] at hP1 hD1
    obtain ⟨hP, hD⟩ := g_joinP (X := [(kt, .inl (cI, 32, .inl (desA qf tf 32))), (ka, .inl (cI, 32, .inl qf))]) (cx := []) (rx := []) (X' := [(kt, .inl (cI, 32, .inl (desA qf tf 32))), (ka, .inl (cI, 32, .inl qf))]) hP hD hk hFc hP1 hD1 [] [0, 1] [0, 1] rfl rfl (by decide) (by decide) (by decide) rfl
    clear hPc hDc hFc hP1 hD1 hk hz
    generalize H1 = H at hP hS ⊢
    have hP : va_P D ccl (([(kt, .inl (cI, 32, .inl (desA qf tf 32))), (ka, .inl (cI, 32, .inl qf))] : va_W) ++ w2) H := hP
    have hD : va_D A (([(kt, .inl (cI, 32, .inl (desA qf tf 32))), (ka, .inl (cI, 32, .inl qf))] : va_W) ++ w2) := hD
    obtain ⟨hCL, hq_114⟩ := hq_114
    subst hq_114
    refine lv_iload_n hx hb dL_isDesigned_117 rfl (lv_at hl 3 rfl) ?_
    refine lv_icmp_ne (tgt := 125) hx hb dL_isDesigned_118 (by decide) (fun c_118 => ?_) (fun c_118 => ?_)
    · exact absurd rfl c_118
    · refine lv_iconst (v := 1) hx hb dL_isDesigned_121 (by decide) ?_
      refine lv_goto (tgt := 126) hx hb dL_isDesigned_122 (by decide) ?_
      refine lv_istore (lv' := [(4, .int 1), (0, .ref t0), (1, .ref kt), (2, .ref ka), (3, .int (nI (desN qf tf 32)))]) hx hb dL_isDesigned_126 hl (by decide) rfl (fun ls hl => ?_)
      refine lv_iconst (v := 0) hx hb dL_isDesigned_128 (by decide) ?_
      refine lv_istore (lv' := [(5, .int 0), (4, .int 1), (0, .ref t0), (1, .ref kt), (2, .ref ka), (3, .int (nI (desN qf tf 32)))]) hx hb dL_isDesigned_129 hl (by decide) rfl (fun ls hl => ?_)
      refine W.widen (k := 6) (n := 40) (Nat.le_refl _) (Nat.le_refl _) ?_
      refine g_while (σ := Nat) (st := []) (nL := 8) (fun k => ([(kt, .inl (cI, 32, .inl (desA qf tf 32))), (ka, .inl (cI, 32, .inl qf))] : va_W) ++ w2)
        (fun k => [(0, .ref t0), (1, .ref kt), (2, .ref ka), (4, .int 1), (5, .int (nI k))])
        (fun k => k ≤ 32)
        (fun k => 32 - k) (fun k => 6) (fun k => 40)
        ?_ 0 (Nat.zero_le _) hP hD hS (lv_sub hl [2, 3, 4, 1, 0] rfl)
      intro k hI H locs ls hP hD hS hl ih
      have hI : k ≤ 32 := hI
      have hP : va_P D ccl (([(kt, .inl (cI, 32, .inl (desA qf tf 32))), (ka, .inl (cI, 32, .inl qf))] : va_W) ++ w2) H := hP
      have hD : va_D A (([(kt, .inl (cI, 32, .inl (desA qf tf 32))), (ka, .inl (cI, 32, .inl qf))] : va_W) ++ w2) := hD
      have hl : lv_has ls 8 [(0, .ref t0), (1, .ref kt), (2, .ref ka), (4, .int 1), (5, .int (nI k))] := hl
      change W p l e _ s m _ below meth c H locs 6 40 _ (F0 m 131 ls [])
      have ih_131 := ih
      clear ih
      refine lv_iload hx hb dL_isDesigned_131 (lv_at hl 4 rfl) ?_
      refine lv_bipush (v := 32) hx hb dL_isDesigned_133 (by decide) ?_
      refine lv_icmp_ge (tgt := 169) hx hb dL_isDesigned_135 (by decide) (fun c_135 => ?_) (fun c_135 => ?_)
      · have c_135 : 32 ≤ k := g_le (a := 32) (b := k) c_135 (by omega) (by omega)
        refine lv_iload hx hb dL_isDesigned_169 (lv_at hl 3 rfl) ?_
        refine g_zret (v := 1) hx hb hr hlk hP hK hD hS (Nat.le_of_ble_eq_true rfl) (Nat.le_of_ble_eq_true rfl) dL_isDesigned_171 (by decide +kernel) ?_
        exact ⟨_, rfl, rfl, hCL⟩
      · have c_135 : k < 32 := g_nle (a := 32) (b := k) c_135 (by omega) (by omega)
        refine lv_iload hx hb dL_isDesigned_138 (lv_at hl 3 rfl) ?_
        refine lv_if_eq (tgt := 169) hx hb dL_isDesigned_140 (by decide) (fun c_140 => ?_) (fun c_140 => ?_)
        · exact absurd c_140 (by decide)
        · refine lv_aload_n hx hb dL_isDesigned_143 rfl (lv_at hl 1 rfl) ?_
          refine lv_iload hx hb dL_isDesigned_144 (lv_at hl 4 rfl) ?_
          have hPc := hP.sub (ws' := [(kt, .inl (cI, 32, .inl (desA qf tf 32)))]) [0] rfl
          have hDc := hD.sub (ws' := [(kt, .inl (cI, 32, .inl (desA qf tf 32)))]) [0] (by decide) rfl
          have hFc := va_free (wc := [(kt, .inl (cI, 32, .inl (desA qf tf 32)))]) hD hS hA [0] rfl
          refine g_Si (As := [.ref kt, .int (nI k)]) (rest := []) CF (c_L_answer l D cI cJ cO df H.size kt (desA qf tf 32) k isR_des (by omega)) (va_cwS 2 hts gL_isDesigned_L_answer rfl rfl rfl (by decide +kernel) ⟨Nat.le_of_ble_eq_true rfl, Nat.le_of_ble_eq_true rfl⟩)  hPc hK hDc hV hH hS hFc rfl hl.1 rfl (Nat.le_of_ble_eq_true rfl) dL_isDesigned_146 ⟨Nat.le_of_ble_eq_true rfl, Nat.le_of_ble_eq_true rfl⟩ (fun r_146 w1 H1 locs1 hq hP1 hD1 hk hS hz => ?_)
          obtain ⟨rfl, hr_146⟩ := hq
          have hP := g_keepR hP hD [0] rfl hk hP1
          clear hPc hDc hFc hP1 hD1 hk hz
          generalize H1 = H at hP hS ⊢
          have hP : va_P D ccl (([(kt, .inl (cI, 32, .inl (desA qf tf 32))), (ka, .inl (cI, 32, .inl qf))] : va_W) ++ w2) H := hP
          have hD : va_D A (([(kt, .inl (cI, 32, .inl (desA qf tf 32))), (ka, .inl (cI, 32, .inl qf))] : va_W) ++ w2) := hD
          subst hr_146
          refine lv_aload_n hx hb dL_isDesigned_149 rfl (lv_at hl 2 rfl) ?_
          refine lv_iload hx hb dL_isDesigned_150 (lv_at hl 4 rfl) ?_
          refine va_iald hx hb hK hP 1 0 rfl rfl (vp_in_nI (by omega) (by omega)) dL_isDesigned_152 ?_
          refine lv_topi (fun f ef => ?_)
          obtain rfl : f = qf k := ef.trans (congrArg qf (nI_clamp (n := k) (by omega)))
          refine lv_icmp_ne (tgt := 160) hx hb dL_isDesigned_153 (by decide) (fun c_153 => ?_) (fun c_153 => ?_)
          · exact absurd (des_ans hq c_135) c_153
          · refine lv_iconst (v := 1) hx hb dL_isDesigned_156 (by decide) ?_
            refine lv_goto (tgt := 161) hx hb dL_isDesigned_157 (by decide) ?_
            refine lv_istore (lv' := [(4, .int 1), (0, .ref t0), (1, .ref kt), (2, .ref ka), (5, .int (nI k))]) hx hb dL_isDesigned_161 hl (by decide) rfl (fun ls hl => ?_)
            refine lv_iinc (v := nI (k + 1)) (lv' := [(5, .int (nI (k + 1))), (4, .int 1), (0, .ref t0), (1, .ref kt), (2, .ref ka)]) hx hb dL_isDesigned_163 hl (k := 4) rfl (by exact nI_1 _) (by decide) rfl (fun ls hl => ?_)
            refine lv_goto (tgt := 131) hx hb dL_isDesigned_166 (by decide) ?_
            refine W.widen (k := 6) (n := 40) (Nat.le_refl _) (Nat.le_refl _) ?_
            exact ih_131 (k + 1) _ _ _ (show (k + 1) ≤ 32 from (by exact c_135)) (show 32 - (k + 1) < 32 - k by omega) hP hD hS (lv_sub hl [2, 3, 4, 1, 0] rfl)
  · have c_9 : k < 32 := g_nle (a := 32) (b := k) c_9 (by omega) (by omega)
    refine lv_iconst (v := 0) hx hb dL_isDesigned_12 (by decide) ?_
    refine lv_istore (lv' := [(5, .int 0), (0, .ref t0), (1, .ref kt), (2, .ref ka), (3, .int (nI (desN qf tf k))), (4, .int (nI k))]) hx hb dL_isDesigned_13 hl (by decide) rfl (fun ls hl => ?_)
    refine lv_iconst (v := 1) hx hb dL_isDesigned_15 (by decide) ?_
    refine lv_topi (fun f ef => ?_)
    obtain rfl : f = nI (pw (32 - 0)) := ef.trans (by decide)
    refine lv_istore (lv' := [(6, .int (nI (pw (32 - 0)))), (5, .int 0), (0, .ref t0), (1, .ref kt), (2, .ref ka), (3, .int (nI (desN qf tf k))), (4, .int (nI k))]) hx hb dL_isDesigned_16 hl (by decide) rfl (fun ls hl => ?_)
    refine lv_iconst (v := 0) hx hb dL_isDesigned_18 (by decide) ?_
    refine lv_istore (lv' := [(7, .int 0), (6, .int (nI (pw (32 - 0)))), (5, .int 0), (0, .ref t0), (1, .ref kt), (2, .ref ka), (3, .int (nI (desN qf tf k))), (4, .int (nI k))]) hx hb dL_isDesigned_19 hl (by decide) rfl (fun ls hl => ?_)
    refine W.widen (k := 0) (n := 0) (Nat.le_refl _) (Nat.le_refl _) ?_
    refine g_while (σ := Nat) (st := []) (nL := 8) (fun j => ([(kt, .inl (cI, 32, .inl (desA qf tf k))), (ka, .inl (cI, 32, .inl qf))] : va_W) ++ w)
      (fun j => [(0, .ref t0), (1, .ref kt), (2, .ref ka), (3, .int (nI (desN qf tf k))), (4, .int (nI k)), (5, .int 0), (6, .int (nI (pw (32 - j)))), (7, .int (nI j))])
      (fun j => j ≤ k)
      (fun j => k - j) (fun j => 0) (fun j => 0)
      ?_ 0 (Nat.zero_le _) hP hD hS (lv_sub hl [3, 4, 5, 6, 7, 2, 1, 0] rfl)
    intro j hI H locs ls hP hD hS hl ih
    have hI : j ≤ k := hI
    have hP : va_P D ccl (([(kt, .inl (cI, 32, .inl (desA qf tf k))), (ka, .inl (cI, 32, .inl qf))] : va_W) ++ w) H := hP
    have hD : va_D A (([(kt, .inl (cI, 32, .inl (desA qf tf k))), (ka, .inl (cI, 32, .inl qf))] : va_W) ++ w) := hD
    have hl : lv_has ls 8 [(0, .ref t0), (1, .ref kt), (2, .ref ka), (3, .int (nI (desN qf tf k))), (4, .int (nI k)), (5, .int 0), (6, .int (nI (pw (32 - j)))), (7, .int (nI j))] := hl
    change W p l e _ s m _ below meth c H locs 0 0 _ (F0 m 21 ls [])
    have ih_21 := ih
    clear ih
    have hp9 := pw_lt (32 - j)
    refine lv_iload hx hb dL_isDesigned_21 (lv_at hl 7 rfl) ?_
    refine lv_iload hx hb dL_isDesigned_23 (lv_at hl 4 rfl) ?_
    refine lv_icmp_ge (tgt := 44) hx hb dL_isDesigned_25 (by decide) (fun c_25 => ?_) (fun c_25 => ?_)
    · have c_25 : k ≤ j := g_le (a := k) (b := j) c_25 (by omega) (by omega)
      obtain rfl : k = j := by omega
      refine lv_bipush (v := 31) hx hb dL_isDesigned_44 (by decide) ?_
      refine lv_istore (lv' := [(7, .int 31), (0, .ref t0), (1, .ref kt), (2, .ref ka), (3, .int (nI (desN qf tf k))), (4, .int (nI k)), (5, .int 0), (6, .int (nI (pw (32 - k))))]) hx hb dL_isDesigned_46 hl (by decide) rfl (fun ls hl => ?_)
      refine W.widen (k := 0) (n := 0) (Nat.le_refl _) (Nat.le_refl _) ?_
      refine g_while (σ := Nat) (st := []) (nL := 8) (fun u => ([(kt, .inl (cI, 32, .inl (desA qf tf k))), (ka, .inl (cI, 32, .inl qf))] : va_W) ++ w)
        (fun u => [(0, .ref t0), (1, .ref kt), (2, .ref ka), (3, .int (nI (desN qf tf k))), (4, .int (nI k)), (5, .int (nI (hsum qf (pw (32 - k)) u))), (6, .int (nI (pw (32 - k)))), (7, .int (nI 31 - nI u))])
        (fun u => u ≤ 32)
        (fun u => 32 - u) (fun u => 0) (fun u => 0)
        ?_ 0 (Nat.zero_le _) hP hD hS (lv_sub hl [1, 2, 3, 4, 5, 6, 7, 0] rfl)
      intro u hI H locs ls hP hD hS hl ih
      have hI : u ≤ 32 := hI
      have hP : va_P D ccl (([(kt, .inl (cI, 32, .inl (desA qf tf k))), (ka, .inl (cI, 32, .inl qf))] : va_W) ++ w) H := hP
      have hD : va_D A (([(kt, .inl (cI, 32, .inl (desA qf tf k))), (ka, .inl (cI, 32, .inl qf))] : va_W) ++ w) := hD
      have hl : lv_has ls 8 [(0, .ref t0), (1, .ref kt), (2, .ref ka), (3, .int (nI (desN qf tf k))), (4, .int (nI k)), (5, .int (nI (hsum qf (pw (32 - k)) u))), (6, .int (nI (pw (32 - k)))), (7, .int (nI 31 - nI u))] := hl
      change W p l e _ s m _ below meth c H locs 0 0 _ (F0 m 48 ls [])
      have ih_48 := ih
      clear ih
      have hh9 := hsum_lt qf (pw (32 - k)) u
      have hp9 := pw_lt (32 - k)
      refine lv_iload hx hb dL_isDesigned_48 (lv_at hl 7 rfl) ?_
      refine lv_if_lt (tgt := 74) hx hb dL_isDesigned_50 (by decide) (fun c_50 => ?_) (fun c_50 => ?_)
      · have c_50 := (dn_lt hI).mp c_50
        obtain rfl : u = 32 := by omega
        refine lv_iload hx hb dL_isDesigned_74 (lv_at hl 5 rfl) ?_
        refine lv_bipush (v := 94) hx hb dL_isDesigned_76 (by decide) ?_
        refine lv_imul hx hb dL_isDesigned_78 ?_
        refine lv_topi (fun f ef => ?_)
        obtain rfl : f = nI ((hsum qf (pw (32 - k)) 32) * 94) := ef.trans (pk_mul _ _)
        refine lv_bipush (v := 97) hx hb dL_isDesigned_79 (by decide) ?_
        refine lv_irem hx hb dL_isDesigned_81 (by decide) ?_
        refine lv_topi (fun f ef => ?_)
        obtain rfl : f = nI (desT qf k) := ef.trans ((pk_rem (a := hsum qf (pw (32 - k)) 32 * 94) (d := 97) (by omega) (by omega) (by omega)).trans (congrArg nI des_sum))
        refine lv_istore (lv' := [(7, .int (nI (desT qf k))), (0, .ref t0), (1, .ref kt), (2, .ref ka), (3, .int (nI (desN qf tf k))), (4, .int (nI k)), (5, .int (nI (hsum qf (pw (32 - k)) 32))), (6, .int (nI (pw (32 - k))))]) hx hb dL_isDesigned_82 hl (by decide) rfl (fun ls hl => ?_)
        refine lv_iload_n hx hb dL_isDesigned_84 rfl (lv_at hl 4 rfl) ?_
        refine lv_iload hx hb dL_isDesigned_85 (lv_at hl 0 rfl) ?_
        refine lv_aload_n hx hb dL_isDesigned_87 rfl (lv_at hl 2 rfl) ?_
        refine lv_iload hx hb dL_isDesigned_88 (lv_at hl 5 rfl) ?_
        refine va_iald hx hb hK hP 0 0 rfl rfl (vp_in_nI (by omega) (by omega)) dL_isDesigned_90 ?_
        refine lv_topi (fun f ef => ?_)
        obtain rfl : f = (desA qf tf k) k := ef.trans (congrArg (desA qf tf k) (nI_clamp (n := k) (by omega)))
        refine lv_topi (fun f ef => ?_)
        obtain rfl : f = tf k := ef.trans (if_neg (Nat.lt_irrefl k))
        refine g_phii (ls := ls) (J := 99) (st1 := [.int (nI (desN qf tf k))]) (REL := fun v9 => v9 = nI (if tf k = nI (desT qf k) then 0 else 1)) (fun v9 hb_99 => ?_) (fun hJ_99 => ?_)
        · subst hb_99
          refine lv_iadd hx hb dL_isDesigned_99 ?_
          refine lv_topi (fun f ef => ?_)
          obtain rfl : f = nI ((desN qf tf k) + (if tf k = nI (desT qf k) then 0 else 1)) := ef.trans (nI_add _ _)
          refine lv_topi (fun f ef => ?_)
          obtain rfl : f = nI (desN qf tf (k + 1)) := ef.trans (rfl)
          refine lv_istore_n (lv' := [(3, .int (nI (desN qf tf (k + 1)))), (7, .int (nI (desT qf k))), (0, .ref t0), (1, .ref kt), (2, .ref ka), (4, .int (nI k)), (5, .int (nI (hsum qf (pw (32 - k)) 32))), (6, .int (nI (pw (32 - k))))]) hx hb dL_isDesigned_100 rfl hl (by decide) rfl (fun ls hl => ?_)
          refine lv_aload_n hx hb dL_isDesigned_101 rfl (lv_at hl 3 rfl) ?_
          refine lv_iload hx hb dL_isDesigned_102 (lv_at hl 5 rfl) ?_
          refine lv_iload hx hb dL_isDesigned_104 (lv_at hl 1 rfl) ?_
          refine va_iast hx hb hK hP hD hS 0 0 rfl rfl (vp_in_nI (by omega) (by omega)) dL_isDesigned_106 (fun H locs hP hD hS => ?_)
          rw [show (nI k).toNatClampNeg = k from (nI_clamp (by omega))] at hP hD
          rw [show upd (desA qf tf k) k (nI (desT qf k)) = desA qf tf (k + 1) from desA_s] at hP hD
          have hP : va_P D ccl (([(kt, .inl (cI, 32, .inl (desA qf tf (k + 1)))), (ka, .inl (cI, 32, .inl qf))] : va_W) ++ w) H := hP
          have hD : va_D A (([(kt, .inl (cI, 32, .inl (desA qf tf (k + 1)))), (ka, .inl (cI, 32, .inl qf))] : va_W) ++ w) := hD
          refine lv_iinc (v := nI (k + 1)) (lv' := [(4, .int (nI (k + 1))), (3, .int (nI (desN qf tf (k + 1)))), (7, .int (nI (desT qf k))), (0, .ref t0), (1, .ref kt), (2, .ref ka), (5, .int (nI (hsum qf (pw (32 - k)) 32))), (6, .int (nI (pw (32 - k))))]) hx hb dL_isDesigned_107 hl (k := 5) rfl (by exact nI_1 _) (by decide) rfl (fun ls hl => ?_)
          refine lv_goto (tgt := 5) hx hb dL_isDesigned_110 (by decide) ?_
          refine W.widen (k := 0) (n := 0) (Nat.le_refl _) (Nat.le_refl _) ?_
          exact ih_5 (k + 1) _ _ _ (show (k + 1) ≤ 32 from (by exact c_9)) (show 32 - (k + 1) < 32 - k by omega) hP hD hS (lv_sub hl [3, 4, 5, 1, 0] rfl)
        · refine lv_icmp_ne (tgt := 98) hx hb dL_isDesigned_91 (by decide) (fun c_91 => ?_) (fun c_91 => ?_)
          · refine lv_iconst (v := 1) hx hb dL_isDesigned_98 (by decide) ?_
            exact hJ_99 _ (by first | (rw [if_neg (fun h9 => c_91 h9.symm)]; rfl) | (rw [if_pos c_91.symm]; rfl))
          · refine lv_iconst (v := 0) hx hb dL_isDesigned_94 (by decide) ?_
            refine lv_goto (tgt := 99) hx hb dL_isDesigned_95 (by decide) ?_
            exact hJ_99 _ (by first | (rw [if_neg (fun h9 => c_91 h9.symm)]; rfl) | (rw [if_pos c_91.symm]; rfl))
      · have c_50 : u ≤ 31 := Nat.le_of_not_lt (fun h9 => c_50 ((dn_lt hI).mpr h9))
        have e6 : nI 31 - nI u = nI (31 - u) := pk_sub (a := 31) (b := u) (by omega)
        have hl : lv_has ls 8 [(0, .ref t0), (1, .ref kt), (2, .ref ka), (3, .int (nI (desN qf tf k))), (4, .int (nI k)), (5, .int (nI (hsum qf (pw (32 - k)) u))), (6, .int (nI (pw (32 - k)))), (7, .int (nI (31 - u)))] := by rw [e6] at hl; exact hl
        refine lv_iload hx hb dL_isDesigned_53 (lv_at hl 5 rfl) ?_
        refine lv_iload hx hb dL_isDesigned_55 (lv_at hl 6 rfl) ?_
        refine lv_imul hx hb dL_isDesigned_57 ?_
        refine lv_topi (fun f ef => ?_)
        obtain rfl : f = nI ((hsum qf (pw (32 - k)) u) * (pw (32 - k))) := ef.trans (pk_mul _ _)
        refine lv_aload_n hx hb dL_isDesigned_58 rfl (lv_at hl 2 rfl) ?_
        refine lv_iload hx hb dL_isDesigned_59 (lv_at hl 7 rfl) ?_
        refine va_iald hx hb hK hP 1 0 rfl rfl (vp_in_nI (by omega) (by omega)) dL_isDesigned_61 ?_
        refine lv_topi (fun f ef => ?_)
        obtain rfl : f = qf (31 - u) := ef.trans (congrArg qf (nI_clamp (n := 31 - u) (by omega)))
        refine lv_topi (fun f ef => ?_)
        obtain rfl : f = nI (gN (qf (31 - u))) := ef.trans ((hq _ (by omega)).1)
        have hm9 := mul97 hh9 hp9
        have hg9 := (hq (31 - u) (by omega)).2
        refine lv_iadd hx hb dL_isDesigned_62 ?_
        refine lv_topi (fun f ef => ?_)
        obtain rfl : f = nI (((hsum qf (pw (32 - k)) u) * (pw (32 - k))) + (gN (qf (31 - u)))) := ef.trans (nI_add _ _)
        refine lv_bipush (v := 97) hx hb dL_isDesigned_63 (by decide) ?_
        refine lv_irem hx hb dL_isDesigned_65 (by decide) ?_
        refine lv_topi (fun f ef => ?_)
        obtain rfl : f = nI (hsum qf (pw (32 - k)) (u + 1)) := ef.trans ((pk_rem (a := hsum qf (pw (32 - k)) u * pw (32 - k) + gN (qf (31 - u))) (d := 97) (by omega) (by omega) (by omega)).trans (congrArg nI hsum_step))
        refine lv_istore (lv' := [(5, .int (nI (hsum qf (pw (32 - k)) (u + 1)))), (0, .ref t0), (1, .ref kt), (2, .ref ka), (3, .int (nI (desN qf tf k))), (4, .int (nI k)), (6, .int (nI (pw (32 - k)))), (7, .int (nI (31 - u)))]) hx hb dL_isDesigned_66 hl (by decide) rfl (fun ls hl => ?_)
        refine lv_iinc (v := nI 31 - nI (u + 1)) (lv' := [(7, .int (nI 31 - nI (u + 1))), (5, .int (nI (hsum qf (pw (32 - k)) (u + 1)))), (0, .ref t0), (1, .ref kt), (2, .ref ka), (3, .int (nI (desN qf tf k))), (4, .int (nI k)), (6, .int (nI (pw (32 - k))))]) hx hb dL_isDesigned_68 hl (k := 7) rfl (by exact dn_s c_50) (by decide) rfl (fun ls hl => ?_)
        refine lv_goto (tgt := 48) hx hb dL_isDesigned_71 (by decide) ?_
        refine W.widen (k := 0) (n := 0) (Nat.le_refl _) (Nat.le_refl _) ?_
        exact ih_48 (u + 1) _ _ _ (show (u + 1) ≤ 32 from (by omega)) (show 32 - (u + 1) < 32 - u by omega) hP hD hS (lv_sub hl [2, 3, 4, 5, 6, 1, 7, 0] rfl)
    · have c_25 : j < k := g_nle (a := k) (b := j) c_25 (by omega) (by omega)
      refine lv_iload hx hb dL_isDesigned_28 (lv_at hl 6 rfl) ?_
      refine lv_bipush (v := 52) hx hb dL_isDesigned_30 (by decide) ?_
      refine lv_imul hx hb dL_isDesigned_32 ?_
      refine lv_topi (fun f ef => ?_)
      obtain rfl : f = nI ((pw (32 - j)) * 52) := ef.trans (pk_mul _ _)
      refine lv_bipush (v := 97) hx hb dL_isDesigned_33 (by decide) ?_
      refine lv_irem hx hb dL_isDesigned_35 (by decide) ?_
      refine lv_topi (fun f ef => ?_)
      obtain rfl : f = nI (pw (32 - (j + 1))) := ef.trans ((pk_rem (a := pw (32 - j) * 52) (d := 97) (by omega) (by omega) (by omega)).trans (congrArg nI (p52_s j (by omega))))
      refine lv_istore (lv' := [(6, .int (nI (pw (32 - (j + 1))))), (0, .ref t0), (1, .ref kt), (2, .ref ka), (3, .int (nI (desN qf tf k))), (4, .int (nI k)), (5, .int 0), (7, .int (nI j))]) hx hb dL_isDesigned_36 hl (by decide) rfl (fun ls hl => ?_)
      refine lv_iinc (v := nI (j + 1)) (lv' := [(7, .int (nI (j + 1))), (6, .int (nI (pw (32 - (j + 1))))), (0, .ref t0), (1, .ref kt), (2, .ref ka), (3, .int (nI (desN qf tf k))), (4, .int (nI k)), (5, .int 0)]) hx hb dL_isDesigned_38 hl (k := 7) rfl (by exact nI_1 _) (by decide) rfl (fun ls hl => ?_)
      refine lv_goto (tgt := 21) hx hb dL_isDesigned_41 (by decide) ?_
      refine W.widen (k := 0) (n := 0) (Nat.le_refl _) (Nat.le_refl _) ?_
      exact ih_21 (j + 1) _ _ _ (show (j + 1) ≤ k from (by exact c_25)) (show k - (j + 1) < k - j by omega) hP hD hS (lv_sub hl [2, 3, 4, 5, 6, 7, 1, 0] rfl)

set_option maxHeartbeats 4000000 in
set_option maxRecDepth 100000 in
theorem c_L_isArranged (l : Launch) (hfl : l.stackTraces = false) (D : va_G) (cI cJ cO : ClassId) (df sz : Nat) (t0 : Nat) (w : va_W) (kc : Nat) (kq : Nat) (km : Nat) (fc : Nat → Int32) (N : Nat) (mc : Nat → Int32) (ms : Nat → Int32) (mw : Nat → Int32) (C : Nat) (mo : Nat → Int32) (K : Nat) (mu : Nat → Int32) (Y : Nat) (rw0 : Nat → Int32) (tf : Nat → Int32) (qf : Nat → Int32) (mp : Nat → Int32) (hCL : CLS cI cJ cO df t0 w N mc ms mw C mo K mu Y rw0 tf qf) (hW : WF N mc ms mw C mo K Y rw0 mp tf qf) (hN4 : N ≤ 4) (hR : RC fc mc ms mw N) : MetI l yL_isArranged wsL_isArranged ({ frames := 13, cells := 8, slots := 50, locals := 420 } : Room) D (gTY cI cJ cO) df (([(kc, .inl (cI, 40, .inl fc)), (kq, .inl (cI, 4, .inl mo)), (km, .inl (cI, 4, .inl (mF N C K Y)))] : va_W) ++ w) sz [.ref t0, .ref kc, .ref kq, .ref km] (fun (r : Int32) (wZ : va_W) => ∃ (w1 : va_W), wZ = ([(kc, .inl (cI, 40, .inl fc)), (kq, .inl (cI, 4, .inl (arO mc mo C C))), (km, .inl (cI, 4, .inl (mF N C K Y)))] : va_W) ++ w1 ∧ r = 1 ∧ CLS cI cJ cO df t0 w1 N mc ms mw C (arO mc mo C C) K mu Y rw0 tf qf ∧ WF N mc ms mw C (arO mc mo C C) K Y rw0 mp tf qf) := by
  refine g_of (cc := cL_isArranged) (nL := 9) (ret := (some .boolean)) (D := D) (TY := (gTY cI cJ cO)) (df := df) (Qc := fun A => va_Qi (fun (r : Int32) (wZ : va_W) => ∃ (w1 : va_W), wZ = ([(kc, .inl (cI, 40, .inl fc)), (kq, .inl (cI, 4, .inl (arO mc mo C C))), (km, .inl (cI, 4, .inl (mF N C K Y)))] : va_W) ++ w1 ∧ r = 1 ∧ CLS cI cJ cO df t0 w1 N mc ms mw C (arO mc mo C C) K mu Y rw0 tf qf ∧ WF N mc ms mw C (arO mc mo C C) K Y rw0 mp tf qf) (gB D (gTY cI cJ cO) A) A) (by decide +kernel) rfl (Nat.le_of_ble_eq_true rfl) ?_
  intro p e s m below meth c ls A hsz C0 hin hl
  obtain ⟨CF, hr, hlk, hA, hS, hP, hK, hD, hV, hH⟩ := C0
  have CF : CallFix p m c cL_isArranged 9 s _ wsL_isArranged RL := CF
  obtain ⟨hx, hb, hml, hown, hts⟩ := id CF
  subst hsz
  have hArrI : (Cond.arrayClass .int).before _ s = true := hts _ (List.mem_of_getElem? (i := 1) rfl)
  have hmethodLink_RL_91 : (Cond.methodLink RL 91 yX6_arrange).before _ s = true := hts _ (List.mem_of_getElem? (i := 6) rfl)
  have hmethodLink_RL_15 : (Cond.methodLink RL 15 yL_abs).before _ s = true := hts _ (List.mem_of_getElem? (i := 2) rfl)
  have hP : va_P D ccl (([(kc, .inl (cI, 40, .inl fc)), (kq, .inl (cI, 4, .inl mo)), (km, .inl (cI, 4, .inl (mF N C K Y)))] : va_W) ++ w) s.heap := hP
  have hl : lv_has ls 9 [(0, .ref t0), (1, .ref kc), (2, .ref kq), (3, .ref km)] := hl
  obtain ⟨hN8, hC8, hmz, hsz9, hc, hs, hw, hO, hiM, hK6, hY, hrw, hm8, hp, ht, hq⟩ := id hW
  have hCN := wf_CN hW
  have hC4 : C ≤ 4 := by omega
  have hO8 : ∀ i, i < C → gN (mo i) < 8 := fun i hi => Nat.lt_of_lt_of_le (hO i hi).1 hN8
  refine lv_iconst (v := 4) hx hb dL_isArranged_0 (by decide) ?_
  refine g_newaI (N := 4) hx hb hArrI hK hP hD hS hA (by decide) (by decide) (Nat.le_of_ble_eq_true rfl) (Nat.le_of_ble_eq_true rfl) (Nat.le_of_ble_eq_true rfl) dL_isArranged_1 (fun kh H hP hD hS => ?_)
  have hP := hP.perm9 (tl_perm (X := [(kc, .inl (cI, 40, .inl fc)), (kq, .inl (cI, 4, .inl mo)), (km, .inl (cI, 4, .inl (mF N C K Y)))]) (c := [(kh, .inl (cI, 4, .inl (fun _ => 0)))]))
  have hD := hD.perm9 (tl_perm (X := [(kc, .inl (cI, 40, .inl fc)), (kq, .inl (cI, 4, .inl mo)), (km, .inl (cI, 4, .inl (mF N C K Y)))]) (c := [(kh, .inl (cI, 4, .inl (fun _ => 0)))]))
  have hP : va_P D ccl (([(kc, .inl (cI, 40, .inl fc)), (kq, .inl (cI, 4, .inl mo)), (km, .inl (cI, 4, .inl (mF N C K Y))), (kh, .inl (cI, 4, .inl (fun _ => 0)))] : va_W) ++ w) H := hP
  have hD : va_D A (([(kc, .inl (cI, 40, .inl fc)), (kq, .inl (cI, 4, .inl mo)), (km, .inl (cI, 4, .inl (mF N C K Y))), (kh, .inl (cI, 4, .inl (fun _ => 0)))] : va_W) ++ w) := hD
  refine lv_astore (lv' := [(4, .ref kh), (0, .ref t0), (1, .ref kc), (2, .ref kq), (3, .ref km)]) hx hb dL_isArranged_3 hl (by decide) rfl (fun ls hl => ?_)
  refine lv_iconst (v := 0) hx hb dL_isArranged_5 (by decide) ?_
  refine lv_istore (lv' := [(5, .int 0), (4, .ref kh), (0, .ref t0), (1, .ref kc), (2, .ref kq), (3, .ref km)]) hx hb dL_isArranged_6 hl (by decide) rfl (fun ls hl => ?_)
  refine W.widen (k := 1) (n := 4) (Nat.le_refl _) (Nat.le_refl _) ?_
  refine g_while (σ := Nat × (Nat → Int32)) (st := []) (nL := 9) (fun z => match z with | (i, h1) => ([(kc, .inl (cI, 40, .inl fc)), (kq, .inl (cI, 4, .inl mo)), (km, .inl (cI, 4, .inl (mF N C K Y))), (kh, .inl (cI, 4, .inl h1))] : va_W) ++ w)
    (fun z => match z with | (i, h1) => [(0, .ref t0), (1, .ref kc), (2, .ref kq), (3, .ref km), (4, .ref kh), (5, .int (nI i))])
    (fun z => match z with | (i, h1) => i ≤ C ∧ h1 = cpTo mo (fun _ => 0) i)
    (fun z => match z with | (i, h1) => C - i) (fun z => match z with | (i, h1) => 1) (fun z => match z with | (i, h1) => 4)
    ?_ (0, (fun _ => 0)) ⟨Nat.zero_le C, cpTo_0⟩ hP hD hS (lv_sub hl [2, 3, 4, 5, 1, 0] rfl)
  rintro ⟨i, h1⟩ hI H locs ls hP hD hS hl ih
  have hI : i ≤ C ∧ h1 = cpTo mo (fun _ => 0) i := hI
  have hP : va_P D ccl (([(kc, .inl (cI, 40, .inl fc)), (kq, .inl (cI, 4, .inl mo)), (km, .inl (cI, 4, .inl (mF N C K Y))), (kh, .inl (cI, 4, .inl h1))] : va_W) ++ w) H := hP
  have hD : va_D A (([(kc, .inl (cI, 40, .inl fc)), (kq, .inl (cI, 4, .inl mo)), (km, .inl (cI, 4, .inl (mF N C K Y))), (kh, .inl (cI, 4, .inl h1))] : va_W) ++ w) := hD
  have hl : lv_has ls 9 [(0, .ref t0), (1, .ref kc), (2, .ref kq), (3, .ref km), (4, .ref kh), (5, .int (nI i))] := hl
  change W p l e _ s m _ below meth c H locs 1 4 _ (F0 m 8 ls [])
  have ih_8 := ih
  clear ih
  obtain ⟨hi, rfl⟩ := hI
  refine lv_iload hx hb dL_isArranged_8 (lv_at hl 5 rfl) ?_
  refine lv_aload_n hx hb dL_isArranged_10 rfl (lv_at hl 3 rfl) ?_
  refine lv_iconst (v := 1) hx hb dL_isArranged_11 (by decide) ?_
  refine va_iald hx hb hK hP 2 0 rfl rfl (by unfold vp_in; decide) dL_isArranged_12 ?_
  refine lv_topi (fun f ef => ?_)
  obtain rfl : f = (mF N C K Y) 1 := ef.trans (congrArg (mF N C K Y) (show (1 : Int32).toNatClampNeg = 1 by decide))
  refine lv_topi (fun f ef => ?_)
  obtain rfl : f = nI C := ef.trans (rfl)
  refine lv_icmp_ge (tgt := 31) hx hb dL_isArranged_13 (by decide) (fun c_13 => ?_) (fun c_13 => ?_)
  · have c_13 : C ≤ i := g_le (a := C) (b := i) c_13 (by omega) (by omega)
    obtain rfl : C = i := by omega
    refine lv_iconst (v := 1) hx hb dL_isArranged_31 (by decide) ?_
    refine lv_istore (lv' := [(5, .int 1), (0, .ref t0), (1, .ref kc), (2, .ref kq), (3, .ref km), (4, .ref kh)]) hx hb dL_isArranged_32 hl (by decide) rfl (fun ls hl => ?_)
    refine W.widen (k := 1) (n := 4) (Nat.le_refl _) (Nat.le_refl _) ?_
    refine g_while (σ := Nat × (Nat → Int32)) (st := []) (nL := 9) (fun z => match z with | (i, f1) => ([(kc, .inl (cI, 40, .inl fc)), (kq, .inl (cI, 4, .inl f1)), (km, .inl (cI, 4, .inl (mF N C K Y))), (kh, .inl (cI, 4, .inl (cpTo mo (fun _ => 0) C)))] : va_W) ++ w)
      (fun z => match z with | (i, f1) => [(0, .ref t0), (1, .ref kc), (2, .ref kq), (3, .ref km), (4, .ref kh), (5, .int (nI i))])
      (fun z => match z with | (i, f1) => 1 ≤ i ∧ (i ≤ C ∨ i = 1) ∧ (C = 0 → f1 = mo) ∧ ordL mc mo f1 i)
      (fun z => match z with | (i, f1) => C + 1 - i) (fun z => match z with | (i, f1) => 1) (fun z => match z with | (i, f1) => 4)
      ?_ (1, mo) ⟨Nat.le_refl 1, Or.inr rfl, fun _ => rfl, ordL_1⟩ hP hD hS (lv_sub hl [1, 2, 3, 4, 5, 0] rfl)
    rintro ⟨i, f1⟩ hI H locs ls hP hD hS hl ih
    have hI : 1 ≤ i ∧ (i ≤ C ∨ i = 1) ∧ (C = 0 → f1 = mo) ∧ ordL mc mo f1 i := hI
    have hP : va_P D ccl (([(kc, .inl (cI, 40, .inl fc)), (kq, .inl (cI, 4, .inl f1)), (km, .inl (cI, 4, .inl (mF N C K Y))), (kh, .inl (cI, 4, .inl (cpTo mo (fun _ => 0) C)))] : va_W) ++ w) H := hP
    have hD : va_D A (([(kc, .inl (cI, 40, .inl fc)), (kq, .inl (cI, 4, .inl f1)), (km, .inl (cI, 4, .inl (mF N C K Y))), (kh, .inl (cI, 4, .inl (cpTo mo (fun _ => 0) C)))] : va_W) ++ w) := hD
    have hl : lv_has ls 9 [(0, .ref t0), (1, .ref kc), (2, .ref kq), (3, .ref km), (4, .ref kh), (5, .int (nI i))] := hl
    change W p l e _ s m _ below meth c H locs 1 4 _ (F0 m 34 ls [])
    have ih_34 := ih
    clear ih
    obtain ⟨hi1, hi, hf0, hL9⟩ := hI
    refine lv_iload hx hb dL_isArranged_34 (lv_at hl 5 rfl) ?_
    refine lv_aload_n hx hb dL_isArranged_36 rfl (lv_at hl 3 rfl) ?_
    refine lv_iconst (v := 1) hx hb dL_isArranged_37 (by decide) ?_
    refine va_iald hx hb hK hP 2 0 rfl rfl (by unfold vp_in; decide) dL_isArranged_38 ?_
    refine lv_topi (fun f ef => ?_)
    obtain rfl : f = (mF N C K Y) 1 := ef.trans (congrArg (mF N C K Y) (show (1 : Int32).toNatClampNeg = 1 by decide))
    refine lv_topi (fun f ef => ?_)
    obtain rfl : f = nI C := ef.trans (rfl)
    refine lv_icmp_ge (tgt := 176) hx hb dL_isArranged_39 (by decide) (fun c_39 => ?_) (fun c_39 => ?_)
    · have c_39 : C ≤ i := g_le (a := C) (b := i) c_39 (by omega) (by omega)
      have hord : ordL mc mo f1 C := by
        by_cases h9 : C = 0
        · rw [h9, hf0 h9]; exact ordL_0
        · rw [show C = i by omega]; exact hL9
      have hend := ordL_end hc hO8 hiM (fun i hi => (hO i hi).2) hord
      refine lv_iconst (v := 0) hx hb dL_isArranged_176 (by decide) ?_
      refine lv_istore (lv' := [(5, .int 0), (0, .ref t0), (1, .ref kc), (2, .ref kq), (3, .ref km), (4, .ref kh)]) hx hb dL_isArranged_177 hl (by decide) rfl (fun ls hl => ?_)
      refine lv_iconst (v := 0) hx hb dL_isArranged_179 (by decide) ?_
      refine lv_istore (lv' := [(6, .int 0), (5, .int 0), (0, .ref t0), (1, .ref kc), (2, .ref kq), (3, .ref km), (4, .ref kh)]) hx hb dL_isArranged_180 hl (by decide) rfl (fun ls hl => ?_)
      refine W.widen (k := 1) (n := 4) (Nat.le_refl _) (Nat.le_refl _) ?_
      refine g_while (σ := Nat) (st := []) (nL := 9) (fun k => ([(kc, .inl (cI, 40, .inl fc)), (kq, .inl (cI, 4, .inl f1)), (km, .inl (cI, 4, .inl (mF N C K Y))), (kh, .inl (cI, 4, .inl (cpTo mo (fun _ => 0) C)))] : va_W) ++ w)
        (fun k => [(0, .ref t0), (1, .ref kc), (2, .ref kq), (3, .ref km), (4, .ref kh), (5, .int (nI (arN mc mo C k))), (6, .int (nI k))])
        (fun k => k ≤ C)
        (fun k => C - k) (fun k => 1) (fun k => 4)
        ?_ 0 (Nat.zero_le C) hP hD hS (lv_sub hl [2, 3, 4, 5, 6, 1, 0] rfl)
      intro k hI H locs ls hP hD hS hl ih
      have hI : k ≤ C := hI
      have hP : va_P D ccl (([(kc, .inl (cI, 40, .inl fc)), (kq, .inl (cI, 4, .inl f1)), (km, .inl (cI, 4, .inl (mF N C K Y))), (kh, .inl (cI, 4, .inl (cpTo mo (fun _ => 0) C)))] : va_W) ++ w) H := hP
      have hD : va_D A (([(kc, .inl (cI, 40, .inl fc)), (kq, .inl (cI, 4, .inl f1)), (km, .inl (cI, 4, .inl (mF N C K Y))), (kh, .inl (cI, 4, .inl (cpTo mo (fun _ => 0) C)))] : va_W) ++ w) := hD
      have hl : lv_has ls 9 [(0, .ref t0), (1, .ref kc), (2, .ref kq), (3, .ref km), (4, .ref kh), (5, .int (nI (arN mc mo C k))), (6, .int (nI k))] := hl
      change W p l e _ s m _ below meth c H locs 1 4 _ (F0 m 182 ls [])
      have ih_182 := ih
      clear ih
      refine lv_iload hx hb dL_isArranged_182 (lv_at hl 6 rfl) ?_
      refine lv_aload_n hx hb dL_isArranged_184 rfl (lv_at hl 3 rfl) ?_
      refine lv_iconst (v := 1) hx hb dL_isArranged_185 (by decide) ?_
      refine va_iald hx hb hK hP 2 0 rfl rfl (by unfold vp_in; decide) dL_isArranged_186 ?_
      refine lv_topi (fun f ef => ?_)
      obtain rfl : f = (mF N C K Y) 1 := ef.trans (congrArg (mF N C K Y) (show (1 : Int32).toNatClampNeg = 1 by decide))
      refine lv_topi (fun f ef => ?_)
      obtain rfl : f = nI C := ef.trans (rfl)
      refine lv_icmp_ge (tgt := 218) hx hb dL_isArranged_187 (by decide) (fun c_187 => ?_) (fun c_187 => ?_)
      · have c_187 : C ≤ k := g_le (a := C) (b := k) c_187 (by omega) (by omega)
        obtain rfl : C = k := by omega
        refine lv_aload_n hx hb dL_isArranged_218 rfl (lv_at hl 0 rfl) ?_
        have hPc := hP.part (X := [(kc, .inl (cI, 40, .inl fc)), (kq, .inl (cI, 4, .inl f1)), (km, .inl (cI, 4, .inl (mF N C K Y))), (kh, .inl (cI, 4, .inl (cpTo mo (fun _ => 0) C)))]) (cx := []) [] rfl
        have hDc := hD.part (X := [(kc, .inl (cI, 40, .inl fc)), (kq, .inl (cI, 4, .inl f1)), (km, .inl (cI, 4, .inl (mF N C K Y))), (kh, .inl (cI, 4, .inl (cpTo mo (fun _ => 0) C)))]) (cx := []) [] (by decide) rfl
        have hFc := va_freeP (X := [(kc, .inl (cI, 40, .inl fc)), (kq, .inl (cI, 4, .inl f1)), (km, .inl (cI, 4, .inl (mF N C K Y))), (kh, .inl (cI, 4, .inl (cpTo mo (fun _ => 0) C)))]) (cx := []) hD hS hA [] rfl
        refine g_Vi (As := []) (rest := []) CF (c3_X6_arrange l hfl D cI cJ cO df H.size t0 w N mc ms mw C mo K mu Y rw0 tf qf mp hCL hW) (cwV 0 hts gL_isArranged_X6_arrange rfl rfl rfl (by decide +kernel) ⟨Nat.le_of_ble_eq_true rfl, Nat.le_of_ble_eq_true rfl⟩) (cls_recv (X := [(kc, .inl (cI, 40, .inl fc)), (kq, .inl (cI, 4, .inl f1)), (km, .inl (cI, 4, .inl (mF N C K Y))), (kh, .inl (cI, 4, .inl (cpTo mo (fun _ => 0) C)))]) hCL hK hP) hPc hK hDc hV hH hS hFc rfl hl.1 rfl (Nat.le_of_ble_eq_true rfl) dL_isArranged_219 ⟨Nat.le_of_ble_eq_true rfl, Nat.le_of_ble_eq_true rfl⟩ (fun r_219 w1 H1 locs1 hq hP1 hD1 hk hS hz => ?_)
        obtain ⟨w2, ew_219, hq_219⟩ := hq
        rw [ew_219] at hP1 hD1
        obtain ⟨hP, hD⟩ := g_joinP (X := [(kc, .inl (cI, 40, .inl fc)), (kq, .inl (cI, 4, .inl f1)), (km, .inl (cI, 4, .inl (mF N C K Y))), (kh, .inl (cI, 4, .inl (cpTo mo (fun _ => 0) C)))]) (cx := []) (rx := []) (X' := [(kc, .inl (cI, 40, .inl fc)), (kq, .inl (cI, 4, .inl f1)), (km, .inl (cI, 4, .inl (mF N C K Y))), (kh, .inl (cI, 4, .inl (cpTo mo (fun _ => 0) C)))]) hP hD hk hFc hP1 hD1 [] [0, 1, 2, 3] [0, 1, 2, 3] rfl rfl (by decide) (by decide) (by decide) rfl
        clear hPc hDc hFc hP1 hD1 hk hz
        generalize H1 = H at hP hS ⊢
        have hP : va_P D ccl (([(kc, .inl (cI, 40, .inl fc)), (kq, .inl (cI, 4, .inl f1)), (km, .inl (cI, 4, .inl (mF N C K Y))), (kh, .inl (cI, 4, .inl (cpTo mo (fun _ => 0) C)))] : va_W) ++ w2) H := hP
        have hD : va_D A (([(kc, .inl (cI, 40, .inl fc)), (kq, .inl (cI, 4, .inl f1)), (km, .inl (cI, 4, .inl (mF N C K Y))), (kh, .inl (cI, 4, .inl (cpTo mo (fun _ => 0) C)))] : va_W) ++ w2) := hD
        obtain ⟨hCL, hq_219⟩ := hq_219
        obtain ⟨er219, hw1, hw2⟩ := hq_219
        subst er219
        refine lv_iload hx hb dL_isArranged_222 (lv_at hl 5 rfl) ?_
        refine lv_icmp_ne (tgt := 231) hx hb dL_isArranged_224 (by decide) (fun c_224 => ?_) (fun c_224 => ?_)
        · exact absurd rfl c_224
        · refine lv_iconst (v := 1) hx hb dL_isArranged_227 (by decide) ?_
          refine lv_goto (tgt := 232) hx hb dL_isArranged_228 (by decide) ?_
          rw [hend.1] at hP hD
          have hP : va_P D ccl (([(kc, .inl (cI, 40, .inl fc)), (kq, .inl (cI, 4, .inl (arO mc mo C C))), (km, .inl (cI, 4, .inl (mF N C K Y))), (kh, .inl (cI, 4, .inl (cpTo mo (fun _ => 0) C)))] : va_W) ++ w2) H := hP
          have hD : va_D A (([(kc, .inl (cI, 40, .inl fc)), (kq, .inl (cI, 4, .inl (arO mc mo C C))), (km, .inl (cI, 4, .inl (mF N C K Y))), (kh, .inl (cI, 4, .inl (cpTo mo (fun _ => 0) C)))] : va_W) ++ w2) := hD
          have hP := hP.part (X := [(kc, .inl (cI, 40, .inl fc)), (kq, .inl (cI, 4, .inl (arO mc mo C C))), (km, .inl (cI, 4, .inl (mF N C K Y))), (kh, .inl (cI, 4, .inl (cpTo mo (fun _ => 0) C)))]) (cx := [(kc, .inl (cI, 40, .inl fc)), (kq, .inl (cI, 4, .inl (arO mc mo C C))), (km, .inl (cI, 4, .inl (mF N C K Y)))]) [0, 1, 2] rfl
          have hD := hD.part (X := [(kc, .inl (cI, 40, .inl fc)), (kq, .inl (cI, 4, .inl (arO mc mo C C))), (km, .inl (cI, 4, .inl (mF N C K Y))), (kh, .inl (cI, 4, .inl (cpTo mo (fun _ => 0) C)))]) (cx := [(kc, .inl (cI, 40, .inl fc)), (kq, .inl (cI, 4, .inl (arO mc mo C C))), (km, .inl (cI, 4, .inl (mF N C K Y)))]) [0, 1, 2] (by decide) rfl
          have hP : va_P D ccl (([(kc, .inl (cI, 40, .inl fc)), (kq, .inl (cI, 4, .inl (arO mc mo C C))), (km, .inl (cI, 4, .inl (mF N C K Y)))] : va_W) ++ w2) H := hP
          have hD : va_D A (([(kc, .inl (cI, 40, .inl fc)), (kq, .inl (cI, 4, .inl (arO mc mo C C))), (km, .inl (cI, 4, .inl (mF N C K Y)))] : va_W) ++ w2) := hD
          refine g_zret (v := 1) hx hb hr hlk hP hK hD hS (Nat.le_of_ble_eq_true rfl) (Nat.le_of_ble_eq_true rfl) dL_isArranged_232 (by decide +kernel) ?_
          exact ⟨_, rfl, rfl, hCL, wf_arrange hW hw1 hw2⟩
      · have c_187 : k < C := g_nle (a := C) (b := k) c_187 (by omega) (by omega)
        have hle := arN_le mc mo C k
        refine lv_iload hx hb dL_isArranged_190 (lv_at hl 5 rfl) ?_
        refine lv_aload hx hb dL_isArranged_192 (lv_at hl 4 rfl) ?_
        refine lv_iload hx hb dL_isArranged_194 (lv_at hl 6 rfl) ?_
        refine va_iald hx hb hK hP 3 0 rfl rfl (vp_in_nI (by omega) (by omega)) dL_isArranged_196 ?_
        refine lv_topi (fun f ef => ?_)
        obtain rfl : f = (cpTo mo (fun _ => 0) C) k := ef.trans (congrArg (cpTo mo (fun _ => 0) C) (nI_clamp (n := k) (by omega)))
        refine lv_topi (fun f ef => ?_)
        obtain rfl : f = mo k := ef.trans (cpTo_at c_187)
        refine lv_aload_n hx hb dL_isArranged_197 rfl (lv_at hl 2 rfl) ?_
        refine lv_iload hx hb dL_isArranged_198 (lv_at hl 6 rfl) ?_
        refine va_iald hx hb hK hP 1 0 rfl rfl (vp_in_nI (by omega) (by omega)) dL_isArranged_200 ?_
        refine lv_topi (fun f ef => ?_)
        obtain rfl : f = f1 k := ef.trans (congrArg f1 (nI_clamp (n := k) (by omega)))
        refine g_phii (ls := ls) (J := 209) (st1 := [.int (nI (arN mc mo C k))]) (REL := fun v9 => v9 = nI (if rkM mc mo k C = k then 0 else 1)) (fun v9 hb_209 => ?_) (fun hJ_209 => ?_)
        · subst hb_209
          refine lv_iadd hx hb dL_isArranged_209 ?_
          refine lv_topi (fun f ef => ?_)
          obtain rfl : f = nI ((arN mc mo C k) + (if rkM mc mo k C = k then 0 else 1)) := ef.trans (nI_add _ _)
          refine lv_topi (fun f ef => ?_)
          obtain rfl : f = nI (arN mc mo C (k + 1)) := ef.trans (rfl)
          refine lv_istore (lv' := [(5, .int (nI (arN mc mo C (k + 1)))), (0, .ref t0), (1, .ref kc), (2, .ref kq), (3, .ref km), (4, .ref kh), (6, .int (nI k))]) hx hb dL_isArranged_210 hl (by decide) rfl (fun ls hl => ?_)
          refine lv_iinc (v := nI (k + 1)) (lv' := [(6, .int (nI (k + 1))), (5, .int (nI (arN mc mo C (k + 1)))), (0, .ref t0), (1, .ref kc), (2, .ref kq), (3, .ref km), (4, .ref kh)]) hx hb dL_isArranged_212 hl (k := 6) rfl (by exact nI_1 _) (by decide) rfl (fun ls hl => ?_)
          refine lv_goto (tgt := 182) hx hb dL_isArranged_215 (by decide) ?_
          refine W.widen (k := 1) (n := 4) (Nat.le_refl _) (Nat.le_refl _) ?_
          exact ih_182 (k + 1) _ _ _ (show (k + 1) ≤ C from (by exact c_187)) (show C - (k + 1) < C - k by omega) hP hD hS (lv_sub hl [2, 3, 4, 5, 6, 1, 0] rfl)
        · refine lv_icmp_ne (tgt := 208) hx hb dL_isArranged_201 (by decide) (fun c_201 => ?_) (fun c_201 => ?_)
          · refine lv_iconst (v := 1) hx hb dL_isArranged_208 (by decide) ?_
            exact hJ_209 _ (by first | (rw [if_neg (fun h9 => c_201 ((hend.2 k c_187).mpr h9))]; rfl) | (rw [if_pos ((hend.2 k c_187).mp c_201)]; rfl))
          · refine lv_iconst (v := 0) hx hb dL_isArranged_204 (by decide) ?_
            refine lv_goto (tgt := 209) hx hb dL_isArranged_205 (by decide) ?_
            exact hJ_209 _ (by first | (rw [if_neg (fun h9 => c_201 ((hend.2 k c_187).mpr h9))]; rfl) | (rw [if_pos ((hend.2 k c_187).mp c_201)]; rfl))
    · have c_39 : i < C := g_nle (a := C) (b := i) c_39 (by omega) (by omega)
      have hJ4 : gN (mo i) < 4 := by have := (hO i c_39).1; omega
      obtain ⟨-, -, -, ec3, ec4, -, -, -, -⟩ := rc_all hR hJ4
      have hfi : f1 i = mo i := by obtain ⟨_, _, _, h9⟩ := hL9; exact h9 i (Nat.le_refl i)
      have hrk := rkM_le mc mo i i
      refine lv_aload_n hx hb dL_isArranged_42 rfl (lv_at hl 2 rfl) ?_
      refine lv_iload hx hb dL_isArranged_43 (lv_at hl 5 rfl) ?_
      refine va_iald hx hb hK hP 1 0 rfl rfl (vp_in_nI (by omega) (by omega)) dL_isArranged_45 ?_
      refine lv_topi (fun f ef => ?_)
      obtain rfl : f = f1 i := ef.trans (congrArg f1 (nI_clamp (n := i) (by omega)))
      refine lv_topi (fun f ef => ?_)
      obtain rfl : f = nI (gN (mo i)) := ef.trans (hfi.trans (hO i c_39).2)
      refine lv_istore (lv' := [(6, .int (nI (gN (mo i)))), (0, .ref t0), (1, .ref kc), (2, .ref kq), (3, .ref km), (4, .ref kh), (5, .int (nI i))]) hx hb dL_isArranged_46 hl (by decide) rfl (fun ls hl => ?_)
      refine lv_iload hx hb dL_isArranged_48 (lv_at hl 6 rfl) ?_
      refine lv_istore (lv' := [(7, .int (nI i)), (6, .int (nI (gN (mo i)))), (0, .ref t0), (1, .ref kc), (2, .ref kq), (3, .ref km), (4, .ref kh), (5, .int (nI i))]) hx hb dL_isArranged_50 hl (by decide) rfl (fun ls hl => ?_)
      refine lv_aload_n hx hb dL_isArranged_52 rfl (lv_at hl 3 rfl) ?_
      refine lv_bipush (v := 10) hx hb dL_isArranged_53 (by decide) ?_
      refine lv_iload hx hb dL_isArranged_55 (lv_at hl 1 rfl) ?_
      refine lv_imul hx hb dL_isArranged_57 ?_
      refine lv_topi (fun f ef => ?_)
      obtain rfl : f = nI (10 * (gN (mo i))) := ef.trans (pk_mul _ _)
      refine lv_iconst (v := 4) hx hb dL_isArranged_58 (by decide) ?_
      refine lv_iadd hx hb dL_isArranged_59 ?_
      refine lv_topi (fun f ef => ?_)
      obtain rfl : f = nI ((10 * (gN (mo i))) + 4) := ef.trans (nI_add _ _)
      refine va_iald hx hb hK hP 0 0 rfl rfl (vp_in_nI (by omega) (by omega)) dL_isArranged_60 ?_
      refine lv_topi (fun f ef => ?_)
      obtain rfl : f = fc ((10 * (gN (mo i))) + 4) := ef.trans (congrArg fc (nI_clamp (n := (10 * (gN (mo i))) + 4) (by omega)))
      refine lv_topi (fun f ef => ?_)
      obtain rfl : f = mc (5 * (gN (mo i)) + 4) := ef.trans (ec4)
      refine lv_sipush (v := 200) hx hb dL_isArranged_61 (by decide) ?_
      refine lv_iadd hx hb dL_isArranged_64 ?_
      refine lv_sipush (v := 10000) hx hb dL_isArranged_65 (by decide) ?_
      refine lv_imul hx hb dL_isArranged_68 ?_
      refine lv_aload_n hx hb dL_isArranged_69 rfl (lv_at hl 3 rfl) ?_
      refine lv_bipush (v := 10) hx hb dL_isArranged_70 (by decide) ?_
      refine lv_iload hx hb dL_isArranged_72 (lv_at hl 1 rfl) ?_
      refine lv_imul hx hb dL_isArranged_74 ?_
      refine lv_topi (fun f ef => ?_)
      obtain rfl : f = nI (10 * (gN (mo i))) := ef.trans (pk_mul _ _)
      refine lv_iconst (v := 3) hx hb dL_isArranged_75 (by decide) ?_
      refine lv_iadd hx hb dL_isArranged_76 ?_
      refine lv_topi (fun f ef => ?_)
      obtain rfl : f = nI ((10 * (gN (mo i))) + 3) := ef.trans (nI_add _ _)
      refine va_iald hx hb hK hP 0 0 rfl rfl (vp_in_nI (by omega) (by omega)) dL_isArranged_77 ?_
      refine lv_topi (fun f ef => ?_)
      obtain rfl : f = fc ((10 * (gN (mo i))) + 3) := ef.trans (congrArg fc (nI_clamp (n := (10 * (gN (mo i))) + 3) (by omega)))
      refine lv_topi (fun f ef => ?_)
      obtain rfl : f = mc (5 * (gN (mo i)) + 3) := ef.trans (ec3)
      have hPc : va_P D ccl [] H := fun k q h => by simp at h
      have hDc : va_D A [] := ⟨fun i j p q h => by simp at h, fun k q h => by simp at h⟩
      have hFc := va_free (wc := []) hD hS hA [] rfl
      refine g_Si (As := [.int (mc (5 * (gN (mo i)) + 3))]) (rest := [.int (((mc (5 * (gN (mo i)) + 4)) + 200) * 10000)]) CF (c_L_abs l D cI cJ cO df H.size (mc (5 * (gN (mo i)) + 3)) ) (va_cwS 1 hts gL_isArranged_L_abs rfl rfl rfl (by decide +kernel) ⟨Nat.le_of_ble_eq_true rfl, Nat.le_of_ble_eq_true rfl⟩)  hPc hK hDc hV hH hS hFc rfl hl.1 rfl (Nat.le_of_ble_eq_true rfl) dL_isArranged_78 ⟨Nat.le_of_ble_eq_true rfl, Nat.le_of_ble_eq_true rfl⟩ (fun r_78 w1 H1 locs1 hq hP1 hD1 hk hS hz => ?_)
      obtain ⟨rfl, hr_78⟩ := hq
      have hP := g_keep0 hP hk
      clear hPc hDc hFc hP1 hD1 hk hz
      generalize H1 = H at hP hS ⊢
      have hP : va_P D ccl (([(kc, .inl (cI, 40, .inl fc)), (kq, .inl (cI, 4, .inl f1)), (km, .inl (cI, 4, .inl (mF N C K Y))), (kh, .inl (cI, 4, .inl (cpTo mo (fun _ => 0) C)))] : va_W) ++ w) H := hP
      have hD : va_D A (([(kc, .inl (cI, 40, .inl fc)), (kq, .inl (cI, 4, .inl f1)), (km, .inl (cI, 4, .inl (mF N C K Y))), (kh, .inl (cI, 4, .inl (cpTo mo (fun _ => 0) C)))] : va_W) ++ w) := hD
      subst hr_78
      refine lv_bipush (v := 10) hx hb dL_isArranged_81 (by decide) ?_
      refine lv_imul hx hb dL_isArranged_83 ?_
      refine lv_iadd hx hb dL_isArranged_84 ?_
      refine lv_iload hx hb dL_isArranged_85 (lv_at hl 1 rfl) ?_
      refine lv_iadd hx hb dL_isArranged_87 ?_
      refine lv_topi (fun ky eky => ?_)
      refine lv_istore (lv' := [(8, .int ky), (7, .int (nI i)), (6, .int (nI (gN (mo i)))), (0, .ref t0), (1, .ref kc), (2, .ref kq), (3, .ref km), (4, .ref kh), (5, .int (nI i))]) hx hb dL_isArranged_88 hl (by decide) rfl (fun ls hl => ?_)
      have hky : ky.toInt = lKey mc (gN (mo i)) := by rw [eky]; exact lKey_eq hc (by omega)
      refine W.widen (k := 1) (n := 4) (Nat.le_refl _) (Nat.le_refl _) ?_
      refine g_while (σ := Nat × (Nat → Int32)) (st := []) (nL := 9) (fun z => match z with | (u, g1) => ([(kc, .inl (cI, 40, .inl fc)), (kq, .inl (cI, 4, .inl g1)), (km, .inl (cI, 4, .inl (mF N C K Y))), (kh, .inl (cI, 4, .inl (cpTo mo (fun _ => 0) C)))] : va_W) ++ w)
        (fun z => match z with | (u, g1) => [(0, .ref t0), (1, .ref kc), (2, .ref kq), (3, .ref km), (4, .ref kh), (5, .int (nI i)), (6, .int (nI (gN (mo i)))), (7, .int (nI u)), (8, .int ky)])
        (fun z => match z with | (u, g1) => u ≤ i ∧ rkM mc mo i i ≤ u ∧ g1 = shU f1 i u)
        (fun z => match z with | (u, g1) => u) (fun z => match z with | (u, g1) => 1) (fun z => match z with | (u, g1) => 4)
        ?_ (i, f1) ⟨Nat.le_refl i, hrk, shU_0⟩ hP hD hS (lv_sub hl [3, 4, 5, 6, 7, 8, 2, 1, 0] rfl)
      rintro ⟨u, g1⟩ hI H locs ls hP hD hS hl ih
      have hI : u ≤ i ∧ rkM mc mo i i ≤ u ∧ g1 = shU f1 i u := hI
      have hP : va_P D ccl (([(kc, .inl (cI, 40, .inl fc)), (kq, .inl (cI, 4, .inl g1)), (km, .inl (cI, 4, .inl (mF N C K Y))), (kh, .inl (cI, 4, .inl (cpTo mo (fun _ => 0) C)))] : va_W) ++ w) H := hP
      have hD : va_D A (([(kc, .inl (cI, 40, .inl fc)), (kq, .inl (cI, 4, .inl g1)), (km, .inl (cI, 4, .inl (mF N C K Y))), (kh, .inl (cI, 4, .inl (cpTo mo (fun _ => 0) C)))] : va_W) ++ w) := hD
      have hl : lv_has ls 9 [(0, .ref t0), (1, .ref kc), (2, .ref kq), (3, .ref km), (4, .ref kh), (5, .int (nI i)), (6, .int (nI (gN (mo i)))), (7, .int (nI u)), (8, .int ky)] := hl
      change W p l e _ s m _ below meth c H locs 1 4 _ (F0 m 90 ls [])
      have ih_90 := ih
      clear ih
      obtain ⟨hu, hru, rfl⟩ := hI
      refine lv_iload hx hb dL_isArranged_90 (lv_at hl 7 rfl) ?_
      refine lv_if_le (tgt := 164) hx hb dL_isArranged_92 (by decide) (fun c_92 => ?_) (fun c_92 => ?_)
      · have c_92 : u ≤ 0 := g_le (a := u) (b := 0) c_92 (by omega) (by omega)
        have hu9 : u = rkM mc mo i i := by omega
        refine lv_aload_n hx hb dL_isArranged_164 rfl (lv_at hl 2 rfl) ?_
        refine lv_iload hx hb dL_isArranged_165 (lv_at hl 7 rfl) ?_
        refine lv_iload hx hb dL_isArranged_167 (lv_at hl 6 rfl) ?_
        refine va_iast hx hb hK hP hD hS 1 0 rfl rfl (vp_in_nI (by omega) (by omega)) dL_isArranged_169 (fun H locs hP hD hS => ?_)
        rw [show (nI u).toNatClampNeg = u from (nI_clamp (by omega))] at hP hD
        rw [show upd (shU f1 i u) u (nI (gN (mo i))) = upd (shU f1 i u) u (mo i) from congrArg (upd (shU f1 i u) u) (hO i c_39).2.symm] at hP hD
        have hP : va_P D ccl (([(kc, .inl (cI, 40, .inl fc)), (kq, .inl (cI, 4, .inl (upd (shU f1 i u) u (mo i)))), (km, .inl (cI, 4, .inl (mF N C K Y))), (kh, .inl (cI, 4, .inl (cpTo mo (fun _ => 0) C)))] : va_W) ++ w) H := hP
        have hD : va_D A (([(kc, .inl (cI, 40, .inl fc)), (kq, .inl (cI, 4, .inl (upd (shU f1 i u) u (mo i)))), (km, .inl (cI, 4, .inl (mF N C K Y))), (kh, .inl (cI, 4, .inl (cpTo mo (fun _ => 0) C)))] : va_W) ++ w) := hD
        refine lv_iinc (v := nI (i + 1)) (lv' := [(5, .int (nI (i + 1))), (0, .ref t0), (1, .ref kc), (2, .ref kq), (3, .ref km), (4, .ref kh), (6, .int (nI (gN (mo i)))), (7, .int (nI u)), (8, .int ky)]) hx hb dL_isArranged_170 hl (k := 5) rfl (by exact nI_1 _) (by decide) rfl (fun ls hl => ?_)
        refine lv_goto (tgt := 34) hx hb dL_isArranged_173 (by decide) ?_
        refine W.widen (k := 1) (n := 4) (Nat.le_refl _) (Nat.le_refl _) ?_
        exact ih_34 (i + 1, (upd (shU f1 i u) u (mo i))) _ _ _ (show 1 ≤ (i + 1) ∧ ((i + 1) ≤ C ∨ (i + 1) = 1) ∧ (C = 0 → (upd (shU f1 i u) u (mo i)) = mo) ∧ ordL mc mo (upd (shU f1 i u) u (mo i)) (i + 1) from (by exact ⟨by omega, Or.inl (by omega), fun h9 => by omega, ordL_s hc hO8 hiM c_39 hu9 hL9⟩)) (show C + 1 - (i + 1) < C + 1 - i by omega) hP hD hS (lv_sub hl [1, 2, 3, 4, 5, 0] rfl)
      · have c_92 : 0 < u := g_nle (a := u) (b := 0) c_92 (by omega) (by omega)
        have hv9 := ordL_val hO hL9 (by omega) (t := u - 1) (by omega)
        have hg9 := ordL_gt hc hO8 hiM c_39 hL9 (t := u - 1) (by omega)
        have hJ5 : (gN (f1 (u - 1))) < 4 := by have := hv9.1; omega
        obtain ⟨-, -, -, ed3, ed4, -, -, -, -⟩ := rc_all hR hJ5
        refine lv_aload_n hx hb dL_isArranged_95 rfl (lv_at hl 1 rfl) ?_
        refine lv_bipush (v := 10) hx hb dL_isArranged_96 (by decide) ?_
        refine lv_aload_n hx hb dL_isArranged_98 rfl (lv_at hl 2 rfl) ?_
        refine lv_iload hx hb dL_isArranged_99 (lv_at hl 7 rfl) ?_
        refine lv_iconst (v := 1) hx hb dL_isArranged_101 (by decide) ?_
        refine lv_isub hx hb dL_isArranged_102 ?_
        refine lv_topi (fun f ef => ?_)
        obtain rfl : f = nI (u - 1) := ef.trans (pk_sub (a := u) (b := 1) (by omega))
        refine va_iald hx hb hK hP 1 0 rfl rfl (vp_in_nI (by omega) (by omega)) dL_isArranged_103 ?_
        refine lv_topi (fun f ef => ?_)
        obtain rfl : f = (shU f1 i u) (u - 1) := ef.trans (congrArg (shU f1 i u) (nI_clamp (n := u - 1) (by omega)))
        refine lv_topi (fun f ef => ?_)
        obtain rfl : f = nI (gN (f1 (u - 1))) := ef.trans ((shU_at (by omega)).trans hv9.2)
        refine lv_imul hx hb dL_isArranged_104 ?_
        refine lv_topi (fun f ef => ?_)
        obtain rfl : f = nI (10 * (gN (f1 (u - 1)))) := ef.trans (pk_mul _ _)
        refine lv_iconst (v := 4) hx hb dL_isArranged_105 (by decide) ?_
        refine lv_iadd hx hb dL_isArranged_106 ?_
        refine lv_topi (fun f ef => ?_)
        obtain rfl : f = nI ((10 * (gN (f1 (u - 1)))) + 4) := ef.trans (nI_add _ _)
        refine va_iald hx hb hK hP 0 0 rfl rfl (vp_in_nI (by omega) (by omega)) dL_isArranged_107 ?_
        refine lv_topi (fun f ef => ?_)
        obtain rfl : f = fc ((10 * (gN (f1 (u - 1)))) + 4) := ef.trans (congrArg fc (nI_clamp (n := (10 * (gN (f1 (u - 1)))) + 4) (by omega)))
        refine lv_topi (fun f ef => ?_)
        obtain rfl : f = mc (5 * (gN (f1 (u - 1))) + 4) := ef.trans (ed4)
        refine lv_sipush (v := 200) hx hb dL_isArranged_108 (by decide) ?_
        refine lv_iadd hx hb dL_isArranged_111 ?_
        refine lv_sipush (v := 10000) hx hb dL_isArranged_112 (by decide) ?_
        refine lv_imul hx hb dL_isArranged_115 ?_
        refine lv_aload_n hx hb dL_isArranged_116 rfl (lv_at hl 1 rfl) ?_
        refine lv_bipush (v := 10) hx hb dL_isArranged_117 (by decide) ?_
        refine lv_aload_n hx hb dL_isArranged_119 rfl (lv_at hl 2 rfl) ?_
        refine lv_iload hx hb dL_isArranged_120 (lv_at hl 7 rfl) ?_
        refine lv_iconst (v := 1) hx hb dL_isArranged_122 (by decide) ?_
        refine lv_isub hx hb dL_isArranged_123 ?_
        refine lv_topi (fun f ef => ?_)
        obtain rfl : f = nI (u - 1) := ef.trans (pk_sub (a := u) (b := 1) (by omega))
        refine va_iald hx hb hK hP 1 0 rfl rfl (vp_in_nI (by omega) (by omega)) dL_isArranged_124 ?_
        refine lv_topi (fun f ef => ?_)
        obtain rfl : f = (shU f1 i u) (u - 1) := ef.trans (congrArg (shU f1 i u) (nI_clamp (n := u - 1) (by omega)))
        refine lv_topi (fun f ef => ?_)
        obtain rfl : f = nI (gN (f1 (u - 1))) := ef.trans ((shU_at (by omega)).trans hv9.2)
        refine lv_imul hx hb dL_isArranged_125 ?_
        refine lv_topi (fun f ef => ?_)
        obtain rfl : f = nI (10 * (gN (f1 (u - 1)))) := ef.trans (pk_mul _ _)
        refine lv_iconst (v := 3) hx hb dL_isArranged_126 (by decide) ?_
        refine lv_iadd hx hb dL_isArranged_127 ?_
        refine lv_topi (fun f ef => ?_)
        obtain rfl : f = nI ((10 * (gN (f1 (u - 1)))) + 3) := ef.trans (nI_add _ _)
        refine va_iald hx hb hK hP 0 0 rfl rfl (vp_in_nI (by omega) (by omega)) dL_isArranged_128 ?_
        refine lv_topi (fun f ef => ?_)
        obtain rfl : f = fc ((10 * (gN (f1 (u - 1)))) + 3) := ef.trans (congrArg fc (nI_clamp (n := (10 * (gN (f1 (u - 1)))) + 3) (by omega)))
        refine lv_topi (fun f ef => ?_)
        obtain rfl : f = mc (5 * (gN (f1 (u - 1))) + 3) := ef.trans (ed3)
        have hPc : va_P D ccl [] H := fun k q h => by simp at h
        have hDc : va_D A [] := ⟨fun i j p q h => by simp at h, fun k q h => by simp at h⟩
        have hFc := va_free (wc := []) hD hS hA [] rfl
        refine g_Si (As := [.int (mc (5 * (gN (f1 (u - 1))) + 3))]) (rest := [.int (((mc (5 * (gN (f1 (u - 1))) + 4)) + 200) * 10000)]) CF (c_L_abs l D cI cJ cO df H.size (mc (5 * (gN (f1 (u - 1))) + 3)) ) (va_cwS 1 hts gL_isArranged_L_abs rfl rfl rfl (by decide +kernel) ⟨Nat.le_of_ble_eq_true rfl, Nat.le_of_ble_eq_true rfl⟩)  hPc hK hDc hV hH hS hFc rfl hl.1 rfl (Nat.le_of_ble_eq_true rfl) dL_isArranged_129 ⟨Nat.le_of_ble_eq_true rfl, Nat.le_of_ble_eq_true rfl⟩ (fun r_129 w1 H1 locs1 hq hP1 hD1 hk hS hz => ?_)
        obtain ⟨rfl, hr_129⟩ := hq
        have hP := g_keep0 hP hk
        clear hPc hDc hFc hP1 hD1 hk hz
        generalize H1 = H at hP hS ⊢
        have hP : va_P D ccl (([(kc, .inl (cI, 40, .inl fc)), (kq, .inl (cI, 4, .inl (shU f1 i u))), (km, .inl (cI, 4, .inl (mF N C K Y))), (kh, .inl (cI, 4, .inl (cpTo mo (fun _ => 0) C)))] : va_W) ++ w) H := hP
        have hD : va_D A (([(kc, .inl (cI, 40, .inl fc)), (kq, .inl (cI, 4, .inl (shU f1 i u))), (km, .inl (cI, 4, .inl (mF N C K Y))), (kh, .inl (cI, 4, .inl (cpTo mo (fun _ => 0) C)))] : va_W) ++ w) := hD
        subst hr_129
        refine lv_bipush (v := 10) hx hb dL_isArranged_132 (by decide) ?_
        refine lv_imul hx hb dL_isArranged_134 ?_
        refine lv_iadd hx hb dL_isArranged_135 ?_
        refine lv_aload_n hx hb dL_isArranged_136 rfl (lv_at hl 2 rfl) ?_
        refine lv_iload hx hb dL_isArranged_137 (lv_at hl 7 rfl) ?_
        refine lv_iconst (v := 1) hx hb dL_isArranged_139 (by decide) ?_
        refine lv_isub hx hb dL_isArranged_140 ?_
        refine lv_topi (fun f ef => ?_)
        obtain rfl : f = nI (u - 1) := ef.trans (pk_sub (a := u) (b := 1) (by omega))
        refine va_iald hx hb hK hP 1 0 rfl rfl (vp_in_nI (by omega) (by omega)) dL_isArranged_141 ?_
        refine lv_topi (fun f ef => ?_)
        obtain rfl : f = (shU f1 i u) (u - 1) := ef.trans (congrArg (shU f1 i u) (nI_clamp (n := u - 1) (by omega)))
        refine lv_topi (fun f ef => ?_)
        obtain rfl : f = nI (gN (f1 (u - 1))) := ef.trans ((shU_at (by omega)).trans hv9.2)
        refine lv_iadd hx hb dL_isArranged_142 ?_
        refine lv_topi (fun k2 ek2 => ?_)
        refine lv_iload hx hb dL_isArranged_143 (lv_at hl 8 rfl) ?_
        have hk2 : k2.toInt = lKey mc (gN (f1 (u - 1))) := by rw [ek2]; exact lKey_eq hc (by omega)
        refine lv_icmp_le (tgt := 164) hx hb dL_isArranged_145 (by decide) (fun c_145 => ?_) (fun c_145 => ?_)
        · have hu9 : u = rkM mc mo i i := by
            rw [Int32.le_iff_toInt_le, hk2, hky] at c_145
            have h9 := mt hg9.1.mpr (by omega)
            omega
          refine lv_aload_n hx hb dL_isArranged_164 rfl (lv_at hl 2 rfl) ?_
          refine lv_iload hx hb dL_isArranged_165 (lv_at hl 7 rfl) ?_
          refine lv_iload hx hb dL_isArranged_167 (lv_at hl 6 rfl) ?_
          refine va_iast hx hb hK hP hD hS 1 0 rfl rfl (vp_in_nI (by omega) (by omega)) dL_isArranged_169 (fun H locs hP hD hS => ?_)
          rw [show (nI u).toNatClampNeg = u from (nI_clamp (by omega))] at hP hD
          rw [show upd (shU f1 i u) u (nI (gN (mo i))) = upd (shU f1 i u) u (mo i) from congrArg (upd (shU f1 i u) u) (hO i c_39).2.symm] at hP hD
          have hP : va_P D ccl (([(kc, .inl (cI, 40, .inl fc)), (kq, .inl (cI, 4, .inl (upd (shU f1 i u) u (mo i)))), (km, .inl (cI, 4, .inl (mF N C K Y))), (kh, .inl (cI, 4, .inl (cpTo mo (fun _ => 0) C)))] : va_W) ++ w) H := hP
          have hD : va_D A (([(kc, .inl (cI, 40, .inl fc)), (kq, .inl (cI, 4, .inl (upd (shU f1 i u) u (mo i)))), (km, .inl (cI, 4, .inl (mF N C K Y))), (kh, .inl (cI, 4, .inl (cpTo mo (fun _ => 0) C)))] : va_W) ++ w) := hD
          refine lv_iinc (v := nI (i + 1)) (lv' := [(5, .int (nI (i + 1))), (0, .ref t0), (1, .ref kc), (2, .ref kq), (3, .ref km), (4, .ref kh), (6, .int (nI (gN (mo i)))), (7, .int (nI u)), (8, .int ky)]) hx hb dL_isArranged_170 hl (k := 5) rfl (by exact nI_1 _) (by decide) rfl (fun ls hl => ?_)
          refine lv_goto (tgt := 34) hx hb dL_isArranged_173 (by decide) ?_
          refine W.widen (k := 1) (n := 4) (Nat.le_refl _) (Nat.le_refl _) ?_
          exact ih_34 (i + 1, (upd (shU f1 i u) u (mo i))) _ _ _ (show 1 ≤ (i + 1) ∧ ((i + 1) ≤ C ∨ (i + 1) = 1) ∧ (C = 0 → (upd (shU f1 i u) u (mo i)) = mo) ∧ ordL mc mo (upd (shU f1 i u) u (mo i)) (i + 1) from (by exact ⟨by omega, Or.inl (by omega), fun h9 => by omega, ordL_s hc hO8 hiM c_39 hu9 hL9⟩)) (show C + 1 - (i + 1) < C + 1 - i by omega) hP hD hS (lv_sub hl [1, 2, 3, 4, 5, 0] rfl)
        · have hru2 : rkM mc mo i i ≤ u - 1 := hg9.1.mp (by rw [Int32.le_iff_toInt_le, hk2, hky] at c_145; omega)
          refine lv_aload_n hx hb dL_isArranged_148 rfl (lv_at hl 2 rfl) ?_
          refine lv_iload hx hb dL_isArranged_149 (lv_at hl 7 rfl) ?_
          refine lv_aload_n hx hb dL_isArranged_151 rfl (lv_at hl 2 rfl) ?_
          refine lv_iload hx hb dL_isArranged_152 (lv_at hl 7 rfl) ?_
          refine lv_iconst (v := 1) hx hb dL_isArranged_154 (by decide) ?_
          refine lv_isub hx hb dL_isArranged_155 ?_
          refine lv_topi (fun f ef => ?_)
          obtain rfl : f = nI (u - 1) := ef.trans (pk_sub (a := u) (b := 1) (by omega))
          refine va_iald hx hb hK hP 1 0 rfl rfl (vp_in_nI (by omega) (by omega)) dL_isArranged_156 ?_
          refine lv_topi (fun f ef => ?_)
          obtain rfl : f = (shU f1 i u) (u - 1) := ef.trans (congrArg (shU f1 i u) (nI_clamp (n := u - 1) (by omega)))
          refine va_iast hx hb hK hP hD hS 1 0 rfl rfl (vp_in_nI (by omega) (by omega)) dL_isArranged_157 (fun H locs hP hD hS => ?_)
          rw [show (nI u).toNatClampNeg = u from (nI_clamp (by omega))] at hP hD
          have hP : va_P D ccl (([(kc, .inl (cI, 40, .inl fc)), (kq, .inl (cI, 4, .inl (upd (shU f1 i u) u ((shU f1 i u) (u - 1))))), (km, .inl (cI, 4, .inl (mF N C K Y))), (kh, .inl (cI, 4, .inl (cpTo mo (fun _ => 0) C)))] : va_W) ++ w) H := hP
          have hD : va_D A (([(kc, .inl (cI, 40, .inl fc)), (kq, .inl (cI, 4, .inl (upd (shU f1 i u) u ((shU f1 i u) (u - 1))))), (km, .inl (cI, 4, .inl (mF N C K Y))), (kh, .inl (cI, 4, .inl (cpTo mo (fun _ => 0) C)))] : va_W) ++ w) := hD
          refine lv_iinc (v := nI (u - 1)) (lv' := [(7, .int (nI (u - 1))), (0, .ref t0), (1, .ref kc), (2, .ref kq), (3, .ref km), (4, .ref kh), (5, .int (nI i)), (6, .int (nI (gN (mo i)))), (8, .int ky)]) hx hb dL_isArranged_158 hl (k := 7) rfl (by exact sb_m1 (by omega)) (by decide) rfl (fun ls hl => ?_)
          refine lv_goto (tgt := 90) hx hb dL_isArranged_161 (by decide) ?_
          refine W.widen (k := 1) (n := 4) (Nat.le_refl _) (Nat.le_refl _) ?_
          exact ih_90 (u - 1, (upd (shU f1 i u) u ((shU f1 i u) (u - 1)))) _ _ _ (show (u - 1) ≤ i ∧ rkM mc mo i i ≤ (u - 1) ∧ (upd (shU f1 i u) u ((shU f1 i u) (u - 1))) = shU f1 i (u - 1) from (by exact ⟨by omega, by omega, shU_s (by omega) hu⟩)) (show (u - 1) < u by omega) hP hD hS (lv_sub hl [1, 2, 3, 4, 5, 6, 7, 0, 8] rfl)
  · have c_13 : i < C := g_nle (a := C) (b := i) c_13 (by omega) (by omega)
    refine lv_aload hx hb dL_isArranged_16 (lv_at hl 4 rfl) ?_
    refine lv_iload hx hb dL_isArranged_18 (lv_at hl 5 rfl) ?_
    refine lv_aload_n hx hb dL_isArranged_20 rfl (lv_at hl 2 rfl) ?_
    refine lv_iload hx hb dL_isArranged_21 (lv_at hl 5 rfl) ?_
    refine va_iald hx hb hK hP 1 0 rfl rfl (vp_in_nI (by omega) (by omega)) dL_isArranged_23 ?_
    refine lv_topi (fun f ef => ?_)
    obtain rfl : f = mo i := ef.trans (congrArg mo (nI_clamp (n := i) (by omega)))
    refine va_iast hx hb hK hP hD hS 3 0 rfl rfl (vp_in_nI (by omega) (by omega)) dL_isArranged_24 (fun H locs hP hD hS => ?_)
    rw [show (nI i).toNatClampNeg = i from (nI_clamp (by omega))] at hP hD
    have hP : va_P D ccl (([(kc, .inl (cI, 40, .inl fc)), (kq, .inl (cI, 4, .inl mo)), (km, .inl (cI, 4, .inl (mF N C K Y))), (kh, .inl (cI, 4, .inl (upd (cpTo mo (fun _ => 0) i) i (mo i))))] : va_W) ++ w) H := hP
    have hD : va_D A (([(kc, .inl (cI, 40, .inl fc)), (kq, .inl (cI, 4, .inl mo)), (km, .inl (cI, 4, .inl (mF N C K Y))), (kh, .inl (cI, 4, .inl (upd (cpTo mo (fun _ => 0) i) i (mo i))))] : va_W) ++ w) := hD
    refine lv_iinc (v := nI (i + 1)) (lv' := [(5, .int (nI (i + 1))), (0, .ref t0), (1, .ref kc), (2, .ref kq), (3, .ref km), (4, .ref kh)]) hx hb dL_isArranged_25 hl (k := 5) rfl (by exact nI_1 _) (by decide) rfl (fun ls hl => ?_)
    refine lv_goto (tgt := 8) hx hb dL_isArranged_28 (by decide) ?_
    refine W.widen (k := 1) (n := 4) (Nat.le_refl _) (Nat.le_refl _) ?_
    exact ih_8 (i + 1, (upd (cpTo mo (fun _ => 0) i) i (mo i))) _ _ _ (show (i + 1) ≤ C ∧ (upd (cpTo mo (fun _ => 0) i) i (mo i)) = cpTo mo (fun _ => 0) (i + 1) from (by exact ⟨c_13, cpTo_s⟩)) (show C - (i + 1) < C - i by omega) hP hD hS (lv_sub hl [1, 2, 3, 4, 5, 0] rfl)
