set_option maxHeartbeats 4000000 in
set_option maxRecDepth 100000 in
theorem c_X7_chain (l : Launch) (D : va_G) (cI cJ cO : ClassId) (df sz : Nat) (M : Nat → Nat) (mc : Nat → Int32) (ms : Nat → Int32) (mw : Nat → Int32) (mo : Nat → Int32) (mu : Nat → Int32) (mk : Int32) (mt : Nat → Int32) (mq : Nat → Int32) (mp : Nat → Int32) (my : Int32) (mf : Nat → Int32) (ma : Nat → Int32) (cy : Int32) (lo : Int32) (gr : Int32) (ov : Int64) (un : Int64) (la : Int32) (N : Nat) (C : Nat) (j : Int32) (hN : N ≤ 8) (hC : C ≤ 8) (hpl : ∀ J, J < N → lastAt mo (nI J) C = -1 → C < 8) : MetI l yX7_chain wsX7_chain ({ frames := 2, cells := 0, slots := 0, locals := 43 } : Room) D (gTY cI cJ cO) df (mW cI M mc ms mw (nI N) mo (nI C) mu mk mt mq mp my mf ma cy lo gr ov un la) sz [.ref (M 0), .int j] (fun (r : Int32) (w : va_W) => ∃ (o1 : Nat → Int32), ∃ (h1 : Int32), w = mW cI M mc ms mw (nI N) o1 h1 mu mk mt mq mp my mf ma cy lo gr ov un (gGo (isSec N j) 1 1) ∧ (gGo (isSec N j) 1 1 = 0 → (lastAt mo j C = -1 → o1 = upd mo C j ∧ h1 = nI (C + 1) ∧ r = nI (C + 1)) ∧ (∀ Q, Q < C → lastAt mo j C = nI Q → o1 = rmAt mo Q (C - 1) ∧ h1 = nI (C - 1) ∧ r = nI (C - 1))) ∧ (¬ gGo (isSec N j) 1 1 = 0 → o1 = mo ∧ h1 = nI C)) := by
  refine g_of (cc := cX7_chain) (nL := 4) (ret := (some .int)) (D := D) (TY := (gTY cI cJ cO)) (df := df) (Qc := fun A => va_Qi (fun (r : Int32) (w : va_W) => ∃ (o1 : Nat → Int32), ∃ (h1 : Int32), w = mW cI M mc ms mw (nI N) o1 h1 mu mk mt mq mp my mf ma cy lo gr ov un (gGo (isSec N j) 1 1) ∧ (gGo (isSec N j) 1 1 = 0 → (lastAt mo j C = -1 → o1 = upd mo C j ∧ h1 = nI (C + 1) ∧ r = nI (C + 1)) ∧ (∀ Q, Q < C → lastAt mo j C = nI Q → o1 = rmAt mo Q (C - 1) ∧ h1 = nI (C - 1) ∧ r = nI (C - 1))) ∧ (¬ gGo (isSec N j) 1 1 = 0 → o1 = mo ∧ h1 = nI C)) (gB D (gTY cI cJ cO) A) A) (by decide +kernel) rfl (Nat.le_of_ble_eq_true rfl) ?_
  intro p e s m below meth c ls A hsz C0 hin hl
  obtain ⟨CF, hr, hlk, hA, hS, hP, hK, hD, hV, hH⟩ := C0
  have CF : CallFix p m c cX7_chain 4 s _ wsX7_chain RX7 := CF
  obtain ⟨hx, hb, hml, hown, hts⟩ := id CF
  subst hsz
  have hmethodLink_RX7_56 : (Cond.methodLink RX7 56 yX7_isSection).before _ s = true := hts _ (List.mem_of_getElem? (i := 3) rfl)
  have hmethodLink_RX7_52 : (Cond.methodLink RX7 52 yX7_goes).before _ s = true := hts _ (List.mem_of_getElem? (i := 12) rfl)
  have hmethodLink_RX7_63 : (Cond.methodLink RX7 63 yX7_placeOf).before _ s = true := hts _ (List.mem_of_getElem? (i := 17) rfl)
  have hfieldLink_RX7_60 : (Cond.fieldLink RX7 60 "TapLoomModel" "chained" "I").before _ s = true := hts _ (List.mem_of_getElem? (i := 2) rfl)
  have hfieldLink_RX7_19 : (Cond.fieldLink RX7 19 "TapLoomModel" "order" "[I").before _ s = true := hts _ (List.mem_of_getElem? (i := 1) rfl)
  have inX7 : ∀ w ∈ u_ws RX7 TX7 20, w ∈ wsX7_chain := fun w h => (List.mem_cons_of_mem _ (List.mem_append_right _ h))
  have hP : va_P D ccl (mW cI M mc ms mw (nI N) mo (nI C) mu mk mt mq mp my mf ma cy lo gr ov un la) s.heap := hP
  have hl : lv_has ls 4 [(0, .ref (M 0)), (1, .int j)] := hl
  refine lv_aload_n hx hb dX7_chain_0 rfl (lv_at hl 0 rfl) ?_
  refine lv_aload_n hx hb dX7_chain_1 rfl (lv_at hl 0 rfl) ?_
  refine lv_iload_n hx hb dX7_chain_2 rfl (lv_at hl 1 rfl) ?_
  have hPc := hP.sub (ws' := [(M 0, .inr (8, [.ref (M 1), .ref (M 2), .ref (M 3), .int (nI N), .ref (M 4), .int (nI C), .ref (M 5), .int mk, .ref (M 6), .ref (M 7), .ref (M 8), .int my, .ref (M 9), .ref (M 10), .int cy, .int lo, .int gr, .long ov, .long un, .int la])), (M 1, .inl (cI, 40, .inl mc)), (M 2, .inl (cI, 32, .inl ms)), (M 3, .inl (cI, 8, .inl mw)), (M 4, .inl (cI, 8, .inl mo)), (M 5, .inl (cI, 16, .inl mu)), (M 6, .inl (cI, 32, .inl mt)), (M 7, .inl (cI, 32, .inl mq)), (M 8, .inl (cI, 64, .inl mp)), (M 9, .inl (cI, 40401, .inl mf)), (M 10, .inl (cI, 40401, .inl ma))]) [0, 1, 2, 3, 4, 5, 6, 7, 8, 9, 10] rfl
  have hDc := hD.sub (ws' := [(M 0, .inr (8, [.ref (M 1), .ref (M 2), .ref (M 3), .int (nI N), .ref (M 4), .int (nI C), .ref (M 5), .int mk, .ref (M 6), .ref (M 7), .ref (M 8), .int my, .ref (M 9), .ref (M 10), .int cy, .int lo, .int gr, .long ov, .long un, .int la])), (M 1, .inl (cI, 40, .inl mc)), (M 2, .inl (cI, 32, .inl ms)), (M 3, .inl (cI, 8, .inl mw)), (M 4, .inl (cI, 8, .inl mo)), (M 5, .inl (cI, 16, .inl mu)), (M 6, .inl (cI, 32, .inl mt)), (M 7, .inl (cI, 32, .inl mq)), (M 8, .inl (cI, 64, .inl mp)), (M 9, .inl (cI, 40401, .inl mf)), (M 10, .inl (cI, 40401, .inl ma))]) [0, 1, 2, 3, 4, 5, 6, 7, 8, 9, 10] (by decide) rfl
  have hFc := va_free (wc := [(M 0, .inr (8, [.ref (M 1), .ref (M 2), .ref (M 3), .int (nI N), .ref (M 4), .int (nI C), .ref (M 5), .int mk, .ref (M 6), .ref (M 7), .ref (M 8), .int my, .ref (M 9), .ref (M 10), .int cy, .int lo, .int gr, .long ov, .long un, .int la])), (M 1, .inl (cI, 40, .inl mc)), (M 2, .inl (cI, 32, .inl ms)), (M 3, .inl (cI, 8, .inl mw)), (M 4, .inl (cI, 8, .inl mo)), (M 5, .inl (cI, 16, .inl mu)), (M 6, .inl (cI, 32, .inl mt)), (M 7, .inl (cI, 32, .inl mq)), (M 8, .inl (cI, 64, .inl mp)), (M 9, .inl (cI, 40401, .inl mf)), (M 10, .inl (cI, 40401, .inl ma))]) hD hS hA [0, 1, 2, 3, 4, 5, 6, 7, 8, 9, 10] rfl
  refine g_Vi (As := [.int j]) (rest := [.ref (M 0)]) CF (c_X7_isSection l D cI cJ cO df s.heap.size M mc ms mw mo (nI C) mu mk mt mq mp my mf ma cy lo gr ov un la N j (by omega)) (cwV 1 hts gX7_chain_X7_isSection rfl rfl rfl (by decide +kernel) ⟨Nat.le_of_ble_eq_true rfl, Nat.le_of_ble_eq_true rfl⟩) (va_recv hK hP (ci := 8) (q0 := 0) rfl rfl) hPc hK hDc hV hH hS hFc rfl hl.1 rfl (Nat.le_of_ble_eq_true rfl) dX7_chain_3 ⟨Nat.le_of_ble_eq_true rfl, Nat.le_of_ble_eq_true rfl⟩ (fun r_3 w1 H1 locs1 hq hP1 hD1 hk hS hz => ?_)
  obtain ⟨rfl, hr_3⟩ := hq
  have hP := g_keepR hP hD [0, 1, 2, 3, 4, 5, 6, 7, 8, 9, 10] rfl hk hP1
  clear hPc hDc hFc hP1 hD1 hk hz
  generalize H1 = H at hP hS ⊢
  have hP : va_P D ccl (mW cI M mc ms mw (nI N) mo (nI C) mu mk mt mq mp my mf ma cy lo gr ov un la) H := hP
  have hD : va_D A (mW cI M mc ms mw (nI N) mo (nI C) mu mk mt mq mp my mf ma cy lo gr ov un la) := hD
  subst hr_3
  refine lv_iconst (v := 1) hx hb dX7_chain_6 (by decide) ?_
  refine lv_iconst (v := 1) hx hb dX7_chain_7 (by decide) ?_
  have hPc := hP.sub (ws' := [(M 0, .inr (8, [.ref (M 1), .ref (M 2), .ref (M 3), .int (nI N), .ref (M 4), .int (nI C), .ref (M 5), .int mk, .ref (M 6), .ref (M 7), .ref (M 8), .int my, .ref (M 9), .ref (M 10), .int cy, .int lo, .int gr, .long ov, .long un, .int la])), (M 1, .inl (cI, 40, .inl mc)), (M 2, .inl (cI, 32, .inl ms)), (M 3, .inl (cI, 8, .inl mw)), (M 4, .inl (cI, 8, .inl mo)), (M 5, .inl (cI, 16, .inl mu)), (M 6, .inl (cI, 32, .inl mt)), (M 7, .inl (cI, 32, .inl mq)), (M 8, .inl (cI, 64, .inl mp)), (M 9, .inl (cI, 40401, .inl mf)), (M 10, .inl (cI, 40401, .inl ma))]) [0, 1, 2, 3, 4, 5, 6, 7, 8, 9, 10] rfl
  have hDc := hD.sub (ws' := [(M 0, .inr (8, [.ref (M 1), .ref (M 2), .ref (M 3), .int (nI N), .ref (M 4), .int (nI C), .ref (M 5), .int mk, .ref (M 6), .ref (M 7), .ref (M 8), .int my, .ref (M 9), .ref (M 10), .int cy, .int lo, .int gr, .long ov, .long un, .int la])), (M 1, .inl (cI, 40, .inl mc)), (M 2, .inl (cI, 32, .inl ms)), (M 3, .inl (cI, 8, .inl mw)), (M 4, .inl (cI, 8, .inl mo)), (M 5, .inl (cI, 16, .inl mu)), (M 6, .inl (cI, 32, .inl mt)), (M 7, .inl (cI, 32, .inl mq)), (M 8, .inl (cI, 64, .inl mp)), (M 9, .inl (cI, 40401, .inl mf)), (M 10, .inl (cI, 40401, .inl ma))]) [0, 1, 2, 3, 4, 5, 6, 7, 8, 9, 10] (by decide) rfl
  have hFc := va_free (wc := [(M 0, .inr (8, [.ref (M 1), .ref (M 2), .ref (M 3), .int (nI N), .ref (M 4), .int (nI C), .ref (M 5), .int mk, .ref (M 6), .ref (M 7), .ref (M 8), .int my, .ref (M 9), .ref (M 10), .int cy, .int lo, .int gr, .long ov, .long un, .int la])), (M 1, .inl (cI, 40, .inl mc)), (M 2, .inl (cI, 32, .inl ms)), (M 3, .inl (cI, 8, .inl mw)), (M 4, .inl (cI, 8, .inl mo)), (M 5, .inl (cI, 16, .inl mu)), (M 6, .inl (cI, 32, .inl mt)), (M 7, .inl (cI, 32, .inl mq)), (M 8, .inl (cI, 64, .inl mp)), (M 9, .inl (cI, 40401, .inl mf)), (M 10, .inl (cI, 40401, .inl ma))]) hD hS hA [0, 1, 2, 3, 4, 5, 6, 7, 8, 9, 10] rfl
  refine g_Vi (As := [.int (isSec N j), .int 1, .int 1]) (rest := []) CF (c_X7_goes l D cI cJ cO df H.size M mc ms mw (nI N) mo (nI C) mu mk mt mq mp my mf ma cy lo gr ov un la (isSec N j) 1 1 ) (cwV 3 hts gX7_chain_X7_goes rfl rfl rfl (by decide +kernel) ⟨Nat.le_of_ble_eq_true rfl, Nat.le_of_ble_eq_true rfl⟩) (va_recv hK hP (ci := 8) (q0 := 0) rfl rfl) hPc hK hDc hV hH hS hFc rfl hl.1 rfl (Nat.le_of_ble_eq_true rfl) dX7_chain_8 ⟨Nat.le_of_ble_eq_true rfl, Nat.le_of_ble_eq_true rfl⟩ (fun r_8 w1 H1 locs1 hq hP1 hD1 hk hS hz => ?_)
  obtain ⟨rfl, hr_8⟩ := hq
  obtain ⟨hP, hD⟩ := g_join (ws' := (mW cI M mc ms mw (nI N) mo (nI C) mu mk mt mq mp my mf ma cy lo gr ov un (gGo (isSec N j) 1 1))) hP hD hk hFc hP1 hD1 [0, 1, 2, 3, 4, 5, 6, 7, 8, 9, 10] [] [0, 1, 2, 3, 4, 5, 6, 7, 8, 9, 10] rfl rfl (by decide) (by decide) (by decide) rfl
  clear hPc hDc hFc hP1 hD1 hk hz
  generalize H1 = H at hP hS ⊢
  have hP : va_P D ccl (mW cI M mc ms mw (nI N) mo (nI C) mu mk mt mq mp my mf ma cy lo gr ov un (gGo (isSec N j) 1 1)) H := hP
  have hD : va_D A (mW cI M mc ms mw (nI N) mo (nI C) mu mk mt mq mp my mf ma cy lo gr ov un (gGo (isSec N j) 1 1)) := hD
  subst hr_8
  refine lv_if_ne (tgt := 16) hx hb dX7_chain_11 (by decide) (fun c_11 => ?_) (fun c_11 => ?_)
  · have c_11 : gGo (isSec N j) 1 1 = 0 := g_b1 c_11
    have hv0 := gGo_0 c_11
    obtain ⟨J, hJ, rfl⟩ := isSec_get hN hv0.1
    refine lv_aload_n hx hb dX7_chain_16 rfl (lv_at hl 0 rfl) ?_
    refine lv_iload_n hx hb dX7_chain_17 rfl (lv_at hl 1 rfl) ?_
    have hPc := hP.sub (ws' := [(M 0, .inr (8, [.ref (M 1), .ref (M 2), .ref (M 3), .int (nI N), .ref (M 4), .int (nI C), .ref (M 5), .int mk, .ref (M 6), .ref (M 7), .ref (M 8), .int my, .ref (M 9), .ref (M 10), .int cy, .int lo, .int gr, .long ov, .long un, .int (gGo (isSec N (nI J)) 1 1)])), (M 1, .inl (cI, 40, .inl mc)), (M 2, .inl (cI, 32, .inl ms)), (M 3, .inl (cI, 8, .inl mw)), (M 4, .inl (cI, 8, .inl mo)), (M 5, .inl (cI, 16, .inl mu)), (M 6, .inl (cI, 32, .inl mt)), (M 7, .inl (cI, 32, .inl mq)), (M 8, .inl (cI, 64, .inl mp)), (M 9, .inl (cI, 40401, .inl mf)), (M 10, .inl (cI, 40401, .inl ma))]) [0, 1, 2, 3, 4, 5, 6, 7, 8, 9, 10] rfl
    have hDc := hD.sub (ws' := [(M 0, .inr (8, [.ref (M 1), .ref (M 2), .ref (M 3), .int (nI N), .ref (M 4), .int (nI C), .ref (M 5), .int mk, .ref (M 6), .ref (M 7), .ref (M 8), .int my, .ref (M 9), .ref (M 10), .int cy, .int lo, .int gr, .long ov, .long un, .int (gGo (isSec N (nI J)) 1 1)])), (M 1, .inl (cI, 40, .inl mc)), (M 2, .inl (cI, 32, .inl ms)), (M 3, .inl (cI, 8, .inl mw)), (M 4, .inl (cI, 8, .inl mo)), (M 5, .inl (cI, 16, .inl mu)), (M 6, .inl (cI, 32, .inl mt)), (M 7, .inl (cI, 32, .inl mq)), (M 8, .inl (cI, 64, .inl mp)), (M 9, .inl (cI, 40401, .inl mf)), (M 10, .inl (cI, 40401, .inl ma))]) [0, 1, 2, 3, 4, 5, 6, 7, 8, 9, 10] (by decide) rfl
    have hFc := va_free (wc := [(M 0, .inr (8, [.ref (M 1), .ref (M 2), .ref (M 3), .int (nI N), .ref (M 4), .int (nI C), .ref (M 5), .int mk, .ref (M 6), .ref (M 7), .ref (M 8), .int my, .ref (M 9), .ref (M 10), .int cy, .int lo, .int gr, .long ov, .long un, .int (gGo (isSec N (nI J)) 1 1)])), (M 1, .inl (cI, 40, .inl mc)), (M 2, .inl (cI, 32, .inl ms)), (M 3, .inl (cI, 8, .inl mw)), (M 4, .inl (cI, 8, .inl mo)), (M 5, .inl (cI, 16, .inl mu)), (M 6, .inl (cI, 32, .inl mt)), (M 7, .inl (cI, 32, .inl mq)), (M 8, .inl (cI, 64, .inl mp)), (M 9, .inl (cI, 40401, .inl mf)), (M 10, .inl (cI, 40401, .inl ma))]) hD hS hA [0, 1, 2, 3, 4, 5, 6, 7, 8, 9, 10] rfl
    refine g_Vi (As := [.int (nI J)]) (rest := []) CF (c_X7_placeOf l D cI cJ cO df H.size M mc ms mw (nI N) mo mu mk mt mq mp my mf ma cy lo gr ov un (gGo (isSec N (nI J)) 1 1) C (nI J) (by omega)) (cwV 1 hts gX7_chain_X7_placeOf rfl rfl rfl (by decide +kernel) ⟨Nat.le_of_ble_eq_true rfl, Nat.le_of_ble_eq_true rfl⟩) (va_recv hK hP (ci := 8) (q0 := 0) rfl rfl) hPc hK hDc hV hH hS hFc rfl hl.1 rfl (Nat.le_of_ble_eq_true rfl) dX7_chain_18 ⟨Nat.le_of_ble_eq_true rfl, Nat.le_of_ble_eq_true rfl⟩ (fun r_18 w1 H1 locs1 hq hP1 hD1 hk hS hz => ?_)
    obtain ⟨rfl, hr_18⟩ := hq
    have hP := g_keepR hP hD [0, 1, 2, 3, 4, 5, 6, 7, 8, 9, 10] rfl hk hP1
    clear hPc hDc hFc hP1 hD1 hk hz
    generalize H1 = H at hP hS ⊢
    have hP : va_P D ccl (mW cI M mc ms mw (nI N) mo (nI C) mu mk mt mq mp my mf ma cy lo gr ov un (gGo (isSec N (nI J)) 1 1)) H := hP
    have hD : va_D A (mW cI M mc ms mw (nI N) mo (nI C) mu mk mt mq mp my mf ma cy lo gr ov un (gGo (isSec N (nI J)) 1 1)) := hD
    subst hr_18
    refine lv_topi (fun pl epl => ?_)
    refine lv_istore_n (lv' := [(2, .int pl), (0, .ref (M 0)), (1, .int (nI J))]) hx hb dX7_chain_21 rfl hl (by decide) rfl (fun ls hl => ?_)
    refine lv_iload_n hx hb dX7_chain_22 rfl (lv_at hl 0 rfl) ?_
    refine lv_iconst (v := (-1)) hx hb dX7_chain_23 (by decide) ?_
    refine lv_icmp_ne (tgt := 52) hx hb dX7_chain_24 (by decide) (fun c_24 => ?_) (fun c_24 => ?_)
    · obtain ⟨Q, hQ, eQ, hfQ⟩ := lastAt_get (by omega) (fun h => c_24 (epl.trans h))
      obtain rfl : pl = nI Q := epl.trans eQ
      refine lv_aload_n hx hb dX7_chain_52 rfl (lv_at hl 1 rfl) ?_
      refine lv_dup hx hb dX7_chain_53 rfl ?_
      refine va_get (D := D) (ci := 8) (v := .int (nI C)) (C := RX7) (T := TX7) (N := 20) hx hb hts inX7 hown hK hP 0 rfl rfl 5 (by decide) hfieldLink_RX7_60 (fun _ h9 => h9) rfl dX7_chain_54 ?_
      refine lv_iconst (v := 1) hx hb dX7_chain_57 (by decide) ?_
      refine lv_isub hx hb dX7_chain_58 ?_
      refine lv_topi (fun f ef => ?_)
      obtain rfl : f = nI (C - 1) := ef.trans (pk_sub (a := C) (b := 1) (by omega))
      refine va_put (D := D) (ci := 8) (v := .int (nI (C - 1))) (ty := .int) (C := RX7) (T := TX7) (N := 20) hx hb hts inX7 tyX7 tyX7_ok nmX7 hown hK hP hD hS 0 rfl rfl 5 (by decide) hfieldLink_RX7_60 (fun _ h9 => h9) rfl (by decide +kernel) rfl rfl (Nat.le_of_ble_eq_true rfl) dX7_chain_59 (fun H locs hP hD hS => ?_)
      have hP : va_P D ccl (mW cI M mc ms mw (nI N) mo (nI (C - 1)) mu mk mt mq mp my mf ma cy lo gr ov un (gGo (isSec N (nI J)) 1 1)) H := hP
      have hD : va_D A (mW cI M mc ms mw (nI N) mo (nI (C - 1)) mu mk mt mq mp my mf ma cy lo gr ov un (gGo (isSec N (nI J)) 1 1)) := hD
      refine lv_iload_n hx hb dX7_chain_62 rfl (lv_at hl 0 rfl) ?_
      refine lv_istore_n (lv' := [(3, .int (nI Q)), (2, .int (nI Q)), (0, .ref (M 0)), (1, .int (nI J))]) hx hb dX7_chain_63 rfl hl (by decide) rfl (fun ls hl => ?_)
      refine W.widen (k := 0) (n := 0) (Nat.le_refl _) (Nat.le_refl _) ?_
      refine g_while (σ := Nat × (Nat → Int32)) (st := []) (nL := 4) (fun z => match z with | (i, o1) => mW cI M mc ms mw (nI N) o1 (nI (C - 1)) mu mk mt mq mp my mf ma cy lo gr ov un (gGo (isSec N (nI J)) 1 1))
        (fun z => match z with | (i, o1) => [(0, .ref (M 0)), (1, .int (nI J)), (2, .int (nI Q)), (3, .int (nI i))])
        (fun z => match z with | (i, o1) => Q ≤ i ∧ i ≤ C - 1 ∧ o1 = rmAt mo Q i)
        (fun z => match z with | (i, o1) => C - i) (fun z => match z with | (i, o1) => 0) (fun z => match z with | (i, o1) => 0)
        ?_ (Q, mo) ⟨Nat.le_refl Q, by omega, rmAt_0⟩ hP hD hS (lv_sub hl [2, 3, 1, 0] rfl)
      rintro ⟨i, o1⟩ hI H locs ls hP hD hS hl ih
      have hI : Q ≤ i ∧ i ≤ C - 1 ∧ o1 = rmAt mo Q i := hI
      have hP : va_P D ccl (mW cI M mc ms mw (nI N) o1 (nI (C - 1)) mu mk mt mq mp my mf ma cy lo gr ov un (gGo (isSec N (nI J)) 1 1)) H := hP
      have hD : va_D A (mW cI M mc ms mw (nI N) o1 (nI (C - 1)) mu mk mt mq mp my mf ma cy lo gr ov un (gGo (isSec N (nI J)) 1 1)) := hD
      have hl : lv_has ls 4 [(0, .ref (M 0)), (1, .int (nI J)), (2, .int (nI Q)), (3, .int (nI i))] := hl
      change W p l e _ s m _ below meth c H locs 0 0 _ (F0 m 64 ls [])
      have ih_64 := ih
      clear ih
      obtain ⟨hi0, hi, rfl⟩ := hI
      refine lv_iload_n hx hb dX7_chain_64 rfl (lv_at hl 3 rfl) ?_
      refine lv_aload_n hx hb dX7_chain_65 rfl (lv_at hl 0 rfl) ?_
      refine va_get (D := D) (ci := 8) (v := .int (nI (C - 1))) (C := RX7) (T := TX7) (N := 20) hx hb hts inX7 hown hK hP 0 rfl rfl 5 (by decide) hfieldLink_RX7_60 (fun _ h9 => h9) rfl dX7_chain_66 ?_
      refine lv_icmp_ge (tgt := 92) hx hb dX7_chain_69 (by decide) (fun c_69 => ?_) (fun c_69 => ?_)
      · have c_69 : C - 1 ≤ i := g_le (a := C - 1) (b := i) c_69 (by omega) (by omega)
        obtain rfl : i = C - 1 := by omega
        refine lv_aload_n hx hb dX7_chain_92 rfl (lv_at hl 0 rfl) ?_
        refine va_get (D := D) (ci := 8) (v := .int (nI (C - 1))) (C := RX7) (T := TX7) (N := 20) hx hb hts inX7 hown hK hP 0 rfl rfl 5 (by decide) hfieldLink_RX7_60 (fun _ h9 => h9) rfl dX7_chain_93 ?_
        refine g_iret (v := nI (C - 1)) hx hb hr hlk hP hK hD hS (Nat.le_of_ble_eq_true rfl) (Nat.le_of_ble_eq_true rfl) dX7_chain_96 ?_
        exact ⟨_, _, rfl, fun _ => ⟨fun h => (nI_ne_m1 (by omega) (eQ.symm.trans h)).elim, fun Q2 hQ2 h => by
          obtain rfl : Q = Q2 := g_eq (eQ.symm.trans h) (by omega) (by omega)
          exact ⟨rfl, rfl, rfl⟩⟩, fun h => absurd c_11 h⟩
      · have c_69 : i < C - 1 := g_nle (a := C - 1) (b := i) c_69 (by omega) (by omega)
        refine lv_aload_n hx hb dX7_chain_72 rfl (lv_at hl 0 rfl) ?_
        refine va_get (D := D) (ci := 8) (v := .ref (M 4)) (C := RX7) (T := TX7) (N := 20) hx hb hts inX7 hown hK hP 0 rfl rfl 4 (by decide) hfieldLink_RX7_19 (fun _ h9 => h9) rfl dX7_chain_73 ?_
        refine lv_iload_n hx hb dX7_chain_76 rfl (lv_at hl 3 rfl) ?_
        refine lv_aload_n hx hb dX7_chain_77 rfl (lv_at hl 0 rfl) ?_
        refine va_get (D := D) (ci := 8) (v := .ref (M 4)) (C := RX7) (T := TX7) (N := 20) hx hb hts inX7 hown hK hP 0 rfl rfl 4 (by decide) hfieldLink_RX7_19 (fun _ h9 => h9) rfl dX7_chain_78 ?_
        refine lv_iload_n hx hb dX7_chain_81 rfl (lv_at hl 3 rfl) ?_
        refine lv_iconst (v := 1) hx hb dX7_chain_82 (by decide) ?_
        refine lv_iadd hx hb dX7_chain_83 ?_
        refine lv_topi (fun f ef => ?_)
        obtain rfl : f = nI (i + 1) := ef.trans (nI_add _ _)
        refine va_iald hx hb hK hP 4 0 rfl rfl (vp_in_nI (by omega) (by omega)) dX7_chain_84 ?_
        refine lv_topi (fun f ef => ?_)
        obtain rfl : f = (rmAt mo Q i) (i + 1) := ef.trans (congrArg (rmAt mo Q i) (nI_clamp (n := i + 1) (by omega)))
        refine va_iast hx hb hK hP hD hS 4 0 rfl rfl (vp_in_nI (by omega) (by omega)) dX7_chain_85 (fun H locs hP hD hS => ?_)
        rw [show (nI i).toNatClampNeg = i from (nI_clamp (by omega))] at hP hD
        have hP : va_P D ccl (mW cI M mc ms mw (nI N) (upd (rmAt mo Q i) i ((rmAt mo Q i) (i + 1))) (nI (C - 1)) mu mk mt mq mp my mf ma cy lo gr ov un (gGo (isSec N (nI J)) 1 1)) H := hP
        have hD : va_D A (mW cI M mc ms mw (nI N) (upd (rmAt mo Q i) i ((rmAt mo Q i) (i + 1))) (nI (C - 1)) mu mk mt mq mp my mf ma cy lo gr ov un (gGo (isSec N (nI J)) 1 1)) := hD
        refine lv_iinc (v := nI (i + 1)) (lv' := [(3, .int (nI (i + 1))), (0, .ref (M 0)), (1, .int (nI J)), (2, .int (nI Q))]) hx hb dX7_chain_86 hl (k := 3) rfl (by exact nI_1 _) (by decide) rfl (fun ls hl => ?_)
        refine lv_goto (tgt := 64) hx hb dX7_chain_89 (by decide) ?_
        refine W.widen (k := 0) (n := 0) (Nat.le_refl _) (Nat.le_refl _) ?_
        exact ih_64 (i + 1, upd (rmAt mo Q i) i ((rmAt mo Q i) (i + 1))) _ _ _ (show Q ≤ (i + 1) ∧ (i + 1) ≤ C - 1 ∧ (upd (rmAt mo Q i) i ((rmAt mo Q i) (i + 1))) = rmAt mo Q (i + 1) from (by exact ⟨by omega, by omega, rmAt_s hi0⟩)) (show C - (i + 1) < C - i by omega) hP hD hS (lv_sub hl [1, 2, 3, 0] rfl)
    · have hC9 : C < 8 := hpl J hJ (epl.symm.trans c_24)
      refine lv_aload_n hx hb dX7_chain_27 rfl (lv_at hl 1 rfl) ?_
      refine va_get (D := D) (ci := 8) (v := .ref (M 4)) (C := RX7) (T := TX7) (N := 20) hx hb hts inX7 hown hK hP 0 rfl rfl 4 (by decide) hfieldLink_RX7_19 (fun _ h9 => h9) rfl dX7_chain_28 ?_
      refine lv_aload_n hx hb dX7_chain_31 rfl (lv_at hl 1 rfl) ?_
      refine va_get (D := D) (ci := 8) (v := .int (nI C)) (C := RX7) (T := TX7) (N := 20) hx hb hts inX7 hown hK hP 0 rfl rfl 5 (by decide) hfieldLink_RX7_60 (fun _ h9 => h9) rfl dX7_chain_32 ?_
      refine lv_iload_n hx hb dX7_chain_35 rfl (lv_at hl 2 rfl) ?_
      refine va_iast hx hb hK hP hD hS 4 0 rfl rfl (vp_in_nI (by omega) (by omega)) dX7_chain_36 (fun H locs hP hD hS => ?_)
      rw [show (nI C).toNatClampNeg = C from (nI_clamp (by omega))] at hP hD
      have hP : va_P D ccl (mW cI M mc ms mw (nI N) (upd mo C (nI J)) (nI C) mu mk mt mq mp my mf ma cy lo gr ov un (gGo (isSec N (nI J)) 1 1)) H := hP
      have hD : va_D A (mW cI M mc ms mw (nI N) (upd mo C (nI J)) (nI C) mu mk mt mq mp my mf ma cy lo gr ov un (gGo (isSec N (nI J)) 1 1)) := hD
      refine lv_aload_n hx hb dX7_chain_37 rfl (lv_at hl 1 rfl) ?_
      refine lv_dup hx hb dX7_chain_38 rfl ?_
      refine va_get (D := D) (ci := 8) (v := .int (nI C)) (C := RX7) (T := TX7) (N := 20) hx hb hts inX7 hown hK hP 0 rfl rfl 5 (by decide) hfieldLink_RX7_60 (fun _ h9 => h9) rfl dX7_chain_39 ?_
      refine lv_iconst (v := 1) hx hb dX7_chain_42 (by decide) ?_
      refine lv_iadd hx hb dX7_chain_43 ?_
      refine lv_topi (fun f ef => ?_)
      obtain rfl : f = nI (C + 1) := ef.trans (nI_add _ _)
      refine va_put (D := D) (ci := 8) (v := .int (nI (C + 1))) (ty := .int) (C := RX7) (T := TX7) (N := 20) hx hb hts inX7 tyX7 tyX7_ok nmX7 hown hK hP hD hS 0 rfl rfl 5 (by decide) hfieldLink_RX7_60 (fun _ h9 => h9) rfl (by decide +kernel) rfl rfl (Nat.le_of_ble_eq_true rfl) dX7_chain_44 (fun H locs hP hD hS => ?_)
      have hP : va_P D ccl (mW cI M mc ms mw (nI N) (upd mo C (nI J)) (nI (C + 1)) mu mk mt mq mp my mf ma cy lo gr ov un (gGo (isSec N (nI J)) 1 1)) H := hP
      have hD : va_D A (mW cI M mc ms mw (nI N) (upd mo C (nI J)) (nI (C + 1)) mu mk mt mq mp my mf ma cy lo gr ov un (gGo (isSec N (nI J)) 1 1)) := hD
      refine lv_aload_n hx hb dX7_chain_47 rfl (lv_at hl 1 rfl) ?_
      refine va_get (D := D) (ci := 8) (v := .int (nI (C + 1))) (C := RX7) (T := TX7) (N := 20) hx hb hts inX7 hown hK hP 0 rfl rfl 5 (by decide) hfieldLink_RX7_60 (fun _ h9 => h9) rfl dX7_chain_48 ?_
      refine g_iret (v := nI (C + 1)) hx hb hr hlk hP hK hD hS (Nat.le_of_ble_eq_true rfl) (Nat.le_of_ble_eq_true rfl) dX7_chain_51 ?_
      exact ⟨_, _, rfl, fun _ => ⟨fun _ => ⟨rfl, rfl, rfl⟩, fun Q hQ h => (nI_ne_m1 (by omega) (h.symm.trans (epl.symm.trans c_24))).elim⟩, fun h => absurd c_11 h⟩
  · have c_11 : ¬ (gGo (isSec N j) 1 1 = 0) := g_b0 c_11
    refine lv_iconst (v := 0) hx hb dX7_chain_14 (by decide) ?_
    refine g_iret (v := 0) hx hb hr hlk hP hK hD hS (Nat.le_of_ble_eq_true rfl) (Nat.le_of_ble_eq_true rfl) dX7_chain_15 ?_
    exact ⟨_, _, rfl, fun h => absurd h c_11, fun _ => ⟨rfl, rfl⟩⟩

set_option maxHeartbeats 4000000 in
set_option maxRecDepth 100000 in
theorem c_X7_isAhead (l : Launch) (D : va_G) (cI cJ cO : ClassId) (df sz : Nat) (M : Nat → Nat) (mc : Nat → Int32) (ms : Nat → Int32) (mw : Nat → Int32) (mn : Int32) (mo : Nat → Int32) (mh : Int32) (mu : Nat → Int32) (mk : Int32) (mt : Nat → Int32) (mq : Nat → Int32) (mp : Nat → Int32) (my : Int32) (mf : Nat → Int32) (ma : Nat → Int32) (cy : Int32) (lo : Int32) (gr : Int32) (ov : Int64) (un : Int64) (la : Int32) (a1 : Nat) (b1 : Nat) (ha1 : a1 < 8) (hb1 : b1 < 8) : MetI l yX7_isAhead wsX7_isAhead ({ frames := 1, cells := 0, slots := 0, locals := 20 } : Room) D (gTY cI cJ cO) df (mW cI M mc ms mw mn mo mh mu mk mt mq mp my mf ma cy lo gr ov un la) sz [.ref (M 0), .int (nI a1), .int (nI b1)] (fun (r : Int32) (w : va_W) => w = mW cI M mc ms mw mn mo mh mu mk mt mq mp my mf ma cy lo gr ov un la ∧ r = mAh mc a1 b1) := by
  refine g_of (cc := cX7_isAhead) (nL := 4) (ret := (some .boolean)) (D := D) (TY := (gTY cI cJ cO)) (df := df) (Qc := fun A => va_Qi (fun (r : Int32) (w : va_W) => w = mW cI M mc ms mw mn mo mh mu mk mt mq mp my mf ma cy lo gr ov un la ∧ r = mAh mc a1 b1) (gB D (gTY cI cJ cO) A) A) (by decide +kernel) rfl (Nat.le_of_ble_eq_true rfl) ?_
  intro p e s m below meth c ls A hsz C0 hin hl
  obtain ⟨CF, hr, hlk, hA, hS, hP, hK, hD, hV, hH⟩ := C0
  have CF : CallFix p m c cX7_isAhead 4 s _ wsX7_isAhead RX7 := CF
  obtain ⟨hx, hb, hml, hown, hts⟩ := id CF
  subst hsz
  have hfieldLink_RX7_7 : (Cond.fieldLink RX7 7 "TapLoomModel" "coefficients" "[I").before _ s = true := hts _ (List.mem_of_getElem? (i := 1) rfl)
  have hmethodLink_RX7_67 : (Cond.methodLink RX7 67 yX7_size).before _ s = true := hts _ (List.mem_of_getElem? (i := 2) rfl)
  have inX7 : ∀ w ∈ u_ws RX7 TX7 20, w ∈ wsX7_isAhead := fun w h => (List.mem_cons_of_mem _ (List.mem_append_right _ h))
  have hP : va_P D ccl (mW cI M mc ms mw mn mo mh mu mk mt mq mp my mf ma cy lo gr ov un la) s.heap := hP
  have hl : lv_has ls 4 [(0, .ref (M 0)), (1, .int (nI a1)), (2, .int (nI b1))] := hl
  refine lv_aload_n hx hb dX7_isAhead_0 rfl (lv_at hl 0 rfl) ?_
  refine va_get (D := D) (ci := 8) (v := .ref (M 1)) (C := RX7) (T := TX7) (N := 20) hx hb hts inX7 hown hK hP 0 rfl rfl 0 (by decide) hfieldLink_RX7_7 (fun _ h9 => h9) rfl dX7_isAhead_1 ?_
  refine lv_iconst (v := 5) hx hb dX7_isAhead_4 (by decide) ?_
  refine lv_iload_n hx hb dX7_isAhead_5 rfl (lv_at hl 1 rfl) ?_
  refine lv_imul hx hb dX7_isAhead_6 ?_
  refine lv_topi (fun f ef => ?_)
  obtain rfl : f = nI (5 * a1) := ef.trans (pk_mul _ _)
  refine lv_iconst (v := 4) hx hb dX7_isAhead_7 (by decide) ?_
  refine lv_iadd hx hb dX7_isAhead_8 ?_
  refine lv_topi (fun f ef => ?_)
  obtain rfl : f = nI ((5 * a1) + 4) := ef.trans (nI_add _ _)
  refine va_iald hx hb hK hP 1 0 rfl rfl (vp_in_nI (by omega) (by omega)) dX7_isAhead_9 ?_
  refine lv_topi (fun f ef => ?_)
  obtain rfl : f = mc ((5 * a1) + 4) := ef.trans (congrArg mc (nI_clamp (n := (5 * a1) + 4) (by omega)))
  refine lv_aload_n hx hb dX7_isAhead_10 rfl (lv_at hl 0 rfl) ?_
  refine va_get (D := D) (ci := 8) (v := .ref (M 1)) (C := RX7) (T := TX7) (N := 20) hx hb hts inX7 hown hK hP 0 rfl rfl 0 (by decide) hfieldLink_RX7_7 (fun _ h9 => h9) rfl dX7_isAhead_11 ?_
  refine lv_iconst (v := 5) hx hb dX7_isAhead_14 (by decide) ?_
  refine lv_iload_n hx hb dX7_isAhead_15 rfl (lv_at hl 2 rfl) ?_
  refine lv_imul hx hb dX7_isAhead_16 ?_
  refine lv_topi (fun f ef => ?_)
  obtain rfl : f = nI (5 * b1) := ef.trans (pk_mul _ _)
  refine lv_iconst (v := 4) hx hb dX7_isAhead_17 (by decide) ?_
  refine lv_iadd hx hb dX7_isAhead_18 ?_
  refine lv_topi (fun f ef => ?_)
  obtain rfl : f = nI ((5 * b1) + 4) := ef.trans (nI_add _ _)
  refine va_iald hx hb hK hP 1 0 rfl rfl (vp_in_nI (by omega) (by omega)) dX7_isAhead_19 ?_
  refine lv_topi (fun f ef => ?_)
  obtain rfl : f = mc ((5 * b1) + 4) := ef.trans (congrArg mc (nI_clamp (n := (5 * b1) + 4) (by omega)))
  refine lv_isub hx hb dX7_isAhead_20 ?_
  refine lv_topi (fun d1 ed1 => ?_)
  refine lv_istore_n (lv' := [(3, .int d1), (0, .ref (M 0)), (1, .int (nI a1)), (2, .int (nI b1))]) hx hb dX7_isAhead_21 rfl hl (by decide) rfl (fun ls hl => ?_)
  refine lv_iload_n hx hb dX7_isAhead_22 rfl (lv_at hl 0 rfl) ?_
  refine g_phiHi (ls := ls) (J := 57) (st1 := []) (REL := fun y => y = mBy mc a1 b1) (D := D) (A := A) (H0 := s.heap) (Ws := (mW cI M mc ms mw mn mo mh mu mk mt mq mp my mf ma cy lo gr ov un la)) (fun y H locs hb_57 hP hD hS => ?_) (fun hJ_57 => ?_)
  · refine lv_istore_n (lv' := [(3, .int y), (0, .ref (M 0)), (1, .int (nI a1)), (2, .int (nI b1))]) hx hb dX7_isAhead_57 rfl hl (by decide) rfl (fun ls hl => ?_)
    refine lv_iload_n hx hb dX7_isAhead_58 rfl (lv_at hl 0 rfl) ?_
    refine lv_if_lt (tgt := 71) hx hb dX7_isAhead_59 (by decide) (fun c_59 => ?_) (fun c_59 => ?_)
    · refine lv_iconst (v := 1) hx hb dX7_isAhead_71 (by decide) ?_
      refine lv_goto (tgt := 76) hx hb dX7_isAhead_72 (by decide) ?_
      refine g_zret (v := 1) hx hb hr hlk hP hK hD hS (Nat.le_of_ble_eq_true rfl) (Nat.le_of_ble_eq_true rfl) dX7_isAhead_76 (by decide +kernel) ?_
      exact ⟨rfl, by unfold mAh; rw [← hb_57]; simp [c_59]⟩
    · refine lv_iload_n hx hb dX7_isAhead_62 rfl (lv_at hl 0 rfl) ?_
      refine lv_if_ne (tgt := 75) hx hb dX7_isAhead_63 (by decide) (fun c_63 => ?_) (fun c_63 => ?_)
      · refine lv_iconst (v := 0) hx hb dX7_isAhead_75 (by decide) ?_
        refine g_zret (v := 0) hx hb hr hlk hP hK hD hS (Nat.le_of_ble_eq_true rfl) (Nat.le_of_ble_eq_true rfl) dX7_isAhead_76 (by decide +kernel) ?_
        exact ⟨rfl, by unfold mAh; rw [← hb_57]; simp [c_59, c_63]⟩
      · refine lv_iload_n hx hb dX7_isAhead_66 rfl (lv_at hl 2 rfl) ?_
        refine lv_iload_n hx hb dX7_isAhead_67 rfl (lv_at hl 3 rfl) ?_
        refine lv_icmp_ge (tgt := 75) hx hb dX7_isAhead_68 (by decide) (fun c_68 => ?_) (fun c_68 => ?_)
        · have c_68 : b1 ≤ a1 := g_le (a := b1) (b := a1) c_68 (by omega) (by omega)
          refine lv_iconst (v := 0) hx hb dX7_isAhead_75 (by decide) ?_
          refine g_zret (v := 0) hx hb hr hlk hP hK hD hS (Nat.le_of_ble_eq_true rfl) (Nat.le_of_ble_eq_true rfl) dX7_isAhead_76 (by decide +kernel) ?_
          exact ⟨rfl, by unfold mAh; rw [← hb_57, if_neg c_59, if_pos c_63]; first | rw [if_pos (by omega)] | rw [if_neg (by omega)]⟩
        · have c_68 : a1 < b1 := g_nle (a := b1) (b := a1) c_68 (by omega) (by omega)
          refine lv_iconst (v := 1) hx hb dX7_isAhead_71 (by decide) ?_
          refine lv_goto (tgt := 76) hx hb dX7_isAhead_72 (by decide) ?_
          refine g_zret (v := 1) hx hb hr hlk hP hK hD hS (Nat.le_of_ble_eq_true rfl) (Nat.le_of_ble_eq_true rfl) dX7_isAhead_76 (by decide +kernel) ?_
          exact ⟨rfl, by unfold mAh; rw [← hb_57, if_neg c_59, if_pos c_63]; first | rw [if_pos (by omega)] | rw [if_neg (by omega)]⟩
  · refine lv_if_ne (tgt := 56) hx hb dX7_isAhead_23 (by decide) (fun c_23 => ?_) (fun c_23 => ?_)
    · refine lv_iload_n hx hb dX7_isAhead_56 rfl (lv_at hl 0 rfl) ?_
      exact hJ_57 _ _ _ (by unfold mBy; rw [ed1] at c_23; first | rw [if_pos c_23] | (rw [if_neg c_23]; exact ed1)) hP hD hS
    · refine lv_aload_n hx hb dX7_isAhead_26 rfl (lv_at hl 1 rfl) ?_
      refine va_get (D := D) (ci := 8) (v := .ref (M 1)) (C := RX7) (T := TX7) (N := 20) hx hb hts inX7 hown hK hP 0 rfl rfl 0 (by decide) hfieldLink_RX7_7 (fun _ h9 => h9) rfl dX7_isAhead_27 ?_
      refine lv_iconst (v := 5) hx hb dX7_isAhead_30 (by decide) ?_
      refine lv_iload_n hx hb dX7_isAhead_31 rfl (lv_at hl 2 rfl) ?_
      refine lv_imul hx hb dX7_isAhead_32 ?_
      refine lv_topi (fun f ef => ?_)
      obtain rfl : f = nI (5 * a1) := ef.trans (pk_mul _ _)
      refine lv_iconst (v := 3) hx hb dX7_isAhead_33 (by decide) ?_
      refine lv_iadd hx hb dX7_isAhead_34 ?_
      refine lv_topi (fun f ef => ?_)
      obtain rfl : f = nI ((5 * a1) + 3) := ef.trans (nI_add _ _)
      refine va_iald hx hb hK hP 1 0 rfl rfl (vp_in_nI (by omega) (by omega)) dX7_isAhead_35 ?_
      refine lv_topi (fun f ef => ?_)
      obtain rfl : f = mc ((5 * a1) + 3) := ef.trans (congrArg mc (nI_clamp (n := (5 * a1) + 3) (by omega)))
      have hPc : va_P D ccl [] s.heap := fun k q h => by simp at h
      have hDc : va_D A [] := ⟨fun i j p q h => by simp at h, fun k q h => by simp at h⟩
      have hFc := va_free (wc := []) hD hS hA [] rfl
      refine g_Si (As := [.int (mc ((5 * a1) + 3))]) (rest := []) CF (c_X7_size l D cI cJ cO df s.heap.size (mc ((5 * a1) + 3)) ) (va_cwS 1 hts gX7_isAhead_X7_size rfl rfl rfl (by decide +kernel) ⟨Nat.le_of_ble_eq_true rfl, Nat.le_of_ble_eq_true rfl⟩)  hPc hK hDc hV hH hS hFc rfl hl.1 rfl (Nat.le_of_ble_eq_true rfl) dX7_isAhead_36 ⟨Nat.le_of_ble_eq_true rfl, Nat.le_of_ble_eq_true rfl⟩ (fun r_36 w1 H1 locs1 hq hP1 hD1 hk hS hz => ?_)
      obtain ⟨rfl, hr_36⟩ := hq
      have hP := g_keep0 hP hk
      clear hPc hDc hFc hP1 hD1 hk hz
      generalize H1 = H at hP hS ⊢
      have hP : va_P D ccl (mW cI M mc ms mw mn mo mh mu mk mt mq mp my mf ma cy lo gr ov un la) H := hP
      have hD : va_D A (mW cI M mc ms mw mn mo mh mu mk mt mq mp my mf ma cy lo gr ov un la) := hD
      subst hr_36
      refine lv_aload_n hx hb dX7_isAhead_39 rfl (lv_at hl 1 rfl) ?_
      refine va_get (D := D) (ci := 8) (v := .ref (M 1)) (C := RX7) (T := TX7) (N := 20) hx hb hts inX7 hown hK hP 0 rfl rfl 0 (by decide) hfieldLink_RX7_7 (fun _ h9 => h9) rfl dX7_isAhead_40 ?_
      refine lv_iconst (v := 5) hx hb dX7_isAhead_43 (by decide) ?_
      refine lv_iload_n hx hb dX7_isAhead_44 rfl (lv_at hl 3 rfl) ?_
      refine lv_imul hx hb dX7_isAhead_45 ?_
      refine lv_topi (fun f ef => ?_)
      obtain rfl : f = nI (5 * b1) := ef.trans (pk_mul _ _)
      refine lv_iconst (v := 3) hx hb dX7_isAhead_46 (by decide) ?_
      refine lv_iadd hx hb dX7_isAhead_47 ?_
      refine lv_topi (fun f ef => ?_)
      obtain rfl : f = nI ((5 * b1) + 3) := ef.trans (nI_add _ _)
      refine va_iald hx hb hK hP 1 0 rfl rfl (vp_in_nI (by omega) (by omega)) dX7_isAhead_48 ?_
      refine lv_topi (fun f ef => ?_)
      obtain rfl : f = mc ((5 * b1) + 3) := ef.trans (congrArg mc (nI_clamp (n := (5 * b1) + 3) (by omega)))
      have hPc : va_P D ccl [] H := fun k q h => by simp at h
      have hDc : va_D A [] := ⟨fun i j p q h => by simp at h, fun k q h => by simp at h⟩
      have hFc := va_free (wc := []) hD hS hA [] rfl
      refine g_Si (As := [.int (mc ((5 * b1) + 3))]) (rest := [.int (mSize (mc ((5 * a1) + 3)))]) CF (c_X7_size l D cI cJ cO df H.size (mc ((5 * b1) + 3)) ) (va_cwS 1 hts gX7_isAhead_X7_size rfl rfl rfl (by decide +kernel) ⟨Nat.le_of_ble_eq_true rfl, Nat.le_of_ble_eq_true rfl⟩)  hPc hK hDc hV hH hS hFc rfl hl.1 rfl (Nat.le_of_ble_eq_true rfl) dX7_isAhead_49 ⟨Nat.le_of_ble_eq_true rfl, Nat.le_of_ble_eq_true rfl⟩ (fun r_49 w1 H1 locs1 hq hP1 hD1 hk hS hz => ?_)
      obtain ⟨rfl, hr_49⟩ := hq
      have hP := g_keep0 hP hk
      clear hPc hDc hFc hP1 hD1 hk hz
      generalize H1 = H at hP hS ⊢
      have hP : va_P D ccl (mW cI M mc ms mw mn mo mh mu mk mt mq mp my mf ma cy lo gr ov un la) H := hP
      have hD : va_D A (mW cI M mc ms mw mn mo mh mu mk mt mq mp my mf ma cy lo gr ov un la) := hD
      subst hr_49
      refine lv_isub hx hb dX7_isAhead_52 ?_
      refine lv_goto (tgt := 57) hx hb dX7_isAhead_53 (by decide) ?_
      exact hJ_57 _ _ _ (by unfold mBy; rw [ed1] at c_23; first | rw [if_pos c_23] | (rw [if_neg c_23]; exact ed1)) hP hD hS

set_option maxHeartbeats 4000000 in
set_option maxRecDepth 100000 in
theorem c_X7_arrange (l : Launch) (D : va_G) (cI cJ cO : ClassId) (df sz : Nat) (M : Nat → Nat) (mc : Nat → Int32) (ms : Nat → Int32) (mw : Nat → Int32) (mn : Int32) (mo : Nat → Int32) (mu : Nat → Int32) (mk : Int32) (mt : Nat → Int32) (mq : Nat → Int32) (mp : Nat → Int32) (my : Int32) (mf : Nat → Int32) (ma : Nat → Int32) (cy : Int32) (lo : Int32) (gr : Int32) (ov : Int64) (un : Int64) (la : Int32) (C : Nat) (hC : C ≤ 8) (hO : ∀ i, i < C → gN (mo i) < 8 ∧ mo i = nI (gN (mo i))) : MetI l yX7_arrange wsX7_arrange ({ frames := 2, cells := 0, slots := 0, locals := 43 } : Room) D (gTY cI cJ cO) df (mW cI M mc ms mw mn mo (nI C) mu mk mt mq mp my mf ma cy lo gr ov un la) sz [.ref (M 0)] (fun (r : Int32) (w : va_W) => ∃ (pa : Nat → Int32), w = mW cI M mc ms mw mn (arO mc mo C C) (nI C) mu mk mt mq mp my mf pa cy lo gr ov un 0 ∧ r = nI (arN mc mo C C)) := by
  refine g_of (cc := cX7_arrange) (nL := 5) (ret := (some .int)) (D := D) (TY := (gTY cI cJ cO)) (df := df) (Qc := fun A => va_Qi (fun (r : Int32) (w : va_W) => ∃ (pa : Nat → Int32), w = mW cI M mc ms mw mn (arO mc mo C C) (nI C) mu mk mt mq mp my mf pa cy lo gr ov un 0 ∧ r = nI (arN mc mo C C)) (gB D (gTY cI cJ cO) A) A) (by decide +kernel) rfl (Nat.le_of_ble_eq_true rfl) ?_
  intro p e s m below meth c ls A hsz C0 hin hl
  obtain ⟨CF, hr, hlk, hA, hS, hP, hK, hD, hV, hH⟩ := C0
  have CF : CallFix p m c cX7_arrange 5 s _ wsX7_arrange RX7 := CF
  obtain ⟨hx, hb, hml, hown, hts⟩ := id CF
  subst hsz
  have hfieldLink_RX7_41 : (Cond.fieldLink RX7 41 "TapLoomModel" "last" "I").before _ s = true := hts _ (List.mem_of_getElem? (i := 1) rfl)
  have hfieldLink_RX7_60 : (Cond.fieldLink RX7 60 "TapLoomModel" "chained" "I").before _ s = true := hts _ (List.mem_of_getElem? (i := 2) rfl)
  have hfieldLink_RX7_19 : (Cond.fieldLink RX7 19 "TapLoomModel" "order" "[I").before _ s = true := hts _ (List.mem_of_getElem? (i := 4) rfl)
  have hfieldLink_RX7_38 : (Cond.fieldLink RX7 38 "TapLoomModel" "path" "[I").before _ s = true := hts _ (List.mem_of_getElem? (i := 3) rfl)
  have hmethodLink_RX7_70 : (Cond.methodLink RX7 70 yX7_isAhead).before _ s = true := hts _ (List.mem_of_getElem? (i := 5) rfl)
  have inX7 : ∀ w ∈ u_ws RX7 TX7 20, w ∈ wsX7_arrange := fun w h => (List.mem_cons_of_mem _ (List.mem_append_right _ h))
  have hP : va_P D ccl (mW cI M mc ms mw mn mo (nI C) mu mk mt mq mp my mf ma cy lo gr ov un la) s.heap := hP
  have hl : lv_has ls 5 [(0, .ref (M 0))] := hl
  refine lv_aload_n hx hb dX7_arrange_0 rfl (lv_at hl 0 rfl) ?_
  refine lv_iconst (v := 0) hx hb dX7_arrange_1 (by decide) ?_
  refine va_put (D := D) (ci := 8) (v := .int 0) (ty := .int) (C := RX7) (T := TX7) (N := 20) hx hb hts inX7 tyX7 tyX7_ok nmX7 hown hK hP hD hS 0 rfl rfl 19 (by decide) hfieldLink_RX7_41 (fun _ h9 => h9) rfl (by decide +kernel) rfl rfl (Nat.le_of_ble_eq_true rfl) dX7_arrange_2 (fun H locs hP hD hS => ?_)
  have hP : va_P D ccl (mW cI M mc ms mw mn mo (nI C) mu mk mt mq mp my mf ma cy lo gr ov un 0) H := hP
  have hD : va_D A (mW cI M mc ms mw mn mo (nI C) mu mk mt mq mp my mf ma cy lo gr ov un 0) := hD
  refine lv_iconst (v := 0) hx hb dX7_arrange_5 (by decide) ?_
  refine lv_istore_n (lv' := [(1, .int 0), (0, .ref (M 0))]) hx hb dX7_arrange_6 rfl hl (by decide) rfl (fun ls hl => ?_)
  refine lv_iconst (v := 0) hx hb dX7_arrange_7 (by decide) ?_
  refine lv_istore_n (lv' := [(2, .int 0), (1, .int 0), (0, .ref (M 0))]) hx hb dX7_arrange_8 rfl hl (by decide) rfl (fun ls hl => ?_)
  refine W.widen (k := 0) (n := 0) (Nat.le_refl _) (Nat.le_refl _) ?_
  refine g_while (σ := Nat × (Nat → Int32)) (st := []) (nL := 5) (fun z => match z with | (i, pa) => mW cI M mc ms mw mn mo (nI C) mu mk mt mq mp my mf pa cy lo gr ov un 0)
    (fun z => match z with | (i, pa) => [(0, .ref (M 0)), (1, .int 0), (2, .int (nI i))])
    (fun z => match z with | (i, pa) => i ≤ C ∧ pa = cpTo mo ma i)
    (fun z => match z with | (i, pa) => C - i) (fun z => match z with | (i, pa) => 0) (fun z => match z with | (i, pa) => 0)
    ?_ (0, ma) ⟨Nat.zero_le C, cpTo_0⟩ hP hD hS (lv_sub hl [2, 1, 0] rfl)
  rintro ⟨i, pa⟩ hI H locs ls hP hD hS hl ih
  have hI : i ≤ C ∧ pa = cpTo mo ma i := hI
  have hP : va_P D ccl (mW cI M mc ms mw mn mo (nI C) mu mk mt mq mp my mf pa cy lo gr ov un 0) H := hP
  have hD : va_D A (mW cI M mc ms mw mn mo (nI C) mu mk mt mq mp my mf pa cy lo gr ov un 0) := hD
  have hl : lv_has ls 5 [(0, .ref (M 0)), (1, .int 0), (2, .int (nI i))] := hl
  change W p l e _ s m _ below meth c H locs 0 0 _ (F0 m 9 ls [])
  have ih_9 := ih
  clear ih
  obtain ⟨hi, rfl⟩ := hI
  refine lv_iload_n hx hb dX7_arrange_9 rfl (lv_at hl 2 rfl) ?_
  refine lv_aload_n hx hb dX7_arrange_10 rfl (lv_at hl 0 rfl) ?_
  refine va_get (D := D) (ci := 8) (v := .int (nI C)) (C := RX7) (T := TX7) (N := 20) hx hb hts inX7 hown hK hP 0 rfl rfl 5 (by decide) hfieldLink_RX7_60 (fun _ h9 => h9) rfl dX7_arrange_11 ?_
  refine lv_icmp_ge (tgt := 35) hx hb dX7_arrange_14 (by decide) (fun c_14 => ?_) (fun c_14 => ?_)
  · have c_14 : C ≤ i := g_le (a := C) (b := i) c_14 (by omega) (by omega)
    obtain rfl : i = C := by omega
    refine lv_iconst (v := 0) hx hb dX7_arrange_35 (by decide) ?_
    refine lv_istore_n (lv' := [(2, .int 0), (0, .ref (M 0)), (1, .int 0)]) hx hb dX7_arrange_36 rfl hl (by decide) rfl (fun ls hl => ?_)
    refine W.widen (k := 0) (n := 0) (Nat.le_refl _) (Nat.le_refl _) ?_
    refine g_while (σ := Nat) (st := []) (nL := 5) (fun k => mW cI M mc ms mw mn (arO mc mo i k) (nI i) mu mk mt mq mp my mf (cpTo mo ma i) cy lo gr ov un 0)
      (fun k => [(0, .ref (M 0)), (1, .int (nI (arN mc mo i k))), (2, .int (nI k))])
      (fun k => k ≤ i)
      (fun k => i - k) (fun k => 0) (fun k => 0)
      ?_ 0 (Nat.zero_le i) hP hD hS (lv_sub hl [1, 2, 0] rfl)
    intro k hI H locs ls hP hD hS hl ih
    have hI : k ≤ i := hI
    have hP : va_P D ccl (mW cI M mc ms mw mn (arO mc mo i k) (nI i) mu mk mt mq mp my mf (cpTo mo ma i) cy lo gr ov un 0) H := hP
    have hD : va_D A (mW cI M mc ms mw mn (arO mc mo i k) (nI i) mu mk mt mq mp my mf (cpTo mo ma i) cy lo gr ov un 0) := hD
    have hl : lv_has ls 5 [(0, .ref (M 0)), (1, .int (nI (arN mc mo i k))), (2, .int (nI k))] := hl
    change W p l e _ s m _ below meth c H locs 0 0 _ (F0 m 37 ls [])
    have ih_37 := ih
    clear ih
    refine lv_iload_n hx hb dX7_arrange_37 rfl (lv_at hl 2 rfl) ?_
    refine lv_aload_n hx hb dX7_arrange_38 rfl (lv_at hl 0 rfl) ?_
    refine va_get (D := D) (ci := 8) (v := .int (nI i)) (C := RX7) (T := TX7) (N := 20) hx hb hts inX7 hown hK hP 0 rfl rfl 5 (by decide) hfieldLink_RX7_60 (fun _ h9 => h9) rfl dX7_arrange_39 ?_
    refine lv_icmp_ge (tgt := 124) hx hb dX7_arrange_42 (by decide) (fun c_42 => ?_) (fun c_42 => ?_)
    · have c_42 : i ≤ k := g_le (a := i) (b := k) c_42 (by omega) (by omega)
      obtain rfl : i = k := by omega
      refine lv_iload_n hx hb dX7_arrange_124 rfl (lv_at hl 1 rfl) ?_
      refine g_iret (v := nI (arN mc mo i i)) hx hb hr hlk hP hK hD hS (Nat.le_of_ble_eq_true rfl) (Nat.le_of_ble_eq_true rfl) dX7_arrange_125 ?_
      exact ⟨_, rfl, rfl⟩
    · have c_42 : k < i := g_nle (a := i) (b := k) c_42 (by omega) (by omega)
      refine lv_iconst (v := 0) hx hb dX7_arrange_45 (by decide) ?_
      refine lv_istore_n (lv' := [(3, .int 0), (0, .ref (M 0)), (1, .int (nI (arN mc mo i k))), (2, .int (nI k))]) hx hb dX7_arrange_46 rfl hl (by decide) rfl (fun ls hl => ?_)
      refine lv_iconst (v := 0) hx hb dX7_arrange_47 (by decide) ?_
      refine lv_istore (lv' := [(4, .int 0), (3, .int 0), (0, .ref (M 0)), (1, .int (nI (arN mc mo i k))), (2, .int (nI k))]) hx hb dX7_arrange_48 hl (by decide) rfl (fun ls hl => ?_)
      refine W.widen (k := 0) (n := 0) (Nat.le_refl _) (Nat.le_refl _) ?_
      refine g_while (σ := Nat) (st := []) (nL := 5) (fun j => mW cI M mc ms mw mn (arO mc mo i k) (nI i) mu mk mt mq mp my mf (cpTo mo ma i) cy lo gr ov un 0)
        (fun j => [(0, .ref (M 0)), (1, .int (nI (arN mc mo i k))), (2, .int (nI k)), (3, .int (nI (rkM mc mo k j))), (4, .int (nI j))])
        (fun j => j ≤ i)
        (fun j => i - j) (fun j => 0) (fun j => 0)
        ?_ 0 (Nat.zero_le i) hP hD hS (lv_sub hl [2, 3, 4, 1, 0] rfl)
      intro j hI H locs ls hP hD hS hl ih
      have hI : j ≤ i := hI
      have hP : va_P D ccl (mW cI M mc ms mw mn (arO mc mo i k) (nI i) mu mk mt mq mp my mf (cpTo mo ma i) cy lo gr ov un 0) H := hP
      have hD : va_D A (mW cI M mc ms mw mn (arO mc mo i k) (nI i) mu mk mt mq mp my mf (cpTo mo ma i) cy lo gr ov un 0) := hD
      have hl : lv_has ls 5 [(0, .ref (M 0)), (1, .int (nI (arN mc mo i k))), (2, .int (nI k)), (3, .int (nI (rkM mc mo k j))), (4, .int (nI j))] := hl
      change W p l e _ s m _ below meth c H locs 0 0 _ (F0 m 50 ls [])
      have ih_50 := ih
      clear ih
      refine lv_iload hx hb dX7_arrange_50 (lv_at hl 4 rfl) ?_
      refine lv_aload_n hx hb dX7_arrange_52 rfl (lv_at hl 0 rfl) ?_
      refine va_get (D := D) (ci := 8) (v := .int (nI i)) (C := RX7) (T := TX7) (N := 20) hx hb hts inX7 hown hK hP 0 rfl rfl 5 (by decide) hfieldLink_RX7_60 (fun _ h9 => h9) rfl dX7_arrange_53 ?_
      refine lv_icmp_ge (tgt := 93) hx hb dX7_arrange_56 (by decide) (fun c_56 => ?_) (fun c_56 => ?_)
      · have c_56 : i ≤ j := g_le (a := i) (b := j) c_56 (by omega) (by omega)
        obtain rfl : i = j := by omega
        have hrk := rkM_lt (mc := mc) (mo := mo) c_42
        refine lv_aload_n hx hb dX7_arrange_93 rfl (lv_at hl 0 rfl) ?_
        refine va_get (D := D) (ci := 8) (v := .ref (M 4)) (C := RX7) (T := TX7) (N := 20) hx hb hts inX7 hown hK hP 0 rfl rfl 4 (by decide) hfieldLink_RX7_19 (fun _ h9 => h9) rfl dX7_arrange_94 ?_
        refine lv_iload_n hx hb dX7_arrange_97 rfl (lv_at hl 3 rfl) ?_
        refine lv_aload_n hx hb dX7_arrange_98 rfl (lv_at hl 0 rfl) ?_
        refine va_get (D := D) (ci := 8) (v := .ref (M 10)) (C := RX7) (T := TX7) (N := 20) hx hb hts inX7 hown hK hP 0 rfl rfl 13 (by decide) hfieldLink_RX7_38 (fun _ h9 => h9) rfl dX7_arrange_99 ?_
        refine lv_iload_n hx hb dX7_arrange_102 rfl (lv_at hl 2 rfl) ?_
        refine va_iald hx hb hK hP 10 0 rfl rfl (vp_in_nI (by omega) (by omega)) dX7_arrange_103 ?_
        refine lv_topi (fun f ef => ?_)
        obtain rfl : f = (cpTo mo ma i) k := ef.trans (congrArg (cpTo mo ma i) (nI_clamp (n := k) (by omega)))
        refine lv_topi (fun f ef => ?_)
        obtain rfl : f = mo k := ef.trans (cpTo_at c_42)
        refine va_iast hx hb hK hP hD hS 4 0 rfl rfl (vp_in_nI (by omega) (by omega)) dX7_arrange_104 (fun H locs hP hD hS => ?_)
        rw [show (nI (rkM mc mo k i)).toNatClampNeg = rkM mc mo k i from (nI_clamp (by omega))] at hP hD
        rw [show upd (arO mc mo i k) (rkM mc mo k i) (mo k) = arO mc mo i (k + 1) from rfl] at hP hD
        have hP : va_P D ccl (mW cI M mc ms mw mn (arO mc mo i (k + 1)) (nI i) mu mk mt mq mp my mf (cpTo mo ma i) cy lo gr ov un 0) H := hP
        have hD : va_D A (mW cI M mc ms mw mn (arO mc mo i (k + 1)) (nI i) mu mk mt mq mp my mf (cpTo mo ma i) cy lo gr ov un 0) := hD
        refine lv_iload_n hx hb dX7_arrange_105 rfl (lv_at hl 1 rfl) ?_
        refine lv_iload_n hx hb dX7_arrange_106 rfl (lv_at hl 3 rfl) ?_
        refine lv_iload_n hx hb dX7_arrange_107 rfl (lv_at hl 2 rfl) ?_
        refine lv_icmp_ne (tgt := 115) hx hb dX7_arrange_108 (by decide) (fun c_108 => ?_) (fun c_108 => ?_)
        · have c_108 : rkM mc mo k i ≠ k := g_ne (a := rkM mc mo k i) (b := k) c_108 (by omega) (by omega)
          refine lv_iconst (v := 1) hx hb dX7_arrange_115 (by decide) ?_
          refine lv_iadd hx hb dX7_arrange_116 ?_
          refine lv_topi (fun f ef => ?_)
          obtain rfl : f = nI ((arN mc mo i k) + 1) := ef.trans (nI_add _ _)
          refine lv_topi (fun f ef => ?_)
          obtain rfl : f = nI (arN mc mo i (k + 1)) := ef.trans (by rw [arN_s]; first | rw [if_pos c_108] | rw [if_neg c_108])
          refine lv_istore_n (lv' := [(1, .int (nI (arN mc mo i (k + 1)))), (0, .ref (M 0)), (2, .int (nI k)), (3, .int (nI (rkM mc mo k i))), (4, .int (nI i))]) hx hb dX7_arrange_117 rfl hl (by decide) rfl (fun ls hl => ?_)
          refine lv_iinc (v := nI (k + 1)) (lv' := [(2, .int (nI (k + 1))), (1, .int (nI (arN mc mo i (k + 1)))), (0, .ref (M 0)), (3, .int (nI (rkM mc mo k i))), (4, .int (nI i))]) hx hb dX7_arrange_118 hl (k := 2) rfl (by exact nI_1 _) (by decide) rfl (fun ls hl => ?_)
          refine lv_goto (tgt := 37) hx hb dX7_arrange_121 (by decide) ?_
          refine W.widen (k := 0) (n := 0) (Nat.le_refl _) (Nat.le_refl _) ?_
          exact ih_37 (k + 1) _ _ _ (show (k + 1) ≤ i from (by exact c_42)) (show i - (k + 1) < i - k by omega) hP hD hS (lv_sub hl [2, 1, 0] rfl)
        · have c_108 : rkM mc mo k i = k := g_eq (a := rkM mc mo k i) (b := k) c_108 (by omega) (by omega)
          refine lv_iconst (v := 0) hx hb dX7_arrange_111 (by decide) ?_
          refine lv_goto (tgt := 116) hx hb dX7_arrange_112 (by decide) ?_
          refine lv_iadd hx hb dX7_arrange_116 ?_
          refine lv_topi (fun f ef => ?_)
          obtain rfl : f = nI ((arN mc mo i k) + 0) := ef.trans (nI_add _ _)
          refine lv_topi (fun f ef => ?_)
          obtain rfl : f = nI (arN mc mo i (k + 1)) := ef.trans (by rw [arN_s]; first | rw [if_pos c_108] | rw [if_neg c_108])
          refine lv_istore_n (lv' := [(1, .int (nI (arN mc mo i (k + 1)))), (0, .ref (M 0)), (2, .int (nI k)), (3, .int (nI (rkM mc mo k i))), (4, .int (nI i))]) hx hb dX7_arrange_117 rfl hl (by decide) rfl (fun ls hl => ?_)
          refine lv_iinc (v := nI (k + 1)) (lv' := [(2, .int (nI (k + 1))), (1, .int (nI (arN mc mo i (k + 1)))), (0, .ref (M 0)), (3, .int (nI (rkM mc mo k i))), (4, .int (nI i))]) hx hb dX7_arrange_118 hl (k := 2) rfl (by exact nI_1 _) (by decide) rfl (fun ls hl => ?_)
          refine lv_goto (tgt := 37) hx hb dX7_arrange_121 (by decide) ?_
          refine W.widen (k := 0) (n := 0) (Nat.le_refl _) (Nat.le_refl _) ?_
          exact ih_37 (k + 1) _ _ _ (show (k + 1) ≤ i from (by exact c_42)) (show i - (k + 1) < i - k by omega) hP hD hS (lv_sub hl [2, 1, 0] rfl)
      · have c_56 : j < i := g_nle (a := i) (b := j) c_56 (by omega) (by omega)
        refine lv_iload_n hx hb dX7_arrange_59 rfl (lv_at hl 3 rfl) ?_
        refine lv_aload_n hx hb dX7_arrange_60 rfl (lv_at hl 0 rfl) ?_
        refine lv_aload_n hx hb dX7_arrange_61 rfl (lv_at hl 0 rfl) ?_
        refine va_get (D := D) (ci := 8) (v := .ref (M 10)) (C := RX7) (T := TX7) (N := 20) hx hb hts inX7 hown hK hP 0 rfl rfl 13 (by decide) hfieldLink_RX7_38 (fun _ h9 => h9) rfl dX7_arrange_62 ?_
        refine lv_iload hx hb dX7_arrange_65 (lv_at hl 4 rfl) ?_
        refine va_iald hx hb hK hP 10 0 rfl rfl (vp_in_nI (by omega) (by omega)) dX7_arrange_67 ?_
        refine lv_topi (fun f ef => ?_)
        obtain rfl : f = (cpTo mo ma i) j := ef.trans (congrArg (cpTo mo ma i) (nI_clamp (n := j) (by omega)))
        refine lv_topi (fun f ef => ?_)
        obtain rfl : f = nI (gN (mo j)) := ef.trans ((cpTo_at c_56).trans (hO j c_56).2)
        refine lv_aload_n hx hb dX7_arrange_68 rfl (lv_at hl 0 rfl) ?_
        refine va_get (D := D) (ci := 8) (v := .ref (M 10)) (C := RX7) (T := TX7) (N := 20) hx hb hts inX7 hown hK hP 0 rfl rfl 13 (by decide) hfieldLink_RX7_38 (fun _ h9 => h9) rfl dX7_arrange_69 ?_
        refine lv_iload_n hx hb dX7_arrange_72 rfl (lv_at hl 2 rfl) ?_
        refine va_iald hx hb hK hP 10 0 rfl rfl (vp_in_nI (by omega) (by omega)) dX7_arrange_73 ?_
        refine lv_topi (fun f ef => ?_)
        obtain rfl : f = (cpTo mo ma i) k := ef.trans (congrArg (cpTo mo ma i) (nI_clamp (n := k) (by omega)))
        refine lv_topi (fun f ef => ?_)
        obtain rfl : f = nI (gN (mo k)) := ef.trans ((cpTo_at c_42).trans (hO k c_42).2)
        have hPc := hP.sub (ws' := [(M 0, .inr (8, [.ref (M 1), .ref (M 2), .ref (M 3), .int mn, .ref (M 4), .int (nI i), .ref (M 5), .int mk, .ref (M 6), .ref (M 7), .ref (M 8), .int my, .ref (M 9), .ref (M 10), .int cy, .int lo, .int gr, .long ov, .long un, .int 0])), (M 1, .inl (cI, 40, .inl mc)), (M 2, .inl (cI, 32, .inl ms)), (M 3, .inl (cI, 8, .inl mw)), (M 4, .inl (cI, 8, .inl (arO mc mo i k))), (M 5, .inl (cI, 16, .inl mu)), (M 6, .inl (cI, 32, .inl mt)), (M 7, .inl (cI, 32, .inl mq)), (M 8, .inl (cI, 64, .inl mp)), (M 9, .inl (cI, 40401, .inl mf)), (M 10, .inl (cI, 40401, .inl (cpTo mo ma i)))]) [0, 1, 2, 3, 4, 5, 6, 7, 8, 9, 10] rfl
        have hDc := hD.sub (ws' := [(M 0, .inr (8, [.ref (M 1), .ref (M 2), .ref (M 3), .int mn, .ref (M 4), .int (nI i), .ref (M 5), .int mk, .ref (M 6), .ref (M 7), .ref (M 8), .int my, .ref (M 9), .ref (M 10), .int cy, .int lo, .int gr, .long ov, .long un, .int 0])), (M 1, .inl (cI, 40, .inl mc)), (M 2, .inl (cI, 32, .inl ms)), (M 3, .inl (cI, 8, .inl mw)), (M 4, .inl (cI, 8, .inl (arO mc mo i k))), (M 5, .inl (cI, 16, .inl mu)), (M 6, .inl (cI, 32, .inl mt)), (M 7, .inl (cI, 32, .inl mq)), (M 8, .inl (cI, 64, .inl mp)), (M 9, .inl (cI, 40401, .inl mf)), (M 10, .inl (cI, 40401, .inl (cpTo mo ma i)))]) [0, 1, 2, 3, 4, 5, 6, 7, 8, 9, 10] (by decide) rfl
        have hFc := va_free (wc := [(M 0, .inr (8, [.ref (M 1), .ref (M 2), .ref (M 3), .int mn, .ref (M 4), .int (nI i), .ref (M 5), .int mk, .ref (M 6), .ref (M 7), .ref (M 8), .int my, .ref (M 9), .ref (M 10), .int cy, .int lo, .int gr, .long ov, .long un, .int 0])), (M 1, .inl (cI, 40, .inl mc)), (M 2, .inl (cI, 32, .inl ms)), (M 3, .inl (cI, 8, .inl mw)), (M 4, .inl (cI, 8, .inl (arO mc mo i k))), (M 5, .inl (cI, 16, .inl mu)), (M 6, .inl (cI, 32, .inl mt)), (M 7, .inl (cI, 32, .inl mq)), (M 8, .inl (cI, 64, .inl mp)), (M 9, .inl (cI, 40401, .inl mf)), (M 10, .inl (cI, 40401, .inl (cpTo mo ma i)))]) hD hS hA [0, 1, 2, 3, 4, 5, 6, 7, 8, 9, 10] rfl
        refine g_Vi (As := [.int (nI (gN (mo j))), .int (nI (gN (mo k)))]) (rest := [.int (nI (rkM mc mo k j))]) CF (c_X7_isAhead l D cI cJ cO df H.size M mc ms mw mn (arO mc mo i k) (nI i) mu mk mt mq mp my mf (cpTo mo ma i) cy lo gr ov un 0 (gN (mo j)) (gN (mo k)) ((hO j c_56).1) ((hO k c_42).1)) (cwV 2 hts gX7_arrange_X7_isAhead rfl rfl rfl (by decide +kernel) ⟨Nat.le_of_ble_eq_true rfl, Nat.le_of_ble_eq_true rfl⟩) (va_recv hK hP (ci := 8) (q0 := 0) rfl rfl) hPc hK hDc hV hH hS hFc rfl hl.1 rfl (Nat.le_of_ble_eq_true rfl) dX7_arrange_74 ⟨Nat.le_of_ble_eq_true rfl, Nat.le_of_ble_eq_true rfl⟩ (fun r_74 w1 H1 locs1 hq hP1 hD1 hk hS hz => ?_)
        obtain ⟨rfl, hr_74⟩ := hq
        have hP := g_keepR hP hD [0, 1, 2, 3, 4, 5, 6, 7, 8, 9, 10] rfl hk hP1
        clear hPc hDc hFc hP1 hD1 hk hz
        generalize H1 = H at hP hS ⊢
        have hP : va_P D ccl (mW cI M mc ms mw mn (arO mc mo i k) (nI i) mu mk mt mq mp my mf (cpTo mo ma i) cy lo gr ov un 0) H := hP
        have hD : va_D A (mW cI M mc ms mw mn (arO mc mo i k) (nI i) mu mk mt mq mp my mf (cpTo mo ma i) cy lo gr ov un 0) := hD
        subst hr_74
        refine lv_if_eq (tgt := 84) hx hb dX7_arrange_77 (by decide) (fun c_77 => ?_) (fun c_77 => ?_)
        · refine lv_iconst (v := 0) hx hb dX7_arrange_84 (by decide) ?_
          refine lv_iadd hx hb dX7_arrange_85 ?_
          refine lv_topi (fun f ef => ?_)
          obtain rfl : f = nI ((rkM mc mo k j) + 0) := ef.trans (nI_add _ _)
          refine lv_topi (fun f ef => ?_)
          obtain rfl : f = nI (rkM mc mo k (j + 1)) := ef.trans (by rw [rkM_s]; first | rw [if_pos c_77] | rw [if_neg c_77])
          refine lv_istore_n (lv' := [(3, .int (nI (rkM mc mo k (j + 1)))), (0, .ref (M 0)), (1, .int (nI (arN mc mo i k))), (2, .int (nI k)), (4, .int (nI j))]) hx hb dX7_arrange_86 rfl hl (by decide) rfl (fun ls hl => ?_)
          refine lv_iinc (v := nI (j + 1)) (lv' := [(4, .int (nI (j + 1))), (3, .int (nI (rkM mc mo k (j + 1)))), (0, .ref (M 0)), (1, .int (nI (arN mc mo i k))), (2, .int (nI k))]) hx hb dX7_arrange_87 hl (k := 4) rfl (by exact nI_1 _) (by decide) rfl (fun ls hl => ?_)
          refine lv_goto (tgt := 50) hx hb dX7_arrange_90 (by decide) ?_
          refine W.widen (k := 0) (n := 0) (Nat.le_refl _) (Nat.le_refl _) ?_
          exact ih_50 (j + 1) _ _ _ (show (j + 1) ≤ i from (by exact c_56)) (show i - (j + 1) < i - j by omega) hP hD hS (lv_sub hl [2, 3, 4, 1, 0] rfl)
        · refine lv_iconst (v := 1) hx hb dX7_arrange_80 (by decide) ?_
          refine lv_goto (tgt := 85) hx hb dX7_arrange_81 (by decide) ?_
          refine lv_iadd hx hb dX7_arrange_85 ?_
          refine lv_topi (fun f ef => ?_)
          obtain rfl : f = nI ((rkM mc mo k j) + 1) := ef.trans (nI_add _ _)
          refine lv_topi (fun f ef => ?_)
          obtain rfl : f = nI (rkM mc mo k (j + 1)) := ef.trans (by rw [rkM_s]; first | rw [if_pos c_77] | rw [if_neg c_77])
          refine lv_istore_n (lv' := [(3, .int (nI (rkM mc mo k (j + 1)))), (0, .ref (M 0)), (1, .int (nI (arN mc mo i k))), (2, .int (nI k)), (4, .int (nI j))]) hx hb dX7_arrange_86 rfl hl (by decide) rfl (fun ls hl => ?_)
          refine lv_iinc (v := nI (j + 1)) (lv' := [(4, .int (nI (j + 1))), (3, .int (nI (rkM mc mo k (j + 1)))), (0, .ref (M 0)), (1, .int (nI (arN mc mo i k))), (2, .int (nI k))]) hx hb dX7_arrange_87 hl (k := 4) rfl (by exact nI_1 _) (by decide) rfl (fun ls hl => ?_)
          refine lv_goto (tgt := 50) hx hb dX7_arrange_90 (by decide) ?_
          refine W.widen (k := 0) (n := 0) (Nat.le_refl _) (Nat.le_refl _) ?_
          exact ih_50 (j + 1) _ _ _ (show (j + 1) ≤ i from (by exact c_56)) (show i - (j + 1) < i - j by omega) hP hD hS (lv_sub hl [2, 3, 4, 1, 0] rfl)
  · have c_14 : i < C := g_nle (a := C) (b := i) c_14 (by omega) (by omega)
    refine lv_aload_n hx hb dX7_arrange_17 rfl (lv_at hl 0 rfl) ?_
    refine va_get (D := D) (ci := 8) (v := .ref (M 10)) (C := RX7) (T := TX7) (N := 20) hx hb hts inX7 hown hK hP 0 rfl rfl 13 (by decide) hfieldLink_RX7_38 (fun _ h9 => h9) rfl dX7_arrange_18 ?_
    refine lv_iload_n hx hb dX7_arrange_21 rfl (lv_at hl 2 rfl) ?_
    refine lv_aload_n hx hb dX7_arrange_22 rfl (lv_at hl 0 rfl) ?_
    refine va_get (D := D) (ci := 8) (v := .ref (M 4)) (C := RX7) (T := TX7) (N := 20) hx hb hts inX7 hown hK hP 0 rfl rfl 4 (by decide) hfieldLink_RX7_19 (fun _ h9 => h9) rfl dX7_arrange_23 ?_
    refine lv_iload_n hx hb dX7_arrange_26 rfl (lv_at hl 2 rfl) ?_
    refine va_iald hx hb hK hP 4 0 rfl rfl (vp_in_nI (by omega) (by omega)) dX7_arrange_27 ?_
    refine lv_topi (fun f ef => ?_)
    obtain rfl : f = mo i := ef.trans (congrArg mo (nI_clamp (n := i) (by omega)))
    refine va_iast hx hb hK hP hD hS 10 0 rfl rfl (vp_in_nI (by omega) (by omega)) dX7_arrange_28 (fun H locs hP hD hS => ?_)
    rw [show (nI i).toNatClampNeg = i from (nI_clamp (by omega))] at hP hD
    have hP : va_P D ccl (mW cI M mc ms mw mn mo (nI C) mu mk mt mq mp my mf (upd (cpTo mo ma i) i (mo i)) cy lo gr ov un 0) H := hP
    have hD : va_D A (mW cI M mc ms mw mn mo (nI C) mu mk mt mq mp my mf (upd (cpTo mo ma i) i (mo i)) cy lo gr ov un 0) := hD
    refine lv_iinc (v := nI (i + 1)) (lv' := [(2, .int (nI (i + 1))), (0, .ref (M 0)), (1, .int 0)]) hx hb dX7_arrange_29 hl (k := 2) rfl (by exact nI_1 _) (by decide) rfl (fun ls hl => ?_)
    refine lv_goto (tgt := 9) hx hb dX7_arrange_32 (by decide) ?_
    refine W.widen (k := 0) (n := 0) (Nat.le_refl _) (Nat.le_refl _) ?_
    exact ih_9 (i + 1, upd (cpTo mo ma i) i (mo i)) _ _ _ (show (i + 1) ≤ C ∧ (upd (cpTo mo ma i) i (mo i)) = cpTo mo ma (i + 1) from (by exact ⟨by omega, cpTo_s⟩)) (show C - (i + 1) < C - i by omega) hP hD hS (lv_sub hl [1, 2, 0] rfl)
