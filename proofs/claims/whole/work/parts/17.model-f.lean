set_option maxHeartbeats 4000000 in
set_option maxRecDepth 100000 in
theorem c_X7_gain (l : Launch) (D : va_G) (cI cJ cO : ClassId) (df sz : Nat) (M : Nat → Nat) (mc : Nat → Int32) (ms : Nat → Int32) (mw : Nat → Int32) (mn : Int32) (mo : Nat → Int32) (mu : Nat → Int32) (mk : Int32) (mt : Nat → Int32) (mq : Nat → Int32) (mp : Nat → Int32) (my : Int32) (mf : Nat → Int32) (ma : Nat → Int32) (cy : Int32) (lo : Int32) (gr : Int32) (ov : Int64) (un : Int64) (la : Int32) (C : Nat) (wr : Int32) (dv : Int32) (hc : isC mc) (hC : C ≤ 8) (hO : ∀ i, i < C → gN (mo i) < 8 ∧ mo i = nI (gN (mo i))) : MetL l yX7_gain wsX7_gain ({ frames := 1, cells := 0, slots := 0, locals := 32 } : Room) D (gTY cI cJ cO) df (mW cI M mc ms mw mn mo (nI C) mu mk mt mq mp my mf ma cy lo gr ov un la) sz [.ref (M 0), .int wr, .int dv] (fun (r : Int64) (wZ : va_W) => ∃ (o1 : Int64), ∃ (u1 : Int64), wZ = mW cI M mc ms mw mn mo (nI C) mu mk mt mq mp my mf ma cy lo gr o1 u1 (gGo (isIn wr 0 2) (if C ≤ (if wr = 2 then 2 else 4) then 1 else 0) 1) ∧ (gGo (isIn wr 0 2) (if C ≤ (if wr = 2 then 2 else 4) then 1 else 0) 1 = 0 → r.toInt = gnR (zO mc mo (gN wr) C) (zU mc mo (gN wr) C) dv)) := by
  refine g_of (cc := cX7_gain) (nL := 5) (ret := (some .long)) (D := D) (TY := (gTY cI cJ cO)) (df := df) (Qc := fun A => va_Ql (fun (r : Int64) (wZ : va_W) => ∃ (o1 : Int64), ∃ (u1 : Int64), wZ = mW cI M mc ms mw mn mo (nI C) mu mk mt mq mp my mf ma cy lo gr o1 u1 (gGo (isIn wr 0 2) (if C ≤ (if wr = 2 then 2 else 4) then 1 else 0) 1) ∧ (gGo (isIn wr 0 2) (if C ≤ (if wr = 2 then 2 else 4) then 1 else 0) 1 = 0 → r.toInt = gnR (zO mc mo (gN wr) C) (zU mc mo (gN wr) C) dv)) (gB D (gTY cI cJ cO) A) A) (by decide +kernel) rfl (Nat.le_of_ble_eq_true rfl) ?_
  intro p e s m below meth c ls A hsz C0 hin hl
  obtain ⟨CF, hr, hlk, hA, hS, hP, hK, hD, hV, hH⟩ := C0
  have CF : CallFix p m c cX7_gain 5 s _ wsX7_gain RX7 := CF
  obtain ⟨hx, hb, hml, hown, hts⟩ := id CF
  subst hsz
  have hmethodLink_RX7_48 : (Cond.methodLink RX7 48 yX7_in).before _ s = true := hts _ (List.mem_of_getElem? (i := 3) rfl)
  have hmethodLink_RX7_106 : (Cond.methodLink RX7 106 yX7_isShort).before _ s = true := hts _ (List.mem_of_getElem? (i := 7) rfl)
  have hmethodLink_RX7_52 : (Cond.methodLink RX7 52 yX7_goes).before _ s = true := hts _ (List.mem_of_getElem? (i := 12) rfl)
  have hmethodLink_RX7_109 : (Cond.methodLink RX7 109 yX7_gains).before _ s = true := hts _ (List.mem_of_getElem? (i := 17) rfl)
  have hfieldLink_RX7_103 : (Cond.fieldLink RX7 103 "TapLoomModel" "under" "J").before _ s = true := hts _ (List.mem_of_getElem? (i := 1) rfl)
  have hfieldLink_RX7_99 : (Cond.fieldLink RX7 99 "TapLoomModel" "over" "J").before _ s = true := hts _ (List.mem_of_getElem? (i := 2) rfl)
  have hmethodLink_RX7_113 : (Cond.methodLink RX7 113 yX7_common).before _ s = true := hts _ (List.mem_of_getElem? (i := 23) rfl)
  have inX7 : ∀ w ∈ u_ws RX7 TX7 20, w ∈ wsX7_gain := fun w h => (List.mem_cons_of_mem _ (List.mem_append_right _ h))
  have hP : va_P D ccl (mW cI M mc ms mw mn mo (nI C) mu mk mt mq mp my mf ma cy lo gr ov un la) s.heap := hP
  have hl : lv_has ls 5 [(0, .ref (M 0)), (1, .int wr), (2, .int dv)] := hl
  refine lv_aload_n hx hb dX7_gain_0 rfl (lv_at hl 0 rfl) ?_
  refine lv_iload_n hx hb dX7_gain_1 rfl (lv_at hl 1 rfl) ?_
  refine lv_iconst (v := 0) hx hb dX7_gain_2 (by decide) ?_
  refine lv_iconst (v := 2) hx hb dX7_gain_3 (by decide) ?_
  have hPc : va_P D ccl [] s.heap := fun k q h => by simp at h
  have hDc : va_D A [] := ⟨fun i j p q h => by simp at h, fun k q h => by simp at h⟩
  have hFc := va_free (wc := []) hD hS hA [] rfl
  refine g_Si (As := [.int wr, .int 0, .int 2]) (rest := [.ref (M 0)]) CF (c_X7_in l D cI cJ cO df s.heap.size wr 0 2 ) (va_cwS 3 hts gX7_gain_X7_in rfl rfl rfl (by decide +kernel) ⟨Nat.le_of_ble_eq_true rfl, Nat.le_of_ble_eq_true rfl⟩)  hPc hK hDc hV hH hS hFc rfl hl.1 rfl (Nat.le_of_ble_eq_true rfl) dX7_gain_4 ⟨Nat.le_of_ble_eq_true rfl, Nat.le_of_ble_eq_true rfl⟩ (fun r_4 w1 H1 locs1 hq hP1 hD1 hk hS hz => ?_)
  obtain ⟨rfl, hr_4⟩ := hq
  have hP := g_keep0 hP hk
  clear hPc hDc hFc hP1 hD1 hk hz
  generalize H1 = H at hP hS ⊢
  have hP : va_P D ccl (mW cI M mc ms mw mn mo (nI C) mu mk mt mq mp my mf ma cy lo gr ov un la) H := hP
  have hD : va_D A (mW cI M mc ms mw mn mo (nI C) mu mk mt mq mp my mf ma cy lo gr ov un la) := hD
  subst hr_4
  refine lv_aload_n hx hb dX7_gain_7 rfl (lv_at hl 0 rfl) ?_
  refine lv_iload_n hx hb dX7_gain_8 rfl (lv_at hl 1 rfl) ?_
  have hPc := hP.sub (ws' := [(M 0, .inr (8, [.ref (M 1), .ref (M 2), .ref (M 3), .int mn, .ref (M 4), .int (nI C), .ref (M 5), .int mk, .ref (M 6), .ref (M 7), .ref (M 8), .int my, .ref (M 9), .ref (M 10), .int cy, .int lo, .int gr, .long ov, .long un, .int la])), (M 1, .inl (cI, 40, .inl mc)), (M 2, .inl (cI, 32, .inl ms)), (M 3, .inl (cI, 8, .inl mw)), (M 4, .inl (cI, 8, .inl mo)), (M 5, .inl (cI, 16, .inl mu)), (M 6, .inl (cI, 32, .inl mt)), (M 7, .inl (cI, 32, .inl mq)), (M 8, .inl (cI, 64, .inl mp)), (M 9, .inl (cI, 40401, .inl mf)), (M 10, .inl (cI, 40401, .inl ma))]) [0, 1, 2, 3, 4, 5, 6, 7, 8, 9, 10] rfl
  have hDc := hD.sub (ws' := [(M 0, .inr (8, [.ref (M 1), .ref (M 2), .ref (M 3), .int mn, .ref (M 4), .int (nI C), .ref (M 5), .int mk, .ref (M 6), .ref (M 7), .ref (M 8), .int my, .ref (M 9), .ref (M 10), .int cy, .int lo, .int gr, .long ov, .long un, .int la])), (M 1, .inl (cI, 40, .inl mc)), (M 2, .inl (cI, 32, .inl ms)), (M 3, .inl (cI, 8, .inl mw)), (M 4, .inl (cI, 8, .inl mo)), (M 5, .inl (cI, 16, .inl mu)), (M 6, .inl (cI, 32, .inl mt)), (M 7, .inl (cI, 32, .inl mq)), (M 8, .inl (cI, 64, .inl mp)), (M 9, .inl (cI, 40401, .inl mf)), (M 10, .inl (cI, 40401, .inl ma))]) [0, 1, 2, 3, 4, 5, 6, 7, 8, 9, 10] (by decide) rfl
  have hFc := va_free (wc := [(M 0, .inr (8, [.ref (M 1), .ref (M 2), .ref (M 3), .int mn, .ref (M 4), .int (nI C), .ref (M 5), .int mk, .ref (M 6), .ref (M 7), .ref (M 8), .int my, .ref (M 9), .ref (M 10), .int cy, .int lo, .int gr, .long ov, .long un, .int la])), (M 1, .inl (cI, 40, .inl mc)), (M 2, .inl (cI, 32, .inl ms)), (M 3, .inl (cI, 8, .inl mw)), (M 4, .inl (cI, 8, .inl mo)), (M 5, .inl (cI, 16, .inl mu)), (M 6, .inl (cI, 32, .inl mt)), (M 7, .inl (cI, 32, .inl mq)), (M 8, .inl (cI, 64, .inl mp)), (M 9, .inl (cI, 40401, .inl mf)), (M 10, .inl (cI, 40401, .inl ma))]) hD hS hA [0, 1, 2, 3, 4, 5, 6, 7, 8, 9, 10] rfl
  refine g_Vi (As := [.int wr]) (rest := [.int (isIn wr 0 2), .ref (M 0)]) CF (c_X7_isShort l D cI cJ cO df H.size M mc ms mw mn mo mu mk mt mq mp my mf ma cy lo gr ov un la C wr (by omega)) (cwV 1 hts gX7_gain_X7_isShort rfl rfl rfl (by decide +kernel) ⟨Nat.le_of_ble_eq_true rfl, Nat.le_of_ble_eq_true rfl⟩) (va_recv hK hP (ci := 8) (q0 := 0) rfl rfl) hPc hK hDc hV hH hS hFc rfl hl.1 rfl (Nat.le_of_ble_eq_true rfl) dX7_gain_9 ⟨Nat.le_of_ble_eq_true rfl, Nat.le_of_ble_eq_true rfl⟩ (fun r_9 w1 H1 locs1 hq hP1 hD1 hk hS hz => ?_)
  obtain ⟨rfl, hr_9⟩ := hq
  have hP := g_keepR hP hD [0, 1, 2, 3, 4, 5, 6, 7, 8, 9, 10] rfl hk hP1
  clear hPc hDc hFc hP1 hD1 hk hz
  generalize H1 = H at hP hS ⊢
  have hP : va_P D ccl (mW cI M mc ms mw mn mo (nI C) mu mk mt mq mp my mf ma cy lo gr ov un la) H := hP
  have hD : va_D A (mW cI M mc ms mw mn mo (nI C) mu mk mt mq mp my mf ma cy lo gr ov un la) := hD
  subst hr_9
  refine lv_iconst (v := 1) hx hb dX7_gain_12 (by decide) ?_
  have hPc := hP.sub (ws' := [(M 0, .inr (8, [.ref (M 1), .ref (M 2), .ref (M 3), .int mn, .ref (M 4), .int (nI C), .ref (M 5), .int mk, .ref (M 6), .ref (M 7), .ref (M 8), .int my, .ref (M 9), .ref (M 10), .int cy, .int lo, .int gr, .long ov, .long un, .int la])), (M 1, .inl (cI, 40, .inl mc)), (M 2, .inl (cI, 32, .inl ms)), (M 3, .inl (cI, 8, .inl mw)), (M 4, .inl (cI, 8, .inl mo)), (M 5, .inl (cI, 16, .inl mu)), (M 6, .inl (cI, 32, .inl mt)), (M 7, .inl (cI, 32, .inl mq)), (M 8, .inl (cI, 64, .inl mp)), (M 9, .inl (cI, 40401, .inl mf)), (M 10, .inl (cI, 40401, .inl ma))]) [0, 1, 2, 3, 4, 5, 6, 7, 8, 9, 10] rfl
  have hDc := hD.sub (ws' := [(M 0, .inr (8, [.ref (M 1), .ref (M 2), .ref (M 3), .int mn, .ref (M 4), .int (nI C), .ref (M 5), .int mk, .ref (M 6), .ref (M 7), .ref (M 8), .int my, .ref (M 9), .ref (M 10), .int cy, .int lo, .int gr, .long ov, .long un, .int la])), (M 1, .inl (cI, 40, .inl mc)), (M 2, .inl (cI, 32, .inl ms)), (M 3, .inl (cI, 8, .inl mw)), (M 4, .inl (cI, 8, .inl mo)), (M 5, .inl (cI, 16, .inl mu)), (M 6, .inl (cI, 32, .inl mt)), (M 7, .inl (cI, 32, .inl mq)), (M 8, .inl (cI, 64, .inl mp)), (M 9, .inl (cI, 40401, .inl mf)), (M 10, .inl (cI, 40401, .inl ma))]) [0, 1, 2, 3, 4, 5, 6, 7, 8, 9, 10] (by decide) rfl
  have hFc := va_free (wc := [(M 0, .inr (8, [.ref (M 1), .ref (M 2), .ref (M 3), .int mn, .ref (M 4), .int (nI C), .ref (M 5), .int mk, .ref (M 6), .ref (M 7), .ref (M 8), .int my, .ref (M 9), .ref (M 10), .int cy, .int lo, .int gr, .long ov, .long un, .int la])), (M 1, .inl (cI, 40, .inl mc)), (M 2, .inl (cI, 32, .inl ms)), (M 3, .inl (cI, 8, .inl mw)), (M 4, .inl (cI, 8, .inl mo)), (M 5, .inl (cI, 16, .inl mu)), (M 6, .inl (cI, 32, .inl mt)), (M 7, .inl (cI, 32, .inl mq)), (M 8, .inl (cI, 64, .inl mp)), (M 9, .inl (cI, 40401, .inl mf)), (M 10, .inl (cI, 40401, .inl ma))]) hD hS hA [0, 1, 2, 3, 4, 5, 6, 7, 8, 9, 10] rfl
  refine g_Vi (As := [.int (isIn wr 0 2), .int (if C ≤ (if wr = 2 then 2 else 4) then 1 else 0), .int 1]) (rest := []) CF (c_X7_goes l D cI cJ cO df H.size M mc ms mw mn mo (nI C) mu mk mt mq mp my mf ma cy lo gr ov un la (isIn wr 0 2) (if C ≤ (if wr = 2 then 2 else 4) then 1 else 0) 1 ) (cwV 3 hts gX7_gain_X7_goes rfl rfl rfl (by decide +kernel) ⟨Nat.le_of_ble_eq_true rfl, Nat.le_of_ble_eq_true rfl⟩) (va_recv hK hP (ci := 8) (q0 := 0) rfl rfl) hPc hK hDc hV hH hS hFc rfl hl.1 rfl (Nat.le_of_ble_eq_true rfl) dX7_gain_13 ⟨Nat.le_of_ble_eq_true rfl, Nat.le_of_ble_eq_true rfl⟩ (fun r_13 w1 H1 locs1 hq hP1 hD1 hk hS hz => ?_)
  obtain ⟨rfl, hr_13⟩ := hq
  obtain ⟨hP, hD⟩ := g_join (ws' := (mW cI M mc ms mw mn mo (nI C) mu mk mt mq mp my mf ma cy lo gr ov un (gGo (isIn wr 0 2) (if C ≤ (if wr = 2 then 2 else 4) then 1 else 0) 1))) hP hD hk hFc hP1 hD1 [0, 1, 2, 3, 4, 5, 6, 7, 8, 9, 10] [] [0, 1, 2, 3, 4, 5, 6, 7, 8, 9, 10] rfl rfl (by decide) (by decide) (by decide) rfl
  clear hPc hDc hFc hP1 hD1 hk hz
  generalize H1 = H at hP hS ⊢
  have hP : va_P D ccl (mW cI M mc ms mw mn mo (nI C) mu mk mt mq mp my mf ma cy lo gr ov un (gGo (isIn wr 0 2) (if C ≤ (if wr = 2 then 2 else 4) then 1 else 0) 1)) H := hP
  have hD : va_D A (mW cI M mc ms mw mn mo (nI C) mu mk mt mq mp my mf ma cy lo gr ov un (gGo (isIn wr 0 2) (if C ≤ (if wr = 2 then 2 else 4) then 1 else 0) 1)) := hD
  subst hr_13
  refine lv_if_ne (tgt := 21) hx hb dX7_gain_16 (by decide) (fun c_16 => ?_) (fun c_16 => ?_)
  · have c_16 : gGo (isIn wr 0 2) (if C ≤ (if wr = 2 then 2 else 4) then 1 else 0) 1 = 0 := g_b1 c_16
    have hv0 := gGo_0 c_16
    obtain ⟨w, hw, rfl⟩ := isIn_nat 2 (by decide) hv0.1
    have hCw := hCw_of hw (g_b1 hv0.2.1)
    refine lv_aload_n hx hb dX7_gain_21 rfl (lv_at hl 0 rfl) ?_
    refine lv_iload_n hx hb dX7_gain_22 rfl (lv_at hl 1 rfl) ?_
    have hPc := hP.sub (ws' := [(M 0, .inr (8, [.ref (M 1), .ref (M 2), .ref (M 3), .int mn, .ref (M 4), .int (nI C), .ref (M 5), .int mk, .ref (M 6), .ref (M 7), .ref (M 8), .int my, .ref (M 9), .ref (M 10), .int cy, .int lo, .int gr, .long ov, .long un, .int (gGo (isIn (nI w) 0 2) (if C ≤ (if (nI w) = 2 then 2 else 4) then 1 else 0) 1)])), (M 1, .inl (cI, 40, .inl mc)), (M 2, .inl (cI, 32, .inl ms)), (M 3, .inl (cI, 8, .inl mw)), (M 4, .inl (cI, 8, .inl mo)), (M 5, .inl (cI, 16, .inl mu)), (M 6, .inl (cI, 32, .inl mt)), (M 7, .inl (cI, 32, .inl mq)), (M 8, .inl (cI, 64, .inl mp)), (M 9, .inl (cI, 40401, .inl mf)), (M 10, .inl (cI, 40401, .inl ma))]) [0, 1, 2, 3, 4, 5, 6, 7, 8, 9, 10] rfl
    have hDc := hD.sub (ws' := [(M 0, .inr (8, [.ref (M 1), .ref (M 2), .ref (M 3), .int mn, .ref (M 4), .int (nI C), .ref (M 5), .int mk, .ref (M 6), .ref (M 7), .ref (M 8), .int my, .ref (M 9), .ref (M 10), .int cy, .int lo, .int gr, .long ov, .long un, .int (gGo (isIn (nI w) 0 2) (if C ≤ (if (nI w) = 2 then 2 else 4) then 1 else 0) 1)])), (M 1, .inl (cI, 40, .inl mc)), (M 2, .inl (cI, 32, .inl ms)), (M 3, .inl (cI, 8, .inl mw)), (M 4, .inl (cI, 8, .inl mo)), (M 5, .inl (cI, 16, .inl mu)), (M 6, .inl (cI, 32, .inl mt)), (M 7, .inl (cI, 32, .inl mq)), (M 8, .inl (cI, 64, .inl mp)), (M 9, .inl (cI, 40401, .inl mf)), (M 10, .inl (cI, 40401, .inl ma))]) [0, 1, 2, 3, 4, 5, 6, 7, 8, 9, 10] (by decide) rfl
    have hFc := va_free (wc := [(M 0, .inr (8, [.ref (M 1), .ref (M 2), .ref (M 3), .int mn, .ref (M 4), .int (nI C), .ref (M 5), .int mk, .ref (M 6), .ref (M 7), .ref (M 8), .int my, .ref (M 9), .ref (M 10), .int cy, .int lo, .int gr, .long ov, .long un, .int (gGo (isIn (nI w) 0 2) (if C ≤ (if (nI w) = 2 then 2 else 4) then 1 else 0) 1)])), (M 1, .inl (cI, 40, .inl mc)), (M 2, .inl (cI, 32, .inl ms)), (M 3, .inl (cI, 8, .inl mw)), (M 4, .inl (cI, 8, .inl mo)), (M 5, .inl (cI, 16, .inl mu)), (M 6, .inl (cI, 32, .inl mt)), (M 7, .inl (cI, 32, .inl mq)), (M 8, .inl (cI, 64, .inl mp)), (M 9, .inl (cI, 40401, .inl mf)), (M 10, .inl (cI, 40401, .inl ma))]) hD hS hA [0, 1, 2, 3, 4, 5, 6, 7, 8, 9, 10] rfl
    refine g_Vv (As := [.int (nI w)]) (rest := []) CF (c_X7_gains l D cI cJ cO df H.size M mc ms mw mn mo mu mk mt mq mp my mf ma cy lo gr ov un (gGo (isIn (nI w) 0 2) (if C ≤ (if (nI w) = 2 then 2 else 4) then 1 else 0) 1) C w hc hw hC hCw hO) (cwV 1 hts gX7_gain_X7_gains rfl rfl rfl (by decide +kernel) ⟨Nat.le_of_ble_eq_true rfl, Nat.le_of_ble_eq_true rfl⟩) (va_recv hK hP (ci := 8) (q0 := 0) rfl rfl) hPc hK hDc hV hH hS hFc rfl hl.1 rfl (Nat.le_of_ble_eq_true rfl) dX7_gain_23 ⟨Nat.le_of_ble_eq_true rfl, Nat.le_of_ble_eq_true rfl⟩ (fun w1 H1 locs1 hq hP1 hD1 hk hS hz => ?_)
    obtain ⟨o1, u1, rfl, hq_23⟩ := hq
    obtain ⟨hP, hD⟩ := g_join (ws' := (mW cI M mc ms mw mn mo (nI C) mu mk mt mq mp my mf ma cy lo gr o1 u1 (gGo (isIn (nI w) 0 2) (if C ≤ (if (nI w) = 2 then 2 else 4) then 1 else 0) 1))) hP hD hk hFc hP1 hD1 [0, 1, 2, 3, 4, 5, 6, 7, 8, 9, 10] [] [0, 1, 2, 3, 4, 5, 6, 7, 8, 9, 10] rfl rfl (by decide) (by decide) (by decide) rfl
    clear hPc hDc hFc hP1 hD1 hk hz
    generalize H1 = H at hP hS ⊢
    have hP : va_P D ccl (mW cI M mc ms mw mn mo (nI C) mu mk mt mq mp my mf ma cy lo gr o1 u1 (gGo (isIn (nI w) 0 2) (if C ≤ (if (nI w) = 2 then 2 else 4) then 1 else 0) 1)) H := hP
    have hD : va_D A (mW cI M mc ms mw mn mo (nI C) mu mk mt mq mp my mf ma cy lo gr o1 u1 (gGo (isIn (nI w) 0 2) (if C ≤ (if (nI w) = 2 then 2 else 4) then 1 else 0) 1)) := hD
    have hz8 := hq_23
    have hz9 := zOU_le (k := C) hc hCw (Nat.le_refl C) (fun i hi => (hO i hi).1)
    have hq9 : (if w = 2 then 6503616025 else 21071715921) ≤ 21071715921 := by split <;> decide
    have hzo := hz9.1
    have hzu := hz9.2
    rw [← hz8.1] at hzo
    rw [← hz8.2] at hzu
    refine lv_aload_n hx hb dX7_gain_26 rfl (lv_at hl 0 rfl) ?_
    refine va_get (D := D) (ci := 8) (v := .long u1) (C := RX7) (T := TX7) (N := 20) hx hb hts inX7 hown hK hP 0 rfl rfl 18 (by decide) hfieldLink_RX7_103 (fun _ h9 => h9) rfl dX7_gain_27 ?_
    refine lv_lconst (v := 0) hx hb dX7_gain_30 (by decide) ?_
    refine W.lcmp hx hb dX7_gain_31 ?_
    refine lv_if_ne (tgt := 45) hx hb dX7_gain_32 (by decide) (fun c_32 => ?_) (fun c_32 => ?_)
    · have c_32 : ¬ u1.toInt = 0 := fun h9 => c_32 (g_cmp_eq.mpr h9)
      refine lv_aload_n hx hb dX7_gain_45 rfl (lv_at hl 0 rfl) ?_
      refine va_get (D := D) (ci := 8) (v := .long o1) (C := RX7) (T := TX7) (N := 20) hx hb hts inX7 hown hK hP 0 rfl rfl 17 (by decide) hfieldLink_RX7_99 (fun _ h9 => h9) rfl dX7_gain_46 ?_
      refine lv_aload_n hx hb dX7_gain_49 rfl (lv_at hl 0 rfl) ?_
      refine va_get (D := D) (ci := 8) (v := .long u1) (C := RX7) (T := TX7) (N := 20) hx hb hts inX7 hown hK hP 0 rfl rfl 18 (by decide) hfieldLink_RX7_103 (fun _ h9 => h9) rfl dX7_gain_50 ?_
      have hPc : va_P D ccl [] H := fun k q h => by simp at h
      have hDc : va_D A [] := ⟨fun i j p q h => by simp at h, fun k q h => by simp at h⟩
      have hFc := va_free (wc := []) hD hS hA [] rfl
      refine g_Sl (As := [.long o1, .long u1]) (rest := []) CF (c_X7_common l D cI cJ cO df H.size o1 u1 (by omega) (by omega)) (va_cwS 2 hts gX7_gain_X7_common rfl rfl rfl (by decide +kernel) ⟨Nat.le_of_ble_eq_true rfl, Nat.le_of_ble_eq_true rfl⟩)  hPc hK hDc hV hH hS hFc rfl hl.1 rfl (Nat.le_of_ble_eq_true rfl) dX7_gain_53 ⟨Nat.le_of_ble_eq_true rfl, Nat.le_of_ble_eq_true rfl⟩ (fun r_53 w1 H1 locs1 hq hP1 hD1 hk hS hz => ?_)
      obtain ⟨rfl, hr_53⟩ := hq
      have hP := g_keep0 hP hk
      clear hPc hDc hFc hP1 hD1 hk hz
      generalize H1 = H at hP hS ⊢
      have hP : va_P D ccl (mW cI M mc ms mw mn mo (nI C) mu mk mt mq mp my mf ma cy lo gr o1 u1 (gGo (isIn (nI w) 0 2) (if C ≤ (if (nI w) = 2 then 2 else 4) then 1 else 0) 1)) H := hP
      have hD : va_D A (mW cI M mc ms mw mn mo (nI C) mu mk mt mq mp my mf ma cy lo gr o1 u1 (gGo (isIn (nI w) 0 2) (if C ≤ (if (nI w) = 2 then 2 else 4) then 1 else 0) 1)) := hD
      subst hr_53
      refine lv_lstore_n (lv' := [(3, .long (lN (Nat.gcd o1.toInt.natAbs u1.toInt.natAbs))), (0, .ref (M 0)), (1, .int (nI w)), (2, .int dv)]) hx hb dX7_gain_56 rfl hl (by decide) rfl (fun ls hl => ?_)
      refine lv_aload_n hx hb dX7_gain_57 rfl (lv_at hl 1 rfl) ?_
      refine va_get (D := D) (ci := 8) (v := .long u1) (C := RX7) (T := TX7) (N := 20) hx hb hts inX7 hown hK hP 0 rfl rfl 18 (by decide) hfieldLink_RX7_103 (fun _ h9 => h9) rfl dX7_gain_58 ?_
      refine lv_lconst (v := 0) hx hb dX7_gain_61 (by decide) ?_
      refine W.lcmp hx hb dX7_gain_62 ?_
      refine lv_if_ge (tgt := 71) hx hb dX7_gain_63 (by decide) (fun c_63 => ?_) (fun c_63 => ?_)
      · have c_63 : 0 ≤ u1.toInt := g_cmp_ge.mp c_63
        refine lv_lload_n hx hb dX7_gain_71 rfl (lv_at hl 0 rfl) ?_
        refine lv_topl (fun dd edd => ?_)
        refine lv_lstore_n (lv' := [(3, .long dd), (0, .ref (M 0)), (1, .int (nI w)), (2, .int dv)]) hx hb dX7_gain_72 rfl hl (by decide) rfl (fun ls hl => ?_)
        have hG0 : 0 < Nat.gcd o1.toInt.natAbs u1.toInt.natAbs := Nat.gcd_pos_of_pos_right _ (by omega)
        have hG1 : Nat.gcd o1.toInt.natAbs u1.toInt.natAbs ≤ u1.toInt.natAbs := Nat.gcd_le_right _ (by omega)
        have ed : dd.toInt = (if u1.toInt < 0 then -(Nat.gcd o1.toInt.natAbs u1.toInt.natAbs : Int) else (Nat.gcd o1.toInt.natAbs u1.toInt.natAbs : Int)) := by
          first | (rw [edd, if_pos (by omega), fb_negL (by rw [pk_lT (by omega)]; omega), pk_lT (by omega)]) | (rw [edd, if_neg (by omega), pk_lT (by omega)])
        have hd0 : ¬ dd = 0 := fun h9 => by
          rw [h9] at ed
          have e9 : (0 : Int64).toInt = 0 := by decide
          rw [e9] at ed
          split at ed <;> omega
        refine lv_iload_n hx hb dX7_gain_73 rfl (lv_at hl 3 rfl) ?_
        refine lv_if_eq (tgt := 86) hx hb dX7_gain_74 (by decide) (fun c_74 => ?_) (fun c_74 => ?_)
        · refine lv_aload_n hx hb dX7_gain_86 rfl (lv_at hl 1 rfl) ?_
          refine va_get (D := D) (ci := 8) (v := .long o1) (C := RX7) (T := TX7) (N := 20) hx hb hts inX7 hown hK hP 0 rfl rfl 17 (by decide) hfieldLink_RX7_99 (fun _ h9 => h9) rfl dX7_gain_87 ?_
          refine lv_lload_n hx hb dX7_gain_90 rfl (lv_at hl 0 rfl) ?_
          refine lv_ldiv hx hb dX7_gain_91 hd0 ?_
          refine g_lret (v := o1 / dd) hx hb hr hlk hP hK hD hS (Nat.le_of_ble_eq_true rfl) (Nat.le_of_ble_eq_true rfl) dX7_gain_92 ?_
          exact ⟨_, _, rfl, fun _ => by
            rw [gN_nI (by omega), fb_divL2 (by omega), ed]
            unfold gnR
            rw [← hz8.1, ← hz8.2, if_neg c_32]
            first | rw [if_pos c_74] | rw [if_neg c_74]⟩
        · refine lv_aload_n hx hb dX7_gain_77 rfl (lv_at hl 1 rfl) ?_
          refine va_get (D := D) (ci := 8) (v := .long u1) (C := RX7) (T := TX7) (N := 20) hx hb hts inX7 hown hK hP 0 rfl rfl 18 (by decide) hfieldLink_RX7_103 (fun _ h9 => h9) rfl dX7_gain_78 ?_
          refine lv_lload_n hx hb dX7_gain_81 rfl (lv_at hl 0 rfl) ?_
          refine lv_ldiv hx hb dX7_gain_82 hd0 ?_
          refine lv_goto (tgt := 92) hx hb dX7_gain_83 (by decide) ?_
          refine g_lret (v := u1 / dd) hx hb hr hlk hP hK hD hS (Nat.le_of_ble_eq_true rfl) (Nat.le_of_ble_eq_true rfl) dX7_gain_92 ?_
          exact ⟨_, _, rfl, fun _ => by
            rw [gN_nI (by omega), fb_divL2 (by omega), ed]
            unfold gnR
            rw [← hz8.1, ← hz8.2, if_neg c_32]
            first | rw [if_pos c_74] | rw [if_neg c_74]⟩
      · have c_63 : ¬ 0 ≤ u1.toInt := fun h9 => c_63 (g_cmp_ge.mpr h9)
        refine lv_lload_n hx hb dX7_gain_66 rfl (lv_at hl 0 rfl) ?_
        refine lv_lneg hx hb dX7_gain_67 ?_
        refine lv_goto (tgt := 72) hx hb dX7_gain_68 (by decide) ?_
        refine lv_topl (fun dd edd => ?_)
        refine lv_lstore_n (lv' := [(3, .long dd), (0, .ref (M 0)), (1, .int (nI w)), (2, .int dv)]) hx hb dX7_gain_72 rfl hl (by decide) rfl (fun ls hl => ?_)
        have hG0 : 0 < Nat.gcd o1.toInt.natAbs u1.toInt.natAbs := Nat.gcd_pos_of_pos_right _ (by omega)
        have hG1 : Nat.gcd o1.toInt.natAbs u1.toInt.natAbs ≤ u1.toInt.natAbs := Nat.gcd_le_right _ (by omega)
        have ed : dd.toInt = (if u1.toInt < 0 then -(Nat.gcd o1.toInt.natAbs u1.toInt.natAbs : Int) else (Nat.gcd o1.toInt.natAbs u1.toInt.natAbs : Int)) := by
          first | (rw [edd, if_pos (by omega), fb_negL (by rw [pk_lT (by omega)]; omega), pk_lT (by omega)]) | (rw [edd, if_neg (by omega), pk_lT (by omega)])
        have hd0 : ¬ dd = 0 := fun h9 => by
          rw [h9] at ed
          have e9 : (0 : Int64).toInt = 0 := by decide
          rw [e9] at ed
          split at ed <;> omega
        refine lv_iload_n hx hb dX7_gain_73 rfl (lv_at hl 3 rfl) ?_
        refine lv_if_eq (tgt := 86) hx hb dX7_gain_74 (by decide) (fun c_74 => ?_) (fun c_74 => ?_)
        · refine lv_aload_n hx hb dX7_gain_86 rfl (lv_at hl 1 rfl) ?_
          refine va_get (D := D) (ci := 8) (v := .long o1) (C := RX7) (T := TX7) (N := 20) hx hb hts inX7 hown hK hP 0 rfl rfl 17 (by decide) hfieldLink_RX7_99 (fun _ h9 => h9) rfl dX7_gain_87 ?_
          refine lv_lload_n hx hb dX7_gain_90 rfl (lv_at hl 0 rfl) ?_
          refine lv_ldiv hx hb dX7_gain_91 hd0 ?_
          refine g_lret (v := o1 / dd) hx hb hr hlk hP hK hD hS (Nat.le_of_ble_eq_true rfl) (Nat.le_of_ble_eq_true rfl) dX7_gain_92 ?_
          exact ⟨_, _, rfl, fun _ => by
            rw [gN_nI (by omega), fb_divL2 (by omega), ed]
            unfold gnR
            rw [← hz8.1, ← hz8.2, if_neg c_32]
            first | rw [if_pos c_74] | rw [if_neg c_74]⟩
        · refine lv_aload_n hx hb dX7_gain_77 rfl (lv_at hl 1 rfl) ?_
          refine va_get (D := D) (ci := 8) (v := .long u1) (C := RX7) (T := TX7) (N := 20) hx hb hts inX7 hown hK hP 0 rfl rfl 18 (by decide) hfieldLink_RX7_103 (fun _ h9 => h9) rfl dX7_gain_78 ?_
          refine lv_lload_n hx hb dX7_gain_81 rfl (lv_at hl 0 rfl) ?_
          refine lv_ldiv hx hb dX7_gain_82 hd0 ?_
          refine lv_goto (tgt := 92) hx hb dX7_gain_83 (by decide) ?_
          refine g_lret (v := u1 / dd) hx hb hr hlk hP hK hD hS (Nat.le_of_ble_eq_true rfl) (Nat.le_of_ble_eq_true rfl) dX7_gain_92 ?_
          exact ⟨_, _, rfl, fun _ => by
            rw [gN_nI (by omega), fb_divL2 (by omega), ed]
            unfold gnR
            rw [← hz8.1, ← hz8.2, if_neg c_32]
            first | rw [if_pos c_74] | rw [if_neg c_74]⟩
    · have c_32 : u1.toInt = 0 := g_cmp_eq.mp c_32
      refine lv_iload_n hx hb dX7_gain_35 rfl (lv_at hl 2 rfl) ?_
      refine lv_if_eq (tgt := 43) hx hb dX7_gain_36 (by decide) (fun c_36 => ?_) (fun c_36 => ?_)
      · refine lv_lconst (v := 1) hx hb dX7_gain_43 (by decide) ?_
        refine g_lret (v := 1) hx hb hr hlk hP hK hD hS (Nat.le_of_ble_eq_true rfl) (Nat.le_of_ble_eq_true rfl) dX7_gain_44 ?_
        exact ⟨_, _, rfl, fun _ => by
          rw [gN_nI (by omega)]
          unfold gnR
          rw [← hz8.2, if_pos c_32]
          first | (rw [if_pos c_36]; rfl) | (rw [if_neg c_36]; rfl)⟩
      · refine lv_lconst (v := 0) hx hb dX7_gain_39 (by decide) ?_
        refine lv_goto (tgt := 44) hx hb dX7_gain_40 (by decide) ?_
        refine g_lret (v := 0) hx hb hr hlk hP hK hD hS (Nat.le_of_ble_eq_true rfl) (Nat.le_of_ble_eq_true rfl) dX7_gain_44 ?_
        exact ⟨_, _, rfl, fun _ => by
          rw [gN_nI (by omega)]
          unfold gnR
          rw [← hz8.2, if_pos c_32]
          first | (rw [if_pos c_36]; rfl) | (rw [if_neg c_36]; rfl)⟩
  · have c_16 : ¬ (gGo (isIn wr 0 2) (if C ≤ (if wr = 2 then 2 else 4) then 1 else 0) 1 = 0) := g_b0 c_16
    refine lv_lconst (v := 0) hx hb dX7_gain_19 (by decide) ?_
    refine g_lret (v := 0) hx hb hr hlk hP hK hD hS (Nat.le_of_ble_eq_true rfl) (Nat.le_of_ble_eq_true rfl) dX7_gain_20 ?_
    exact ⟨_, _, rfl, fun h => absurd h c_16⟩

set_option maxHeartbeats 4000000 in
set_option maxRecDepth 100000 in
theorem c_X7_meets (l : Launch) (D : va_G) (cI cJ cO : ClassId) (df sz : Nat) (M : Nat → Nat) (mc : Nat → Int32) (ms : Nat → Int32) (mw : Nat → Int32) (mn : Int32) (mo : Nat → Int32) (mu : Nat → Int32) (mk : Int32) (mt : Nat → Int32) (mq : Nat → Int32) (mp : Nat → Int32) (my : Int32) (mf : Nat → Int32) (ma : Nat → Int32) (cy : Int32) (lo : Int32) (gr : Int32) (ov : Int64) (un : Int64) (la : Int32) (C : Nat) (wr : Int32) (lw : Int32) (hg : Int32) (hc : isC mc) (hC : C ≤ 8) (hO : ∀ i, i < C → gN (mo i) < 8 ∧ mo i = nI (gN (mo i))) : MetI l yX7_meets wsX7_meets ({ frames := 2, cells := 0, slots := 0, locals := 43 } : Room) D (gTY cI cJ cO) df (mW cI M mc ms mw mn mo (nI C) mu mk mt mq mp my mf ma cy lo gr ov un la) sz [.ref (M 0), .int wr, .int lw, .int hg] (fun (r : Int32) (wZ : va_W) => ∃ (o1 : Int64), ∃ (u1 : Int64), wZ = mW cI M mc ms mw mn mo (nI C) mu mk mt mq mp my mf ma cy lo gr o1 u1 (gGo (if isIn wr 0 2 = 0 then 0 else if isIn lw 0 10000 = 0 then 0 else isIn hg lw 10000) (if C ≤ (if wr = 2 then 2 else 4) then 1 else 0) 1) ∧ (gGo (if isIn wr 0 2 = 0 then 0 else if isIn lw 0 10000 = 0 then 0 else isIn hg lw 10000) (if C ≤ (if wr = 2 then 2 else 4) then 1 else 0) 1 = 0 → r = if mtP (stM mc mo C) (zO mc mo (gN wr) C) (zU mc mo (gN wr) C) (gN wr) (gN lw) (gN hg) then 1 else 0)) := by
  refine g_of (cc := cX7_meets) (nL := 13) (ret := (some .boolean)) (D := D) (TY := (gTY cI cJ cO)) (df := df) (Qc := fun A => va_Qi (fun (r : Int32) (wZ : va_W) => ∃ (o1 : Int64), ∃ (u1 : Int64), wZ = mW cI M mc ms mw mn mo (nI C) mu mk mt mq mp my mf ma cy lo gr o1 u1 (gGo (if isIn wr 0 2 = 0 then 0 else if isIn lw 0 10000 = 0 then 0 else isIn hg lw 10000) (if C ≤ (if wr = 2 then 2 else 4) then 1 else 0) 1) ∧ (gGo (if isIn wr 0 2 = 0 then 0 else if isIn lw 0 10000 = 0 then 0 else isIn hg lw 10000) (if C ≤ (if wr = 2 then 2 else 4) then 1 else 0) 1 = 0 → r = if mtP (stM mc mo C) (zO mc mo (gN wr) C) (zU mc mo (gN wr) C) (gN wr) (gN lw) (gN hg) then 1 else 0)) (gB D (gTY cI cJ cO) A) A) (by decide +kernel) rfl (Nat.le_of_ble_eq_true rfl) ?_
  intro p e s m below meth c ls A hsz C0 hin hl
  obtain ⟨CF, hr, hlk, hA, hS, hP, hK, hD, hV, hH⟩ := C0
  have CF : CallFix p m c cX7_meets 13 s _ wsX7_meets RX7 := CF
  obtain ⟨hx, hb, hml, hown, hts⟩ := id CF
  subst hsz
  have hmethodLink_RX7_48 : (Cond.methodLink RX7 48 yX7_in).before _ s = true := hts _ (List.mem_of_getElem? (i := 7) rfl)
  have hmethodLink_RX7_106 : (Cond.methodLink RX7 106 yX7_isShort).before _ s = true := hts _ (List.mem_of_getElem? (i := 11) rfl)
  have hmethodLink_RX7_52 : (Cond.methodLink RX7 52 yX7_goes).before _ s = true := hts _ (List.mem_of_getElem? (i := 15) rfl)
  have hfieldLink_RX7_60 : (Cond.fieldLink RX7 60 "TapLoomModel" "chained" "I").before _ s = true := hts _ (List.mem_of_getElem? (i := 1) rfl)
  have hmethodLink_RX7_109 : (Cond.methodLink RX7 109 yX7_gains).before _ s = true := hts _ (List.mem_of_getElem? (i := 28) rfl)
  have hfieldLink_RX7_99 : (Cond.fieldLink RX7 99 "TapLoomModel" "over" "J").before _ s = true := hts _ (List.mem_of_getElem? (i := 3) rfl)
  have hfieldLink_RX7_103 : (Cond.fieldLink RX7 103 "TapLoomModel" "under" "J").before _ s = true := hts _ (List.mem_of_getElem? (i := 4) rfl)
  have hconstantLong_RX7_119 : (Cond.constantLong RX7 119 (1000)).before _ s = true := hts _ (List.mem_of_getElem? (i := 6) rfl)
  have hconstantLong_RX7_117 : (Cond.constantLong RX7 117 (1000000)).before _ s = true := hts _ (List.mem_of_getElem? (i := 5) rfl)
  have hfieldLink_RX7_19 : (Cond.fieldLink RX7 19 "TapLoomModel" "order" "[I").before _ s = true := hts _ (List.mem_of_getElem? (i := 2) rfl)
  have hmethodLink_RX7_96 : (Cond.methodLink RX7 96 yX7_isStable).before _ s = true := hts _ (List.mem_of_getElem? (i := 20) rfl)
  have inX7 : ∀ w ∈ u_ws RX7 TX7 20, w ∈ wsX7_meets := fun w h => (List.mem_cons_of_mem _ (List.mem_append_right _ h))
  have hP : va_P D ccl (mW cI M mc ms mw mn mo (nI C) mu mk mt mq mp my mf ma cy lo gr ov un la) s.heap := hP
  have hl : lv_has ls 13 [(0, .ref (M 0)), (1, .int wr), (2, .int lw), (3, .int hg)] := hl
  refine lv_aload_n hx hb dX7_meets_0 rfl (lv_at hl 0 rfl) ?_
  refine lv_iload_n hx hb dX7_meets_1 rfl (lv_at hl 1 rfl) ?_
  refine lv_iconst (v := 0) hx hb dX7_meets_2 (by decide) ?_
  refine lv_iconst (v := 2) hx hb dX7_meets_3 (by decide) ?_
  have hPc : va_P D ccl [] s.heap := fun k q h => by simp at h
  have hDc : va_D A [] := ⟨fun i j p q h => by simp at h, fun k q h => by simp at h⟩
  have hFc := va_free (wc := []) hD hS hA [] rfl
  refine g_Si (As := [.int wr, .int 0, .int 2]) (rest := [.ref (M 0)]) CF (c_X7_in l D cI cJ cO df s.heap.size wr 0 2 ) (va_cwS 3 hts gX7_meets_X7_in rfl rfl rfl (by decide +kernel) ⟨Nat.le_of_ble_eq_true rfl, Nat.le_of_ble_eq_true rfl⟩)  hPc hK hDc hV hH hS hFc rfl hl.1 rfl (Nat.le_of_ble_eq_true rfl) dX7_meets_4 ⟨Nat.le_of_ble_eq_true rfl, Nat.le_of_ble_eq_true rfl⟩ (fun r_4 w1 H1 locs1 hq hP1 hD1 hk hS hz => ?_)
  obtain ⟨rfl, hr_4⟩ := hq
  have hP := g_keep0 hP hk
  clear hPc hDc hFc hP1 hD1 hk hz
  generalize H1 = H at hP hS ⊢
  have hP : va_P D ccl (mW cI M mc ms mw mn mo (nI C) mu mk mt mq mp my mf ma cy lo gr ov un la) H := hP
  have hD : va_D A (mW cI M mc ms mw mn mo (nI C) mu mk mt mq mp my mf ma cy lo gr ov un la) := hD
  subst hr_4
  refine g_phiHi (ls := ls) (J := 37) (st1 := [.ref (M 0)]) (REL := fun b => b = if isIn wr 0 2 = 0 then 0 else if isIn lw 0 10000 = 0 then 0 else isIn hg lw 10000) (D := D) (A := A) (H0 := s.heap) (Ws := (mW cI M mc ms mw mn mo (nI C) mu mk mt mq mp my mf ma cy lo gr ov un la)) (fun b H locs hb_37 hP hD hS => ?_) (fun hJ_37 => ?_)
  · subst hb_37
    refine lv_aload_n hx hb dX7_meets_37 rfl (lv_at hl 0 rfl) ?_
    refine lv_iload_n hx hb dX7_meets_38 rfl (lv_at hl 1 rfl) ?_
    have hPc := hP.sub (ws' := [(M 0, .inr (8, [.ref (M 1), .ref (M 2), .ref (M 3), .int mn, .ref (M 4), .int (nI C), .ref (M 5), .int mk, .ref (M 6), .ref (M 7), .ref (M 8), .int my, .ref (M 9), .ref (M 10), .int cy, .int lo, .int gr, .long ov, .long un, .int la])), (M 1, .inl (cI, 40, .inl mc)), (M 2, .inl (cI, 32, .inl ms)), (M 3, .inl (cI, 8, .inl mw)), (M 4, .inl (cI, 8, .inl mo)), (M 5, .inl (cI, 16, .inl mu)), (M 6, .inl (cI, 32, .inl mt)), (M 7, .inl (cI, 32, .inl mq)), (M 8, .inl (cI, 64, .inl mp)), (M 9, .inl (cI, 40401, .inl mf)), (M 10, .inl (cI, 40401, .inl ma))]) [0, 1, 2, 3, 4, 5, 6, 7, 8, 9, 10] rfl
    have hDc := hD.sub (ws' := [(M 0, .inr (8, [.ref (M 1), .ref (M 2), .ref (M 3), .int mn, .ref (M 4), .int (nI C), .ref (M 5), .int mk, .ref (M 6), .ref (M 7), .ref (M 8), .int my, .ref (M 9), .ref (M 10), .int cy, .int lo, .int gr, .long ov, .long un, .int la])), (M 1, .inl (cI, 40, .inl mc)), (M 2, .inl (cI, 32, .inl ms)), (M 3, .inl (cI, 8, .inl mw)), (M 4, .inl (cI, 8, .inl mo)), (M 5, .inl (cI, 16, .inl mu)), (M 6, .inl (cI, 32, .inl mt)), (M 7, .inl (cI, 32, .inl mq)), (M 8, .inl (cI, 64, .inl mp)), (M 9, .inl (cI, 40401, .inl mf)), (M 10, .inl (cI, 40401, .inl ma))]) [0, 1, 2, 3, 4, 5, 6, 7, 8, 9, 10] (by decide) rfl
    have hFc := va_free (wc := [(M 0, .inr (8, [.ref (M 1), .ref (M 2), .ref (M 3), .int mn, .ref (M 4), .int (nI C), .ref (M 5), .int mk, .ref (M 6), .ref (M 7), .ref (M 8), .int my, .ref (M 9), .ref (M 10), .int cy, .int lo, .int gr, .long ov, .long un, .int la])), (M 1, .inl (cI, 40, .inl mc)), (M 2, .inl (cI, 32, .inl ms)), (M 3, .inl (cI, 8, .inl mw)), (M 4, .inl (cI, 8, .inl mo)), (M 5, .inl (cI, 16, .inl mu)), (M 6, .inl (cI, 32, .inl mt)), (M 7, .inl (cI, 32, .inl mq)), (M 8, .inl (cI, 64, .inl mp)), (M 9, .inl (cI, 40401, .inl mf)), (M 10, .inl (cI, 40401, .inl ma))]) hD hS hA [0, 1, 2, 3, 4, 5, 6, 7, 8, 9, 10] rfl
    refine g_Vi (As := [.int wr]) (rest := [.int (if isIn wr 0 2 = 0 then 0 else if isIn lw 0 10000 = 0 then 0 else isIn hg lw 10000), .ref (M 0)]) CF (c_X7_isShort l D cI cJ cO df H.size M mc ms mw mn mo mu mk mt mq mp my mf ma cy lo gr ov un la C wr (by omega)) (cwV 1 hts gX7_meets_X7_isShort rfl rfl rfl (by decide +kernel) ⟨Nat.le_of_ble_eq_true rfl, Nat.le_of_ble_eq_true rfl⟩) (va_recv hK hP (ci := 8) (q0 := 0) rfl rfl) hPc hK hDc hV hH hS hFc rfl hl.1 rfl (Nat.le_of_ble_eq_true rfl) dX7_meets_39 ⟨Nat.le_of_ble_eq_true rfl, Nat.le_of_ble_eq_true rfl⟩ (fun r_39 w1 H1 locs1 hq hP1 hD1 hk hS hz => ?_)
    obtain ⟨rfl, hr_39⟩ := hq
    have hP := g_keepR hP hD [0, 1, 2, 3, 4, 5, 6, 7, 8, 9, 10] rfl hk hP1
    clear hPc hDc hFc hP1 hD1 hk hz
    generalize H1 = H at hP hS ⊢
    have hP : va_P D ccl (mW cI M mc ms mw mn mo (nI C) mu mk mt mq mp my mf ma cy lo gr ov un la) H := hP
    have hD : va_D A (mW cI M mc ms mw mn mo (nI C) mu mk mt mq mp my mf ma cy lo gr ov un la) := hD
    subst hr_39
    refine lv_iconst (v := 1) hx hb dX7_meets_42 (by decide) ?_
    have hPc := hP.sub (ws' := [(M 0, .inr (8, [.ref (M 1), .ref (M 2), .ref (M 3), .int mn, .ref (M 4), .int (nI C), .ref (M 5), .int mk, .ref (M 6), .ref (M 7), .ref (M 8), .int my, .ref (M 9), .ref (M 10), .int cy, .int lo, .int gr, .long ov, .long un, .int la])), (M 1, .inl (cI, 40, .inl mc)), (M 2, .inl (cI, 32, .inl ms)), (M 3, .inl (cI, 8, .inl mw)), (M 4, .inl (cI, 8, .inl mo)), (M 5, .inl (cI, 16, .inl mu)), (M 6, .inl (cI, 32, .inl mt)), (M 7, .inl (cI, 32, .inl mq)), (M 8, .inl (cI, 64, .inl mp)), (M 9, .inl (cI, 40401, .inl mf)), (M 10, .inl (cI, 40401, .inl ma))]) [0, 1, 2, 3, 4, 5, 6, 7, 8, 9, 10] rfl
    have hDc := hD.sub (ws' := [(M 0, .inr (8, [.ref (M 1), .ref (M 2), .ref (M 3), .int mn, .ref (M 4), .int (nI C), .ref (M 5), .int mk, .ref (M 6), .ref (M 7), .ref (M 8), .int my, .ref (M 9), .ref (M 10), .int cy, .int lo, .int gr, .long ov, .long un, .int la])), (M 1, .inl (cI, 40, .inl mc)), (M 2, .inl (cI, 32, .inl ms)), (M 3, .inl (cI, 8, .inl mw)), (M 4, .inl (cI, 8, .inl mo)), (M 5, .inl (cI, 16, .inl mu)), (M 6, .inl (cI, 32, .inl mt)), (M 7, .inl (cI, 32, .inl mq)), (M 8, .inl (cI, 64, .inl mp)), (M 9, .inl (cI, 40401, .inl mf)), (M 10, .inl (cI, 40401, .inl ma))]) [0, 1, 2, 3, 4, 5, 6, 7, 8, 9, 10] (by decide) rfl
    have hFc := va_free (wc := [(M 0, .inr (8, [.ref (M 1), .ref (M 2), .ref (M 3), .int mn, .ref (M 4), .int (nI C), .ref (M 5), .int mk, .ref (M 6), .ref (M 7), .ref (M 8), .int my, .ref (M 9), .ref (M 10), .int cy, .int lo, .int gr, .long ov, .long un, .int la])), (M 1, .inl (cI, 40, .inl mc)), (M 2, .inl (cI, 32, .inl ms)), (M 3, .inl (cI, 8, .inl mw)), (M 4, .inl (cI, 8, .inl mo)), (M 5, .inl (cI, 16, .inl mu)), (M 6, .inl (cI, 32, .inl mt)), (M 7, .inl (cI, 32, .inl mq)), (M 8, .inl (cI, 64, .inl mp)), (M 9, .inl (cI, 40401, .inl mf)), (M 10, .inl (cI, 40401, .inl ma))]) hD hS hA [0, 1, 2, 3, 4, 5, 6, 7, 8, 9, 10] rfl
    refine g_Vi (As := [.int (if isIn wr 0 2 = 0 then 0 else if isIn lw 0 10000 = 0 then 0 else isIn hg lw 10000), .int (if C ≤ (if wr = 2 then 2 else 4) then 1 else 0), .int 1]) (rest := []) CF (c_X7_goes l D cI cJ cO df H.size M mc ms mw mn mo (nI C) mu mk mt mq mp my mf ma cy lo gr ov un la (if isIn wr 0 2 = 0 then 0 else if isIn lw 0 10000 = 0 then 0 else isIn hg lw 10000) (if C ≤ (if wr = 2 then 2 else 4) then 1 else 0) 1 ) (cwV 3 hts gX7_meets_X7_goes rfl rfl rfl (by decide +kernel) ⟨Nat.le_of_ble_eq_true rfl, Nat.le_of_ble_eq_true rfl⟩) (va_recv hK hP (ci := 8) (q0 := 0) rfl rfl) hPc hK hDc hV hH hS hFc rfl hl.1 rfl (Nat.le_of_ble_eq_true rfl) dX7_meets_43 ⟨Nat.le_of_ble_eq_true rfl, Nat.le_of_ble_eq_true rfl⟩ (fun r_43 w1 H1 locs1 hq hP1 hD1 hk hS hz => ?_)
    obtain ⟨rfl, hr_43⟩ := hq
    obtain ⟨hP, hD⟩ := g_join (ws' := (mW cI M mc ms mw mn mo (nI C) mu mk mt mq mp my mf ma cy lo gr ov un (gGo (if isIn wr 0 2 = 0 then 0 else if isIn lw 0 10000 = 0 then 0 else isIn hg lw 10000) (if C ≤ (if wr = 2 then 2 else 4) then 1 else 0) 1))) hP hD hk hFc hP1 hD1 [0, 1, 2, 3, 4, 5, 6, 7, 8, 9, 10] [] [0, 1, 2, 3, 4, 5, 6, 7, 8, 9, 10] rfl rfl (by decide) (by decide) (by decide) rfl
    clear hPc hDc hFc hP1 hD1 hk hz
    generalize H1 = H at hP hS ⊢
    have hP : va_P D ccl (mW cI M mc ms mw mn mo (nI C) mu mk mt mq mp my mf ma cy lo gr ov un (gGo (if isIn wr 0 2 = 0 then 0 else if isIn lw 0 10000 = 0 then 0 else isIn hg lw 10000) (if C ≤ (if wr = 2 then 2 else 4) then 1 else 0) 1)) H := hP
    have hD : va_D A (mW cI M mc ms mw mn mo (nI C) mu mk mt mq mp my mf ma cy lo gr ov un (gGo (if isIn wr 0 2 = 0 then 0 else if isIn lw 0 10000 = 0 then 0 else isIn hg lw 10000) (if C ≤ (if wr = 2 then 2 else 4) then 1 else 0) 1)) := hD
    subst hr_43
    refine lv_if_ne (tgt := 51) hx hb dX7_meets_46 (by decide) (fun c_46 => ?_) (fun c_46 => ?_)
    · have c_46 : gGo (if isIn wr 0 2 = 0 then 0 else if isIn lw 0 10000 = 0 then 0 else isIn hg lw 10000) (if C ≤ (if wr = 2 then 2 else 4) then 1 else 0) 1 = 0 := g_b1 c_46
      have hv0 := gGo_0 c_46
      have hi1 : ¬ isIn wr 0 2 = 0 := fun h => hv0.1 (by rw [if_pos h])
      have hi2 : ¬ isIn lw 0 10000 = 0 := fun h => hv0.1 (by rw [if_neg hi1, if_pos h])
      have hi3 : ¬ isIn hg lw 10000 = 0 := fun h => hv0.1 (by rw [if_neg hi1, if_neg hi2]; exact h)
      obtain ⟨w, hw, rfl⟩ := isIn_nat 2 (by decide) hi1
      obtain ⟨L0, hL0, rfl⟩ := isIn_nat 10000 (by decide) hi2
      obtain ⟨H0, hH0, hH1, rfl⟩ := isIn_nat2 (n := 10000) (by omega) (by decide) hi3
      have hCw := hCw_of hw (g_b1 hv0.2.1)
      refine lv_iconst (v := 1) hx hb dX7_meets_51 (by decide) ?_
      refine lv_istore (lv' := [(4, .int 1), (0, .ref (M 0)), (1, .int (nI w)), (2, .int (nI L0)), (3, .int (nI H0))]) hx hb dX7_meets_52 hl (by decide) rfl (fun ls hl => ?_)
      refine lv_iconst (v := 0) hx hb dX7_meets_54 (by decide) ?_
      refine lv_istore (lv' := [(5, .int 0), (4, .int 1), (0, .ref (M 0)), (1, .int (nI w)), (2, .int (nI L0)), (3, .int (nI H0))]) hx hb dX7_meets_55 hl (by decide) rfl (fun ls hl => ?_)
      refine W.widen (k := 0) (n := 0) (Nat.le_refl _) (Nat.le_refl _) ?_
      refine g_while (σ := Nat) (st := []) (nL := 13) (fun k => mW cI M mc ms mw mn mo (nI C) mu mk mt mq mp my mf ma cy lo gr ov un (gGo (if isIn (nI w) 0 2 = 0 then 0 else if isIn (nI L0) 0 10000 = 0 then 0 else isIn (nI H0) (nI L0) 10000) (if C ≤ (if (nI w) = 2 then 2 else 4) then 1 else 0) 1))
        (fun k => [(0, .ref (M 0)), (1, .int (nI w)), (2, .int (nI L0)), (3, .int (nI H0)), (4, .int (stM mc mo k)), (5, .int (nI k))])
        (fun k => k ≤ C)
        (fun k => C - k) (fun k => 0) (fun k => 0)
        ?_ 0 (Nat.zero_le _) hP hD hS (lv_sub hl [2, 3, 4, 5, 1, 0] rfl)
      intro k hI H locs ls hP hD hS hl ih
      have hI : k ≤ C := hI
      have hP : va_P D ccl (mW cI M mc ms mw mn mo (nI C) mu mk mt mq mp my mf ma cy lo gr ov un (gGo (if isIn (nI w) 0 2 = 0 then 0 else if isIn (nI L0) 0 10000 = 0 then 0 else isIn (nI H0) (nI L0) 10000) (if C ≤ (if (nI w) = 2 then 2 else 4) then 1 else 0) 1)) H := hP
      have hD : va_D A (mW cI M mc ms mw mn mo (nI C) mu mk mt mq mp my mf ma cy lo gr ov un (gGo (if isIn (nI w) 0 2 = 0 then 0 else if isIn (nI L0) 0 10000 = 0 then 0 else isIn (nI H0) (nI L0) 10000) (if C ≤ (if (nI w) = 2 then 2 else 4) then 1 else 0) 1)) := hD
      have hl : lv_has ls 13 [(0, .ref (M 0)), (1, .int (nI w)), (2, .int (nI L0)), (3, .int (nI H0)), (4, .int (stM mc mo k)), (5, .int (nI k))] := hl
      change W p l e _ s m _ below meth c H locs 0 0 _ (F0 m 57 ls [])
      have ih_57 := ih
      clear ih
      refine lv_iload hx hb dX7_meets_57 (lv_at hl 5 rfl) ?_
      refine lv_aload_n hx hb dX7_meets_59 rfl (lv_at hl 0 rfl) ?_
      refine va_get (D := D) (ci := 8) (v := .int (nI C)) (C := RX7) (T := TX7) (N := 20) hx hb hts inX7 hown hK hP 0 rfl rfl 5 (by decide) hfieldLink_RX7_60 (fun _ h9 => h9) rfl dX7_meets_60 ?_
      refine lv_icmp_ge (tgt := 98) hx hb dX7_meets_63 (by decide) (fun c_63 => ?_) (fun c_63 => ?_)
      · have c_63 : C ≤ k := g_le (a := C) (b := k) c_63 (by omega) (by omega)
        obtain rfl : C = k := by omega
        refine lv_aload_n hx hb dX7_meets_98 rfl (lv_at hl 0 rfl) ?_
        refine lv_iload_n hx hb dX7_meets_99 rfl (lv_at hl 1 rfl) ?_
        have hPc := hP.sub (ws' := [(M 0, .inr (8, [.ref (M 1), .ref (M 2), .ref (M 3), .int mn, .ref (M 4), .int (nI C), .ref (M 5), .int mk, .ref (M 6), .ref (M 7), .ref (M 8), .int my, .ref (M 9), .ref (M 10), .int cy, .int lo, .int gr, .long ov, .long un, .int (gGo (if isIn (nI w) 0 2 = 0 then 0 else if isIn (nI L0) 0 10000 = 0 then 0 else isIn (nI H0) (nI L0) 10000) (if C ≤ (if (nI w) = 2 then 2 else 4) then 1 else 0) 1)])), (M 1, .inl (cI, 40, .inl mc)), (M 2, .inl (cI, 32, .inl ms)), (M 3, .inl (cI, 8, .inl mw)), (M 4, .inl (cI, 8, .inl mo)), (M 5, .inl (cI, 16, .inl mu)), (M 6, .inl (cI, 32, .inl mt)), (M 7, .inl (cI, 32, .inl mq)), (M 8, .inl (cI, 64, .inl mp)), (M 9, .inl (cI, 40401, .inl mf)), (M 10, .inl (cI, 40401, .inl ma))]) [0, 1, 2, 3, 4, 5, 6, 7, 8, 9, 10] rfl
        have hDc := hD.sub (ws' := [(M 0, .inr (8, [.ref (M 1), .ref (M 2), .ref (M 3), .int mn, .ref (M 4), .int (nI C), .ref (M 5), .int mk, .ref (M 6), .ref (M 7), .ref (M 8), .int my, .ref (M 9), .ref (M 10), .int cy, .int lo, .int gr, .long ov, .long un, .int (gGo (if isIn (nI w) 0 2 = 0 then 0 else if isIn (nI L0) 0 10000 = 0 then 0 else isIn (nI H0) (nI L0) 10000) (if C ≤ (if (nI w) = 2 then 2 else 4) then 1 else 0) 1)])), (M 1, .inl (cI, 40, .inl mc)), (M 2, .inl (cI, 32, .inl ms)), (M 3, .inl (cI, 8, .inl mw)), (M 4, .inl (cI, 8, .inl mo)), (M 5, .inl (cI, 16, .inl mu)), (M 6, .inl (cI, 32, .inl mt)), (M 7, .inl (cI, 32, .inl mq)), (M 8, .inl (cI, 64, .inl mp)), (M 9, .inl (cI, 40401, .inl mf)), (M 10, .inl (cI, 40401, .inl ma))]) [0, 1, 2, 3, 4, 5, 6, 7, 8, 9, 10] (by decide) rfl
        have hFc := va_free (wc := [(M 0, .inr (8, [.ref (M 1), .ref (M 2), .ref (M 3), .int mn, .ref (M 4), .int (nI C), .ref (M 5), .int mk, .ref (M 6), .ref (M 7), .ref (M 8), .int my, .ref (M 9), .ref (M 10), .int cy, .int lo, .int gr, .long ov, .long un, .int (gGo (if isIn (nI w) 0 2 = 0 then 0 else if isIn (nI L0) 0 10000 = 0 then 0 else isIn (nI H0) (nI L0) 10000) (if C ≤ (if (nI w) = 2 then 2 else 4) then 1 else 0) 1)])), (M 1, .inl (cI, 40, .inl mc)), (M 2, .inl (cI, 32, .inl ms)), (M 3, .inl (cI, 8, .inl mw)), (M 4, .inl (cI, 8, .inl mo)), (M 5, .inl (cI, 16, .inl mu)), (M 6, .inl (cI, 32, .inl mt)), (M 7, .inl (cI, 32, .inl mq)), (M 8, .inl (cI, 64, .inl mp)), (M 9, .inl (cI, 40401, .inl mf)), (M 10, .inl (cI, 40401, .inl ma))]) hD hS hA [0, 1, 2, 3, 4, 5, 6, 7, 8, 9, 10] rfl
        refine g_Vv (As := [.int (nI w)]) (rest := []) CF (c_X7_gains l D cI cJ cO df H.size M mc ms mw mn mo mu mk mt mq mp my mf ma cy lo gr ov un (gGo (if isIn (nI w) 0 2 = 0 then 0 else if isIn (nI L0) 0 10000 = 0 then 0 else isIn (nI H0) (nI L0) 10000) (if C ≤ (if (nI w) = 2 then 2 else 4) then 1 else 0) 1) C w hc hw hC hCw hO) (cwV 1 hts gX7_meets_X7_gains rfl rfl rfl (by decide +kernel) ⟨Nat.le_of_ble_eq_true rfl, Nat.le_of_ble_eq_true rfl⟩) (va_recv hK hP (ci := 8) (q0 := 0) rfl rfl) hPc hK hDc hV hH hS hFc rfl hl.1 rfl (Nat.le_of_ble_eq_true rfl) dX7_meets_100 ⟨Nat.le_of_ble_eq_true rfl, Nat.le_of_ble_eq_true rfl⟩ (fun w1 H1 locs1 hq hP1 hD1 hk hS hz => ?_)
        obtain ⟨o1, u1, rfl, hq_100⟩ := hq
        obtain ⟨hP, hD⟩ := g_join (ws' := (mW cI M mc ms mw mn mo (nI C) mu mk mt mq mp my mf ma cy lo gr o1 u1 (gGo (if isIn (nI w) 0 2 = 0 then 0 else if isIn (nI L0) 0 10000 = 0 then 0 else isIn (nI H0) (nI L0) 10000) (if C ≤ (if (nI w) = 2 then 2 else 4) then 1 else 0) 1))) hP hD hk hFc hP1 hD1 [0, 1, 2, 3, 4, 5, 6, 7, 8, 9, 10] [] [0, 1, 2, 3, 4, 5, 6, 7, 8, 9, 10] rfl rfl (by decide) (by decide) (by decide) rfl
        clear hPc hDc hFc hP1 hD1 hk hz
        generalize H1 = H at hP hS ⊢
        have hP : va_P D ccl (mW cI M mc ms mw mn mo (nI C) mu mk mt mq mp my mf ma cy lo gr o1 u1 (gGo (if isIn (nI w) 0 2 = 0 then 0 else if isIn (nI L0) 0 10000 = 0 then 0 else isIn (nI H0) (nI L0) 10000) (if C ≤ (if (nI w) = 2 then 2 else 4) then 1 else 0) 1)) H := hP
        have hD : va_D A (mW cI M mc ms mw mn mo (nI C) mu mk mt mq mp my mf ma cy lo gr o1 u1 (gGo (if isIn (nI w) 0 2 = 0 then 0 else if isIn (nI L0) 0 10000 = 0 then 0 else isIn (nI H0) (nI L0) 10000) (if C ≤ (if (nI w) = 2 then 2 else 4) then 1 else 0) 1)) := hD
        have hz8 := hq_100
        have hz9 := zOU_le (k := C) hc hCw (Nat.le_refl C) (fun i hi => (hO i hi).1)
        have hq9 : (if w = 2 then 6503616025 else 21071715921) ≤ 21071715921 := by split <;> decide
        have hzo := hz9.1
        have hzu := hz9.2
        rw [← hz8.1] at hzo
        rw [← hz8.2] at hzu
        have hbL := mt_bd hL0 hzu
        have hbH := mt_bd hH1 hzu
        have hbO := (mt_bd hL0 hzo).2
        refine lv_aload_n hx hb dX7_meets_103 rfl (lv_at hl 0 rfl) ?_
        refine va_get (D := D) (ci := 8) (v := .long o1) (C := RX7) (T := TX7) (N := 20) hx hb hts inX7 hown hK hP 0 rfl rfl 17 (by decide) hfieldLink_RX7_99 (fun _ h9 => h9) rfl dX7_meets_104 ?_
        refine lv_lconst (v := 0) hx hb dX7_meets_107 (by decide) ?_
        refine W.lcmp hx hb dX7_meets_108 ?_
        refine g_phil (ls := ls) (J := 124) (st1 := []) (REL := fun a => a = lN o1.toInt.natAbs) (fun a hb_124 => ?_) (fun hJ_124 => ?_)
        · subst hb_124
          refine lv_lstore (lv' := [(5, .long (lN o1.toInt.natAbs)), (0, .ref (M 0)), (1, .int (nI w)), (2, .int (nI L0)), (3, .int (nI H0)), (4, .int (stM mc mo C))]) hx hb dX7_meets_124 hl (by decide) rfl (fun ls hl => ?_)
          refine lv_aload_n hx hb dX7_meets_126 rfl (lv_at hl 1 rfl) ?_
          refine va_get (D := D) (ci := 8) (v := .long u1) (C := RX7) (T := TX7) (N := 20) hx hb hts inX7 hown hK hP 0 rfl rfl 18 (by decide) hfieldLink_RX7_103 (fun _ h9 => h9) rfl dX7_meets_127 ?_
          refine lv_lconst (v := 0) hx hb dX7_meets_130 (by decide) ?_
          refine W.lcmp hx hb dX7_meets_131 ?_
          refine g_phil (ls := ls) (J := 147) (st1 := []) (REL := fun a => a = lN u1.toInt.natAbs) (fun a hb_147 => ?_) (fun hJ_147 => ?_)
          · subst hb_147
            refine lv_lstore (lv' := [(7, .long (lN u1.toInt.natAbs)), (5, .long (lN o1.toInt.natAbs)), (0, .ref (M 0)), (1, .int (nI w)), (2, .int (nI L0)), (3, .int (nI H0)), (4, .int (stM mc mo C))]) hx hb dX7_meets_147 hl (by decide) rfl (fun ls hl => ?_)
            refine lv_iload_n hx hb dX7_meets_149 rfl (lv_at hl 3 rfl) ?_
            refine lv_iconst (v := 2) hx hb dX7_meets_150 (by decide) ?_
            refine g_phil (ls := ls) (J := 164) (st1 := []) (REL := fun a => a = lN (if w = 2 then L0 * L0 else L0)) (fun a hb_164 => ?_) (fun hJ_164 => ?_)
            · subst hb_164
              refine lv_lstore (lv' := [(9, .long (lN (if w = 2 then L0 * L0 else L0))), (7, .long (lN u1.toInt.natAbs)), (5, .long (lN o1.toInt.natAbs)), (0, .ref (M 0)), (1, .int (nI w)), (2, .int (nI L0)), (3, .int (nI H0)), (4, .int (stM mc mo C))]) hx hb dX7_meets_164 hl (by decide) rfl (fun ls hl => ?_)
              refine lv_iload_n hx hb dX7_meets_166 rfl (lv_at hl 4 rfl) ?_
              refine lv_iconst (v := 2) hx hb dX7_meets_167 (by decide) ?_
              refine g_phil (ls := ls) (J := 181) (st1 := []) (REL := fun a => a = lN (if w = 2 then H0 * H0 else H0)) (fun a hb_181 => ?_) (fun hJ_181 => ?_)
              · subst hb_181
                refine lv_lstore (lv' := [(11, .long (lN (if w = 2 then H0 * H0 else H0))), (9, .long (lN (if w = 2 then L0 * L0 else L0))), (7, .long (lN u1.toInt.natAbs)), (5, .long (lN o1.toInt.natAbs)), (0, .ref (M 0)), (1, .int (nI w)), (2, .int (nI L0)), (3, .int (nI H0)), (4, .int (stM mc mo C))]) hx hb dX7_meets_181 hl (by decide) rfl (fun ls hl => ?_)
                refine lv_lload hx hb dX7_meets_183 (lv_at hl 3 rfl) ?_
                refine lv_iload_n hx hb dX7_meets_185 rfl (lv_at hl 5 rfl) ?_
                refine lv_iconst (v := 2) hx hb dX7_meets_186 (by decide) ?_
                refine g_phil (ls := ls) (J := 199) (st1 := [.long (lN o1.toInt.natAbs)]) (REL := fun a => a = lN (if w = 2 then 1000000 else 1000)) (fun a hb_199 => ?_) (fun hJ_199 => ?_)
                · subst hb_199
                  refine lv_lmul hx hb dX7_meets_199 ?_
                  refine lv_topl (fun f ef => ?_)
                  obtain rfl : f = lN (o1.toInt.natAbs * (if w = 2 then 1000000 else 1000)) := ef.trans (lN_mul _ _)
                  refine lv_lstore (lv' := [(5, .long (lN (o1.toInt.natAbs * (if w = 2 then 1000000 else 1000)))), (11, .long (lN (if w = 2 then H0 * H0 else H0))), (9, .long (lN (if w = 2 then L0 * L0 else L0))), (7, .long (lN u1.toInt.natAbs)), (0, .ref (M 0)), (1, .int (nI w)), (2, .int (nI L0)), (3, .int (nI H0)), (4, .int (stM mc mo C))]) hx hb dX7_meets_200 hl (by decide) rfl (fun ls hl => ?_)
                  refine lv_iload hx hb dX7_meets_202 (lv_at hl 8 rfl) ?_
                  refine lv_if_eq (tgt := 233) hx hb dX7_meets_204 (by decide) (fun c_204 => ?_) (fun c_204 => ?_)
                  · refine lv_iconst (v := 0) hx hb dX7_meets_233 (by decide) ?_
                    refine g_zret (v := 0) hx hb hr hlk hP hK hD hS (Nat.le_of_ble_eq_true rfl) (Nat.le_of_ble_eq_true rfl) dX7_meets_234 (by decide +kernel) ?_
                    exact ⟨_, _, rfl, fun _ => by
                      rw [gN_nI (by omega), gN_nI (by omega), gN_nI (by omega), ← hz8.1, ← hz8.2]
                      rw [if_neg (fun h9 => h9.1 c_204)]⟩
                  · refine lv_lload hx hb dX7_meets_207 (lv_at hl 0 rfl) ?_
                    refine lv_lload hx hb dX7_meets_209 (lv_at hl 2 rfl) ?_
                    refine lv_lload hx hb dX7_meets_211 (lv_at hl 3 rfl) ?_
                    refine lv_lmul hx hb dX7_meets_213 ?_
                    refine lv_topl (fun f ef => ?_)
                    obtain rfl : f = lN ((if w = 2 then L0 * L0 else L0) * u1.toInt.natAbs) := ef.trans (lN_mul _ _)
                    refine W.lcmp hx hb dX7_meets_214 ?_
                    refine lv_if_lt (tgt := 233) hx hb dX7_meets_215 (by decide) (fun c_215 => ?_) (fun c_215 => ?_)
                    · have c_215 : (lN (o1.toInt.natAbs * (if w = 2 then 1000000 else 1000))).toInt < (lN ((if w = 2 then L0 * L0 else L0) * u1.toInt.natAbs)).toInt := g_cmp_lt.mp c_215
                      refine lv_iconst (v := 0) hx hb dX7_meets_233 (by decide) ?_
                      refine g_zret (v := 0) hx hb hr hlk hP hK hD hS (Nat.le_of_ble_eq_true rfl) (Nat.le_of_ble_eq_true rfl) dX7_meets_234 (by decide +kernel) ?_
                      exact ⟨_, _, rfl, fun _ => by
                        rw [gN_nI (by omega), gN_nI (by omega), gN_nI (by omega), ← hz8.1, ← hz8.2]
                        rw [pk_lT hbO, pk_lT hbL.1] at c_215
                        rw [if_neg (fun h9 => absurd h9.2.1 (by omega))]⟩
                    · have c_215 : ¬ (lN (o1.toInt.natAbs * (if w = 2 then 1000000 else 1000))).toInt < (lN ((if w = 2 then L0 * L0 else L0) * u1.toInt.natAbs)).toInt := fun h9 => c_215 (g_cmp_lt.mpr h9)
                      refine lv_lload hx hb dX7_meets_218 (lv_at hl 0 rfl) ?_
                      refine lv_lload hx hb dX7_meets_220 (lv_at hl 1 rfl) ?_
                      refine lv_lload hx hb dX7_meets_222 (lv_at hl 3 rfl) ?_
                      refine lv_lmul hx hb dX7_meets_224 ?_
                      refine lv_topl (fun f ef => ?_)
                      obtain rfl : f = lN ((if w = 2 then H0 * H0 else H0) * u1.toInt.natAbs) := ef.trans (lN_mul _ _)
                      refine W.lcmp hx hb dX7_meets_225 ?_
                      refine lv_if_gt (tgt := 233) hx hb dX7_meets_226 (by decide) (fun c_226 => ?_) (fun c_226 => ?_)
                      · have c_226 : (lN ((if w = 2 then H0 * H0 else H0) * u1.toInt.natAbs)).toInt < (lN (o1.toInt.natAbs * (if w = 2 then 1000000 else 1000))).toInt := g_cmp_gt.mp c_226
                        refine lv_iconst (v := 0) hx hb dX7_meets_233 (by decide) ?_
                        refine g_zret (v := 0) hx hb hr hlk hP hK hD hS (Nat.le_of_ble_eq_true rfl) (Nat.le_of_ble_eq_true rfl) dX7_meets_234 (by decide +kernel) ?_
                        exact ⟨_, _, rfl, fun _ => by
                          rw [gN_nI (by omega), gN_nI (by omega), gN_nI (by omega), ← hz8.1, ← hz8.2]
                          rw [pk_lT hbO, pk_lT hbL.1] at c_215
                          rw [pk_lT hbO, pk_lT hbH.1] at c_226
                          rw [if_neg (fun h9 => absurd h9.2.2 (by omega))]⟩
                      · have c_226 : ¬ (lN ((if w = 2 then H0 * H0 else H0) * u1.toInt.natAbs)).toInt < (lN (o1.toInt.natAbs * (if w = 2 then 1000000 else 1000))).toInt := fun h9 => c_226 (g_cmp_gt.mpr h9)
                        refine lv_iconst (v := 1) hx hb dX7_meets_229 (by decide) ?_
                        refine lv_goto (tgt := 234) hx hb dX7_meets_230 (by decide) ?_
                        refine g_zret (v := 1) hx hb hr hlk hP hK hD hS (Nat.le_of_ble_eq_true rfl) (Nat.le_of_ble_eq_true rfl) dX7_meets_234 (by decide +kernel) ?_
                        exact ⟨_, _, rfl, fun _ => by
                          rw [gN_nI (by omega), gN_nI (by omega), gN_nI (by omega), ← hz8.1, ← hz8.2]
                          rw [pk_lT hbO, pk_lT hbL.1] at c_215
                          rw [pk_lT hbO, pk_lT hbH.1] at c_226
                          rw [if_pos ⟨c_204, by omega, by omega⟩]⟩
                · refine lv_icmp_ne (tgt := 196) hx hb dX7_meets_187 (by decide) (fun c_187 => ?_) (fun c_187 => ?_)
                  · have c_187 : w ≠ 2 := g_ne (a := w) (b := 2) c_187 (by omega) (by omega)
                    refine lv_ldc2 (v := 1000) hx hb hown hconstantLong_RX7_119 dX7_meets_196 ?_
                    exact hJ_199 _ (by first | (rw [if_pos c_187]; rfl) | (rw [if_neg c_187]; rfl))
                  · have c_187 : w = 2 := g_eq (a := w) (b := 2) c_187 (by omega) (by omega)
                    refine lv_ldc2 (v := 1000000) hx hb hown hconstantLong_RX7_117 dX7_meets_190 ?_
                    refine lv_goto (tgt := 199) hx hb dX7_meets_193 (by decide) ?_
                    exact hJ_199 _ (by first | (rw [if_pos c_187]; rfl) | (rw [if_neg c_187]; rfl))
              · refine lv_icmp_ne (tgt := 179) hx hb dX7_meets_168 (by decide) (fun c_168 => ?_) (fun c_168 => ?_)
                · have c_168 : w ≠ 2 := g_ne (a := w) (b := 2) c_168 (by omega) (by omega)
                  refine lv_iload_n hx hb dX7_meets_179 rfl (lv_at hl 6 rfl) ?_
                  refine lv_i2l (v := (nI H0).toInt64) hx hb dX7_meets_180 rfl ?_
                  refine lv_topl (fun f ef => ?_)
                  obtain rfl : f = lN H0 := ef.trans (nI_l (by omega))
                  exact hJ_181 _ (by first | rw [if_pos c_168] | rw [if_neg c_168])
                · have c_168 : w = 2 := g_eq (a := w) (b := 2) c_168 (by omega) (by omega)
                  refine lv_iload_n hx hb dX7_meets_171 rfl (lv_at hl 6 rfl) ?_
                  refine lv_i2l (v := (nI H0).toInt64) hx hb dX7_meets_172 rfl ?_
                  refine lv_topl (fun f ef => ?_)
                  obtain rfl : f = lN H0 := ef.trans (nI_l (by omega))
                  refine lv_iload_n hx hb dX7_meets_173 rfl (lv_at hl 6 rfl) ?_
                  refine lv_i2l (v := (nI H0).toInt64) hx hb dX7_meets_174 rfl ?_
                  refine lv_topl (fun f ef => ?_)
                  obtain rfl : f = lN H0 := ef.trans (nI_l (by omega))
                  refine lv_lmul hx hb dX7_meets_175 ?_
                  refine lv_topl (fun f ef => ?_)
                  obtain rfl : f = lN (H0 * H0) := ef.trans (lN_mul _ _)
                  refine lv_goto (tgt := 181) hx hb dX7_meets_176 (by decide) ?_
                  exact hJ_181 _ (by first | rw [if_pos c_168] | rw [if_neg c_168])
            · refine lv_icmp_ne (tgt := 162) hx hb dX7_meets_151 (by decide) (fun c_151 => ?_) (fun c_151 => ?_)
              · have c_151 : w ≠ 2 := g_ne (a := w) (b := 2) c_151 (by omega) (by omega)
                refine lv_iload_n hx hb dX7_meets_162 rfl (lv_at hl 4 rfl) ?_
                refine lv_i2l (v := (nI L0).toInt64) hx hb dX7_meets_163 rfl ?_
                refine lv_topl (fun f ef => ?_)
                obtain rfl : f = lN L0 := ef.trans (nI_l (by omega))
                exact hJ_164 _ (by first | rw [if_pos c_151] | rw [if_neg c_151])
              · have c_151 : w = 2 := g_eq (a := w) (b := 2) c_151 (by omega) (by omega)
                refine lv_iload_n hx hb dX7_meets_154 rfl (lv_at hl 4 rfl) ?_
                refine lv_i2l (v := (nI L0).toInt64) hx hb dX7_meets_155 rfl ?_
                refine lv_topl (fun f ef => ?_)
                obtain rfl : f = lN L0 := ef.trans (nI_l (by omega))
                refine lv_iload_n hx hb dX7_meets_156 rfl (lv_at hl 4 rfl) ?_
                refine lv_i2l (v := (nI L0).toInt64) hx hb dX7_meets_157 rfl ?_
                refine lv_topl (fun f ef => ?_)
                obtain rfl : f = lN L0 := ef.trans (nI_l (by omega))
                refine lv_lmul hx hb dX7_meets_158 ?_
                refine lv_topl (fun f ef => ?_)
                obtain rfl : f = lN (L0 * L0) := ef.trans (lN_mul _ _)
                refine lv_goto (tgt := 164) hx hb dX7_meets_159 (by decide) ?_
                exact hJ_164 _ (by first | rw [if_pos c_151] | rw [if_neg c_151])
          · refine lv_if_ge (tgt := 143) hx hb dX7_meets_132 (by decide) (fun c_132 => ?_) (fun c_132 => ?_)
            · have c_132 : 0 ≤ u1.toInt := g_cmp_ge.mp c_132
              refine lv_aload_n hx hb dX7_meets_143 rfl (lv_at hl 1 rfl) ?_
              refine va_get (D := D) (ci := 8) (v := .long u1) (C := RX7) (T := TX7) (N := 20) hx hb hts inX7 hown hK hP 0 rfl rfl 18 (by decide) hfieldLink_RX7_103 (fun _ h9 => h9) rfl dX7_meets_144 ?_
              exact hJ_147 _ (L_pos (by omega))
            · have c_132 : ¬ 0 ≤ u1.toInt := fun h9 => c_132 (g_cmp_ge.mpr h9)
              refine lv_aload_n hx hb dX7_meets_135 rfl (lv_at hl 1 rfl) ?_
              refine va_get (D := D) (ci := 8) (v := .long u1) (C := RX7) (T := TX7) (N := 20) hx hb hts inX7 hown hK hP 0 rfl rfl 18 (by decide) hfieldLink_RX7_103 (fun _ h9 => h9) rfl dX7_meets_136 ?_
              refine lv_lneg hx hb dX7_meets_139 ?_
              refine lv_goto (tgt := 147) hx hb dX7_meets_140 (by decide) ?_
              exact hJ_147 _ (L_neg (by omega) (by omega))
        · refine lv_if_ge (tgt := 120) hx hb dX7_meets_109 (by decide) (fun c_109 => ?_) (fun c_109 => ?_)
          · have c_109 : 0 ≤ o1.toInt := g_cmp_ge.mp c_109
            refine lv_aload_n hx hb dX7_meets_120 rfl (lv_at hl 0 rfl) ?_
            refine va_get (D := D) (ci := 8) (v := .long o1) (C := RX7) (T := TX7) (N := 20) hx hb hts inX7 hown hK hP 0 rfl rfl 17 (by decide) hfieldLink_RX7_99 (fun _ h9 => h9) rfl dX7_meets_121 ?_
            exact hJ_124 _ (L_pos (by omega))
          · have c_109 : ¬ 0 ≤ o1.toInt := fun h9 => c_109 (g_cmp_ge.mpr h9)
            refine lv_aload_n hx hb dX7_meets_112 rfl (lv_at hl 0 rfl) ?_
            refine va_get (D := D) (ci := 8) (v := .long o1) (C := RX7) (T := TX7) (N := 20) hx hb hts inX7 hown hK hP 0 rfl rfl 17 (by decide) hfieldLink_RX7_99 (fun _ h9 => h9) rfl dX7_meets_113 ?_
            refine lv_lneg hx hb dX7_meets_116 ?_
            refine lv_goto (tgt := 124) hx hb dX7_meets_117 (by decide) ?_
            exact hJ_124 _ (L_neg (by omega) (by omega))
      · have c_63 : k < C := g_nle (a := C) (b := k) c_63 (by omega) (by omega)
        refine lv_iload hx hb dX7_meets_66 (lv_at hl 4 rfl) ?_
        refine lv_if_eq (tgt := 89) hx hb dX7_meets_68 (by decide) (fun c_68 => ?_) (fun c_68 => ?_)
        · refine lv_iconst (v := 0) hx hb dX7_meets_89 (by decide) ?_
          refine lv_topi (fun f ef => ?_)
          obtain rfl : f = stM mc mo (k + 1) := ef.trans (by rw [stM_s]; first | rw [if_pos c_68] | (rw [if_neg c_68]; first | exact c_82.symm | exact ((mStab_01 _ _).resolve_left c_82).symm))
          refine lv_istore (lv' := [(4, .int (stM mc mo (k + 1))), (0, .ref (M 0)), (1, .int (nI w)), (2, .int (nI L0)), (3, .int (nI H0)), (5, .int (nI k))]) hx hb dX7_meets_90 hl (by decide) rfl (fun ls hl => ?_)
          refine lv_iinc (v := nI (k + 1)) (lv' := [(5, .int (nI (k + 1))), (4, .int (stM mc mo (k + 1))), (0, .ref (M 0)), (1, .int (nI w)), (2, .int (nI L0)), (3, .int (nI H0))]) hx hb dX7_meets_92 hl (k := 5) rfl (by exact nI_1 _) (by decide) rfl (fun ls hl => ?_)
          refine lv_goto (tgt := 57) hx hb dX7_meets_95 (by decide) ?_
          refine W.widen (k := 0) (n := 0) (Nat.le_refl _) (Nat.le_refl _) ?_
          exact ih_57 (k + 1) _ _ _ (show (k + 1) ≤ C from (by exact c_63)) (show C - (k + 1) < C - k by omega) hP hD hS (lv_sub hl [2, 3, 4, 5, 1, 0] rfl)
        · refine lv_aload_n hx hb dX7_meets_71 rfl (lv_at hl 0 rfl) ?_
          refine lv_aload_n hx hb dX7_meets_72 rfl (lv_at hl 0 rfl) ?_
          refine va_get (D := D) (ci := 8) (v := .ref (M 4)) (C := RX7) (T := TX7) (N := 20) hx hb hts inX7 hown hK hP 0 rfl rfl 4 (by decide) hfieldLink_RX7_19 (fun _ h9 => h9) rfl dX7_meets_73 ?_
          refine lv_iload hx hb dX7_meets_76 (lv_at hl 5 rfl) ?_
          refine va_iald hx hb hK hP 4 0 rfl rfl (vp_in_nI (by omega) (by omega)) dX7_meets_78 ?_
          refine lv_topi (fun f ef => ?_)
          obtain rfl : f = mo k := ef.trans (congrArg mo (nI_clamp (n := k) (by omega)))
          refine lv_topi (fun f ef => ?_)
          obtain rfl : f = nI (gN (mo k)) := ef.trans ((hO k c_63).2)
          have hPc := hP.sub (ws' := [(M 0, .inr (8, [.ref (M 1), .ref (M 2), .ref (M 3), .int mn, .ref (M 4), .int (nI C), .ref (M 5), .int mk, .ref (M 6), .ref (M 7), .ref (M 8), .int my, .ref (M 9), .ref (M 10), .int cy, .int lo, .int gr, .long ov, .long un, .int (gGo (if isIn (nI w) 0 2 = 0 then 0 else if isIn (nI L0) 0 10000 = 0 then 0 else isIn (nI H0) (nI L0) 10000) (if C ≤ (if (nI w) = 2 then 2 else 4) then 1 else 0) 1)])), (M 1, .inl (cI, 40, .inl mc)), (M 2, .inl (cI, 32, .inl ms)), (M 3, .inl (cI, 8, .inl mw)), (M 4, .inl (cI, 8, .inl mo)), (M 5, .inl (cI, 16, .inl mu)), (M 6, .inl (cI, 32, .inl mt)), (M 7, .inl (cI, 32, .inl mq)), (M 8, .inl (cI, 64, .inl mp)), (M 9, .inl (cI, 40401, .inl mf)), (M 10, .inl (cI, 40401, .inl ma))]) [0, 1, 2, 3, 4, 5, 6, 7, 8, 9, 10] rfl
          have hDc := hD.sub (ws' := [(M 0, .inr (8, [.ref (M 1), .ref (M 2), .ref (M 3), .int mn, .ref (M 4), .int (nI C), .ref (M 5), .int mk, .ref (M 6), .ref (M 7), .ref (M 8), .int my, .ref (M 9), .ref (M 10), .int cy, .int lo, .int gr, .long ov, .long un, .int (gGo (if isIn (nI w) 0 2 = 0 then 0 else if isIn (nI L0) 0 10000 = 0 then 0 else isIn (nI H0) (nI L0) 10000) (if C ≤ (if (nI w) = 2 then 2 else 4) then 1 else 0) 1)])), (M 1, .inl (cI, 40, .inl mc)), (M 2, .inl (cI, 32, .inl ms)), (M 3, .inl (cI, 8, .inl mw)), (M 4, .inl (cI, 8, .inl mo)), (M 5, .inl (cI, 16, .inl mu)), (M 6, .inl (cI, 32, .inl mt)), (M 7, .inl (cI, 32, .inl mq)), (M 8, .inl (cI, 64, .inl mp)), (M 9, .inl (cI, 40401, .inl mf)), (M 10, .inl (cI, 40401, .inl ma))]) [0, 1, 2, 3, 4, 5, 6, 7, 8, 9, 10] (by decide) rfl
          have hFc := va_free (wc := [(M 0, .inr (8, [.ref (M 1), .ref (M 2), .ref (M 3), .int mn, .ref (M 4), .int (nI C), .ref (M 5), .int mk, .ref (M 6), .ref (M 7), .ref (M 8), .int my, .ref (M 9), .ref (M 10), .int cy, .int lo, .int gr, .long ov, .long un, .int (gGo (if isIn (nI w) 0 2 = 0 then 0 else if isIn (nI L0) 0 10000 = 0 then 0 else isIn (nI H0) (nI L0) 10000) (if C ≤ (if (nI w) = 2 then 2 else 4) then 1 else 0) 1)])), (M 1, .inl (cI, 40, .inl mc)), (M 2, .inl (cI, 32, .inl ms)), (M 3, .inl (cI, 8, .inl mw)), (M 4, .inl (cI, 8, .inl mo)), (M 5, .inl (cI, 16, .inl mu)), (M 6, .inl (cI, 32, .inl mt)), (M 7, .inl (cI, 32, .inl mq)), (M 8, .inl (cI, 64, .inl mp)), (M 9, .inl (cI, 40401, .inl mf)), (M 10, .inl (cI, 40401, .inl ma))]) hD hS hA [0, 1, 2, 3, 4, 5, 6, 7, 8, 9, 10] rfl
          refine g_Vi (As := [.int (nI (gN (mo k)))]) (rest := []) CF (c_X7_isStable l D cI cJ cO df H.size M mc ms mw mn mo (nI C) mu mk mt mq mp my mf ma cy lo gr ov un (gGo (if isIn (nI w) 0 2 = 0 then 0 else if isIn (nI L0) 0 10000 = 0 then 0 else isIn (nI H0) (nI L0) 10000) (if C ≤ (if (nI w) = 2 then 2 else 4) then 1 else 0) 1) (gN (mo k)) ((hO k c_63).1)) (cwV 1 hts gX7_meets_X7_isStable rfl rfl rfl (by decide +kernel) ⟨Nat.le_of_ble_eq_true rfl, Nat.le_of_ble_eq_true rfl⟩) (va_recv hK hP (ci := 8) (q0 := 0) rfl rfl) hPc hK hDc hV hH hS hFc rfl hl.1 rfl (Nat.le_of_ble_eq_true rfl) dX7_meets_79 ⟨Nat.le_of_ble_eq_true rfl, Nat.le_of_ble_eq_true rfl⟩ (fun r_79 w1 H1 locs1 hq hP1 hD1 hk hS hz => ?_)
          obtain ⟨rfl, hr_79⟩ := hq
          have hP := g_keepR hP hD [0, 1, 2, 3, 4, 5, 6, 7, 8, 9, 10] rfl hk hP1
          clear hPc hDc hFc hP1 hD1 hk hz
          generalize H1 = H at hP hS ⊢
          have hP : va_P D ccl (mW cI M mc ms mw mn mo (nI C) mu mk mt mq mp my mf ma cy lo gr ov un (gGo (if isIn (nI w) 0 2 = 0 then 0 else if isIn (nI L0) 0 10000 = 0 then 0 else isIn (nI H0) (nI L0) 10000) (if C ≤ (if (nI w) = 2 then 2 else 4) then 1 else 0) 1)) H := hP
          have hD : va_D A (mW cI M mc ms mw mn mo (nI C) mu mk mt mq mp my mf ma cy lo gr ov un (gGo (if isIn (nI w) 0 2 = 0 then 0 else if isIn (nI L0) 0 10000 = 0 then 0 else isIn (nI H0) (nI L0) 10000) (if C ≤ (if (nI w) = 2 then 2 else 4) then 1 else 0) 1)) := hD
          subst hr_79
          refine lv_if_eq (tgt := 89) hx hb dX7_meets_82 (by decide) (fun c_82 => ?_) (fun c_82 => ?_)
          · refine lv_iconst (v := 0) hx hb dX7_meets_89 (by decide) ?_
            refine lv_topi (fun f ef => ?_)
            obtain rfl : f = stM mc mo (k + 1) := ef.trans (by rw [stM_s]; first | rw [if_pos c_68] | (rw [if_neg c_68]; first | exact c_82.symm | exact ((mStab_01 _ _).resolve_left c_82).symm))
            refine lv_istore (lv' := [(4, .int (stM mc mo (k + 1))), (0, .ref (M 0)), (1, .int (nI w)), (2, .int (nI L0)), (3, .int (nI H0)), (5, .int (nI k))]) hx hb dX7_meets_90 hl (by decide) rfl (fun ls hl => ?_)
            refine lv_iinc (v := nI (k + 1)) (lv' := [(5, .int (nI (k + 1))), (4, .int (stM mc mo (k + 1))), (0, .ref (M 0)), (1, .int (nI w)), (2, .int (nI L0)), (3, .int (nI H0))]) hx hb dX7_meets_92 hl (k := 5) rfl (by exact nI_1 _) (by decide) rfl (fun ls hl => ?_)
            refine lv_goto (tgt := 57) hx hb dX7_meets_95 (by decide) ?_
            refine W.widen (k := 0) (n := 0) (Nat.le_refl _) (Nat.le_refl _) ?_
            exact ih_57 (k + 1) _ _ _ (show (k + 1) ≤ C from (by exact c_63)) (show C - (k + 1) < C - k by omega) hP hD hS (lv_sub hl [2, 3, 4, 5, 1, 0] rfl)
          · refine lv_iconst (v := 1) hx hb dX7_meets_85 (by decide) ?_
            refine lv_goto (tgt := 90) hx hb dX7_meets_86 (by decide) ?_
            refine lv_topi (fun f ef => ?_)
            obtain rfl : f = stM mc mo (k + 1) := ef.trans (by rw [stM_s]; first | rw [if_pos c_68] | (rw [if_neg c_68]; first | exact c_82.symm | exact ((mStab_01 _ _).resolve_left c_82).symm))
            refine lv_istore (lv' := [(4, .int (stM mc mo (k + 1))), (0, .ref (M 0)), (1, .int (nI w)), (2, .int (nI L0)), (3, .int (nI H0)), (5, .int (nI k))]) hx hb dX7_meets_90 hl (by decide) rfl (fun ls hl => ?_)
            refine lv_iinc (v := nI (k + 1)) (lv' := [(5, .int (nI (k + 1))), (4, .int (stM mc mo (k + 1))), (0, .ref (M 0)), (1, .int (nI w)), (2, .int (nI L0)), (3, .int (nI H0))]) hx hb dX7_meets_92 hl (k := 5) rfl (by exact nI_1 _) (by decide) rfl (fun ls hl => ?_)
            refine lv_goto (tgt := 57) hx hb dX7_meets_95 (by decide) ?_
            refine W.widen (k := 0) (n := 0) (Nat.le_refl _) (Nat.le_refl _) ?_
            exact ih_57 (k + 1) _ _ _ (show (k + 1) ≤ C from (by exact c_63)) (show C - (k + 1) < C - k by omega) hP hD hS (lv_sub hl [2, 3, 4, 5, 1, 0] rfl)
    · have c_46 : ¬ (gGo (if isIn wr 0 2 = 0 then 0 else if isIn lw 0 10000 = 0 then 0 else isIn hg lw 10000) (if C ≤ (if wr = 2 then 2 else 4) then 1 else 0) 1 = 0) := g_b0 c_46
      refine lv_iconst (v := 0) hx hb dX7_meets_49 (by decide) ?_
      refine g_zret (v := 0) hx hb hr hlk hP hK hD hS (Nat.le_of_ble_eq_true rfl) (Nat.le_of_ble_eq_true rfl) dX7_meets_50 (by decide +kernel) ?_
      exact ⟨_, _, rfl, fun h => absurd h c_46⟩
  · refine lv_if_eq (tgt := 36) hx hb dX7_meets_7 (by decide) (fun c_7 => ?_) (fun c_7 => ?_)
    · refine lv_iconst (v := 0) hx hb dX7_meets_36 (by decide) ?_
      exact hJ_37 _ _ _ (by simp [c_7]) hP hD hS
    · refine lv_iload_n hx hb dX7_meets_10 rfl (lv_at hl 2 rfl) ?_
      refine lv_iconst (v := 0) hx hb dX7_meets_11 (by decide) ?_
      refine lv_sipush (v := 10000) hx hb dX7_meets_12 (by decide) ?_
      have hPc : va_P D ccl [] H := fun k q h => by simp at h
      have hDc : va_D A [] := ⟨fun i j p q h => by simp at h, fun k q h => by simp at h⟩
      have hFc := va_free (wc := []) hD hS hA [] rfl
      refine g_Si (As := [.int lw, .int 0, .int 10000]) (rest := [.ref (M 0)]) CF (c_X7_in l D cI cJ cO df H.size lw 0 10000 ) (va_cwS 3 hts gX7_meets_X7_in rfl rfl rfl (by decide +kernel) ⟨Nat.le_of_ble_eq_true rfl, Nat.le_of_ble_eq_true rfl⟩)  hPc hK hDc hV hH hS hFc rfl hl.1 rfl (Nat.le_of_ble_eq_true rfl) dX7_meets_15 ⟨Nat.le_of_ble_eq_true rfl, Nat.le_of_ble_eq_true rfl⟩ (fun r_15 w1 H1 locs1 hq hP1 hD1 hk hS hz => ?_)
      obtain ⟨rfl, hr_15⟩ := hq
      have hP := g_keep0 hP hk
      clear hPc hDc hFc hP1 hD1 hk hz
      generalize H1 = H at hP hS ⊢
      have hP : va_P D ccl (mW cI M mc ms mw mn mo (nI C) mu mk mt mq mp my mf ma cy lo gr ov un la) H := hP
      have hD : va_D A (mW cI M mc ms mw mn mo (nI C) mu mk mt mq mp my mf ma cy lo gr ov un la) := hD
      subst hr_15
      refine lv_if_eq (tgt := 36) hx hb dX7_meets_18 (by decide) (fun c_18 => ?_) (fun c_18 => ?_)
      · refine lv_iconst (v := 0) hx hb dX7_meets_36 (by decide) ?_
        exact hJ_37 _ _ _ (by simp [c_7, c_18]) hP hD hS
      · refine lv_iload_n hx hb dX7_meets_21 rfl (lv_at hl 3 rfl) ?_
        refine lv_iload_n hx hb dX7_meets_22 rfl (lv_at hl 2 rfl) ?_
        refine lv_sipush (v := 10000) hx hb dX7_meets_23 (by decide) ?_
        have hPc : va_P D ccl [] H := fun k q h => by simp at h
        have hDc : va_D A [] := ⟨fun i j p q h => by simp at h, fun k q h => by simp at h⟩
        have hFc := va_free (wc := []) hD hS hA [] rfl
        refine g_Si (As := [.int hg, .int lw, .int 10000]) (rest := [.ref (M 0)]) CF (c_X7_in l D cI cJ cO df H.size hg lw 10000 ) (va_cwS 3 hts gX7_meets_X7_in rfl rfl rfl (by decide +kernel) ⟨Nat.le_of_ble_eq_true rfl, Nat.le_of_ble_eq_true rfl⟩)  hPc hK hDc hV hH hS hFc rfl hl.1 rfl (Nat.le_of_ble_eq_true rfl) dX7_meets_26 ⟨Nat.le_of_ble_eq_true rfl, Nat.le_of_ble_eq_true rfl⟩ (fun r_26 w1 H1 locs1 hq hP1 hD1 hk hS hz => ?_)
        obtain ⟨rfl, hr_26⟩ := hq
        have hP := g_keep0 hP hk
        clear hPc hDc hFc hP1 hD1 hk hz
        generalize H1 = H at hP hS ⊢
        have hP : va_P D ccl (mW cI M mc ms mw mn mo (nI C) mu mk mt mq mp my mf ma cy lo gr ov un la) H := hP
        have hD : va_D A (mW cI M mc ms mw mn mo (nI C) mu mk mt mq mp my mf ma cy lo gr ov un la) := hD
        subst hr_26
        refine lv_if_eq (tgt := 36) hx hb dX7_meets_29 (by decide) (fun c_29 => ?_) (fun c_29 => ?_)
        · refine lv_iconst (v := 0) hx hb dX7_meets_36 (by decide) ?_
          exact hJ_37 _ _ _ (by first | (simp [c_7, c_18, c_29]; done) | exact ((if_neg c_7).trans ((if_neg c_18).trans ((isIn_01 _ _ _).resolve_left c_29))).symm) hP hD hS
        · refine lv_iconst (v := 1) hx hb dX7_meets_32 (by decide) ?_
          refine lv_goto (tgt := 37) hx hb dX7_meets_33 (by decide) ?_
          exact hJ_37 _ _ _ (by first | (simp [c_7, c_18, c_29]; done) | exact ((if_neg c_7).trans ((if_neg c_18).trans ((isIn_01 _ _ _).resolve_left c_29))).symm) hP hD hS
