set_option maxHeartbeats 4000000 in
set_option maxRecDepth 100000 in
theorem c_X7_cycles (l : Launch) (D : va_G) (cI cJ cO : ClassId) (df sz : Nat) (M : Nat → Nat) (mc : Nat → Int32) (ms : Nat → Int32) (mw : Nat → Int32) (mo : Nat → Int32) (mh : Int32) (mu : Nat → Int32) (mk : Int32) (mt : Nat → Int32) (mq : Nat → Int32) (mp : Nat → Int32) (my : Int32) (mf : Nat → Int32) (ma : Nat → Int32) (cy : Int32) (lo : Int32) (gr : Int32) (ov : Int64) (un : Int64) (la : Int32) (N : Nat) (j : Int32) (rr : Int32) (wh : Int32) (hN : N ≤ 8) : MetI l yX7_cycles wsX7_cycles ({ frames := 4, cells := 0, slots := 0, locals := 97 } : Room) D (gTY cI cJ cO) df (mW cI M mc ms mw (nI N) mo mh mu mk mt mq mp my mf ma cy lo gr ov un la) sz [.ref (M 0), .int j, .int rr, .int wh] (fun (r : Int32) (wZ : va_W) => ∃ (f2 : Nat → Int32), ∃ (p2 : Nat → Int32), ∃ (c2 : Int32), ∃ (l2 : Int32), ∃ (g2 : Int32), wZ = mW cI M mc ms mw (nI N) mo mh mu mk mt mq mp my f2 p2 c2 l2 g2 ov un (gGo (isSec N j) (if isIn rr 1 12 = 0 then 0 else isIn wh 0 3) 1) ∧ (gGo (isSec N j) (if isIn rr 1 12 = 0 then 0 else isIn wh 0 3) 1 = 0 → ∃ (A9 : Nat → Nat) (c9 l9 g9 e9 : Nat), crun (nxO mc mw (gN j)) (otn (gN rr) (2 * gN rr + 1)) A9 c9 l9 g9 e9 ∧ r = nI (pick (gN wh) c9 l9 g9 e9))) := by
  refine g_of (cc := cX7_cycles) (nL := 8) (ret := (some .int)) (D := D) (TY := (gTY cI cJ cO)) (df := df) (Qc := fun A => va_Qi (fun (r : Int32) (wZ : va_W) => ∃ (f2 : Nat → Int32), ∃ (p2 : Nat → Int32), ∃ (c2 : Int32), ∃ (l2 : Int32), ∃ (g2 : Int32), wZ = mW cI M mc ms mw (nI N) mo mh mu mk mt mq mp my f2 p2 c2 l2 g2 ov un (gGo (isSec N j) (if isIn rr 1 12 = 0 then 0 else isIn wh 0 3) 1) ∧ (gGo (isSec N j) (if isIn rr 1 12 = 0 then 0 else isIn wh 0 3) 1 = 0 → ∃ (A9 : Nat → Nat) (c9 l9 g9 e9 : Nat), crun (nxO mc mw (gN j)) (otn (gN rr) (2 * gN rr + 1)) A9 c9 l9 g9 e9 ∧ r = nI (pick (gN wh) c9 l9 g9 e9))) (gB D (gTY cI cJ cO) A) A) (by decide +kernel) rfl (Nat.le_of_ble_eq_true rfl) ?_
  intro p e s m below meth c ls A hsz C0 hin hl
  obtain ⟨CF, hr, hlk, hA, hS, hP, hK, hD, hV, hH⟩ := C0
  have CF : CallFix p m c cX7_cycles 8 s _ wsX7_cycles RX7 := CF
  obtain ⟨hx, hb, hml, hown, hts⟩ := id CF
  subst hsz
  have hmethodLink_RX7_56 : (Cond.methodLink RX7 56 yX7_isSection).before _ s = true := hts _ (List.mem_of_getElem? (i := 6) rfl)
  have hmethodLink_RX7_48 : (Cond.methodLink RX7 48 yX7_in).before _ s = true := hts _ (List.mem_of_getElem? (i := 12) rfl)
  have hmethodLink_RX7_52 : (Cond.methodLink RX7 52 yX7_goes).before _ s = true := hts _ (List.mem_of_getElem? (i := 15) rfl)
  have hfieldLink_RX7_124 : (Cond.fieldLink RX7 124 "TapLoomModel" "cycles" "I").before _ s = true := hts _ (List.mem_of_getElem? (i := 1) rfl)
  have hfieldLink_RX7_127 : (Cond.fieldLink RX7 127 "TapLoomModel" "longest" "I").before _ s = true := hts _ (List.mem_of_getElem? (i := 2) rfl)
  have hfieldLink_RX7_130 : (Cond.fieldLink RX7 130 "TapLoomModel" "greatest" "I").before _ s = true := hts _ (List.mem_of_getElem? (i := 3) rfl)
  have hconstant_RX7_34 : (Cond.constant RX7 34 (40401)).before _ s = true := hts _ (List.mem_of_getElem? (i := 4) rfl)
  have hfieldLink_RX7_35 : (Cond.fieldLink RX7 35 "TapLoomModel" "fates" "[I").before _ s = true := hts _ (List.mem_of_getElem? (i := 5) rfl)
  have hmethodLink_RX7_133 : (Cond.methodLink RX7 133 yX7_walks).before _ s = true := hts _ (List.mem_of_getElem? (i := 20) rfl)
  have inX7 : ∀ w ∈ u_ws RX7 TX7 20, w ∈ wsX7_cycles := fun w h => (List.mem_cons_of_mem _ (List.mem_append_right _ h))
  have hP : va_P D ccl (mW cI M mc ms mw (nI N) mo mh mu mk mt mq mp my mf ma cy lo gr ov un la) s.heap := hP
  have hl : lv_has ls 8 [(0, .ref (M 0)), (1, .int j), (2, .int rr), (3, .int wh)] := hl
  refine lv_aload_n hx hb dX7_cycles_0 rfl (lv_at hl 0 rfl) ?_
  refine lv_aload_n hx hb dX7_cycles_1 rfl (lv_at hl 0 rfl) ?_
  refine lv_iload_n hx hb dX7_cycles_2 rfl (lv_at hl 1 rfl) ?_
  have hPc := hP.sub (ws' := [(M 0, .inr (8, [.ref (M 1), .ref (M 2), .ref (M 3), .int (nI N), .ref (M 4), .int mh, .ref (M 5), .int mk, .ref (M 6), .ref (M 7), .ref (M 8), .int my, .ref (M 9), .ref (M 10), .int cy, .int lo, .int gr, .long ov, .long un, .int la])), (M 1, .inl (cI, 40, .inl mc)), (M 2, .inl (cI, 32, .inl ms)), (M 3, .inl (cI, 8, .inl mw)), (M 4, .inl (cI, 8, .inl mo)), (M 5, .inl (cI, 16, .inl mu)), (M 6, .inl (cI, 32, .inl mt)), (M 7, .inl (cI, 32, .inl mq)), (M 8, .inl (cI, 64, .inl mp)), (M 9, .inl (cI, 40401, .inl mf)), (M 10, .inl (cI, 40401, .inl ma))]) [0, 1, 2, 3, 4, 5, 6, 7, 8, 9, 10] rfl
  have hDc := hD.sub (ws' := [(M 0, .inr (8, [.ref (M 1), .ref (M 2), .ref (M 3), .int (nI N), .ref (M 4), .int mh, .ref (M 5), .int mk, .ref (M 6), .ref (M 7), .ref (M 8), .int my, .ref (M 9), .ref (M 10), .int cy, .int lo, .int gr, .long ov, .long un, .int la])), (M 1, .inl (cI, 40, .inl mc)), (M 2, .inl (cI, 32, .inl ms)), (M 3, .inl (cI, 8, .inl mw)), (M 4, .inl (cI, 8, .inl mo)), (M 5, .inl (cI, 16, .inl mu)), (M 6, .inl (cI, 32, .inl mt)), (M 7, .inl (cI, 32, .inl mq)), (M 8, .inl (cI, 64, .inl mp)), (M 9, .inl (cI, 40401, .inl mf)), (M 10, .inl (cI, 40401, .inl ma))]) [0, 1, 2, 3, 4, 5, 6, 7, 8, 9, 10] (by decide) rfl
  have hFc := va_free (wc := [(M 0, .inr (8, [.ref (M 1), .ref (M 2), .ref (M 3), .int (nI N), .ref (M 4), .int mh, .ref (M 5), .int mk, .ref (M 6), .ref (M 7), .ref (M 8), .int my, .ref (M 9), .ref (M 10), .int cy, .int lo, .int gr, .long ov, .long un, .int la])), (M 1, .inl (cI, 40, .inl mc)), (M 2, .inl (cI, 32, .inl ms)), (M 3, .inl (cI, 8, .inl mw)), (M 4, .inl (cI, 8, .inl mo)), (M 5, .inl (cI, 16, .inl mu)), (M 6, .inl (cI, 32, .inl mt)), (M 7, .inl (cI, 32, .inl mq)), (M 8, .inl (cI, 64, .inl mp)), (M 9, .inl (cI, 40401, .inl mf)), (M 10, .inl (cI, 40401, .inl ma))]) hD hS hA [0, 1, 2, 3, 4, 5, 6, 7, 8, 9, 10] rfl
  refine g_Vi (As := [.int j]) (rest := [.ref (M 0)]) CF (c_X7_isSection l D cI cJ cO df s.heap.size M mc ms mw mo mh mu mk mt mq mp my mf ma cy lo gr ov un la N j (by omega)) (cwV 1 hts gX7_cycles_X7_isSection rfl rfl rfl (by decide +kernel) ⟨Nat.le_of_ble_eq_true rfl, Nat.le_of_ble_eq_true rfl⟩) (va_recv hK hP (ci := 8) (q0 := 0) rfl rfl) hPc hK hDc hV hH hS hFc rfl hl.1 rfl (Nat.le_of_ble_eq_true rfl) dX7_cycles_3 ⟨Nat.le_of_ble_eq_true rfl, Nat.le_of_ble_eq_true rfl⟩ (fun r_3 w1 H1 locs1 hq hP1 hD1 hk hS hz => ?_)
  obtain ⟨rfl, hr_3⟩ := hq
  have hP := g_keepR hP hD [0, 1, 2, 3, 4, 5, 6, 7, 8, 9, 10] rfl hk hP1
  clear hPc hDc hFc hP1 hD1 hk hz
  generalize H1 = H at hP hS ⊢
  have hP : va_P D ccl (mW cI M mc ms mw (nI N) mo mh mu mk mt mq mp my mf ma cy lo gr ov un la) H := hP
  have hD : va_D A (mW cI M mc ms mw (nI N) mo mh mu mk mt mq mp my mf ma cy lo gr ov un la) := hD
  subst hr_3
  refine lv_iload_n hx hb dX7_cycles_6 rfl (lv_at hl 2 rfl) ?_
  refine lv_iconst (v := 1) hx hb dX7_cycles_7 (by decide) ?_
  refine lv_bipush (v := 12) hx hb dX7_cycles_8 (by decide) ?_
  have hPc : va_P D ccl [] H := fun k q h => by simp at h
  have hDc : va_D A [] := ⟨fun i j p q h => by simp at h, fun k q h => by simp at h⟩
  have hFc := va_free (wc := []) hD hS hA [] rfl
  refine g_Si (As := [.int rr, .int 1, .int 12]) (rest := [.int (isSec N j), .ref (M 0)]) CF (c_X7_in l D cI cJ cO df H.size rr 1 12 ) (va_cwS 3 hts gX7_cycles_X7_in rfl rfl rfl (by decide +kernel) ⟨Nat.le_of_ble_eq_true rfl, Nat.le_of_ble_eq_true rfl⟩)  hPc hK hDc hV hH hS hFc rfl hl.1 rfl (Nat.le_of_ble_eq_true rfl) dX7_cycles_10 ⟨Nat.le_of_ble_eq_true rfl, Nat.le_of_ble_eq_true rfl⟩ (fun r_10 w1 H1 locs1 hq hP1 hD1 hk hS hz => ?_)
  obtain ⟨rfl, hr_10⟩ := hq
  have hP := g_keep0 hP hk
  clear hPc hDc hFc hP1 hD1 hk hz
  generalize H1 = H at hP hS ⊢
  have hP : va_P D ccl (mW cI M mc ms mw (nI N) mo mh mu mk mt mq mp my mf ma cy lo gr ov un la) H := hP
  have hD : va_D A (mW cI M mc ms mw (nI N) mo mh mu mk mt mq mp my mf ma cy lo gr ov un la) := hD
  subst hr_10
  refine g_phiHi (ls := ls) (J := 30) (st1 := [.int (isSec N j), .ref (M 0)]) (REL := fun b => b = if isIn rr 1 12 = 0 then 0 else isIn wh 0 3) (D := D) (A := A) (H0 := s.heap) (Ws := (mW cI M mc ms mw (nI N) mo mh mu mk mt mq mp my mf ma cy lo gr ov un la)) (fun b H locs hb_30 hP hD hS => ?_) (fun hJ_30 => ?_)
  · subst hb_30
    refine lv_iconst (v := 1) hx hb dX7_cycles_30 (by decide) ?_
    have hPc := hP.sub (ws' := [(M 0, .inr (8, [.ref (M 1), .ref (M 2), .ref (M 3), .int (nI N), .ref (M 4), .int mh, .ref (M 5), .int mk, .ref (M 6), .ref (M 7), .ref (M 8), .int my, .ref (M 9), .ref (M 10), .int cy, .int lo, .int gr, .long ov, .long un, .int la])), (M 1, .inl (cI, 40, .inl mc)), (M 2, .inl (cI, 32, .inl ms)), (M 3, .inl (cI, 8, .inl mw)), (M 4, .inl (cI, 8, .inl mo)), (M 5, .inl (cI, 16, .inl mu)), (M 6, .inl (cI, 32, .inl mt)), (M 7, .inl (cI, 32, .inl mq)), (M 8, .inl (cI, 64, .inl mp)), (M 9, .inl (cI, 40401, .inl mf)), (M 10, .inl (cI, 40401, .inl ma))]) [0, 1, 2, 3, 4, 5, 6, 7, 8, 9, 10] rfl
    have hDc := hD.sub (ws' := [(M 0, .inr (8, [.ref (M 1), .ref (M 2), .ref (M 3), .int (nI N), .ref (M 4), .int mh, .ref (M 5), .int mk, .ref (M 6), .ref (M 7), .ref (M 8), .int my, .ref (M 9), .ref (M 10), .int cy, .int lo, .int gr, .long ov, .long un, .int la])), (M 1, .inl (cI, 40, .inl mc)), (M 2, .inl (cI, 32, .inl ms)), (M 3, .inl (cI, 8, .inl mw)), (M 4, .inl (cI, 8, .inl mo)), (M 5, .inl (cI, 16, .inl mu)), (M 6, .inl (cI, 32, .inl mt)), (M 7, .inl (cI, 32, .inl mq)), (M 8, .inl (cI, 64, .inl mp)), (M 9, .inl (cI, 40401, .inl mf)), (M 10, .inl (cI, 40401, .inl ma))]) [0, 1, 2, 3, 4, 5, 6, 7, 8, 9, 10] (by decide) rfl
    have hFc := va_free (wc := [(M 0, .inr (8, [.ref (M 1), .ref (M 2), .ref (M 3), .int (nI N), .ref (M 4), .int mh, .ref (M 5), .int mk, .ref (M 6), .ref (M 7), .ref (M 8), .int my, .ref (M 9), .ref (M 10), .int cy, .int lo, .int gr, .long ov, .long un, .int la])), (M 1, .inl (cI, 40, .inl mc)), (M 2, .inl (cI, 32, .inl ms)), (M 3, .inl (cI, 8, .inl mw)), (M 4, .inl (cI, 8, .inl mo)), (M 5, .inl (cI, 16, .inl mu)), (M 6, .inl (cI, 32, .inl mt)), (M 7, .inl (cI, 32, .inl mq)), (M 8, .inl (cI, 64, .inl mp)), (M 9, .inl (cI, 40401, .inl mf)), (M 10, .inl (cI, 40401, .inl ma))]) hD hS hA [0, 1, 2, 3, 4, 5, 6, 7, 8, 9, 10] rfl
    refine g_Vi (As := [.int (isSec N j), .int (if isIn rr 1 12 = 0 then 0 else isIn wh 0 3), .int 1]) (rest := []) CF (c_X7_goes l D cI cJ cO df H.size M mc ms mw (nI N) mo mh mu mk mt mq mp my mf ma cy lo gr ov un la (isSec N j) (if isIn rr 1 12 = 0 then 0 else isIn wh 0 3) 1 ) (cwV 3 hts gX7_cycles_X7_goes rfl rfl rfl (by decide +kernel) ⟨Nat.le_of_ble_eq_true rfl, Nat.le_of_ble_eq_true rfl⟩) (va_recv hK hP (ci := 8) (q0 := 0) rfl rfl) hPc hK hDc hV hH hS hFc rfl hl.1 rfl (Nat.le_of_ble_eq_true rfl) dX7_cycles_31 ⟨Nat.le_of_ble_eq_true rfl, Nat.le_of_ble_eq_true rfl⟩ (fun r_31 w1 H1 locs1 hq hP1 hD1 hk hS hz => ?_)
    obtain ⟨rfl, hr_31⟩ := hq
    obtain ⟨hP, hD⟩ := g_join (ws' := (mW cI M mc ms mw (nI N) mo mh mu mk mt mq mp my mf ma cy lo gr ov un (gGo (isSec N j) (if isIn rr 1 12 = 0 then 0 else isIn wh 0 3) 1))) hP hD hk hFc hP1 hD1 [0, 1, 2, 3, 4, 5, 6, 7, 8, 9, 10] [] [0, 1, 2, 3, 4, 5, 6, 7, 8, 9, 10] rfl rfl (by decide) (by decide) (by decide) rfl
    clear hPc hDc hFc hP1 hD1 hk hz
    generalize H1 = H at hP hS ⊢
    have hP : va_P D ccl (mW cI M mc ms mw (nI N) mo mh mu mk mt mq mp my mf ma cy lo gr ov un (gGo (isSec N j) (if isIn rr 1 12 = 0 then 0 else isIn wh 0 3) 1)) H := hP
    have hD : va_D A (mW cI M mc ms mw (nI N) mo mh mu mk mt mq mp my mf ma cy lo gr ov un (gGo (isSec N j) (if isIn rr 1 12 = 0 then 0 else isIn wh 0 3) 1)) := hD
    subst hr_31
    refine lv_if_ne (tgt := 39) hx hb dX7_cycles_34 (by decide) (fun c_34 => ?_) (fun c_34 => ?_)
    · have c_34 : gGo (isSec N j) (if isIn rr 1 12 = 0 then 0 else isIn wh 0 3) 1 = 0 := g_b1 c_34
      have hv0 := gGo_0 c_34
      obtain ⟨J, hJ, rfl⟩ := isSec_get hN hv0.1
      have hi1 : ¬ isIn rr 1 12 = 0 := fun h => hv0.2.1 (by rw [if_pos h])
      have hi2 : ¬ isIn wh 0 3 = 0 := fun h => hv0.2.1 (by rw [if_neg hi1]; exact h)
      obtain ⟨R0, hR1, hR2, rfl⟩ := isIn_nat2 (L := 1) (n := 12) (by decide) (by decide) hi1
      obtain ⟨w0, hw0, rfl⟩ := isIn_nat 3 (by decide) hi2
      refine lv_iconst (v := 0) hx hb dX7_cycles_39 (by decide) ?_
      refine lv_istore (lv' := [(4, .int 0), (0, .ref (M 0)), (1, .int (nI J)), (2, .int (nI R0)), (3, .int (nI w0))]) hx hb dX7_cycles_40 hl (by decide) rfl (fun ls hl => ?_)
      refine lv_aload_n hx hb dX7_cycles_42 rfl (lv_at hl 1 rfl) ?_
      refine lv_iconst (v := 0) hx hb dX7_cycles_43 (by decide) ?_
      refine va_put (D := D) (ci := 8) (v := .int 0) (ty := .int) (C := RX7) (T := TX7) (N := 20) hx hb hts inX7 tyX7 tyX7_ok nmX7 hown hK hP hD hS 0 rfl rfl 14 (by decide) hfieldLink_RX7_124 (fun _ h9 => h9) rfl (by decide +kernel) rfl rfl (Nat.le_of_ble_eq_true rfl) dX7_cycles_44 (fun H locs hP hD hS => ?_)
      have hP : va_P D ccl (mW cI M mc ms mw (nI N) mo mh mu mk mt mq mp my mf ma 0 lo gr ov un (gGo (isSec N (nI J)) (if isIn (nI R0) 1 12 = 0 then 0 else isIn (nI w0) 0 3) 1)) H := hP
      have hD : va_D A (mW cI M mc ms mw (nI N) mo mh mu mk mt mq mp my mf ma 0 lo gr ov un (gGo (isSec N (nI J)) (if isIn (nI R0) 1 12 = 0 then 0 else isIn (nI w0) 0 3) 1)) := hD
      refine lv_aload_n hx hb dX7_cycles_47 rfl (lv_at hl 1 rfl) ?_
      refine lv_iconst (v := 0) hx hb dX7_cycles_48 (by decide) ?_
      refine va_put (D := D) (ci := 8) (v := .int 0) (ty := .int) (C := RX7) (T := TX7) (N := 20) hx hb hts inX7 tyX7 tyX7_ok nmX7 hown hK hP hD hS 0 rfl rfl 15 (by decide) hfieldLink_RX7_127 (fun _ h9 => h9) rfl (by decide +kernel) rfl rfl (Nat.le_of_ble_eq_true rfl) dX7_cycles_49 (fun H locs hP hD hS => ?_)
      have hP : va_P D ccl (mW cI M mc ms mw (nI N) mo mh mu mk mt mq mp my mf ma 0 0 gr ov un (gGo (isSec N (nI J)) (if isIn (nI R0) 1 12 = 0 then 0 else isIn (nI w0) 0 3) 1)) H := hP
      have hD : va_D A (mW cI M mc ms mw (nI N) mo mh mu mk mt mq mp my mf ma 0 0 gr ov un (gGo (isSec N (nI J)) (if isIn (nI R0) 1 12 = 0 then 0 else isIn (nI w0) 0 3) 1)) := hD
      refine lv_aload_n hx hb dX7_cycles_52 rfl (lv_at hl 1 rfl) ?_
      refine lv_iconst (v := 0) hx hb dX7_cycles_53 (by decide) ?_
      refine va_put (D := D) (ci := 8) (v := .int 0) (ty := .int) (C := RX7) (T := TX7) (N := 20) hx hb hts inX7 tyX7 tyX7_ok nmX7 hown hK hP hD hS 0 rfl rfl 16 (by decide) hfieldLink_RX7_130 (fun _ h9 => h9) rfl (by decide +kernel) rfl rfl (Nat.le_of_ble_eq_true rfl) dX7_cycles_54 (fun H locs hP hD hS => ?_)
      have hP : va_P D ccl (mW cI M mc ms mw (nI N) mo mh mu mk mt mq mp my mf ma 0 0 0 ov un (gGo (isSec N (nI J)) (if isIn (nI R0) 1 12 = 0 then 0 else isIn (nI w0) 0 3) 1)) H := hP
      have hD : va_D A (mW cI M mc ms mw (nI N) mo mh mu mk mt mq mp my mf ma 0 0 0 ov un (gGo (isSec N (nI J)) (if isIn (nI R0) 1 12 = 0 then 0 else isIn (nI w0) 0 3) 1)) := hD
      refine lv_iconst (v := 0) hx hb dX7_cycles_57 (by decide) ?_
      refine lv_istore (lv' := [(5, .int 0), (4, .int 0), (0, .ref (M 0)), (1, .int (nI J)), (2, .int (nI R0)), (3, .int (nI w0))]) hx hb dX7_cycles_58 hl (by decide) rfl (fun ls hl => ?_)
      refine W.widen (k := 0) (n := 0) (Nat.le_refl _) (Nat.le_refl _) ?_
      refine g_while (σ := Nat × (Nat → Int32)) (st := []) (nL := 8) (fun z => match z with | (k, f1) => mW cI M mc ms mw (nI N) mo mh mu mk mt mq mp my f1 ma 0 0 0 ov un (gGo (isSec N (nI J)) (if isIn (nI R0) 1 12 = 0 then 0 else isIn (nI w0) 0 3) 1))
        (fun z => match z with | (k, f1) => [(0, .ref (M 0)), (1, .int (nI J)), (2, .int (nI R0)), (3, .int (nI w0)), (4, .int 0), (5, .int (nI k))])
        (fun z => match z with | (k, f1) => k ≤ 40401 ∧ f1 = zeroTo mf k)
        (fun z => match z with | (k, f1) => 40401 - k) (fun z => match z with | (k, f1) => 0) (fun z => match z with | (k, f1) => 0)
        ?_ (0, mf) ⟨Nat.zero_le _, zeroTo_0⟩ hP hD hS (lv_sub hl [2, 3, 4, 5, 1, 0] rfl)
      rintro ⟨k, f1⟩ hI H locs ls hP hD hS hl ih
      have hI : k ≤ 40401 ∧ f1 = zeroTo mf k := hI
      have hP : va_P D ccl (mW cI M mc ms mw (nI N) mo mh mu mk mt mq mp my f1 ma 0 0 0 ov un (gGo (isSec N (nI J)) (if isIn (nI R0) 1 12 = 0 then 0 else isIn (nI w0) 0 3) 1)) H := hP
      have hD : va_D A (mW cI M mc ms mw (nI N) mo mh mu mk mt mq mp my f1 ma 0 0 0 ov un (gGo (isSec N (nI J)) (if isIn (nI R0) 1 12 = 0 then 0 else isIn (nI w0) 0 3) 1)) := hD
      have hl : lv_has ls 8 [(0, .ref (M 0)), (1, .int (nI J)), (2, .int (nI R0)), (3, .int (nI w0)), (4, .int 0), (5, .int (nI k))] := hl
      change W p l e _ s m _ below meth c H locs 0 0 _ (F0 m 60 ls [])
      have ih_60 := ih
      clear ih
      obtain ⟨hk9, rfl⟩ := hI
      refine lv_iload hx hb dX7_cycles_60 (lv_at hl 5 rfl) ?_
      refine lv_ldc (v := 40401) hx hb hown hconstant_RX7_34 dX7_cycles_62 ?_
      refine lv_icmp_ge (tgt := 81) hx hb dX7_cycles_64 (by decide) (fun c_64 => ?_) (fun c_64 => ?_)
      · have c_64 : 40401 ≤ k := g_le (a := 40401) (b := k) c_64 (by omega) (by omega)
        obtain rfl : k = 40401 := by omega
        refine lv_iload_n hx hb dX7_cycles_81 rfl (lv_at hl 2 rfl) ?_
        refine lv_ineg hx hb dX7_cycles_82 ?_
        refine lv_topi (fun f ef => ?_)
        obtain rfl : f = nI 0 - nI R0 := ef.trans ((Int32.zero_sub _).symm)
        refine lv_istore (lv' := [(5, .int (nI 0 - nI R0)), (0, .ref (M 0)), (1, .int (nI J)), (2, .int (nI R0)), (3, .int (nI w0)), (4, .int 0)]) hx hb dX7_cycles_83 hl (by decide) rfl (fun ls hl => ?_)
        refine W.widen (k := 0) (n := 0) (Nat.le_refl _) (Nat.le_refl _) ?_
        refine g_while (σ := Nat × (Nat → Int32) × (Nat → Int32) × Nat × Nat × Nat × Nat) (st := []) (nL := 8) (fun z => match z with | (u, f1, p1, c1, l1, g1, e1) => mW cI M mc ms mw (nI N) mo mh mu mk mt mq mp my f1 p1 (nI c1) (nI l1) (nI g1) ov un (gGo (isSec N (nI J)) (if isIn (nI R0) 1 12 = 0 then 0 else isIn (nI w0) 0 3) 1))
          (fun z => match z with | (u, f1, p1, c1, l1, g1, e1) => [(0, .ref (M 0)), (1, .int (nI J)), (2, .int (nI R0)), (3, .int (nI w0)), (4, .int (nI e1)), (5, .int (nI u - nI R0))])
          (fun z => match z with | (u, f1, p1, c1, l1, g1, e1) => u ≤ 2 * R0 + 1 ∧ crun (nxO mc mw J) (otn R0 u) (kA f1) c1 l1 g1 e1 ∧ fOK f1 c1 ∧ c1 ≤ 25 * u ∧ l1 ≤ 40401 ∧ g1 ≤ 200 ∧ e1 ≤ 25 * u)
          (fun z => match z with | (u, f1, p1, c1, l1, g1, e1) => 2 * R0 + 1 - u) (fun z => match z with | (u, f1, p1, c1, l1, g1, e1) => 0) (fun z => match z with | (u, f1, p1, c1, l1, g1, e1) => 0)
          ?_ (0, (zeroTo mf 40401), ma, 0, 0, 0, 0) ⟨Nat.zero_le _, ⟨kA_zero, rfl, rfl, rfl, rfl⟩, fOK_zero, Nat.zero_le _, Nat.zero_le _, Nat.zero_le _, Nat.zero_le _⟩ hP hD hS (lv_sub hl [1, 2, 3, 4, 5, 0] rfl)
        rintro ⟨u, f1, p1, c1, l1, g1, e1⟩ hI H locs ls hP hD hS hl ih
        have hI : u ≤ 2 * R0 + 1 ∧ crun (nxO mc mw J) (otn R0 u) (kA f1) c1 l1 g1 e1 ∧ fOK f1 c1 ∧ c1 ≤ 25 * u ∧ l1 ≤ 40401 ∧ g1 ≤ 200 ∧ e1 ≤ 25 * u := hI
        have hP : va_P D ccl (mW cI M mc ms mw (nI N) mo mh mu mk mt mq mp my f1 p1 (nI c1) (nI l1) (nI g1) ov un (gGo (isSec N (nI J)) (if isIn (nI R0) 1 12 = 0 then 0 else isIn (nI w0) 0 3) 1)) H := hP
        have hD : va_D A (mW cI M mc ms mw (nI N) mo mh mu mk mt mq mp my f1 p1 (nI c1) (nI l1) (nI g1) ov un (gGo (isSec N (nI J)) (if isIn (nI R0) 1 12 = 0 then 0 else isIn (nI w0) 0 3) 1)) := hD
        have hl : lv_has ls 8 [(0, .ref (M 0)), (1, .int (nI J)), (2, .int (nI R0)), (3, .int (nI w0)), (4, .int (nI e1)), (5, .int (nI u - nI R0))] := hl
        change W p l e _ s m _ below meth c H locs 0 0 _ (F0 m 85 ls [])
        have ih_85 := ih
        clear ih
        obtain ⟨hu, hcr, hfo, hc1, hl1, hg1, he1⟩ := hI
        refine lv_iload hx hb dX7_cycles_85 (lv_at hl 5 rfl) ?_
        refine lv_iload_n hx hb dX7_cycles_87 rfl (lv_at hl 2 rfl) ?_
        refine lv_icmp_gt (tgt := 168) hx hb dX7_cycles_88 (by decide) (fun c_88 => ?_) (fun c_88 => ?_)
        · have c_88 := (off_gt (by omega) (by omega)).mp c_88
          obtain rfl : u = 2 * R0 + 1 := by omega
          refine lv_iload_n hx hb dX7_cycles_168 rfl (lv_at hl 3 rfl) ?_
          refine lv_if_ne (tgt := 179) hx hb dX7_cycles_169 (by decide) (fun c_169 => ?_) (fun c_169 => ?_)
          · have c_169 : w0 ≠ 0 := g_ne (a := w0) (b := 0) c_169 (by omega) (by omega)
            refine lv_iload_n hx hb dX7_cycles_179 rfl (lv_at hl 3 rfl) ?_
            refine lv_iconst (v := 1) hx hb dX7_cycles_180 (by decide) ?_
            refine lv_icmp_ne (tgt := 191) hx hb dX7_cycles_181 (by decide) (fun c_181 => ?_) (fun c_181 => ?_)
            · have c_181 : w0 ≠ 1 := g_ne (a := w0) (b := 1) c_181 (by omega) (by omega)
              refine lv_iload_n hx hb dX7_cycles_191 rfl (lv_at hl 3 rfl) ?_
              refine lv_iconst (v := 2) hx hb dX7_cycles_192 (by decide) ?_
              refine lv_icmp_ne (tgt := 203) hx hb dX7_cycles_193 (by decide) (fun c_193 => ?_) (fun c_193 => ?_)
              · have c_193 : w0 ≠ 2 := g_ne (a := w0) (b := 2) c_193 (by omega) (by omega)
                refine lv_iload hx hb dX7_cycles_203 (lv_at hl 4 rfl) ?_
                refine g_iret (v := nI e1) hx hb hr hlk hP hK hD hS (Nat.le_of_ble_eq_true rfl) (Nat.le_of_ble_eq_true rfl) dX7_cycles_205 ?_
                exact ⟨_, _, _, _, _, rfl, fun _ => ⟨_, _, _, _, _, by rw [gN_nI (by omega), gN_nI (by omega)]; exact hcr, by rw [gN_nI (by omega)]; unfold pick; (repeat (first | rw [if_pos (by omega)] | rw [if_neg (by omega)]))⟩⟩
              · have c_193 : w0 = 2 := g_eq (a := w0) (b := 2) c_193 (by omega) (by omega)
                refine lv_aload_n hx hb dX7_cycles_196 rfl (lv_at hl 0 rfl) ?_
                refine va_get (D := D) (ci := 8) (v := .int (nI g1)) (C := RX7) (T := TX7) (N := 20) hx hb hts inX7 hown hK hP 0 rfl rfl 16 (by decide) hfieldLink_RX7_130 (fun _ h9 => h9) rfl dX7_cycles_197 ?_
                refine lv_goto (tgt := 205) hx hb dX7_cycles_200 (by decide) ?_
                refine g_iret (v := nI g1) hx hb hr hlk hP hK hD hS (Nat.le_of_ble_eq_true rfl) (Nat.le_of_ble_eq_true rfl) dX7_cycles_205 ?_
                exact ⟨_, _, _, _, _, rfl, fun _ => ⟨_, _, _, _, _, by rw [gN_nI (by omega), gN_nI (by omega)]; exact hcr, by rw [gN_nI (by omega)]; unfold pick; (repeat (first | rw [if_pos (by omega)] | rw [if_neg (by omega)]))⟩⟩
            · have c_181 : w0 = 1 := g_eq (a := w0) (b := 1) c_181 (by omega) (by omega)
              refine lv_aload_n hx hb dX7_cycles_184 rfl (lv_at hl 0 rfl) ?_
              refine va_get (D := D) (ci := 8) (v := .int (nI l1)) (C := RX7) (T := TX7) (N := 20) hx hb hts inX7 hown hK hP 0 rfl rfl 15 (by decide) hfieldLink_RX7_127 (fun _ h9 => h9) rfl dX7_cycles_185 ?_
              refine lv_goto (tgt := 205) hx hb dX7_cycles_188 (by decide) ?_
              refine g_iret (v := nI l1) hx hb hr hlk hP hK hD hS (Nat.le_of_ble_eq_true rfl) (Nat.le_of_ble_eq_true rfl) dX7_cycles_205 ?_
              exact ⟨_, _, _, _, _, rfl, fun _ => ⟨_, _, _, _, _, by rw [gN_nI (by omega), gN_nI (by omega)]; exact hcr, by rw [gN_nI (by omega)]; unfold pick; (repeat (first | rw [if_pos (by omega)] | rw [if_neg (by omega)]))⟩⟩
          · have c_169 : w0 = 0 := g_eq (a := w0) (b := 0) c_169 (by omega) (by omega)
            refine lv_aload_n hx hb dX7_cycles_172 rfl (lv_at hl 0 rfl) ?_
            refine va_get (D := D) (ci := 8) (v := .int (nI c1)) (C := RX7) (T := TX7) (N := 20) hx hb hts inX7 hown hK hP 0 rfl rfl 14 (by decide) hfieldLink_RX7_124 (fun _ h9 => h9) rfl dX7_cycles_173 ?_
            refine lv_goto (tgt := 205) hx hb dX7_cycles_176 (by decide) ?_
            refine g_iret (v := nI c1) hx hb hr hlk hP hK hD hS (Nat.le_of_ble_eq_true rfl) (Nat.le_of_ble_eq_true rfl) dX7_cycles_205 ?_
            exact ⟨_, _, _, _, _, rfl, fun _ => ⟨_, _, _, _, _, by rw [gN_nI (by omega), gN_nI (by omega)]; exact hcr, by rw [gN_nI (by omega)]; unfold pick; (repeat (first | rw [if_pos (by omega)] | rw [if_neg (by omega)]))⟩⟩
        · have c_88 : u ≤ 2 * R0 := Nat.le_of_not_lt (fun h9 => c_88 ((off_gt (by omega) (by omega)).mpr h9))
          refine lv_iload_n hx hb dX7_cycles_91 rfl (lv_at hl 2 rfl) ?_
          refine lv_ineg hx hb dX7_cycles_92 ?_
          refine lv_topi (fun f ef => ?_)
          obtain rfl : f = nI 0 - nI R0 := ef.trans ((Int32.zero_sub _).symm)
          refine lv_istore (lv' := [(6, .int (nI 0 - nI R0)), (0, .ref (M 0)), (1, .int (nI J)), (2, .int (nI R0)), (3, .int (nI w0)), (4, .int (nI e1)), (5, .int (nI u - nI R0))]) hx hb dX7_cycles_93 hl (by decide) rfl (fun ls hl => ?_)
          refine W.widen (k := 0) (n := 0) (Nat.le_refl _) (Nat.le_refl _) ?_
          refine g_while (σ := Nat × (Nat → Int32) × (Nat → Int32) × Nat × Nat × Nat × Nat) (st := []) (nL := 8) (fun z => match z with | (v, f1, p1, c1, l1, g1, e1) => mW cI M mc ms mw (nI N) mo mh mu mk mt mq mp my f1 p1 (nI c1) (nI l1) (nI g1) ov un (gGo (isSec N (nI J)) (if isIn (nI R0) 1 12 = 0 then 0 else isIn (nI w0) 0 3) 1))
            (fun z => match z with | (v, f1, p1, c1, l1, g1, e1) => [(0, .ref (M 0)), (1, .int (nI J)), (2, .int (nI R0)), (3, .int (nI w0)), (4, .int (nI e1)), (5, .int (nI u - nI R0)), (6, .int (nI v - nI R0))])
            (fun z => match z with | (v, f1, p1, c1, l1, g1, e1) => v ≤ 2 * R0 + 1 ∧ crun (nxO mc mw J) (inn R0 u (otn R0 u) v) (kA f1) c1 l1 g1 e1 ∧ fOK f1 c1 ∧ c1 ≤ 25 * u + v ∧ l1 ≤ 40401 ∧ g1 ≤ 200 ∧ e1 ≤ 25 * u + v)
            (fun z => match z with | (v, f1, p1, c1, l1, g1, e1) => 2 * R0 + 1 - v) (fun z => match z with | (v, f1, p1, c1, l1, g1, e1) => 0) (fun z => match z with | (v, f1, p1, c1, l1, g1, e1) => 0)
            ?_ (0, f1, p1, c1, l1, g1, e1) ⟨Nat.zero_le _, hcr, hfo, hc1, hl1, hg1, he1⟩ hP hD hS (lv_sub hl [1, 2, 3, 4, 5, 6, 0] rfl)
          rintro ⟨v, f1, p1, c1, l1, g1, e1⟩ hI H locs ls hP hD hS hl ih
          have hI : v ≤ 2 * R0 + 1 ∧ crun (nxO mc mw J) (inn R0 u (otn R0 u) v) (kA f1) c1 l1 g1 e1 ∧ fOK f1 c1 ∧ c1 ≤ 25 * u + v ∧ l1 ≤ 40401 ∧ g1 ≤ 200 ∧ e1 ≤ 25 * u + v := hI
          have hP : va_P D ccl (mW cI M mc ms mw (nI N) mo mh mu mk mt mq mp my f1 p1 (nI c1) (nI l1) (nI g1) ov un (gGo (isSec N (nI J)) (if isIn (nI R0) 1 12 = 0 then 0 else isIn (nI w0) 0 3) 1)) H := hP
          have hD : va_D A (mW cI M mc ms mw (nI N) mo mh mu mk mt mq mp my f1 p1 (nI c1) (nI l1) (nI g1) ov un (gGo (isSec N (nI J)) (if isIn (nI R0) 1 12 = 0 then 0 else isIn (nI w0) 0 3) 1)) := hD
          have hl : lv_has ls 8 [(0, .ref (M 0)), (1, .int (nI J)), (2, .int (nI R0)), (3, .int (nI w0)), (4, .int (nI e1)), (5, .int (nI u - nI R0)), (6, .int (nI v - nI R0))] := hl
          change W p l e _ s m _ below meth c H locs 0 0 _ (F0 m 95 ls [])
          have ih_95 := ih
          clear ih
          clear hcr hfo hc1 hl1 hg1 he1
          obtain ⟨hv, hcr, hfo, hc1, hl1, hg1, he1⟩ := hI
          refine lv_iload hx hb dX7_cycles_95 (lv_at hl 6 rfl) ?_
          refine lv_iload_n hx hb dX7_cycles_97 rfl (lv_at hl 2 rfl) ?_
          refine lv_icmp_gt (tgt := 162) hx hb dX7_cycles_98 (by decide) (fun c_98 => ?_) (fun c_98 => ?_)
          · have c_98 := (off_gt (by omega) (by omega)).mp c_98
            obtain rfl : v = 2 * R0 + 1 := by omega
            refine lv_iinc (v := nI (u + 1) - nI R0) (lv' := [(5, .int (nI (u + 1) - nI R0)), (0, .ref (M 0)), (1, .int (nI J)), (2, .int (nI R0)), (3, .int (nI w0)), (4, .int (nI e1)), (6, .int (nI (2 * R0 + 1) - nI R0))]) hx hb dX7_cycles_162 hl (k := 5) rfl (by exact off_s) (by decide) rfl (fun ls hl => ?_)
            refine lv_goto (tgt := 85) hx hb dX7_cycles_165 (by decide) ?_
            refine W.widen (k := 0) (n := 0) (Nat.le_refl _) (Nat.le_refl _) ?_
            exact ih_85 ((u + 1), f1, p1, c1, l1, g1, e1) _ _ _ (show (u + 1) ≤ 2 * R0 + 1 ∧ crun (nxO mc mw J) (otn R0 (u + 1)) (kA f1) c1 l1 g1 e1 ∧ fOK f1 c1 ∧ c1 ≤ 25 * (u + 1) ∧ l1 ≤ 40401 ∧ g1 ≤ 200 ∧ e1 ≤ 25 * (u + 1) from (by exact ⟨by omega, hcr, hfo, by omega, hl1, hg1, by omega⟩)) (show 2 * R0 + 1 - (u + 1) < 2 * R0 + 1 - u by omega) hP hD hS (lv_sub hl [1, 2, 3, 4, 5, 0] rfl)
          · have c_98 : v ≤ 2 * R0 := Nat.le_of_not_lt (fun h9 => c_98 ((off_gt (by omega) (by omega)).mpr h9))
            have hsl := sI_lt hR2 c_88 c_98
            refine lv_sipush (v := 201) hx hb dX7_cycles_101 (by decide) ?_
            refine lv_iload hx hb dX7_cycles_104 (lv_at hl 5 rfl) ?_
            refine lv_bipush (v := 100) hx hb dX7_cycles_106 (by decide) ?_
            refine lv_iadd hx hb dX7_cycles_108 ?_
            refine lv_topi (fun f ef => ?_)
            obtain rfl : f = nI (u + (100 - R0)) := ef.trans (off_100 (by omega))
            refine lv_imul hx hb dX7_cycles_109 ?_
            refine lv_topi (fun f ef => ?_)
            obtain rfl : f = nI (201 * (u + (100 - R0))) := ef.trans (pk_mul _ _)
            refine lv_iload hx hb dX7_cycles_110 (lv_at hl 6 rfl) ?_
            refine lv_iadd hx hb dX7_cycles_112 ?_
            refine lv_bipush (v := 100) hx hb dX7_cycles_113 (by decide) ?_
            refine lv_iadd hx hb dX7_cycles_115 ?_
            refine lv_topi (fun f ef => ?_)
            obtain rfl : f = nI (sI R0 u v) := ef.trans (off_sI (by omega))
            refine lv_istore (lv' := [(7, .int (nI (sI R0 u v))), (0, .ref (M 0)), (1, .int (nI J)), (2, .int (nI R0)), (3, .int (nI w0)), (4, .int (nI e1)), (5, .int (nI u - nI R0)), (6, .int (nI v - nI R0))]) hx hb dX7_cycles_116 hl (by decide) rfl (fun ls hl => ?_)
            refine lv_aload_n hx hb dX7_cycles_118 rfl (lv_at hl 1 rfl) ?_
            refine va_get (D := D) (ci := 8) (v := .ref (M 9)) (C := RX7) (T := TX7) (N := 20) hx hb hts inX7 hown hK hP 0 rfl rfl 12 (by decide) hfieldLink_RX7_35 (fun _ h9 => h9) rfl dX7_cycles_119 ?_
            refine lv_iload hx hb dX7_cycles_122 (lv_at hl 0 rfl) ?_
            refine va_iald hx hb hK hP 9 0 rfl rfl (vp_in_nI (by omega) (by omega)) dX7_cycles_124 ?_
            refine lv_topi (fun f ef => ?_)
            obtain rfl : f = f1 (sI R0 u v) := ef.trans (congrArg f1 (nI_clamp (n := sI R0 u v) (by omega)))
            refine lv_if_ne (tgt := 135) hx hb dX7_cycles_125 (by decide) (fun c_125 => ?_) (fun c_125 => ?_)
            · have hwr : wrel (nxO mc mw J) (sI R0 u v) (kA f1) c1 l1 g1 (kA f1) c1 l1 g1 := wrel_skip (fun h9 => c_125 ((kA_0 hsl).mp h9))
              have hfo2 := hfo
              have hl2 := hl1
              have hg2 := hg1
              refine lv_iload hx hb dX7_cycles_135 (lv_at hl 5 rfl) ?_
              refine lv_aload_n hx hb dX7_cycles_137 rfl (lv_at hl 1 rfl) ?_
              refine va_get (D := D) (ci := 8) (v := .ref (M 9)) (C := RX7) (T := TX7) (N := 20) hx hb hts inX7 hown hK hP 0 rfl rfl 12 (by decide) hfieldLink_RX7_35 (fun _ h9 => h9) rfl dX7_cycles_138 ?_
              refine lv_iload hx hb dX7_cycles_141 (lv_at hl 0 rfl) ?_
              refine va_iald hx hb hK hP 9 0 rfl rfl (vp_in_nI (by omega) (by omega)) dX7_cycles_143 ?_
              refine lv_topi (fun f ef => ?_)
              obtain rfl : f = f1 (sI R0 u v) := ef.trans (congrArg f1 (nI_clamp (n := sI R0 u v) (by omega)))
              refine lv_iconst (v := (-1)) hx hb dX7_cycles_144 (by decide) ?_
              refine lv_icmp_ne (tgt := 152) hx hb dX7_cycles_145 (by decide) (fun c_145 => ?_) (fun c_145 => ?_)
              · refine lv_iconst (v := 0) hx hb dX7_cycles_152 (by decide) ?_
                refine lv_iadd hx hb dX7_cycles_153 ?_
                refine lv_topi (fun f ef => ?_)
                obtain rfl : f = nI (e1 + 0) := ef.trans (nI_add _ _)
                refine lv_topi (fun f ef => ?_)
                obtain rfl : f = nI (e1 + (if kA f1 (sI R0 u v) = 3 then 1 else 0)) := ef.trans (by first | rw [if_pos ((kA_3 hsl).mpr c_145)] | rw [if_neg (fun h9 => c_145 ((kA_3 hsl).mp h9))])
                refine lv_istore (lv' := [(4, .int (nI (e1 + (if kA f1 (sI R0 u v) = 3 then 1 else 0)))), (7, .int (nI (sI R0 u v))), (0, .ref (M 0)), (1, .int (nI J)), (2, .int (nI R0)), (3, .int (nI w0)), (5, .int (nI u - nI R0)), (6, .int (nI v - nI R0))]) hx hb dX7_cycles_154 hl (by decide) rfl (fun ls hl => ?_)
                refine lv_iinc (v := nI (v + 1) - nI R0) (lv' := [(6, .int (nI (v + 1) - nI R0)), (4, .int (nI (e1 + (if kA f1 (sI R0 u v) = 3 then 1 else 0)))), (7, .int (nI (sI R0 u v))), (0, .ref (M 0)), (1, .int (nI J)), (2, .int (nI R0)), (3, .int (nI w0)), (5, .int (nI u - nI R0))]) hx hb dX7_cycles_156 hl (k := 7) rfl (by exact off_s) (by decide) rfl (fun ls hl => ?_)
                refine lv_goto (tgt := 95) hx hb dX7_cycles_159 (by decide) ?_
                refine W.widen (k := 0) (n := 0) (Nat.le_refl _) (Nat.le_refl _) ?_
                exact ih_95 ((v + 1), f1, p1, c1, l1, g1, (e1 + (if kA f1 (sI R0 u v) = 3 then 1 else 0))) _ _ _ (show (v + 1) ≤ 2 * R0 + 1 ∧ crun (nxO mc mw J) (inn R0 u (otn R0 u) (v + 1)) (kA f1) c1 l1 g1 (e1 + (if kA f1 (sI R0 u v) = 3 then 1 else 0)) ∧ fOK f1 c1 ∧ c1 ≤ 25 * u + (v + 1) ∧ l1 ≤ 40401 ∧ g1 ≤ 200 ∧ (e1 + (if kA f1 (sI R0 u v) = 3 then 1 else 0)) ≤ 25 * u + (v + 1) from (by exact ⟨by omega, ⟨_, _, _, _, _, hcr, hwr, rfl⟩, hfo2, by omega, hl2, hg2, by split <;> omega⟩)) (show 2 * R0 + 1 - (v + 1) < 2 * R0 + 1 - v by omega) hP hD hS (lv_sub hl [3, 4, 5, 6, 1, 7, 0] rfl)
              · refine lv_iconst (v := 1) hx hb dX7_cycles_148 (by decide) ?_
                refine lv_goto (tgt := 153) hx hb dX7_cycles_149 (by decide) ?_
                refine lv_iadd hx hb dX7_cycles_153 ?_
                refine lv_topi (fun f ef => ?_)
                obtain rfl : f = nI (e1 + 1) := ef.trans (nI_add _ _)
                refine lv_topi (fun f ef => ?_)
                obtain rfl : f = nI (e1 + (if kA f1 (sI R0 u v) = 3 then 1 else 0)) := ef.trans (by first | rw [if_pos ((kA_3 hsl).mpr c_145)] | rw [if_neg (fun h9 => c_145 ((kA_3 hsl).mp h9))])
                refine lv_istore (lv' := [(4, .int (nI (e1 + (if kA f1 (sI R0 u v) = 3 then 1 else 0)))), (7, .int (nI (sI R0 u v))), (0, .ref (M 0)), (1, .int (nI J)), (2, .int (nI R0)), (3, .int (nI w0)), (5, .int (nI u - nI R0)), (6, .int (nI v - nI R0))]) hx hb dX7_cycles_154 hl (by decide) rfl (fun ls hl => ?_)
                refine lv_iinc (v := nI (v + 1) - nI R0) (lv' := [(6, .int (nI (v + 1) - nI R0)), (4, .int (nI (e1 + (if kA f1 (sI R0 u v) = 3 then 1 else 0)))), (7, .int (nI (sI R0 u v))), (0, .ref (M 0)), (1, .int (nI J)), (2, .int (nI R0)), (3, .int (nI w0)), (5, .int (nI u - nI R0))]) hx hb dX7_cycles_156 hl (k := 7) rfl (by exact off_s) (by decide) rfl (fun ls hl => ?_)
                refine lv_goto (tgt := 95) hx hb dX7_cycles_159 (by decide) ?_
                refine W.widen (k := 0) (n := 0) (Nat.le_refl _) (Nat.le_refl _) ?_
                exact ih_95 ((v + 1), f1, p1, c1, l1, g1, (e1 + (if kA f1 (sI R0 u v) = 3 then 1 else 0))) _ _ _ (show (v + 1) ≤ 2 * R0 + 1 ∧ crun (nxO mc mw J) (inn R0 u (otn R0 u) (v + 1)) (kA f1) c1 l1 g1 (e1 + (if kA f1 (sI R0 u v) = 3 then 1 else 0)) ∧ fOK f1 c1 ∧ c1 ≤ 25 * u + (v + 1) ∧ l1 ≤ 40401 ∧ g1 ≤ 200 ∧ (e1 + (if kA f1 (sI R0 u v) = 3 then 1 else 0)) ≤ 25 * u + (v + 1) from (by exact ⟨by omega, ⟨_, _, _, _, _, hcr, hwr, rfl⟩, hfo2, by omega, hl2, hg2, by split <;> omega⟩)) (show 2 * R0 + 1 - (v + 1) < 2 * R0 + 1 - v by omega) hP hD hS (lv_sub hl [3, 4, 5, 6, 1, 7, 0] rfl)
            · refine lv_aload_n hx hb dX7_cycles_128 rfl (lv_at hl 1 rfl) ?_
              refine lv_iload_n hx hb dX7_cycles_129 rfl (lv_at hl 2 rfl) ?_
              refine lv_iload hx hb dX7_cycles_130 (lv_at hl 0 rfl) ?_
              have hPc := hP.sub (ws' := [(M 0, .inr (8, [.ref (M 1), .ref (M 2), .ref (M 3), .int (nI N), .ref (M 4), .int mh, .ref (M 5), .int mk, .ref (M 6), .ref (M 7), .ref (M 8), .int my, .ref (M 9), .ref (M 10), .int (nI c1), .int (nI l1), .int (nI g1), .long ov, .long un, .int (gGo (isSec N (nI J)) (if isIn (nI R0) 1 12 = 0 then 0 else isIn (nI w0) 0 3) 1)])), (M 1, .inl (cI, 40, .inl mc)), (M 2, .inl (cI, 32, .inl ms)), (M 3, .inl (cI, 8, .inl mw)), (M 4, .inl (cI, 8, .inl mo)), (M 5, .inl (cI, 16, .inl mu)), (M 6, .inl (cI, 32, .inl mt)), (M 7, .inl (cI, 32, .inl mq)), (M 8, .inl (cI, 64, .inl mp)), (M 9, .inl (cI, 40401, .inl f1)), (M 10, .inl (cI, 40401, .inl p1))]) [0, 1, 2, 3, 4, 5, 6, 7, 8, 9, 10] rfl
              have hDc := hD.sub (ws' := [(M 0, .inr (8, [.ref (M 1), .ref (M 2), .ref (M 3), .int (nI N), .ref (M 4), .int mh, .ref (M 5), .int mk, .ref (M 6), .ref (M 7), .ref (M 8), .int my, .ref (M 9), .ref (M 10), .int (nI c1), .int (nI l1), .int (nI g1), .long ov, .long un, .int (gGo (isSec N (nI J)) (if isIn (nI R0) 1 12 = 0 then 0 else isIn (nI w0) 0 3) 1)])), (M 1, .inl (cI, 40, .inl mc)), (M 2, .inl (cI, 32, .inl ms)), (M 3, .inl (cI, 8, .inl mw)), (M 4, .inl (cI, 8, .inl mo)), (M 5, .inl (cI, 16, .inl mu)), (M 6, .inl (cI, 32, .inl mt)), (M 7, .inl (cI, 32, .inl mq)), (M 8, .inl (cI, 64, .inl mp)), (M 9, .inl (cI, 40401, .inl f1)), (M 10, .inl (cI, 40401, .inl p1))]) [0, 1, 2, 3, 4, 5, 6, 7, 8, 9, 10] (by decide) rfl
              have hFc := va_free (wc := [(M 0, .inr (8, [.ref (M 1), .ref (M 2), .ref (M 3), .int (nI N), .ref (M 4), .int mh, .ref (M 5), .int mk, .ref (M 6), .ref (M 7), .ref (M 8), .int my, .ref (M 9), .ref (M 10), .int (nI c1), .int (nI l1), .int (nI g1), .long ov, .long un, .int (gGo (isSec N (nI J)) (if isIn (nI R0) 1 12 = 0 then 0 else isIn (nI w0) 0 3) 1)])), (M 1, .inl (cI, 40, .inl mc)), (M 2, .inl (cI, 32, .inl ms)), (M 3, .inl (cI, 8, .inl mw)), (M 4, .inl (cI, 8, .inl mo)), (M 5, .inl (cI, 16, .inl mu)), (M 6, .inl (cI, 32, .inl mt)), (M 7, .inl (cI, 32, .inl mq)), (M 8, .inl (cI, 64, .inl mp)), (M 9, .inl (cI, 40401, .inl f1)), (M 10, .inl (cI, 40401, .inl p1))]) hD hS hA [0, 1, 2, 3, 4, 5, 6, 7, 8, 9, 10] rfl
              refine g_Vv (As := [.int (nI J), .int (nI (sI R0 u v))]) (rest := []) CF (c_X7_walks l D cI cJ cO df H.size M mc ms mw (nI N) mo mh mu mk mt mq mp my f1 p1 ov un (gGo (isSec N (nI J)) (if isIn (nI R0) 1 12 = 0 then 0 else isIn (nI w0) 0 3) 1) c1 l1 g1 J (sI R0 u v) (Nat.lt_of_lt_of_le hJ hN) hsl hfo (by omega) hl1 hg1) (cwV 2 hts gX7_cycles_X7_walks rfl rfl rfl (by decide +kernel) ⟨Nat.le_of_ble_eq_true rfl, Nat.le_of_ble_eq_true rfl⟩) (va_recv hK hP (ci := 8) (q0 := 0) rfl rfl) hPc hK hDc hV hH hS hFc rfl hl.1 rfl (Nat.le_of_ble_eq_true rfl) dX7_cycles_132 ⟨Nat.le_of_ble_eq_true rfl, Nat.le_of_ble_eq_true rfl⟩ (fun w1 H1 locs1 hq hP1 hD1 hk hS hz => ?_)
              obtain ⟨f3, p3, c3, l3, g3, rfl, hq_132⟩ := hq
              obtain ⟨hP, hD⟩ := g_join (ws' := (mW cI M mc ms mw (nI N) mo mh mu mk mt mq mp my f3 p3 (nI c3) (nI l3) (nI g3) ov un (gGo (isSec N (nI J)) (if isIn (nI R0) 1 12 = 0 then 0 else isIn (nI w0) 0 3) 1))) hP hD hk hFc hP1 hD1 [0, 1, 2, 3, 4, 5, 6, 7, 8, 9, 10] [] [0, 1, 2, 3, 4, 5, 6, 7, 8, 9, 10] rfl rfl (by decide) (by decide) (by decide) rfl
              clear hPc hDc hFc hP1 hD1 hk hz
              generalize H1 = H at hP hS ⊢
              have hP : va_P D ccl (mW cI M mc ms mw (nI N) mo mh mu mk mt mq mp my f3 p3 (nI c3) (nI l3) (nI g3) ov un (gGo (isSec N (nI J)) (if isIn (nI R0) 1 12 = 0 then 0 else isIn (nI w0) 0 3) 1)) H := hP
              have hD : va_D A (mW cI M mc ms mw (nI N) mo mh mu mk mt mq mp my f3 p3 (nI c3) (nI l3) (nI g3) ov un (gGo (isSec N (nI J)) (if isIn (nI R0) 1 12 = 0 then 0 else isIn (nI w0) 0 3) 1)) := hD
              obtain ⟨hwr, hfo2, hc3, hl2, hg2⟩ := hq_132
              refine lv_iload hx hb dX7_cycles_135 (lv_at hl 5 rfl) ?_
              refine lv_aload_n hx hb dX7_cycles_137 rfl (lv_at hl 1 rfl) ?_
              refine va_get (D := D) (ci := 8) (v := .ref (M 9)) (C := RX7) (T := TX7) (N := 20) hx hb hts inX7 hown hK hP 0 rfl rfl 12 (by decide) hfieldLink_RX7_35 (fun _ h9 => h9) rfl dX7_cycles_138 ?_
              refine lv_iload hx hb dX7_cycles_141 (lv_at hl 0 rfl) ?_
              refine va_iald hx hb hK hP 9 0 rfl rfl (vp_in_nI (by omega) (by omega)) dX7_cycles_143 ?_
              refine lv_topi (fun f ef => ?_)
              obtain rfl : f = f3 (sI R0 u v) := ef.trans (congrArg f3 (nI_clamp (n := sI R0 u v) (by omega)))
              refine lv_iconst (v := (-1)) hx hb dX7_cycles_144 (by decide) ?_
              refine lv_icmp_ne (tgt := 152) hx hb dX7_cycles_145 (by decide) (fun c_145 => ?_) (fun c_145 => ?_)
              · refine lv_iconst (v := 0) hx hb dX7_cycles_152 (by decide) ?_
                refine lv_iadd hx hb dX7_cycles_153 ?_
                refine lv_topi (fun f ef => ?_)
                obtain rfl : f = nI (e1 + 0) := ef.trans (nI_add _ _)
                refine lv_topi (fun f ef => ?_)
                obtain rfl : f = nI (e1 + (if kA f3 (sI R0 u v) = 3 then 1 else 0)) := ef.trans (by first | rw [if_pos ((kA_3 hsl).mpr c_145)] | rw [if_neg (fun h9 => c_145 ((kA_3 hsl).mp h9))])
                refine lv_istore (lv' := [(4, .int (nI (e1 + (if kA f3 (sI R0 u v) = 3 then 1 else 0)))), (7, .int (nI (sI R0 u v))), (0, .ref (M 0)), (1, .int (nI J)), (2, .int (nI R0)), (3, .int (nI w0)), (5, .int (nI u - nI R0)), (6, .int (nI v - nI R0))]) hx hb dX7_cycles_154 hl (by decide) rfl (fun ls hl => ?_)
                refine lv_iinc (v := nI (v + 1) - nI R0) (lv' := [(6, .int (nI (v + 1) - nI R0)), (4, .int (nI (e1 + (if kA f3 (sI R0 u v) = 3 then 1 else 0)))), (7, .int (nI (sI R0 u v))), (0, .ref (M 0)), (1, .int (nI J)), (2, .int (nI R0)), (3, .int (nI w0)), (5, .int (nI u - nI R0))]) hx hb dX7_cycles_156 hl (k := 7) rfl (by exact off_s) (by decide) rfl (fun ls hl => ?_)
                refine lv_goto (tgt := 95) hx hb dX7_cycles_159 (by decide) ?_
                refine W.widen (k := 0) (n := 0) (Nat.le_refl _) (Nat.le_refl _) ?_
                exact ih_95 ((v + 1), f3, p3, c3, l3, g3, (e1 + (if kA f3 (sI R0 u v) = 3 then 1 else 0))) _ _ _ (show (v + 1) ≤ 2 * R0 + 1 ∧ crun (nxO mc mw J) (inn R0 u (otn R0 u) (v + 1)) (kA f3) c3 l3 g3 (e1 + (if kA f3 (sI R0 u v) = 3 then 1 else 0)) ∧ fOK f3 c3 ∧ c3 ≤ 25 * u + (v + 1) ∧ l3 ≤ 40401 ∧ g3 ≤ 200 ∧ (e1 + (if kA f3 (sI R0 u v) = 3 then 1 else 0)) ≤ 25 * u + (v + 1) from (by exact ⟨by omega, ⟨_, _, _, _, _, hcr, hwr, rfl⟩, hfo2, by omega, hl2, hg2, by split <;> omega⟩)) (show 2 * R0 + 1 - (v + 1) < 2 * R0 + 1 - v by omega) hP hD hS (lv_sub hl [3, 4, 5, 6, 1, 7, 0] rfl)
              · refine lv_iconst (v := 1) hx hb dX7_cycles_148 (by decide) ?_
                refine lv_goto (tgt := 153) hx hb dX7_cycles_149 (by decide) ?_
                refine lv_iadd hx hb dX7_cycles_153 ?_
                refine lv_topi (fun f ef => ?_)
                obtain rfl : f = nI (e1 + 1) := ef.trans (nI_add _ _)
                refine lv_topi (fun f ef => ?_)
                obtain rfl : f = nI (e1 + (if kA f3 (sI R0 u v) = 3 then 1 else 0)) := ef.trans (by first | rw [if_pos ((kA_3 hsl).mpr c_145)] | rw [if_neg (fun h9 => c_145 ((kA_3 hsl).mp h9))])
                refine lv_istore (lv' := [(4, .int (nI (e1 + (if kA f3 (sI R0 u v) = 3 then 1 else 0)))), (7, .int (nI (sI R0 u v))), (0, .ref (M 0)), (1, .int (nI J)), (2, .int (nI R0)), (3, .int (nI w0)), (5, .int (nI u - nI R0)), (6, .int (nI v - nI R0))]) hx hb dX7_cycles_154 hl (by decide) rfl (fun ls hl => ?_)
                refine lv_iinc (v := nI (v + 1) - nI R0) (lv' := [(6, .int (nI (v + 1) - nI R0)), (4, .int (nI (e1 + (if kA f3 (sI R0 u v) = 3 then 1 else 0)))), (7, .int (nI (sI R0 u v))), (0, .ref (M 0)), (1, .int (nI J)), (2, .int (nI R0)), (3, .int (nI w0)), (5, .int (nI u - nI R0))]) hx hb dX7_cycles_156 hl (k := 7) rfl (by exact off_s) (by decide) rfl (fun ls hl => ?_)
                refine lv_goto (tgt := 95) hx hb dX7_cycles_159 (by decide) ?_
                refine W.widen (k := 0) (n := 0) (Nat.le_refl _) (Nat.le_refl _) ?_
                exact ih_95 ((v + 1), f3, p3, c3, l3, g3, (e1 + (if kA f3 (sI R0 u v) = 3 then 1 else 0))) _ _ _ (show (v + 1) ≤ 2 * R0 + 1 ∧ crun (nxO mc mw J) (inn R0 u (otn R0 u) (v + 1)) (kA f3) c3 l3 g3 (e1 + (if kA f3 (sI R0 u v) = 3 then 1 else 0)) ∧ fOK f3 c3 ∧ c3 ≤ 25 * u + (v + 1) ∧ l3 ≤ 40401 ∧ g3 ≤ 200 ∧ (e1 + (if kA f3 (sI R0 u v) = 3 then 1 else 0)) ≤ 25 * u + (v + 1) from (by exact ⟨by omega, ⟨_, _, _, _, _, hcr, hwr, rfl⟩, hfo2, by omega, hl2, hg2, by split <;> omega⟩)) (show 2 * R0 + 1 - (v + 1) < 2 * R0 + 1 - v by omega) hP hD hS (lv_sub hl [3, 4, 5, 6, 1, 7, 0] rfl)
      · have c_64 : k < 40401 := g_nle (a := 40401) (b := k) c_64 (by omega) (by omega)
        refine lv_aload_n hx hb dX7_cycles_67 rfl (lv_at hl 0 rfl) ?_
        refine va_get (D := D) (ci := 8) (v := .ref (M 9)) (C := RX7) (T := TX7) (N := 20) hx hb hts inX7 hown hK hP 0 rfl rfl 12 (by decide) hfieldLink_RX7_35 (fun _ h9 => h9) rfl dX7_cycles_68 ?_
        refine lv_iload hx hb dX7_cycles_71 (lv_at hl 5 rfl) ?_
        refine lv_iconst (v := 0) hx hb dX7_cycles_73 (by decide) ?_
        refine va_iast hx hb hK hP hD hS 9 0 rfl rfl (vp_in_nI (by omega) (by omega)) dX7_cycles_74 (fun H locs hP hD hS => ?_)
        rw [show (nI k).toNatClampNeg = k from (nI_clamp (by omega))] at hP hD
        have hP : va_P D ccl (mW cI M mc ms mw (nI N) mo mh mu mk mt mq mp my (upd (zeroTo mf k) k 0) ma 0 0 0 ov un (gGo (isSec N (nI J)) (if isIn (nI R0) 1 12 = 0 then 0 else isIn (nI w0) 0 3) 1)) H := hP
        have hD : va_D A (mW cI M mc ms mw (nI N) mo mh mu mk mt mq mp my (upd (zeroTo mf k) k 0) ma 0 0 0 ov un (gGo (isSec N (nI J)) (if isIn (nI R0) 1 12 = 0 then 0 else isIn (nI w0) 0 3) 1)) := hD
        refine lv_iinc (v := nI (k + 1)) (lv' := [(5, .int (nI (k + 1))), (0, .ref (M 0)), (1, .int (nI J)), (2, .int (nI R0)), (3, .int (nI w0)), (4, .int 0)]) hx hb dX7_cycles_75 hl (k := 5) rfl (by exact nI_1 _) (by decide) rfl (fun ls hl => ?_)
        refine lv_goto (tgt := 60) hx hb dX7_cycles_78 (by decide) ?_
        refine W.widen (k := 0) (n := 0) (Nat.le_refl _) (Nat.le_refl _) ?_
        exact ih_60 (k + 1, (upd (zeroTo mf k) k 0)) _ _ _ (show (k + 1) ≤ 40401 ∧ (upd (zeroTo mf k) k 0) = zeroTo mf (k + 1) from (by exact ⟨by omega, zeroTo_s⟩)) (show 40401 - (k + 1) < 40401 - k by omega) hP hD hS (lv_sub hl [1, 2, 3, 4, 5, 0] rfl)
    · have c_34 : ¬ (gGo (isSec N j) (if isIn rr 1 12 = 0 then 0 else isIn wh 0 3) 1 = 0) := g_b0 c_34
      refine lv_iconst (v := 0) hx hb dX7_cycles_37 (by decide) ?_
      refine g_iret (v := 0) hx hb hr hlk hP hK hD hS (Nat.le_of_ble_eq_true rfl) (Nat.le_of_ble_eq_true rfl) dX7_cycles_38 ?_
      exact ⟨_, _, _, _, _, rfl, fun h => absurd h c_34⟩
  · refine lv_if_eq (tgt := 29) hx hb dX7_cycles_13 (by decide) (fun c_13 => ?_) (fun c_13 => ?_)
    · refine lv_iconst (v := 0) hx hb dX7_cycles_29 (by decide) ?_
      exact hJ_30 _ _ _ (by simp [c_13]) hP hD hS
    · refine lv_iload_n hx hb dX7_cycles_16 rfl (lv_at hl 3 rfl) ?_
      refine lv_iconst (v := 0) hx hb dX7_cycles_17 (by decide) ?_
      refine lv_iconst (v := 3) hx hb dX7_cycles_18 (by decide) ?_
      have hPc : va_P D ccl [] H := fun k q h => by simp at h
      have hDc : va_D A [] := ⟨fun i j p q h => by simp at h, fun k q h => by simp at h⟩
      have hFc := va_free (wc := []) hD hS hA [] rfl
      refine g_Si (As := [.int wh, .int 0, .int 3]) (rest := [.int (isSec N j), .ref (M 0)]) CF (c_X7_in l D cI cJ cO df H.size wh 0 3 ) (va_cwS 3 hts gX7_cycles_X7_in rfl rfl rfl (by decide +kernel) ⟨Nat.le_of_ble_eq_true rfl, Nat.le_of_ble_eq_true rfl⟩)  hPc hK hDc hV hH hS hFc rfl hl.1 rfl (Nat.le_of_ble_eq_true rfl) dX7_cycles_19 ⟨Nat.le_of_ble_eq_true rfl, Nat.le_of_ble_eq_true rfl⟩ (fun r_19 w1 H1 locs1 hq hP1 hD1 hk hS hz => ?_)
      obtain ⟨rfl, hr_19⟩ := hq
      have hP := g_keep0 hP hk
      clear hPc hDc hFc hP1 hD1 hk hz
      generalize H1 = H at hP hS ⊢
      have hP : va_P D ccl (mW cI M mc ms mw (nI N) mo mh mu mk mt mq mp my mf ma cy lo gr ov un la) H := hP
      have hD : va_D A (mW cI M mc ms mw (nI N) mo mh mu mk mt mq mp my mf ma cy lo gr ov un la) := hD
      subst hr_19
      refine lv_if_eq (tgt := 29) hx hb dX7_cycles_22 (by decide) (fun c_22 => ?_) (fun c_22 => ?_)
      · refine lv_iconst (v := 0) hx hb dX7_cycles_29 (by decide) ?_
        exact hJ_30 _ _ _ (by first | (simp [c_13, c_22]; done) | exact ((if_neg c_13).trans ((isIn_01 _ _ _).resolve_left c_22)).symm) hP hD hS
      · refine lv_iconst (v := 1) hx hb dX7_cycles_25 (by decide) ?_
        refine lv_goto (tgt := 30) hx hb dX7_cycles_26 (by decide) ?_
        exact hJ_30 _ _ _ (by first | (simp [c_13, c_22]; done) | exact ((if_neg c_13).trans ((isIn_01 _ _ _).resolve_left c_22)).symm) hP hD hS

set_option maxHeartbeats 4000000 in
set_option maxRecDepth 100000 in
theorem c_X7_init (l : Launch) (D : va_G) (cI cJ cO : ClassId) (df sz : Nat) (m0 : Nat)  : MetV l yX7_init wsX7_init ({ frames := 1, cells := 10, slots := 81034, locals := 30 } : Room) D (gTY cI cJ cO) df [(m0, .inr (8, [.null, .null, .null, .int 0, .null, .int 0, .null, .int 0, .null, .null, .null, .int 0, .null, .null, .int 0, .int 0, .int 0, .long 0, .long 0, .int 0]))] sz [.ref m0] (fun (wZ : va_W) => ∃ (b1 : Nat), ∃ (b2 : Nat), ∃ (b3 : Nat), ∃ (b4 : Nat), ∃ (b5 : Nat), ∃ (b6 : Nat), ∃ (b7 : Nat), ∃ (b8 : Nat), ∃ (b9 : Nat), ∃ (b10 : Nat), wZ = [(m0, .inr (8, [.ref b1, .ref b2, .ref b3, .int 0, .ref b4, .int 0, .ref b5, .int 0, .ref b6, .ref b7, .ref b8, .int 0, .ref b9, .ref b10, .int 0, .int 0, .int 0, .long 0, .long 0, .int 0])), (b1, .inl (cI, 40, .inl (fun _ => 0))), (b2, .inl (cI, 32, .inl (fun _ => 0))), (b3, .inl (cI, 8, .inl (fun _ => 0))), (b4, .inl (cI, 8, .inl (fun _ => 0))), (b5, .inl (cI, 16, .inl (fun _ => 0))), (b6, .inl (cI, 32, .inl (fun _ => 0))), (b7, .inl (cI, 32, .inl (fun _ => 0))), (b8, .inl (cI, 64, .inl (fun _ => 0))), (b9, .inl (cI, 40401, .inl (fun _ => 0))), (b10, .inl (cI, 40401, .inl (fun _ => 0)))]) := by
  refine g_of (cc := cX7_init) (nL := 1) (ret := none) (D := D) (TY := (gTY cI cJ cO)) (df := df) (Qc := fun A => va_Qv (fun (wZ : va_W) => ∃ (b1 : Nat), ∃ (b2 : Nat), ∃ (b3 : Nat), ∃ (b4 : Nat), ∃ (b5 : Nat), ∃ (b6 : Nat), ∃ (b7 : Nat), ∃ (b8 : Nat), ∃ (b9 : Nat), ∃ (b10 : Nat), wZ = [(m0, .inr (8, [.ref b1, .ref b2, .ref b3, .int 0, .ref b4, .int 0, .ref b5, .int 0, .ref b6, .ref b7, .ref b8, .int 0, .ref b9, .ref b10, .int 0, .int 0, .int 0, .long 0, .long 0, .int 0])), (b1, .inl (cI, 40, .inl (fun _ => 0))), (b2, .inl (cI, 32, .inl (fun _ => 0))), (b3, .inl (cI, 8, .inl (fun _ => 0))), (b4, .inl (cI, 8, .inl (fun _ => 0))), (b5, .inl (cI, 16, .inl (fun _ => 0))), (b6, .inl (cI, 32, .inl (fun _ => 0))), (b7, .inl (cI, 32, .inl (fun _ => 0))), (b8, .inl (cI, 64, .inl (fun _ => 0))), (b9, .inl (cI, 40401, .inl (fun _ => 0))), (b10, .inl (cI, 40401, .inl (fun _ => 0)))]) (gB D (gTY cI cJ cO) A) A) (by decide +kernel) rfl (Nat.le_of_ble_eq_true rfl) ?_
  intro p e s m below meth c ls A hsz C0 hin hl
  obtain ⟨CF, hr, hlk, hA, hS, hP, hK, hD, hV, hH⟩ := C0
  have CF : CallFix p m c cX7_init 1 s _ wsX7_init RX7 := CF
  obtain ⟨hx, hb, hml, hown, hts⟩ := id CF
  subst hsz
  have hmethodLink_RX7_1 : (Cond.methodLink RX7 1 objectInit).before _ s = true := hts _ (List.mem_of_getElem? (i := 1) rfl)
  have hinstanceMethod_objectInit : (Cond.instanceMethod objectInit).before _ s = true := hts _ (List.mem_of_getElem? (i := 2) rfl)
  have hcode_objectInit : (Cond.code objectInit ⟨#[0xb1]⟩ 1 none).before _ s = true := hts _ (List.mem_of_getElem? (i := 3) rfl)
  have hArrI : (Cond.arrayClass .int).before _ s = true := hts _ (List.mem_of_getElem? (i := 4) rfl)
  have hfieldLink_RX7_7 : (Cond.fieldLink RX7 7 "TapLoomModel" "coefficients" "[I").before _ s = true := hts _ (List.mem_of_getElem? (i := 5) rfl)
  have hfieldLink_RX7_13 : (Cond.fieldLink RX7 13 "TapLoomModel" "states" "[I").before _ s = true := hts _ (List.mem_of_getElem? (i := 6) rfl)
  have hfieldLink_RX7_16 : (Cond.fieldLink RX7 16 "TapLoomModel" "ways" "[I").before _ s = true := hts _ (List.mem_of_getElem? (i := 7) rfl)
  have hfieldLink_RX7_19 : (Cond.fieldLink RX7 19 "TapLoomModel" "order" "[I").before _ s = true := hts _ (List.mem_of_getElem? (i := 8) rfl)
  have hfieldLink_RX7_22 : (Cond.fieldLink RX7 22 "TapLoomModel" "outputs" "[I").before _ s = true := hts _ (List.mem_of_getElem? (i := 9) rfl)
  have hfieldLink_RX7_25 : (Cond.fieldLink RX7 25 "TapLoomModel" "taps" "[I").before _ s = true := hts _ (List.mem_of_getElem? (i := 10) rfl)
  have hfieldLink_RX7_28 : (Cond.fieldLink RX7 28 "TapLoomModel" "asked" "[I").before _ s = true := hts _ (List.mem_of_getElem? (i := 11) rfl)
  have hfieldLink_RX7_31 : (Cond.fieldLink RX7 31 "TapLoomModel" "samples" "[I").before _ s = true := hts _ (List.mem_of_getElem? (i := 12) rfl)
  have hconstant_RX7_34 : (Cond.constant RX7 34 (40401)).before _ s = true := hts _ (List.mem_of_getElem? (i := 13) rfl)
  have hfieldLink_RX7_35 : (Cond.fieldLink RX7 35 "TapLoomModel" "fates" "[I").before _ s = true := hts _ (List.mem_of_getElem? (i := 14) rfl)
  have hfieldLink_RX7_38 : (Cond.fieldLink RX7 38 "TapLoomModel" "path" "[I").before _ s = true := hts _ (List.mem_of_getElem? (i := 15) rfl)
  have inX7 : ∀ w ∈ u_ws RX7 TX7 20, w ∈ wsX7_init := fun w h => (List.mem_cons_of_mem _ (List.mem_append_right _ h))
  have hP : va_P D ccl [(m0, .inr (8, [.null, .null, .null, .int 0, .null, .int 0, .null, .int 0, .null, .null, .null, .int 0, .null, .null, .int 0, .int 0, .int 0, .long 0, .long 0, .int 0]))] s.heap := hP
  have hl : lv_has ls 1 [(0, .ref m0)] := hl
  refine lv_aload_n hx hb dX7_init_0 rfl (lv_at hl 0 rfl) ?_
  refine W.objInit hx hb hown hmethodLink_RX7_1 hinstanceMethod_objectInit hcode_objectInit rfl (by rw [hml]; exact hl.1) rfl dX7_init_1 (Nat.le_of_ble_eq_true rfl) (Nat.le_of_ble_eq_true rfl) ?_
  refine W.eq (g2 := F0 m 4 ls []) rfl ?_
  refine lv_aload_n hx hb dX7_init_4 rfl (lv_at hl 0 rfl) ?_
  refine lv_bipush (v := 40) hx hb dX7_init_5 (by decide) ?_
  refine g_newaI (N := 40) hx hb hArrI hK hP hD hS hA (by decide) (by decide) (Nat.le_of_ble_eq_true rfl) (Nat.le_of_ble_eq_true rfl) (Nat.le_of_ble_eq_true rfl) dX7_init_7 (fun b1 H hP hD hS => ?_)
  have hP : va_P D ccl [(m0, .inr (8, [.null, .null, .null, .int 0, .null, .int 0, .null, .int 0, .null, .null, .null, .int 0, .null, .null, .int 0, .int 0, .int 0, .long 0, .long 0, .int 0])), (b1, .inl (cI, 40, .inl (fun _ => 0)))] H := hP
  have hD : va_D A [(m0, .inr (8, [.null, .null, .null, .int 0, .null, .int 0, .null, .int 0, .null, .null, .null, .int 0, .null, .null, .int 0, .int 0, .int 0, .long 0, .long 0, .int 0])), (b1, .inl (cI, 40, .inl (fun _ => 0)))] := hD
  refine va_putF (D := D) (ci := 8) (v := .ref b1) (ty := .array (.int)) (C := RX7) (T := TX7) (N := 20) hx hb hts inX7 tyX7 tyX7_ok nmX7 hown hK hP hD hS 0 rfl rfl 0 (by decide) hfieldLink_RX7_7 (fun _ h9 => h9) rfl (hin rfl) rfl (by decide +kernel) rfl rfl (Nat.le_of_ble_eq_true rfl) dX7_init_9 (fun H locs hP hD hS => ?_)
  have hP : va_P D ccl [(m0, .inr (8, [.ref b1, .null, .null, .int 0, .null, .int 0, .null, .int 0, .null, .null, .null, .int 0, .null, .null, .int 0, .int 0, .int 0, .long 0, .long 0, .int 0])), (b1, .inl (cI, 40, .inl (fun _ => 0)))] H := hP
  have hD : va_D A [(m0, .inr (8, [.ref b1, .null, .null, .int 0, .null, .int 0, .null, .int 0, .null, .null, .null, .int 0, .null, .null, .int 0, .int 0, .int 0, .long 0, .long 0, .int 0])), (b1, .inl (cI, 40, .inl (fun _ => 0)))] := hD
  refine lv_aload_n hx hb dX7_init_12 rfl (lv_at hl 0 rfl) ?_
  refine lv_bipush (v := 32) hx hb dX7_init_13 (by decide) ?_
  refine g_newaI (N := 32) hx hb hArrI hK hP hD hS hA (by decide) (by decide) (Nat.le_of_ble_eq_true rfl) (Nat.le_of_ble_eq_true rfl) (Nat.le_of_ble_eq_true rfl) dX7_init_15 (fun b2 H hP hD hS => ?_)
  have hP : va_P D ccl [(m0, .inr (8, [.ref b1, .null, .null, .int 0, .null, .int 0, .null, .int 0, .null, .null, .null, .int 0, .null, .null, .int 0, .int 0, .int 0, .long 0, .long 0, .int 0])), (b1, .inl (cI, 40, .inl (fun _ => 0))), (b2, .inl (cI, 32, .inl (fun _ => 0)))] H := hP
  have hD : va_D A [(m0, .inr (8, [.ref b1, .null, .null, .int 0, .null, .int 0, .null, .int 0, .null, .null, .null, .int 0, .null, .null, .int 0, .int 0, .int 0, .long 0, .long 0, .int 0])), (b1, .inl (cI, 40, .inl (fun _ => 0))), (b2, .inl (cI, 32, .inl (fun _ => 0)))] := hD
  refine va_putF (D := D) (ci := 8) (v := .ref b2) (ty := .array (.int)) (C := RX7) (T := TX7) (N := 20) hx hb hts inX7 tyX7 tyX7_ok nmX7 hown hK hP hD hS 0 rfl rfl 1 (by decide) hfieldLink_RX7_13 (fun _ h9 => h9) rfl (hin rfl) rfl (by decide +kernel) rfl rfl (Nat.le_of_ble_eq_true rfl) dX7_init_17 (fun H locs hP hD hS => ?_)
  have hP : va_P D ccl [(m0, .inr (8, [.ref b1, .ref b2, .null, .int 0, .null, .int 0, .null, .int 0, .null, .null, .null, .int 0, .null, .null, .int 0, .int 0, .int 0, .long 0, .long 0, .int 0])), (b1, .inl (cI, 40, .inl (fun _ => 0))), (b2, .inl (cI, 32, .inl (fun _ => 0)))] H := hP
  have hD : va_D A [(m0, .inr (8, [.ref b1, .ref b2, .null, .int 0, .null, .int 0, .null, .int 0, .null, .null, .null, .int 0, .null, .null, .int 0, .int 0, .int 0, .long 0, .long 0, .int 0])), (b1, .inl (cI, 40, .inl (fun _ => 0))), (b2, .inl (cI, 32, .inl (fun _ => 0)))] := hD
  refine lv_aload_n hx hb dX7_init_20 rfl (lv_at hl 0 rfl) ?_
  refine lv_bipush (v := 8) hx hb dX7_init_21 (by decide) ?_
  refine g_newaI (N := 8) hx hb hArrI hK hP hD hS hA (by decide) (by decide) (Nat.le_of_ble_eq_true rfl) (Nat.le_of_ble_eq_true rfl) (Nat.le_of_ble_eq_true rfl) dX7_init_23 (fun b3 H hP hD hS => ?_)
  have hP : va_P D ccl [(m0, .inr (8, [.ref b1, .ref b2, .null, .int 0, .null, .int 0, .null, .int 0, .null, .null, .null, .int 0, .null, .null, .int 0, .int 0, .int 0, .long 0, .long 0, .int 0])), (b1, .inl (cI, 40, .inl (fun _ => 0))), (b2, .inl (cI, 32, .inl (fun _ => 0))), (b3, .inl (cI, 8, .inl (fun _ => 0)))] H := hP
  have hD : va_D A [(m0, .inr (8, [.ref b1, .ref b2, .null, .int 0, .null, .int 0, .null, .int 0, .null, .null, .null, .int 0, .null, .null, .int 0, .int 0, .int 0, .long 0, .long 0, .int 0])), (b1, .inl (cI, 40, .inl (fun _ => 0))), (b2, .inl (cI, 32, .inl (fun _ => 0))), (b3, .inl (cI, 8, .inl (fun _ => 0)))] := hD
  refine va_putF (D := D) (ci := 8) (v := .ref b3) (ty := .array (.int)) (C := RX7) (T := TX7) (N := 20) hx hb hts inX7 tyX7 tyX7_ok nmX7 hown hK hP hD hS 0 rfl rfl 2 (by decide) hfieldLink_RX7_16 (fun _ h9 => h9) rfl (hin rfl) rfl (by decide +kernel) rfl rfl (Nat.le_of_ble_eq_true rfl) dX7_init_25 (fun H locs hP hD hS => ?_)
  have hP : va_P D ccl [(m0, .inr (8, [.ref b1, .ref b2, .ref b3, .int 0, .null, .int 0, .null, .int 0, .null, .null, .null, .int 0, .null, .null, .int 0, .int 0, .int 0, .long 0, .long 0, .int 0])), (b1, .inl (cI, 40, .inl (fun _ => 0))), (b2, .inl (cI, 32, .inl (fun _ => 0))), (b3, .inl (cI, 8, .inl (fun _ => 0)))] H := hP
  have hD : va_D A [(m0, .inr (8, [.ref b1, .ref b2, .ref b3, .int 0, .null, .int 0, .null, .int 0, .null, .null, .null, .int 0, .null, .null, .int 0, .int 0, .int 0, .long 0, .long 0, .int 0])), (b1, .inl (cI, 40, .inl (fun _ => 0))), (b2, .inl (cI, 32, .inl (fun _ => 0))), (b3, .inl (cI, 8, .inl (fun _ => 0)))] := hD
  refine lv_aload_n hx hb dX7_init_28 rfl (lv_at hl 0 rfl) ?_
  refine lv_bipush (v := 8) hx hb dX7_init_29 (by decide) ?_
  refine g_newaI (N := 8) hx hb hArrI hK hP hD hS hA (by decide) (by decide) (Nat.le_of_ble_eq_true rfl) (Nat.le_of_ble_eq_true rfl) (Nat.le_of_ble_eq_true rfl) dX7_init_31 (fun b4 H hP hD hS => ?_)
  have hP : va_P D ccl [(m0, .inr (8, [.ref b1, .ref b2, .ref b3, .int 0, .null, .int 0, .null, .int 0, .null, .null, .null, .int 0, .null, .null, .int 0, .int 0, .int 0, .long 0, .long 0, .int 0])), (b1, .inl (cI, 40, .inl (fun _ => 0))), (b2, .inl (cI, 32, .inl (fun _ => 0))), (b3, .inl (cI, 8, .inl (fun _ => 0))), (b4, .inl (cI, 8, .inl (fun _ => 0)))] H := hP
  have hD : va_D A [(m0, .inr (8, [.ref b1, .ref b2, .ref b3, .int 0, .null, .int 0, .null, .int 0, .null, .null, .null, .int 0, .null, .null, .int 0, .int 0, .int 0, .long 0, .long 0, .int 0])), (b1, .inl (cI, 40, .inl (fun _ => 0))), (b2, .inl (cI, 32, .inl (fun _ => 0))), (b3, .inl (cI, 8, .inl (fun _ => 0))), (b4, .inl (cI, 8, .inl (fun _ => 0)))] := hD
  refine va_putF (D := D) (ci := 8) (v := .ref b4) (ty := .array (.int)) (C := RX7) (T := TX7) (N := 20) hx hb hts inX7 tyX7 tyX7_ok nmX7 hown hK hP hD hS 0 rfl rfl 4 (by decide) hfieldLink_RX7_19 (fun _ h9 => h9) rfl (hin rfl) rfl (by decide +kernel) rfl rfl (Nat.le_of_ble_eq_true rfl) dX7_init_33 (fun H locs hP hD hS => ?_)
  have hP : va_P D ccl [(m0, .inr (8, [.ref b1, .ref b2, .ref b3, .int 0, .ref b4, .int 0, .null, .int 0, .null, .null, .null, .int 0, .null, .null, .int 0, .int 0, .int 0, .long 0, .long 0, .int 0])), (b1, .inl (cI, 40, .inl (fun _ => 0))), (b2, .inl (cI, 32, .inl (fun _ => 0))), (b3, .inl (cI, 8, .inl (fun _ => 0))), (b4, .inl (cI, 8, .inl (fun _ => 0)))] H := hP
  have hD : va_D A [(m0, .inr (8, [.ref b1, .ref b2, .ref b3, .int 0, .ref b4, .int 0, .null, .int 0, .null, .null, .null, .int 0, .null, .null, .int 0, .int 0, .int 0, .long 0, .long 0, .int 0])), (b1, .inl (cI, 40, .inl (fun _ => 0))), (b2, .inl (cI, 32, .inl (fun _ => 0))), (b3, .inl (cI, 8, .inl (fun _ => 0))), (b4, .inl (cI, 8, .inl (fun _ => 0)))] := hD
  refine lv_aload_n hx hb dX7_init_36 rfl (lv_at hl 0 rfl) ?_
  refine lv_bipush (v := 16) hx hb dX7_init_37 (by decide) ?_
  refine g_newaI (N := 16) hx hb hArrI hK hP hD hS hA (by decide) (by decide) (Nat.le_of_ble_eq_true rfl) (Nat.le_of_ble_eq_true rfl) (Nat.le_of_ble_eq_true rfl) dX7_init_39 (fun b5 H hP hD hS => ?_)
  have hP : va_P D ccl [(m0, .inr (8, [.ref b1, .ref b2, .ref b3, .int 0, .ref b4, .int 0, .null, .int 0, .null, .null, .null, .int 0, .null, .null, .int 0, .int 0, .int 0, .long 0, .long 0, .int 0])), (b1, .inl (cI, 40, .inl (fun _ => 0))), (b2, .inl (cI, 32, .inl (fun _ => 0))), (b3, .inl (cI, 8, .inl (fun _ => 0))), (b4, .inl (cI, 8, .inl (fun _ => 0))), (b5, .inl (cI, 16, .inl (fun _ => 0)))] H := hP
  have hD : va_D A [(m0, .inr (8, [.ref b1, .ref b2, .ref b3, .int 0, .ref b4, .int 0, .null, .int 0, .null, .null, .null, .int 0, .null, .null, .int 0, .int 0, .int 0, .long 0, .long 0, .int 0])), (b1, .inl (cI, 40, .inl (fun _ => 0))), (b2, .inl (cI, 32, .inl (fun _ => 0))), (b3, .inl (cI, 8, .inl (fun _ => 0))), (b4, .inl (cI, 8, .inl (fun _ => 0))), (b5, .inl (cI, 16, .inl (fun _ => 0)))] := hD
  refine va_putF (D := D) (ci := 8) (v := .ref b5) (ty := .array (.int)) (C := RX7) (T := TX7) (N := 20) hx hb hts inX7 tyX7 tyX7_ok nmX7 hown hK hP hD hS 0 rfl rfl 6 (by decide) hfieldLink_RX7_22 (fun _ h9 => h9) rfl (hin rfl) rfl (by decide +kernel) rfl rfl (Nat.le_of_ble_eq_true rfl) dX7_init_41 (fun H locs hP hD hS => ?_)
  have hP : va_P D ccl [(m0, .inr (8, [.ref b1, .ref b2, .ref b3, .int 0, .ref b4, .int 0, .ref b5, .int 0, .null, .null, .null, .int 0, .null, .null, .int 0, .int 0, .int 0, .long 0, .long 0, .int 0])), (b1, .inl (cI, 40, .inl (fun _ => 0))), (b2, .inl (cI, 32, .inl (fun _ => 0))), (b3, .inl (cI, 8, .inl (fun _ => 0))), (b4, .inl (cI, 8, .inl (fun _ => 0))), (b5, .inl (cI, 16, .inl (fun _ => 0)))] H := hP
  have hD : va_D A [(m0, .inr (8, [.ref b1, .ref b2, .ref b3, .int 0, .ref b4, .int 0, .ref b5, .int 0, .null, .null, .null, .int 0, .null, .null, .int 0, .int 0, .int 0, .long 0, .long 0, .int 0])), (b1, .inl (cI, 40, .inl (fun _ => 0))), (b2, .inl (cI, 32, .inl (fun _ => 0))), (b3, .inl (cI, 8, .inl (fun _ => 0))), (b4, .inl (cI, 8, .inl (fun _ => 0))), (b5, .inl (cI, 16, .inl (fun _ => 0)))] := hD
  refine lv_aload_n hx hb dX7_init_44 rfl (lv_at hl 0 rfl) ?_
  refine lv_bipush (v := 32) hx hb dX7_init_45 (by decide) ?_
  refine g_newaI (N := 32) hx hb hArrI hK hP hD hS hA (by decide) (by decide) (Nat.le_of_ble_eq_true rfl) (Nat.le_of_ble_eq_true rfl) (Nat.le_of_ble_eq_true rfl) dX7_init_47 (fun b6 H hP hD hS => ?_)
  have hP : va_P D ccl [(m0, .inr (8, [.ref b1, .ref b2, .ref b3, .int 0, .ref b4, .int 0, .ref b5, .int 0, .null, .null, .null, .int 0, .null, .null, .int 0, .int 0, .int 0, .long 0, .long 0, .int 0])), (b1, .inl (cI, 40, .inl (fun _ => 0))), (b2, .inl (cI, 32, .inl (fun _ => 0))), (b3, .inl (cI, 8, .inl (fun _ => 0))), (b4, .inl (cI, 8, .inl (fun _ => 0))), (b5, .inl (cI, 16, .inl (fun _ => 0))), (b6, .inl (cI, 32, .inl (fun _ => 0)))] H := hP
  have hD : va_D A [(m0, .inr (8, [.ref b1, .ref b2, .ref b3, .int 0, .ref b4, .int 0, .ref b5, .int 0, .null, .null, .null, .int 0, .null, .null, .int 0, .int 0, .int 0, .long 0, .long 0, .int 0])), (b1, .inl (cI, 40, .inl (fun _ => 0))), (b2, .inl (cI, 32, .inl (fun _ => 0))), (b3, .inl (cI, 8, .inl (fun _ => 0))), (b4, .inl (cI, 8, .inl (fun _ => 0))), (b5, .inl (cI, 16, .inl (fun _ => 0))), (b6, .inl (cI, 32, .inl (fun _ => 0)))] := hD
  refine va_putF (D := D) (ci := 8) (v := .ref b6) (ty := .array (.int)) (C := RX7) (T := TX7) (N := 20) hx hb hts inX7 tyX7 tyX7_ok nmX7 hown hK hP hD hS 0 rfl rfl 8 (by decide) hfieldLink_RX7_25 (fun _ h9 => h9) rfl (hin rfl) rfl (by decide +kernel) rfl rfl (Nat.le_of_ble_eq_true rfl) dX7_init_49 (fun H locs hP hD hS => ?_)
  have hP : va_P D ccl [(m0, .inr (8, [.ref b1, .ref b2, .ref b3, .int 0, .ref b4, .int 0, .ref b5, .int 0, .ref b6, .null, .null, .int 0, .null, .null, .int 0, .int 0, .int 0, .long 0, .long 0, .int 0])), (b1, .inl (cI, 40, .inl (fun _ => 0))), (b2, .inl (cI, 32, .inl (fun _ => 0))), (b3, .inl (cI, 8, .inl (fun _ => 0))), (b4, .inl (cI, 8, .inl (fun _ => 0))), (b5, .inl (cI, 16, .inl (fun _ => 0))), (b6, .inl (cI, 32, .inl (fun _ => 0)))] H := hP
  have hD : va_D A [(m0, .inr (8, [.ref b1, .ref b2, .ref b3, .int 0, .ref b4, .int 0, .ref b5, .int 0, .ref b6, .null, .null, .int 0, .null, .null, .int 0, .int 0, .int 0, .long 0, .long 0, .int 0])), (b1, .inl (cI, 40, .inl (fun _ => 0))), (b2, .inl (cI, 32, .inl (fun _ => 0))), (b3, .inl (cI, 8, .inl (fun _ => 0))), (b4, .inl (cI, 8, .inl (fun _ => 0))), (b5, .inl (cI, 16, .inl (fun _ => 0))), (b6, .inl (cI, 32, .inl (fun _ => 0)))] := hD
  refine lv_aload_n hx hb dX7_init_52 rfl (lv_at hl 0 rfl) ?_
  refine lv_bipush (v := 32) hx hb dX7_init_53 (by decide) ?_
  refine g_newaI (N := 32) hx hb hArrI hK hP hD hS hA (by decide) (by decide) (Nat.le_of_ble_eq_true rfl) (Nat.le_of_ble_eq_true rfl) (Nat.le_of_ble_eq_true rfl) dX7_init_55 (fun b7 H hP hD hS => ?_)
  have hP : va_P D ccl [(m0, .inr (8, [.ref b1, .ref b2, .ref b3, .int 0, .ref b4, .int 0, .ref b5, .int 0, .ref b6, .null, .null, .int 0, .null, .null, .int 0, .int 0, .int 0, .long 0, .long 0, .int 0])), (b1, .inl (cI, 40, .inl (fun _ => 0))), (b2, .inl (cI, 32, .inl (fun _ => 0))), (b3, .inl (cI, 8, .inl (fun _ => 0))), (b4, .inl (cI, 8, .inl (fun _ => 0))), (b5, .inl (cI, 16, .inl (fun _ => 0))), (b6, .inl (cI, 32, .inl (fun _ => 0))), (b7, .inl (cI, 32, .inl (fun _ => 0)))] H := hP
  have hD : va_D A [(m0, .inr (8, [.ref b1, .ref b2, .ref b3, .int 0, .ref b4, .int 0, .ref b5, .int 0, .ref b6, .null, .null, .int 0, .null, .null, .int 0, .int 0, .int 0, .long 0, .long 0, .int 0])), (b1, .inl (cI, 40, .inl (fun _ => 0))), (b2, .inl (cI, 32, .inl (fun _ => 0))), (b3, .inl (cI, 8, .inl (fun _ => 0))), (b4, .inl (cI, 8, .inl (fun _ => 0))), (b5, .inl (cI, 16, .inl (fun _ => 0))), (b6, .inl (cI, 32, .inl (fun _ => 0))), (b7, .inl (cI, 32, .inl (fun _ => 0)))] := hD
  refine va_putF (D := D) (ci := 8) (v := .ref b7) (ty := .array (.int)) (C := RX7) (T := TX7) (N := 20) hx hb hts inX7 tyX7 tyX7_ok nmX7 hown hK hP hD hS 0 rfl rfl 9 (by decide) hfieldLink_RX7_28 (fun _ h9 => h9) rfl (hin rfl) rfl (by decide +kernel) rfl rfl (Nat.le_of_ble_eq_true rfl) dX7_init_57 (fun H locs hP hD hS => ?_)
  have hP : va_P D ccl [(m0, .inr (8, [.ref b1, .ref b2, .ref b3, .int 0, .ref b4, .int 0, .ref b5, .int 0, .ref b6, .ref b7, .null, .int 0, .null, .null, .int 0, .int 0, .int 0, .long 0, .long 0, .int 0])), (b1, .inl (cI, 40, .inl (fun _ => 0))), (b2, .inl (cI, 32, .inl (fun _ => 0))), (b3, .inl (cI, 8, .inl (fun _ => 0))), (b4, .inl (cI, 8, .inl (fun _ => 0))), (b5, .inl (cI, 16, .inl (fun _ => 0))), (b6, .inl (cI, 32, .inl (fun _ => 0))), (b7, .inl (cI, 32, .inl (fun _ => 0)))] H := hP
  have hD : va_D A [(m0, .inr (8, [.ref b1, .ref b2, .ref b3, .int 0, .ref b4, .int 0, .ref b5, .int 0, .ref b6, .ref b7, .null, .int 0, .null, .null, .int 0, .int 0, .int 0, .long 0, .long 0, .int 0])), (b1, .inl (cI, 40, .inl (fun _ => 0))), (b2, .inl (cI, 32, .inl (fun _ => 0))), (b3, .inl (cI, 8, .inl (fun _ => 0))), (b4, .inl (cI, 8, .inl (fun _ => 0))), (b5, .inl (cI, 16, .inl (fun _ => 0))), (b6, .inl (cI, 32, .inl (fun _ => 0))), (b7, .inl (cI, 32, .inl (fun _ => 0)))] := hD
  refine lv_aload_n hx hb dX7_init_60 rfl (lv_at hl 0 rfl) ?_
  refine lv_bipush (v := 64) hx hb dX7_init_61 (by decide) ?_
  refine g_newaI (N := 64) hx hb hArrI hK hP hD hS hA (by decide) (by decide) (Nat.le_of_ble_eq_true rfl) (Nat.le_of_ble_eq_true rfl) (Nat.le_of_ble_eq_true rfl) dX7_init_63 (fun b8 H hP hD hS => ?_)
  have hP : va_P D ccl [(m0, .inr (8, [.ref b1, .ref b2, .ref b3, .int 0, .ref b4, .int 0, .ref b5, .int 0, .ref b6, .ref b7, .null, .int 0, .null, .null, .int 0, .int 0, .int 0, .long 0, .long 0, .int 0])), (b1, .inl (cI, 40, .inl (fun _ => 0))), (b2, .inl (cI, 32, .inl (fun _ => 0))), (b3, .inl (cI, 8, .inl (fun _ => 0))), (b4, .inl (cI, 8, .inl (fun _ => 0))), (b5, .inl (cI, 16, .inl (fun _ => 0))), (b6, .inl (cI, 32, .inl (fun _ => 0))), (b7, .inl (cI, 32, .inl (fun _ => 0))), (b8, .inl (cI, 64, .inl (fun _ => 0)))] H := hP
  have hD : va_D A [(m0, .inr (8, [.ref b1, .ref b2, .ref b3, .int 0, .ref b4, .int 0, .ref b5, .int 0, .ref b6, .ref b7, .null, .int 0, .null, .null, .int 0, .int 0, .int 0, .long 0, .long 0, .int 0])), (b1, .inl (cI, 40, .inl (fun _ => 0))), (b2, .inl (cI, 32, .inl (fun _ => 0))), (b3, .inl (cI, 8, .inl (fun _ => 0))), (b4, .inl (cI, 8, .inl (fun _ => 0))), (b5, .inl (cI, 16, .inl (fun _ => 0))), (b6, .inl (cI, 32, .inl (fun _ => 0))), (b7, .inl (cI, 32, .inl (fun _ => 0))), (b8, .inl (cI, 64, .inl (fun _ => 0)))] := hD
  refine va_putF (D := D) (ci := 8) (v := .ref b8) (ty := .array (.int)) (C := RX7) (T := TX7) (N := 20) hx hb hts inX7 tyX7 tyX7_ok nmX7 hown hK hP hD hS 0 rfl rfl 10 (by decide) hfieldLink_RX7_31 (fun _ h9 => h9) rfl (hin rfl) rfl (by decide +kernel) rfl rfl (Nat.le_of_ble_eq_true rfl) dX7_init_65 (fun H locs hP hD hS => ?_)
  have hP : va_P D ccl [(m0, .inr (8, [.ref b1, .ref b2, .ref b3, .int 0, .ref b4, .int 0, .ref b5, .int 0, .ref b6, .ref b7, .ref b8, .int 0, .null, .null, .int 0, .int 0, .int 0, .long 0, .long 0, .int 0])), (b1, .inl (cI, 40, .inl (fun _ => 0))), (b2, .inl (cI, 32, .inl (fun _ => 0))), (b3, .inl (cI, 8, .inl (fun _ => 0))), (b4, .inl (cI, 8, .inl (fun _ => 0))), (b5, .inl (cI, 16, .inl (fun _ => 0))), (b6, .inl (cI, 32, .inl (fun _ => 0))), (b7, .inl (cI, 32, .inl (fun _ => 0))), (b8, .inl (cI, 64, .inl (fun _ => 0)))] H := hP
  have hD : va_D A [(m0, .inr (8, [.ref b1, .ref b2, .ref b3, .int 0, .ref b4, .int 0, .ref b5, .int 0, .ref b6, .ref b7, .ref b8, .int 0, .null, .null, .int 0, .int 0, .int 0, .long 0, .long 0, .int 0])), (b1, .inl (cI, 40, .inl (fun _ => 0))), (b2, .inl (cI, 32, .inl (fun _ => 0))), (b3, .inl (cI, 8, .inl (fun _ => 0))), (b4, .inl (cI, 8, .inl (fun _ => 0))), (b5, .inl (cI, 16, .inl (fun _ => 0))), (b6, .inl (cI, 32, .inl (fun _ => 0))), (b7, .inl (cI, 32, .inl (fun _ => 0))), (b8, .inl (cI, 64, .inl (fun _ => 0)))] := hD
  refine lv_aload_n hx hb dX7_init_68 rfl (lv_at hl 0 rfl) ?_
  refine lv_ldc (v := 40401) hx hb hown hconstant_RX7_34 dX7_init_69 ?_
  refine g_newaI (N := 40401) hx hb hArrI hK hP hD hS hA (by decide) (by decide) (Nat.le_of_ble_eq_true rfl) (Nat.le_of_ble_eq_true rfl) (Nat.le_of_ble_eq_true rfl) dX7_init_71 (fun b9 H hP hD hS => ?_)
  have hP : va_P D ccl [(m0, .inr (8, [.ref b1, .ref b2, .ref b3, .int 0, .ref b4, .int 0, .ref b5, .int 0, .ref b6, .ref b7, .ref b8, .int 0, .null, .null, .int 0, .int 0, .int 0, .long 0, .long 0, .int 0])), (b1, .inl (cI, 40, .inl (fun _ => 0))), (b2, .inl (cI, 32, .inl (fun _ => 0))), (b3, .inl (cI, 8, .inl (fun _ => 0))), (b4, .inl (cI, 8, .inl (fun _ => 0))), (b5, .inl (cI, 16, .inl (fun _ => 0))), (b6, .inl (cI, 32, .inl (fun _ => 0))), (b7, .inl (cI, 32, .inl (fun _ => 0))), (b8, .inl (cI, 64, .inl (fun _ => 0))), (b9, .inl (cI, 40401, .inl (fun _ => 0)))] H := hP
  have hD : va_D A [(m0, .inr (8, [.ref b1, .ref b2, .ref b3, .int 0, .ref b4, .int 0, .ref b5, .int 0, .ref b6, .ref b7, .ref b8, .int 0, .null, .null, .int 0, .int 0, .int 0, .long 0, .long 0, .int 0])), (b1, .inl (cI, 40, .inl (fun _ => 0))), (b2, .inl (cI, 32, .inl (fun _ => 0))), (b3, .inl (cI, 8, .inl (fun _ => 0))), (b4, .inl (cI, 8, .inl (fun _ => 0))), (b5, .inl (cI, 16, .inl (fun _ => 0))), (b6, .inl (cI, 32, .inl (fun _ => 0))), (b7, .inl (cI, 32, .inl (fun _ => 0))), (b8, .inl (cI, 64, .inl (fun _ => 0))), (b9, .inl (cI, 40401, .inl (fun _ => 0)))] := hD
  refine va_putF (D := D) (ci := 8) (v := .ref b9) (ty := .array (.int)) (C := RX7) (T := TX7) (N := 20) hx hb hts inX7 tyX7 tyX7_ok nmX7 hown hK hP hD hS 0 rfl rfl 12 (by decide) hfieldLink_RX7_35 (fun _ h9 => h9) rfl (hin rfl) rfl (by decide +kernel) rfl rfl (Nat.le_of_ble_eq_true rfl) dX7_init_73 (fun H locs hP hD hS => ?_)
  have hP : va_P D ccl [(m0, .inr (8, [.ref b1, .ref b2, .ref b3, .int 0, .ref b4, .int 0, .ref b5, .int 0, .ref b6, .ref b7, .ref b8, .int 0, .ref b9, .null, .int 0, .int 0, .int 0, .long 0, .long 0, .int 0])), (b1, .inl (cI, 40, .inl (fun _ => 0))), (b2, .inl (cI, 32, .inl (fun _ => 0))), (b3, .inl (cI, 8, .inl (fun _ => 0))), (b4, .inl (cI, 8, .inl (fun _ => 0))), (b5, .inl (cI, 16, .inl (fun _ => 0))), (b6, .inl (cI, 32, .inl (fun _ => 0))), (b7, .inl (cI, 32, .inl (fun _ => 0))), (b8, .inl (cI, 64, .inl (fun _ => 0))), (b9, .inl (cI, 40401, .inl (fun _ => 0)))] H := hP
  have hD : va_D A [(m0, .inr (8, [.ref b1, .ref b2, .ref b3, .int 0, .ref b4, .int 0, .ref b5, .int 0, .ref b6, .ref b7, .ref b8, .int 0, .ref b9, .null, .int 0, .int 0, .int 0, .long 0, .long 0, .int 0])), (b1, .inl (cI, 40, .inl (fun _ => 0))), (b2, .inl (cI, 32, .inl (fun _ => 0))), (b3, .inl (cI, 8, .inl (fun _ => 0))), (b4, .inl (cI, 8, .inl (fun _ => 0))), (b5, .inl (cI, 16, .inl (fun _ => 0))), (b6, .inl (cI, 32, .inl (fun _ => 0))), (b7, .inl (cI, 32, .inl (fun _ => 0))), (b8, .inl (cI, 64, .inl (fun _ => 0))), (b9, .inl (cI, 40401, .inl (fun _ => 0)))] := hD
  refine lv_aload_n hx hb dX7_init_76 rfl (lv_at hl 0 rfl) ?_
  refine lv_ldc (v := 40401) hx hb hown hconstant_RX7_34 dX7_init_77 ?_
  refine g_newaI (N := 40401) hx hb hArrI hK hP hD hS hA (by decide) (by decide) (Nat.le_of_ble_eq_true rfl) (Nat.le_of_ble_eq_true rfl) (Nat.le_of_ble_eq_true rfl) dX7_init_79 (fun b10 H hP hD hS => ?_)
  have hP : va_P D ccl [(m0, .inr (8, [.ref b1, .ref b2, .ref b3, .int 0, .ref b4, .int 0, .ref b5, .int 0, .ref b6, .ref b7, .ref b8, .int 0, .ref b9, .null, .int 0, .int 0, .int 0, .long 0, .long 0, .int 0])), (b1, .inl (cI, 40, .inl (fun _ => 0))), (b2, .inl (cI, 32, .inl (fun _ => 0))), (b3, .inl (cI, 8, .inl (fun _ => 0))), (b4, .inl (cI, 8, .inl (fun _ => 0))), (b5, .inl (cI, 16, .inl (fun _ => 0))), (b6, .inl (cI, 32, .inl (fun _ => 0))), (b7, .inl (cI, 32, .inl (fun _ => 0))), (b8, .inl (cI, 64, .inl (fun _ => 0))), (b9, .inl (cI, 40401, .inl (fun _ => 0))), (b10, .inl (cI, 40401, .inl (fun _ => 0)))] H := hP
  have hD : va_D A [(m0, .inr (8, [.ref b1, .ref b2, .ref b3, .int 0, .ref b4, .int 0, .ref b5, .int 0, .ref b6, .ref b7, .ref b8, .int 0, .ref b9, .null, .int 0, .int 0, .int 0, .long 0, .long 0, .int 0])), (b1, .inl (cI, 40, .inl (fun _ => 0))), (b2, .inl (cI, 32, .inl (fun _ => 0))), (b3, .inl (cI, 8, .inl (fun _ => 0))), (b4, .inl (cI, 8, .inl (fun _ => 0))), (b5, .inl (cI, 16, .inl (fun _ => 0))), (b6, .inl (cI, 32, .inl (fun _ => 0))), (b7, .inl (cI, 32, .inl (fun _ => 0))), (b8, .inl (cI, 64, .inl (fun _ => 0))), (b9, .inl (cI, 40401, .inl (fun _ => 0))), (b10, .inl (cI, 40401, .inl (fun _ => 0)))] := hD
  refine va_putF (D := D) (ci := 8) (v := .ref b10) (ty := .array (.int)) (C := RX7) (T := TX7) (N := 20) hx hb hts inX7 tyX7 tyX7_ok nmX7 hown hK hP hD hS 0 rfl rfl 13 (by decide) hfieldLink_RX7_38 (fun _ h9 => h9) rfl (hin rfl) rfl (by decide +kernel) rfl rfl (Nat.le_of_ble_eq_true rfl) dX7_init_81 (fun H locs hP hD hS => ?_)
  have hP : va_P D ccl [(m0, .inr (8, [.ref b1, .ref b2, .ref b3, .int 0, .ref b4, .int 0, .ref b5, .int 0, .ref b6, .ref b7, .ref b8, .int 0, .ref b9, .ref b10, .int 0, .int 0, .int 0, .long 0, .long 0, .int 0])), (b1, .inl (cI, 40, .inl (fun _ => 0))), (b2, .inl (cI, 32, .inl (fun _ => 0))), (b3, .inl (cI, 8, .inl (fun _ => 0))), (b4, .inl (cI, 8, .inl (fun _ => 0))), (b5, .inl (cI, 16, .inl (fun _ => 0))), (b6, .inl (cI, 32, .inl (fun _ => 0))), (b7, .inl (cI, 32, .inl (fun _ => 0))), (b8, .inl (cI, 64, .inl (fun _ => 0))), (b9, .inl (cI, 40401, .inl (fun _ => 0))), (b10, .inl (cI, 40401, .inl (fun _ => 0)))] H := hP
  have hD : va_D A [(m0, .inr (8, [.ref b1, .ref b2, .ref b3, .int 0, .ref b4, .int 0, .ref b5, .int 0, .ref b6, .ref b7, .ref b8, .int 0, .ref b9, .ref b10, .int 0, .int 0, .int 0, .long 0, .long 0, .int 0])), (b1, .inl (cI, 40, .inl (fun _ => 0))), (b2, .inl (cI, 32, .inl (fun _ => 0))), (b3, .inl (cI, 8, .inl (fun _ => 0))), (b4, .inl (cI, 8, .inl (fun _ => 0))), (b5, .inl (cI, 16, .inl (fun _ => 0))), (b6, .inl (cI, 32, .inl (fun _ => 0))), (b7, .inl (cI, 32, .inl (fun _ => 0))), (b8, .inl (cI, 64, .inl (fun _ => 0))), (b9, .inl (cI, 40401, .inl (fun _ => 0))), (b10, .inl (cI, 40401, .inl (fun _ => 0)))] := hD
  refine g_vret hx hb hr hlk hP hK hD hS (Nat.le_of_ble_eq_true rfl) (Nat.le_of_ble_eq_true rfl) dX7_init_84 ?_
  exact ⟨_, _, _, _, _, _, _, _, _, _, rfl⟩
