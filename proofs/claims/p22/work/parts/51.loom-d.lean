set_option maxHeartbeats 4000000 in
set_option maxRecDepth 100000 in
theorem c_X6_gain (l : Launch) (hfl : l.stackTraces = false) (D : va_G) (cI cJ cO : ClassId) (df sz : Nat) (t0 : Nat) (sl : Nat) (ch : Nat) (oh : Nat) (xh : Nat) (rh : Nat) (sh : Nat) (lh : Nat) (er : Nat) (md : Int32) (C : Nat) (fr : Nat → Option Nat) (mo : Nat → Int32) (SA : Nat → Nat) (SB : Nat → Nat) (mc : Nat → Int32) (ms : Nat → Int32) (mw : Nat → Int32) (N : Nat) (wr : Int32) (dv : Int32) (hC : C ≤ 8) (hN : N ≤ 8) (hfr : ∀ k, k < C → fr k = some (SA (gN (mo k)))) (hO : ∀ i, i < C → gN (mo i) < N ∧ mo i = nI (gN (mo i))) (hc : isC mc) : MxL l yX6_gain wsX6_gain ({ frames := 7, cells := 3, slots := 14, locals := 112 } : Room) D (gTY cI cJ cO) df (([(t0, .inr (7, [.ref sl, .ref ch, .ref oh, .ref xh, .ref rh, .ref sh])), (ch, .inr (1, [.ref lh])), (lh, .inr (0, [.int md, .ref er, .int (nI C)])), (er, .inl (cO, 10, .inr (.inr (.inr (.inr fr)))))] : va_W) ++ scL (scJ cI SA SB mc ms mw) (List.range N)) sz [.ref t0, .int wr, .int dv] (fun (u : String × va_W) => u.2 = ([(t0, .inr (7, [.ref sl, .ref ch, .ref oh, .ref xh, .ref rh, .ref sh])), (ch, .inr (1, [.ref lh])), (lh, .inr (0, [.int md, .ref er, .int (nI C)])), (er, .inl (cO, 10, .inr (.inr (.inr (.inr fr)))))] : va_W) ++ scL (scJ cI SA SB mc ms mw) (List.range N) ∧ ¬ gGo (isIn wr 0 2) (if C ≤ (if wr = 2 then 2 else 4) then (1 : Int32) else 0) 1 = 0 ∧ u.1 = xN gIAE gISE (gGo (isIn wr 0 2) (if C ≤ (if wr = 2 then 2 else 4) then (1 : Int32) else 0) 1)) (fun (r : Int64) (wZ : va_W) => wZ = ([(t0, .inr (7, [.ref sl, .ref ch, .ref oh, .ref xh, .ref rh, .ref sh])), (ch, .inr (1, [.ref lh])), (lh, .inr (0, [.int md, .ref er, .int (nI C)])), (er, .inl (cO, 10, .inr (.inr (.inr (.inr fr)))))] : va_W) ++ scL (scJ cI SA SB mc ms mw) (List.range N) ∧ r.toInt = gnR (zO mc mo (gN wr) C) (zU mc mo (gN wr) C) dv ∧ gGo (isIn wr 0 2) (if C ≤ (if wr = 2 then 2 else 4) then (1 : Int32) else 0) 1 = 0) := by
  refine gx_of (cc := cX6_gain) (nL := 4) (ret := (some .long)) (D := D) (TY := (gTY cI cJ cO)) (df := df) (Qc := fun A => va_Ql (fun (r : Int64) (wZ : va_W) => wZ = ([(t0, .inr (7, [.ref sl, .ref ch, .ref oh, .ref xh, .ref rh, .ref sh])), (ch, .inr (1, [.ref lh])), (lh, .inr (0, [.int md, .ref er, .int (nI C)])), (er, .inl (cO, 10, .inr (.inr (.inr (.inr fr)))))] : va_W) ++ scL (scJ cI SA SB mc ms mw) (List.range N) ∧ r.toInt = gnR (zO mc mo (gN wr) C) (zU mc mo (gN wr) C) dv ∧ gGo (isIn wr 0 2) (if C ≤ (if wr = 2 then 2 else 4) then (1 : Int32) else 0) 1 = 0) (gB D (gTY cI cJ cO) A) A) (XC := fun A => vx_X (fun (u : String × va_W) => u.2 = ([(t0, .inr (7, [.ref sl, .ref ch, .ref oh, .ref xh, .ref rh, .ref sh])), (ch, .inr (1, [.ref lh])), (lh, .inr (0, [.int md, .ref er, .int (nI C)])), (er, .inl (cO, 10, .inr (.inr (.inr (.inr fr)))))] : va_W) ++ scL (scJ cI SA SB mc ms mw) (List.range N) ∧ ¬ gGo (isIn wr 0 2) (if C ≤ (if wr = 2 then 2 else 4) then (1 : Int32) else 0) 1 = 0 ∧ u.1 = xN gIAE gISE (gGo (isIn wr 0 2) (if C ≤ (if wr = 2 then 2 else 4) then (1 : Int32) else 0) 1)) (gBx D (gTY cI cJ cO) A) A) (by decide +kernel) rfl (Nat.le_of_ble_eq_true rfl) ?_
  intro p e s m below meth c ls A hsz C0 hin hl
  obtain ⟨CF, hr, hlk, hA, hS, hP, hK, hD, hV, hH⟩ := C0
  have CF : CallFix p m c cX6_gain 4 s _ wsX6_gain RX6 := CF
  obtain ⟨hx, hb, hml, hown, hts⟩ := id CF
  subst hsz
  have hmethodLink_RX6_51 : (Cond.methodLink RX6 51 yX6_requireWithin).before _ s = true := hts _ (List.mem_of_getElem? (i := 4) rfl)
  have hmethodLink_RX6_144 : (Cond.methodLink RX6 144 yX6_requireShortChain).before _ s = true := hts _ (List.mem_of_getElem? (i := 10) rfl)
  have hfieldLink_RX6_19 : (Cond.fieldLink RX6 19 "TapLoom" "chained" "LTapLoom$Chain;").before _ s = true := hts _ (List.mem_of_getElem? (i := 1) rfl)
  have hmethodLink_RX6_147 : (Cond.methodLink RX6 147 yX0_gainAt).before _ s = true := hts _ (List.mem_of_getElem? (i := 28) rfl)
  have hfieldLink_RX6_157 : (Cond.fieldLink RX6 157 "TapLoom$Fraction" "number" "J").before _ s = true := hts _ (List.mem_of_getElem? (i := 3) rfl)
  have hfieldLink_RX6_151 : (Cond.fieldLink RX6 151 "TapLoom$Fraction" "divisor" "J").before _ s = true := hts _ (List.mem_of_getElem? (i := 2) rfl)
  have inX2 : ∀ w ∈ u_ws RX2 TX2 2, w ∈ wsX6_gain := fun w h => (List.mem_cons_of_mem _ (List.mem_append_left _ (List.mem_append_left _ (List.mem_append_left _ (List.mem_append_left _ (List.mem_append_left _ (List.mem_append_right _ h)))))))
  have inX6 : ∀ w ∈ u_ws RX6 TX6 6, w ∈ wsX6_gain := fun w h => (List.mem_cons_of_mem _ (List.mem_append_left _ (List.mem_append_left _ (List.mem_append_left _ (List.mem_append_left _ (List.mem_append_left _ (List.mem_append_left _ (List.mem_append_right _ h))))))))
  have hP : va_P D ccl (([(t0, .inr (7, [.ref sl, .ref ch, .ref oh, .ref xh, .ref rh, .ref sh])), (ch, .inr (1, [.ref lh])), (lh, .inr (0, [.int md, .ref er, .int (nI C)])), (er, .inl (cO, 10, .inr (.inr (.inr (.inr fr)))))] : va_W) ++ scL (scJ cI SA SB mc ms mw) (List.range N)) s.heap := hP
  have hl : lv_has ls 4 [(0, .ref t0), (1, .int wr), (2, .int dv)] := hl
  refine lv_iload_n hx hb dX6_gain_0 rfl (lv_at hl 1 rfl) ?_
  refine lv_iconst (v := 0) hx hb dX6_gain_1 (by decide) ?_
  refine lv_iconst (v := 2) hx hb dX6_gain_2 (by decide) ?_
  have hPc : va_P D ccl [] s.heap := fun k q h => by simp at h
  have hDc : va_D A [] := ⟨fun i j p q h => by simp at h, fun k q h => by simp at h⟩
  have hFc := va_free (wc := []) hD hS hA [] rfl
  refine gx_Sv (As := [.int wr, .int 0, .int 2]) (rest := []) CF (c_X6_requireWithin l hfl D cI cJ cO df s.heap.size wr 0 2 ) (va_cwS 3 hts gX6_gain_X6_requireWithin rfl rfl rfl (by decide +kernel) ⟨Nat.le_of_ble_eq_true rfl, Nat.le_of_ble_eq_true rfl⟩)  hPc hK hDc hV hH hS hFc rfl hl.1 rfl (Nat.le_of_ble_eq_true rfl) dX6_gain_3 ⟨Nat.le_of_ble_eq_true rfl, Nat.le_of_ble_eq_true rfl⟩ (fun E9 ce q9 w1 H1 locs1 hq hP1 hD1 hk hS hz hc1 hc2 hc3 => ?_) (fun w1 H1 locs1 hq hP1 hD1 hk hS hz => ?_)
  · obtain ⟨ew1, hq⟩ := hq
    dsimp only at ew1 hq
    subst ew1
    have hP := g_keep0 hP hk
    refine vx_widen (k := 3) (n := 14) (Nat.le_of_ble_eq_true rfl) (Nat.le_of_ble_eq_true rfl) ?_
    refine vx_out (fun z hz9 => absurd hz9 (hin z)) hlk hc1 hc2 hc3 (fun t ht hvm => ⟨(E9, (([(t0, .inr (7, [.ref sl, .ref ch, .ref oh, .ref xh, .ref rh, .ref sh])), (ch, .inr (1, [.ref lh])), (lh, .inr (0, [.int md, .ref er, .int (nI C)])), (er, .inl (cO, 10, .inr (.inr (.inr (.inr fr)))))] : va_W) ++ scL (scJ cI SA SB mc ms mw) (List.range N))), ⟨rfl, px1 hq.2 hq.1⟩, ⟨rfl, by rw [ht]; exact hP, va_K.moved hvm hK, hD⟩, hS.F ht⟩) hS.2.2 (Nat.le_refl _) (Nat.le_refl _)
  obtain ⟨rfl, hq_3⟩ := hq
  have hP := g_keep0 hP hk
  clear hPc hDc hFc hP1 hD1 hk hz
  generalize H1 = H at hP hS ⊢
  have hP : va_P D ccl (([(t0, .inr (7, [.ref sl, .ref ch, .ref oh, .ref xh, .ref rh, .ref sh])), (ch, .inr (1, [.ref lh])), (lh, .inr (0, [.int md, .ref er, .int (nI C)])), (er, .inl (cO, 10, .inr (.inr (.inr (.inr fr)))))] : va_W) ++ scL (scJ cI SA SB mc ms mw) (List.range N)) H := hP
  have hD : va_D A (([(t0, .inr (7, [.ref sl, .ref ch, .ref oh, .ref xh, .ref rh, .ref sh])), (ch, .inr (1, [.ref lh])), (lh, .inr (0, [.int md, .ref er, .int (nI C)])), (er, .inl (cO, 10, .inr (.inr (.inr (.inr fr)))))] : va_W) ++ scL (scJ cI SA SB mc ms mw) (List.range N)) := hD
  refine lv_aload_n hx hb dX6_gain_6 rfl (lv_at hl 0 rfl) ?_
  refine lv_iload_n hx hb dX6_gain_7 rfl (lv_at hl 1 rfl) ?_
  have hPc := hP.sub (ws' := [(t0, .inr (7, [.ref sl, .ref ch, .ref oh, .ref xh, .ref rh, .ref sh])), (ch, .inr (1, [.ref lh])), (lh, .inr (0, [.int md, .ref er, .int (nI C)]))]) [0, 1, 2] rfl
  have hDc := hD.sub (ws' := [(t0, .inr (7, [.ref sl, .ref ch, .ref oh, .ref xh, .ref rh, .ref sh])), (ch, .inr (1, [.ref lh])), (lh, .inr (0, [.int md, .ref er, .int (nI C)]))]) [0, 1, 2] (by decide) rfl
  have hFc := va_free (wc := [(t0, .inr (7, [.ref sl, .ref ch, .ref oh, .ref xh, .ref rh, .ref sh])), (ch, .inr (1, [.ref lh])), (lh, .inr (0, [.int md, .ref er, .int (nI C)]))]) hD hS hA [0, 1, 2] rfl
  refine gx_Vv (As := [.int wr]) (rest := []) CF (c_X6_requireShortChain l hfl D cI cJ cO df H.size t0 sl ch oh xh rh sh lh er md C wr hC) (cwV 1 hts gX6_gain_X6_requireShortChain rfl rfl rfl (by decide +kernel) ⟨Nat.le_of_ble_eq_true rfl, Nat.le_of_ble_eq_true rfl⟩) (va_recv hK hP (ci := 7) (q0 := 0) rfl rfl) hPc hK hDc hV hH hS hFc rfl hl.1 rfl (Nat.le_of_ble_eq_true rfl) dX6_gain_8 ⟨Nat.le_of_ble_eq_true rfl, Nat.le_of_ble_eq_true rfl⟩ (fun E9 ce q9 w1 H1 locs1 hq hP1 hD1 hk hS hz hc1 hc2 hc3 => ?_) (fun w1 H1 locs1 hq hP1 hD1 hk hS hz => ?_)
  · obtain ⟨ew1, hq⟩ := hq
    dsimp only at ew1 hq
    subst ew1
    have hP := g_keepR hP hD [0, 1, 2] rfl hk hP1
    refine vx_widen (k := 3) (n := 14) (Nat.le_of_ble_eq_true rfl) (Nat.le_of_ble_eq_true rfl) ?_
    refine vx_out (fun z hz9 => absurd hz9 (hin z)) hlk hc1 hc2 hc3 (fun t ht hvm => ⟨(E9, (([(t0, .inr (7, [.ref sl, .ref ch, .ref oh, .ref xh, .ref rh, .ref sh])), (ch, .inr (1, [.ref lh])), (lh, .inr (0, [.int md, .ref er, .int (nI C)])), (er, .inl (cO, 10, .inr (.inr (.inr (.inr fr)))))] : va_W) ++ scL (scJ cI SA SB mc ms mw) (List.range N))), ⟨rfl, px2 hq_3 hq.2 hq.1⟩, ⟨rfl, by rw [ht]; exact hP, va_K.moved hvm hK, hD⟩, hS.F ht⟩) hS.2.2 (Nat.le_refl _) (Nat.le_refl _)
  obtain ⟨rfl, hq_8⟩ := hq
  have hP := g_keepR hP hD [0, 1, 2] rfl hk hP1
  clear hPc hDc hFc hP1 hD1 hk hz
  generalize H1 = H at hP hS ⊢
  have hP : va_P D ccl (([(t0, .inr (7, [.ref sl, .ref ch, .ref oh, .ref xh, .ref rh, .ref sh])), (ch, .inr (1, [.ref lh])), (lh, .inr (0, [.int md, .ref er, .int (nI C)])), (er, .inl (cO, 10, .inr (.inr (.inr (.inr fr)))))] : va_W) ++ scL (scJ cI SA SB mc ms mw) (List.range N)) H := hP
  have hD : va_D A (([(t0, .inr (7, [.ref sl, .ref ch, .ref oh, .ref xh, .ref rh, .ref sh])), (ch, .inr (1, [.ref lh])), (lh, .inr (0, [.int md, .ref er, .int (nI C)])), (er, .inl (cO, 10, .inr (.inr (.inr (.inr fr)))))] : va_W) ++ scL (scJ cI SA SB mc ms mw) (List.range N)) := hD
  obtain ⟨w, hw2, rfl⟩ := isIn_nat 2 (by decide) hq_3
  have hCw : C ≤ (if w = 2 then 2 else 4) := hCw_of hw2 (g_b1 hq_8)
  refine lv_aload_n hx hb dX6_gain_11 rfl (lv_at hl 0 rfl) ?_
  refine va_get (D := D) (ci := 7) (v := .ref ch) (C := RX6) (T := TX6) (N := 6) hx hb hts inX6 hown hK hP 0 rfl rfl 1 (by decide) hfieldLink_RX6_19 (fun _ h9 => h9) rfl dX6_gain_12 ?_
  refine lv_iload_n hx hb dX6_gain_15 rfl (lv_at hl 1 rfl) ?_
  have hPc := hP.part (X := [(t0, .inr (7, [.ref sl, .ref ch, .ref oh, .ref xh, .ref rh, .ref sh])), (ch, .inr (1, [.ref lh])), (lh, .inr (0, [.int md, .ref er, .int (nI C)])), (er, .inl (cO, 10, .inr (.inr (.inr (.inr fr)))))]) (cx := [(ch, .inr (1, [.ref lh])), (lh, .inr (0, [.int md, .ref er, .int (nI C)])), (er, .inl (cO, 10, .inr (.inr (.inr (.inr fr)))))]) [1, 2, 3] rfl
  have hDc := hD.part (X := [(t0, .inr (7, [.ref sl, .ref ch, .ref oh, .ref xh, .ref rh, .ref sh])), (ch, .inr (1, [.ref lh])), (lh, .inr (0, [.int md, .ref er, .int (nI C)])), (er, .inl (cO, 10, .inr (.inr (.inr (.inr fr)))))]) (cx := [(ch, .inr (1, [.ref lh])), (lh, .inr (0, [.int md, .ref er, .int (nI C)])), (er, .inl (cO, 10, .inr (.inr (.inr (.inr fr)))))]) [1, 2, 3] (by decide) rfl
  have hFc := va_freeP (X := [(t0, .inr (7, [.ref sl, .ref ch, .ref oh, .ref xh, .ref rh, .ref sh])), (ch, .inr (1, [.ref lh])), (lh, .inr (0, [.int md, .ref er, .int (nI C)])), (er, .inl (cO, 10, .inr (.inr (.inr (.inr fr)))))]) (cx := [(ch, .inr (1, [.ref lh])), (lh, .inr (0, [.int md, .ref er, .int (nI C)])), (er, .inl (cO, 10, .inr (.inr (.inr (.inr fr)))))]) hD hS hA [1, 2, 3] rfl
  refine g_Vr (As := [.int (nI w)]) (rest := []) CF (c_X0_gainAt l D cI cJ cO df H.size ch lh er md C fr mo SA SB mc ms mw N w hC hN hfr hO hc hw2 hCw) (cwV 1 hts gX6_gain_X0_gainAt rfl rfl rfl (by decide +kernel) ⟨Nat.le_of_ble_eq_true rfl, Nat.le_of_ble_eq_true rfl⟩) (va_recv hK hP (ci := 1) (q0 := 1) rfl rfl) hPc hK hDc hV hH hS hFc rfl hl.1 rfl (Nat.le_of_ble_eq_true rfl) dX6_gain_16 ⟨Nat.le_of_ble_eq_true rfl, Nat.le_of_ble_eq_true rfl⟩ (fun w1 H1 locs1 hq hP1 hD1 hk hS hz => ?_)
  obtain ⟨w1, a1⟩ := w1
  obtain ⟨qf, rn, rd, ew1, hr_16, hq_16⟩ := hq
  dsimp only at ew1 hP1 hD1 hr_16
  subst ew1
  obtain ⟨hP, hD⟩ := g_joinP (X := [(t0, .inr (7, [.ref sl, .ref ch, .ref oh, .ref xh, .ref rh, .ref sh])), (ch, .inr (1, [.ref lh])), (lh, .inr (0, [.int md, .ref er, .int (nI C)])), (er, .inl (cO, 10, .inr (.inr (.inr (.inr fr)))))]) (cx := [(ch, .inr (1, [.ref lh])), (lh, .inr (0, [.int md, .ref er, .int (nI C)])), (er, .inl (cO, 10, .inr (.inr (.inr (.inr fr)))))]) (rx := [(ch, .inr (1, [.ref lh])), (lh, .inr (0, [.int md, .ref er, .int (nI C)])), (er, .inl (cO, 10, .inr (.inr (.inr (.inr fr))))), (qf, .inr (3, [.long rn, .long rd]))]) (X' := [(t0, .inr (7, [.ref sl, .ref ch, .ref oh, .ref xh, .ref rh, .ref sh])), (ch, .inr (1, [.ref lh])), (lh, .inr (0, [.int md, .ref er, .int (nI C)])), (er, .inl (cO, 10, .inr (.inr (.inr (.inr fr))))), (qf, .inr (3, [.long rn, .long rd]))]) hP hD hk hFc hP1 hD1 [1, 2, 3] [0] [0, 1, 2, 3, 4] rfl rfl (by decide) (by decide) (by decide) rfl
  clear hPc hDc hFc hP1 hD1 hk hz
  generalize H1 = H at hP hS ⊢
  have hP : va_P D ccl (([(t0, .inr (7, [.ref sl, .ref ch, .ref oh, .ref xh, .ref rh, .ref sh])), (ch, .inr (1, [.ref lh])), (lh, .inr (0, [.int md, .ref er, .int (nI C)])), (er, .inl (cO, 10, .inr (.inr (.inr (.inr fr))))), (qf, .inr (3, [.long rn, .long rd]))] : va_W) ++ scL (scJ cI SA SB mc ms mw) (List.range N)) H := hP
  have hD : va_D A (([(t0, .inr (7, [.ref sl, .ref ch, .ref oh, .ref xh, .ref rh, .ref sh])), (ch, .inr (1, [.ref lh])), (lh, .inr (0, [.int md, .ref er, .int (nI C)])), (er, .inl (cO, 10, .inr (.inr (.inr (.inr fr))))), (qf, .inr (3, [.long rn, .long rd]))] : va_W) ++ scL (scJ cI SA SB mc ms mw) (List.range N)) := hD
  have hr_16 := hr_16.symm
  subst hr_16
  refine lv_astore_n (lv' := [(3, .ref qf), (0, .ref t0), (1, .int (nI w)), (2, .int dv)]) hx hb dX6_gain_19 rfl hl (by decide) rfl (fun ls hl => ?_)
  refine lv_iload_n hx hb dX6_gain_20 rfl (lv_at hl 3 rfl) ?_
  refine lv_if_eq (tgt := 31) hx hb dX6_gain_21 (by decide) (fun c_21 => ?_) (fun c_21 => ?_)
  · refine lv_aload_n hx hb dX6_gain_31 rfl (lv_at hl 0 rfl) ?_
    refine va_get (D := D) (ci := 3) (v := .long rn) (C := RX2) (T := TX2) (N := 2) hx hb hts inX2 hown hK hP 4 rfl rfl 0 (by decide) hfieldLink_RX6_157 (fun _ h9 => h9) rfl dX6_gain_32 ?_
    have hP := hP.part (X := [(t0, .inr (7, [.ref sl, .ref ch, .ref oh, .ref xh, .ref rh, .ref sh])), (ch, .inr (1, [.ref lh])), (lh, .inr (0, [.int md, .ref er, .int (nI C)])), (er, .inl (cO, 10, .inr (.inr (.inr (.inr fr))))), (qf, .inr (3, [.long rn, .long rd]))]) (cx := [(t0, .inr (7, [.ref sl, .ref ch, .ref oh, .ref xh, .ref rh, .ref sh])), (ch, .inr (1, [.ref lh])), (lh, .inr (0, [.int md, .ref er, .int (nI C)])), (er, .inl (cO, 10, .inr (.inr (.inr (.inr fr)))))]) [0, 1, 2, 3] rfl
    have hD := hD.part (X := [(t0, .inr (7, [.ref sl, .ref ch, .ref oh, .ref xh, .ref rh, .ref sh])), (ch, .inr (1, [.ref lh])), (lh, .inr (0, [.int md, .ref er, .int (nI C)])), (er, .inl (cO, 10, .inr (.inr (.inr (.inr fr))))), (qf, .inr (3, [.long rn, .long rd]))]) (cx := [(t0, .inr (7, [.ref sl, .ref ch, .ref oh, .ref xh, .ref rh, .ref sh])), (ch, .inr (1, [.ref lh])), (lh, .inr (0, [.int md, .ref er, .int (nI C)])), (er, .inl (cO, 10, .inr (.inr (.inr (.inr fr)))))]) [0, 1, 2, 3] (by decide) rfl
    have hP : va_P D ccl (([(t0, .inr (7, [.ref sl, .ref ch, .ref oh, .ref xh, .ref rh, .ref sh])), (ch, .inr (1, [.ref lh])), (lh, .inr (0, [.int md, .ref er, .int (nI C)])), (er, .inl (cO, 10, .inr (.inr (.inr (.inr fr)))))] : va_W) ++ scL (scJ cI SA SB mc ms mw) (List.range N)) H := hP
    have hD : va_D A (([(t0, .inr (7, [.ref sl, .ref ch, .ref oh, .ref xh, .ref rh, .ref sh])), (ch, .inr (1, [.ref lh])), (lh, .inr (0, [.int md, .ref er, .int (nI C)])), (er, .inl (cO, 10, .inr (.inr (.inr (.inr fr)))))] : va_W) ++ scL (scJ cI SA SB mc ms mw) (List.range N)) := hD
    refine vx_ret ?_
    refine g_lret (v := rn) hx hb hr hlk hP hK hD hS (Nat.le_of_ble_eq_true rfl) (Nat.le_of_ble_eq_true rfl) dX6_gain_35 ?_
    have e1 : gN (nI w) = w := gN_nI (by omega)
    exact ⟨rfl, by
      try rw [e1]
      first | (rw [c_21]; exact hq_16.1) | (rw [gnR_ne c_21]; exact hq_16.2), gGoOk hq_3 hq_8 (by decide)⟩
  · refine lv_aload_n hx hb dX6_gain_24 rfl (lv_at hl 0 rfl) ?_
    refine va_get (D := D) (ci := 3) (v := .long rd) (C := RX2) (T := TX2) (N := 2) hx hb hts inX2 hown hK hP 4 rfl rfl 1 (by decide) hfieldLink_RX6_151 (fun _ h9 => h9) rfl dX6_gain_25 ?_
    refine lv_goto (tgt := 35) hx hb dX6_gain_28 (by decide) ?_
    have hP := hP.part (X := [(t0, .inr (7, [.ref sl, .ref ch, .ref oh, .ref xh, .ref rh, .ref sh])), (ch, .inr (1, [.ref lh])), (lh, .inr (0, [.int md, .ref er, .int (nI C)])), (er, .inl (cO, 10, .inr (.inr (.inr (.inr fr))))), (qf, .inr (3, [.long rn, .long rd]))]) (cx := [(t0, .inr (7, [.ref sl, .ref ch, .ref oh, .ref xh, .ref rh, .ref sh])), (ch, .inr (1, [.ref lh])), (lh, .inr (0, [.int md, .ref er, .int (nI C)])), (er, .inl (cO, 10, .inr (.inr (.inr (.inr fr)))))]) [0, 1, 2, 3] rfl
    have hD := hD.part (X := [(t0, .inr (7, [.ref sl, .ref ch, .ref oh, .ref xh, .ref rh, .ref sh])), (ch, .inr (1, [.ref lh])), (lh, .inr (0, [.int md, .ref er, .int (nI C)])), (er, .inl (cO, 10, .inr (.inr (.inr (.inr fr))))), (qf, .inr (3, [.long rn, .long rd]))]) (cx := [(t0, .inr (7, [.ref sl, .ref ch, .ref oh, .ref xh, .ref rh, .ref sh])), (ch, .inr (1, [.ref lh])), (lh, .inr (0, [.int md, .ref er, .int (nI C)])), (er, .inl (cO, 10, .inr (.inr (.inr (.inr fr)))))]) [0, 1, 2, 3] (by decide) rfl
    have hP : va_P D ccl (([(t0, .inr (7, [.ref sl, .ref ch, .ref oh, .ref xh, .ref rh, .ref sh])), (ch, .inr (1, [.ref lh])), (lh, .inr (0, [.int md, .ref er, .int (nI C)])), (er, .inl (cO, 10, .inr (.inr (.inr (.inr fr)))))] : va_W) ++ scL (scJ cI SA SB mc ms mw) (List.range N)) H := hP
    have hD : va_D A (([(t0, .inr (7, [.ref sl, .ref ch, .ref oh, .ref xh, .ref rh, .ref sh])), (ch, .inr (1, [.ref lh])), (lh, .inr (0, [.int md, .ref er, .int (nI C)])), (er, .inl (cO, 10, .inr (.inr (.inr (.inr fr)))))] : va_W) ++ scL (scJ cI SA SB mc ms mw) (List.range N)) := hD
    refine vx_ret ?_
    refine g_lret (v := rd) hx hb hr hlk hP hK hD hS (Nat.le_of_ble_eq_true rfl) (Nat.le_of_ble_eq_true rfl) dX6_gain_35 ?_
    have e1 : gN (nI w) = w := gN_nI (by omega)
    exact ⟨rfl, by
      try rw [e1]
      first | (rw [c_21]; exact hq_16.1) | (rw [gnR_ne c_21]; exact hq_16.2), gGoOk hq_3 hq_8 (by decide)⟩

set_option maxHeartbeats 4000000 in
set_option maxRecDepth 100000 in
theorem c_X6_gain_e (l : Launch) (hfl : l.stackTraces = false) (D : va_G) (cI cJ cO : ClassId) (df sz : Nat) (t0 : Nat) (sl : Nat) (ch : Nat) (oh : Nat) (xh : Nat) (rh : Nat) (sh : Nat) (lh : Nat) (md : Int32) (wr : Int32) (dv : Int32)  : MxL l yX6_gain wsX6_gain ({ frames := 7, cells := 3, slots := 14, locals := 112 } : Room) D (gTY cI cJ cO) df [(t0, .inr (7, [.ref sl, .ref ch, .ref oh, .ref xh, .ref rh, .ref sh])), (ch, .inr (1, [.ref lh])), (lh, .inr (0, [.int md, .ref df, .int 0]))] sz [.ref t0, .int wr, .int dv] (fun (u : String × va_W) => u.2 = [(t0, .inr (7, [.ref sl, .ref ch, .ref oh, .ref xh, .ref rh, .ref sh])), (ch, .inr (1, [.ref lh])), (lh, .inr (0, [.int md, .ref df, .int 0]))] ∧ ¬ gGo (isIn wr 0 2) 1 1 = 0 ∧ u.1 = xN gIAE gISE (gGo (isIn wr 0 2) 1 1)) (fun (r : Int64) (wZ : va_W) => wZ = [(t0, .inr (7, [.ref sl, .ref ch, .ref oh, .ref xh, .ref rh, .ref sh])), (ch, .inr (1, [.ref lh])), (lh, .inr (0, [.int md, .ref df, .int 0]))] ∧ r.toInt = gnR 1 1 dv ∧ gGo (isIn wr 0 2) 1 1 = 0) := by
  refine gx_of (cc := cX6_gain) (nL := 4) (ret := (some .long)) (D := D) (TY := (gTY cI cJ cO)) (df := df) (Qc := fun A => va_Ql (fun (r : Int64) (wZ : va_W) => wZ = [(t0, .inr (7, [.ref sl, .ref ch, .ref oh, .ref xh, .ref rh, .ref sh])), (ch, .inr (1, [.ref lh])), (lh, .inr (0, [.int md, .ref df, .int 0]))] ∧ r.toInt = gnR 1 1 dv ∧ gGo (isIn wr 0 2) 1 1 = 0) (gB D (gTY cI cJ cO) A) A) (XC := fun A => vx_X (fun (u : String × va_W) => u.2 = [(t0, .inr (7, [.ref sl, .ref ch, .ref oh, .ref xh, .ref rh, .ref sh])), (ch, .inr (1, [.ref lh])), (lh, .inr (0, [.int md, .ref df, .int 0]))] ∧ ¬ gGo (isIn wr 0 2) 1 1 = 0 ∧ u.1 = xN gIAE gISE (gGo (isIn wr 0 2) 1 1)) (gBx D (gTY cI cJ cO) A) A) (by decide +kernel) rfl (Nat.le_of_ble_eq_true rfl) ?_
  intro p e s m below meth c ls A hsz C0 hin hl
  obtain ⟨CF, hr, hlk, hA, hS, hP, hK, hD, hV, hH⟩ := C0
  have CF : CallFix p m c cX6_gain 4 s _ wsX6_gain RX6 := CF
  obtain ⟨hx, hb, hml, hown, hts⟩ := id CF
  subst hsz
  have hmethodLink_RX6_51 : (Cond.methodLink RX6 51 yX6_requireWithin).before _ s = true := hts _ (List.mem_of_getElem? (i := 4) rfl)
  have hmethodLink_RX6_144 : (Cond.methodLink RX6 144 yX6_requireShortChain).before _ s = true := hts _ (List.mem_of_getElem? (i := 10) rfl)
  have hfieldLink_RX6_19 : (Cond.fieldLink RX6 19 "TapLoom" "chained" "LTapLoom$Chain;").before _ s = true := hts _ (List.mem_of_getElem? (i := 1) rfl)
  have hmethodLink_RX6_147 : (Cond.methodLink RX6 147 yX0_gainAt).before _ s = true := hts _ (List.mem_of_getElem? (i := 28) rfl)
  have hfieldLink_RX6_157 : (Cond.fieldLink RX6 157 "TapLoom$Fraction" "number" "J").before _ s = true := hts _ (List.mem_of_getElem? (i := 3) rfl)
  have hfieldLink_RX6_151 : (Cond.fieldLink RX6 151 "TapLoom$Fraction" "divisor" "J").before _ s = true := hts _ (List.mem_of_getElem? (i := 2) rfl)
  have inX2 : ∀ w ∈ u_ws RX2 TX2 2, w ∈ wsX6_gain := fun w h => (List.mem_cons_of_mem _ (List.mem_append_left _ (List.mem_append_left _ (List.mem_append_left _ (List.mem_append_left _ (List.mem_append_left _ (List.mem_append_right _ h)))))))
  have inX6 : ∀ w ∈ u_ws RX6 TX6 6, w ∈ wsX6_gain := fun w h => (List.mem_cons_of_mem _ (List.mem_append_left _ (List.mem_append_left _ (List.mem_append_left _ (List.mem_append_left _ (List.mem_append_left _ (List.mem_append_left _ (List.mem_append_right _ h))))))))
  have hP : va_P D ccl [(t0, .inr (7, [.ref sl, .ref ch, .ref oh, .ref xh, .ref rh, .ref sh])), (ch, .inr (1, [.ref lh])), (lh, .inr (0, [.int md, .ref df, .int 0]))] s.heap := hP
  have hl : lv_has ls 4 [(0, .ref t0), (1, .int wr), (2, .int dv)] := hl
  refine lv_iload_n hx hb dX6_gain_0 rfl (lv_at hl 1 rfl) ?_
  refine lv_iconst (v := 0) hx hb dX6_gain_1 (by decide) ?_
  refine lv_iconst (v := 2) hx hb dX6_gain_2 (by decide) ?_
  have hPc : va_P D ccl [] s.heap := fun k q h => by simp at h
  have hDc : va_D A [] := ⟨fun i j p q h => by simp at h, fun k q h => by simp at h⟩
  have hFc := va_free (wc := []) hD hS hA [] rfl
  refine gx_Sv (As := [.int wr, .int 0, .int 2]) (rest := []) CF (c_X6_requireWithin l hfl D cI cJ cO df s.heap.size wr 0 2 ) (va_cwS 3 hts gX6_gain_X6_requireWithin rfl rfl rfl (by decide +kernel) ⟨Nat.le_of_ble_eq_true rfl, Nat.le_of_ble_eq_true rfl⟩)  hPc hK hDc hV hH hS hFc rfl hl.1 rfl (Nat.le_of_ble_eq_true rfl) dX6_gain_3 ⟨Nat.le_of_ble_eq_true rfl, Nat.le_of_ble_eq_true rfl⟩ (fun E9 ce q9 w1 H1 locs1 hq hP1 hD1 hk hS hz hc1 hc2 hc3 => ?_) (fun w1 H1 locs1 hq hP1 hD1 hk hS hz => ?_)
  · obtain ⟨ew1, hq⟩ := hq
    dsimp only at ew1 hq
    subst ew1
    have hP := g_keep0 hP hk
    refine vx_widen (k := 3) (n := 14) (Nat.le_of_ble_eq_true rfl) (Nat.le_of_ble_eq_true rfl) ?_
    refine vx_out (fun z hz9 => absurd hz9 (hin z)) hlk hc1 hc2 hc3 (fun t ht hvm => ⟨(E9, [(t0, .inr (7, [.ref sl, .ref ch, .ref oh, .ref xh, .ref rh, .ref sh])), (ch, .inr (1, [.ref lh])), (lh, .inr (0, [.int md, .ref df, .int 0]))]), ⟨rfl, px1 hq.2 hq.1⟩, ⟨rfl, by rw [ht]; exact hP, va_K.moved hvm hK, hD⟩, hS.F ht⟩) hS.2.2 (Nat.le_refl _) (Nat.le_refl _)
  obtain ⟨rfl, hq_3⟩ := hq
  have hP := g_keep0 hP hk
  clear hPc hDc hFc hP1 hD1 hk hz
  generalize H1 = H at hP hS ⊢
  have hP : va_P D ccl [(t0, .inr (7, [.ref sl, .ref ch, .ref oh, .ref xh, .ref rh, .ref sh])), (ch, .inr (1, [.ref lh])), (lh, .inr (0, [.int md, .ref df, .int 0]))] H := hP
  have hD : va_D A [(t0, .inr (7, [.ref sl, .ref ch, .ref oh, .ref xh, .ref rh, .ref sh])), (ch, .inr (1, [.ref lh])), (lh, .inr (0, [.int md, .ref df, .int 0]))] := hD
  refine lv_aload_n hx hb dX6_gain_6 rfl (lv_at hl 0 rfl) ?_
  refine lv_iload_n hx hb dX6_gain_7 rfl (lv_at hl 1 rfl) ?_
  have hPc := hP.sub (ws' := [(t0, .inr (7, [.ref sl, .ref ch, .ref oh, .ref xh, .ref rh, .ref sh])), (ch, .inr (1, [.ref lh])), (lh, .inr (0, [.int md, .ref df, .int (nI 0)]))]) [0, 1, 2] rfl
  have hDc := hD.sub (ws' := [(t0, .inr (7, [.ref sl, .ref ch, .ref oh, .ref xh, .ref rh, .ref sh])), (ch, .inr (1, [.ref lh])), (lh, .inr (0, [.int md, .ref df, .int (nI 0)]))]) [0, 1, 2] (by decide) rfl
  have hFc := va_free (wc := [(t0, .inr (7, [.ref sl, .ref ch, .ref oh, .ref xh, .ref rh, .ref sh])), (ch, .inr (1, [.ref lh])), (lh, .inr (0, [.int md, .ref df, .int (nI 0)]))]) hD hS hA [0, 1, 2] rfl
  refine gx_Vv (As := [.int wr]) (rest := []) CF (c_X6_requireShortChain l hfl D cI cJ cO df H.size t0 sl ch oh xh rh sh lh df md 0 wr (by decide)) (cwV 1 hts gX6_gain_X6_requireShortChain rfl rfl rfl (by decide +kernel) ⟨Nat.le_of_ble_eq_true rfl, Nat.le_of_ble_eq_true rfl⟩) (va_recv hK hP (ci := 7) (q0 := 0) rfl rfl) hPc hK hDc hV hH hS hFc rfl hl.1 rfl (Nat.le_of_ble_eq_true rfl) dX6_gain_8 ⟨Nat.le_of_ble_eq_true rfl, Nat.le_of_ble_eq_true rfl⟩ (fun E9 ce q9 w1 H1 locs1 hq hP1 hD1 hk hS hz hc1 hc2 hc3 => ?_) (fun w1 H1 locs1 hq hP1 hD1 hk hS hz => ?_)
  · obtain ⟨ew1, hq⟩ := hq
    dsimp only at ew1 hq
    subst ew1
    have hP := g_keepR hP hD [0, 1, 2] rfl hk hP1
    refine vx_widen (k := 3) (n := 14) (Nat.le_of_ble_eq_true rfl) (Nat.le_of_ble_eq_true rfl) ?_
    refine vx_out (fun z hz9 => absurd hz9 (hin z)) hlk hc1 hc2 hc3 (fun t ht hvm => ⟨(E9, [(t0, .inr (7, [.ref sl, .ref ch, .ref oh, .ref xh, .ref rh, .ref sh])), (ch, .inr (1, [.ref lh])), (lh, .inr (0, [.int md, .ref df, .int 0]))]), ⟨rfl, absurd hq.2 (by rw [if_pos (by split <;> omega)]; decide)⟩, ⟨rfl, by rw [ht]; exact hP, va_K.moved hvm hK, hD⟩, hS.F ht⟩) hS.2.2 (Nat.le_refl _) (Nat.le_refl _)
  obtain ⟨rfl, hq_8⟩ := hq
  have hP := g_keepR hP hD [0, 1, 2] rfl hk hP1
  clear hPc hDc hFc hP1 hD1 hk hz
  generalize H1 = H at hP hS ⊢
  have hP : va_P D ccl [(t0, .inr (7, [.ref sl, .ref ch, .ref oh, .ref xh, .ref rh, .ref sh])), (ch, .inr (1, [.ref lh])), (lh, .inr (0, [.int md, .ref df, .int 0]))] H := hP
  have hD : va_D A [(t0, .inr (7, [.ref sl, .ref ch, .ref oh, .ref xh, .ref rh, .ref sh])), (ch, .inr (1, [.ref lh])), (lh, .inr (0, [.int md, .ref df, .int 0]))] := hD
  obtain ⟨w, hw2, rfl⟩ := isIn_nat 2 (by decide) hq_3
  refine lv_aload_n hx hb dX6_gain_11 rfl (lv_at hl 0 rfl) ?_
  refine va_get (D := D) (ci := 7) (v := .ref ch) (C := RX6) (T := TX6) (N := 6) hx hb hts inX6 hown hK hP 0 rfl rfl 1 (by decide) hfieldLink_RX6_19 (fun _ h9 => h9) rfl dX6_gain_12 ?_
  refine lv_iload_n hx hb dX6_gain_15 rfl (lv_at hl 1 rfl) ?_
  have hPc := hP.sub (ws' := [(ch, .inr (1, [.ref lh])), (lh, .inr (0, [.int md, .ref df, .int 0]))]) [1, 2] rfl
  have hDc := hD.sub (ws' := [(ch, .inr (1, [.ref lh])), (lh, .inr (0, [.int md, .ref df, .int 0]))]) [1, 2] (by decide) rfl
  have hFc := va_free (wc := [(ch, .inr (1, [.ref lh])), (lh, .inr (0, [.int md, .ref df, .int 0]))]) hD hS hA [1, 2] rfl
  refine g_Vr (As := [.int (nI w)]) (rest := []) CF (c_X0_gainAt_e l D cI cJ cO df H.size ch lh md w ) (cwV 1 hts gX6_gain_X0_gainAt rfl rfl rfl (by decide +kernel) ⟨Nat.le_of_ble_eq_true rfl, Nat.le_of_ble_eq_true rfl⟩) (va_recv hK hP (ci := 1) (q0 := 1) rfl rfl) hPc hK hDc hV hH hS hFc rfl hl.1 rfl (Nat.le_of_ble_eq_true rfl) dX6_gain_16 ⟨Nat.le_of_ble_eq_true rfl, Nat.le_of_ble_eq_true rfl⟩ (fun w1 H1 locs1 hq hP1 hD1 hk hS hz => ?_)
  obtain ⟨w1, a1⟩ := w1
  obtain ⟨qf, rn, rd, ew1, hr_16, hq_16⟩ := hq
  dsimp only at ew1 hP1 hD1 hr_16
  subst ew1
  obtain ⟨hP, hD⟩ := g_join (ws' := [(t0, .inr (7, [.ref sl, .ref ch, .ref oh, .ref xh, .ref rh, .ref sh])), (ch, .inr (1, [.ref lh])), (lh, .inr (0, [.int md, .ref df, .int 0])), (qf, .inr (3, [.long rn, .long rd]))]) hP hD hk hFc hP1 hD1 [1, 2] [0] [0, 1, 2, 3] rfl rfl (by decide) (by decide) (by decide) rfl
  clear hPc hDc hFc hP1 hD1 hk hz
  generalize H1 = H at hP hS ⊢
  have hP : va_P D ccl [(t0, .inr (7, [.ref sl, .ref ch, .ref oh, .ref xh, .ref rh, .ref sh])), (ch, .inr (1, [.ref lh])), (lh, .inr (0, [.int md, .ref df, .int 0])), (qf, .inr (3, [.long rn, .long rd]))] H := hP
  have hD : va_D A [(t0, .inr (7, [.ref sl, .ref ch, .ref oh, .ref xh, .ref rh, .ref sh])), (ch, .inr (1, [.ref lh])), (lh, .inr (0, [.int md, .ref df, .int 0])), (qf, .inr (3, [.long rn, .long rd]))] := hD
  have hr_16 := hr_16.symm
  subst hr_16
  refine lv_astore_n (lv' := [(3, .ref qf), (0, .ref t0), (1, .int (nI w)), (2, .int dv)]) hx hb dX6_gain_19 rfl hl (by decide) rfl (fun ls hl => ?_)
  refine lv_iload_n hx hb dX6_gain_20 rfl (lv_at hl 3 rfl) ?_
  refine lv_if_eq (tgt := 31) hx hb dX6_gain_21 (by decide) (fun c_21 => ?_) (fun c_21 => ?_)
  · refine lv_aload_n hx hb dX6_gain_31 rfl (lv_at hl 0 rfl) ?_
    refine va_get (D := D) (ci := 3) (v := .long rn) (C := RX2) (T := TX2) (N := 2) hx hb hts inX2 hown hK hP 3 rfl rfl 0 (by decide) hfieldLink_RX6_157 (fun _ h9 => h9) rfl dX6_gain_32 ?_
    have hP := hP.sub (ws' := [(t0, .inr (7, [.ref sl, .ref ch, .ref oh, .ref xh, .ref rh, .ref sh])), (ch, .inr (1, [.ref lh])), (lh, .inr (0, [.int md, .ref df, .int 0]))]) [0, 1, 2] rfl
    have hD := hD.sub (ws' := [(t0, .inr (7, [.ref sl, .ref ch, .ref oh, .ref xh, .ref rh, .ref sh])), (ch, .inr (1, [.ref lh])), (lh, .inr (0, [.int md, .ref df, .int 0]))]) [0, 1, 2] (by decide) rfl
    have hP : va_P D ccl [(t0, .inr (7, [.ref sl, .ref ch, .ref oh, .ref xh, .ref rh, .ref sh])), (ch, .inr (1, [.ref lh])), (lh, .inr (0, [.int md, .ref df, .int 0]))] H := hP
    have hD : va_D A [(t0, .inr (7, [.ref sl, .ref ch, .ref oh, .ref xh, .ref rh, .ref sh])), (ch, .inr (1, [.ref lh])), (lh, .inr (0, [.int md, .ref df, .int 0]))] := hD
    refine vx_ret ?_
    refine g_lret (v := rn) hx hb hr hlk hP hK hD hS (Nat.le_of_ble_eq_true rfl) (Nat.le_of_ble_eq_true rfl) dX6_gain_35 ?_
    have e1 : gN (nI w) = w := gN_nI (by omega)
    exact ⟨rfl, by
      try rw [e1]
      first | (rw [c_21]; exact hq_16.1) | (rw [gnR_ne c_21]; exact hq_16.2), gGoOk hq_3 (by decide) (by decide)⟩
  · refine lv_aload_n hx hb dX6_gain_24 rfl (lv_at hl 0 rfl) ?_
    refine va_get (D := D) (ci := 3) (v := .long rd) (C := RX2) (T := TX2) (N := 2) hx hb hts inX2 hown hK hP 3 rfl rfl 1 (by decide) hfieldLink_RX6_151 (fun _ h9 => h9) rfl dX6_gain_25 ?_
    refine lv_goto (tgt := 35) hx hb dX6_gain_28 (by decide) ?_
    have hP := hP.sub (ws' := [(t0, .inr (7, [.ref sl, .ref ch, .ref oh, .ref xh, .ref rh, .ref sh])), (ch, .inr (1, [.ref lh])), (lh, .inr (0, [.int md, .ref df, .int 0]))]) [0, 1, 2] rfl
    have hD := hD.sub (ws' := [(t0, .inr (7, [.ref sl, .ref ch, .ref oh, .ref xh, .ref rh, .ref sh])), (ch, .inr (1, [.ref lh])), (lh, .inr (0, [.int md, .ref df, .int 0]))]) [0, 1, 2] (by decide) rfl
    have hP : va_P D ccl [(t0, .inr (7, [.ref sl, .ref ch, .ref oh, .ref xh, .ref rh, .ref sh])), (ch, .inr (1, [.ref lh])), (lh, .inr (0, [.int md, .ref df, .int 0]))] H := hP
    have hD : va_D A [(t0, .inr (7, [.ref sl, .ref ch, .ref oh, .ref xh, .ref rh, .ref sh])), (ch, .inr (1, [.ref lh])), (lh, .inr (0, [.int md, .ref df, .int 0]))] := hD
    refine vx_ret ?_
    refine g_lret (v := rd) hx hb hr hlk hP hK hD hS (Nat.le_of_ble_eq_true rfl) (Nat.le_of_ble_eq_true rfl) dX6_gain_35 ?_
    have e1 : gN (nI w) = w := gN_nI (by omega)
    exact ⟨rfl, by
      try rw [e1]
      first | (rw [c_21]; exact hq_16.1) | (rw [gnR_ne c_21]; exact hq_16.2), gGoOk hq_3 (by decide) (by decide)⟩

set_option maxHeartbeats 4000000 in
set_option maxRecDepth 100000 in
theorem c_X6_init (l : Launch) (D : va_G) (cI cJ cO : ClassId) (df sz : Nat) (t0 : Nat)  : MetV l yX6_init wsX6_init ({ frames := 5, cells := 13, slots := 1461, locals := 110 } : Room) D (gTY cI cJ cO) df [(t0, .inr (7, [.null, .null, .null, .null, .null, .null]))] sz [.ref t0] (fun (wZ : va_W) => ∃ (sl : Nat), ∃ (ch : Nat), ∃ (lh : Nat), ∃ (oh : Nat), ∃ (ob : Nat), ∃ (xh : Nat), ∃ (mk : Nat), ∃ (rh : Nat), ∃ (ta : Nat), ∃ (qa : Nat), ∃ (pa : Nat), ∃ (sh : Nat), ∃ (sb : Nat), wZ = [(t0, .inr (7, [.ref sl, .ref ch, .ref oh, .ref xh, .ref rh, .ref sh])), (sl, .inr (0, [.int 0, .ref df, .int 0])), (ch, .inr (1, [.ref lh])), (lh, .inr (0, [.int 0, .ref df, .int 0])), (oh, .inr (4, [.ref ob, .int 0])), (ob, .inl (cI, 16, .inl (fun _ => 0))), (xh, .inr (2, [.ref mk, .int 0, .int 0, .int 0, .int 0])), (mk, .inl (cJ, 1263, .inr (.inl (fun _ => 0)))), (rh, .inr (6, [.ref ta, .ref qa, .ref pa])), (ta, .inl (cI, 32, .inl (fun _ => 0))), (qa, .inl (cI, 32, .inl (fun _ => 0))), (pa, .inl (cI, 32, .inl (pwZ 32))), (sh, .inr (4, [.ref sb, .int 0])), (sb, .inl (cI, 64, .inl (fun _ => 0)))]) := by
  refine g_of (cc := cX6_init) (nL := 1) (ret := none) (D := D) (TY := (gTY cI cJ cO)) (df := df) (Qc := fun A => va_Qv (fun (wZ : va_W) => ∃ (sl : Nat), ∃ (ch : Nat), ∃ (lh : Nat), ∃ (oh : Nat), ∃ (ob : Nat), ∃ (xh : Nat), ∃ (mk : Nat), ∃ (rh : Nat), ∃ (ta : Nat), ∃ (qa : Nat), ∃ (pa : Nat), ∃ (sh : Nat), ∃ (sb : Nat), wZ = [(t0, .inr (7, [.ref sl, .ref ch, .ref oh, .ref xh, .ref rh, .ref sh])), (sl, .inr (0, [.int 0, .ref df, .int 0])), (ch, .inr (1, [.ref lh])), (lh, .inr (0, [.int 0, .ref df, .int 0])), (oh, .inr (4, [.ref ob, .int 0])), (ob, .inl (cI, 16, .inl (fun _ => 0))), (xh, .inr (2, [.ref mk, .int 0, .int 0, .int 0, .int 0])), (mk, .inl (cJ, 1263, .inr (.inl (fun _ => 0)))), (rh, .inr (6, [.ref ta, .ref qa, .ref pa])), (ta, .inl (cI, 32, .inl (fun _ => 0))), (qa, .inl (cI, 32, .inl (fun _ => 0))), (pa, .inl (cI, 32, .inl (pwZ 32))), (sh, .inr (4, [.ref sb, .int 0])), (sb, .inl (cI, 64, .inl (fun _ => 0)))]) (gB D (gTY cI cJ cO) A) A) (by decide +kernel) rfl (Nat.le_of_ble_eq_true rfl) ?_
  intro p e s m below meth c ls A hsz C0 hin hl
  obtain ⟨CF, hr, hlk, hA, hS, hP, hK, hD, hV, hH⟩ := C0
  have CF : CallFix p m c cX6_init 1 s _ wsX6_init RX6 := CF
  obtain ⟨hx, hb, hml, hown, hts⟩ := id CF
  subst hsz
  have hmethodLink_RX6_1 : (Cond.methodLink RX6 1 objectInit).before _ s = true := hts _ (List.mem_of_getElem? (i := 1) rfl)
  have hinstanceMethod_objectInit : (Cond.instanceMethod objectInit).before _ s = true := hts _ (List.mem_of_getElem? (i := 2) rfl)
  have hcode_objectInit : (Cond.code objectInit ⟨#[0xb1]⟩ 1 none).before _ s = true := hts _ (List.mem_of_getElem? (i := 3) rfl)
  have hclassLink_RX6_7 : (Cond.classLink RX6 7 RJx4a65c).before _ s = true := hts _ (List.mem_of_getElem? (i := 4) rfl)
  have hinstantiable_RJx4a65c_3 : (Cond.instantiable RJx4a65c 3).before _ s = true := hts _ (List.mem_of_getElem? (i := 5) rfl)
  have hinitialized_RJx4a65c : (Cond.initialized RJx4a65c).before _ s = true := hts _ (List.mem_of_getElem? (i := 6) rfl)
  have hmethodLink_RX6_9 : (Cond.methodLink RX6 9 yJx4a65c_init_da8c8).before _ s = true := hts _ (List.mem_of_getElem? (i := 25) rfl)
  have hinstanceMethod_yJx4a65c_init_da8c8 : (Cond.instanceMethod yJx4a65c_init_da8c8).before _ s = true := hts _ (List.mem_of_getElem? (i := 26) rfl)
  have hfieldLink_RX6_10 : (Cond.fieldLink RX6 10 "TapLoom" "sections" "Ljava/util/ArrayList;").before _ s = true := hts _ (List.mem_of_getElem? (i := 7) rfl)
  have hclassLink_RX6_16 : (Cond.classLink RX6 16 RX0).before _ s = true := hts _ (List.mem_of_getElem? (i := 8) rfl)
  have hinstantiable_RX0_1 : (Cond.instantiable RX0 1).before _ s = true := hts _ (List.mem_of_getElem? (i := 9) rfl)
  have hinitialized_RX0 : (Cond.initialized RX0).before _ s = true := hts _ (List.mem_of_getElem? (i := 10) rfl)
  have hmethodLink_RX6_18 : (Cond.methodLink RX6 18 yX0_init).before _ s = true := hts _ (List.mem_of_getElem? (i := 40) rfl)
  have hinstanceMethod_yX0_init : (Cond.instanceMethod yX0_init).before _ s = true := hts _ (List.mem_of_getElem? (i := 41) rfl)
  have hfieldLink_RX6_19 : (Cond.fieldLink RX6 19 "TapLoom" "chained" "LTapLoom$Chain;").before _ s = true := hts _ (List.mem_of_getElem? (i := 11) rfl)
  have hclassLink_RX6_23 : (Cond.classLink RX6 23 RX3).before _ s = true := hts _ (List.mem_of_getElem? (i := 12) rfl)
  have hinstantiable_RX3_2 : (Cond.instantiable RX3 2).before _ s = true := hts _ (List.mem_of_getElem? (i := 13) rfl)
  have hinitialized_RX3 : (Cond.initialized RX3).before _ s = true := hts _ (List.mem_of_getElem? (i := 14) rfl)
  have hmethodLink_RX6_25 : (Cond.methodLink RX6 25 yX3_init).before _ s = true := hts _ (List.mem_of_getElem? (i := 47) rfl)
  have hinstanceMethod_yX3_init : (Cond.instanceMethod yX3_init).before _ s = true := hts _ (List.mem_of_getElem? (i := 48) rfl)
  have hfieldLink_RX6_28 : (Cond.fieldLink RX6 28 "TapLoom" "outputs" "LTapLoom$Latest;").before _ s = true := hts _ (List.mem_of_getElem? (i := 15) rfl)
  have hclassLink_RX6_32 : (Cond.classLink RX6 32 RX1).before _ s = true := hts _ (List.mem_of_getElem? (i := 16) rfl)
  have hinstantiable_RX1_5 : (Cond.instantiable RX1 5).before _ s = true := hts _ (List.mem_of_getElem? (i := 17) rfl)
  have hinitialized_RX1 : (Cond.initialized RX1).before _ s = true := hts _ (List.mem_of_getElem? (i := 18) rfl)
  have hmethodLink_RX6_34 : (Cond.methodLink RX6 34 yX1_init).before _ s = true := hts _ (List.mem_of_getElem? (i := 57) rfl)
  have hinstanceMethod_yX1_init : (Cond.instanceMethod yX1_init).before _ s = true := hts _ (List.mem_of_getElem? (i := 58) rfl)
  have hfieldLink_RX6_35 : (Cond.fieldLink RX6 35 "TapLoom" "search" "LTapLoom$CycleSearch;").before _ s = true := hts _ (List.mem_of_getElem? (i := 19) rfl)
  have hclassLink_RX6_39 : (Cond.classLink RX6 39 RX5).before _ s = true := hts _ (List.mem_of_getElem? (i := 20) rfl)
  have hinstantiable_RX5_3 : (Cond.instantiable RX5 3).before _ s = true := hts _ (List.mem_of_getElem? (i := 21) rfl)
  have hinitialized_RX5 : (Cond.initialized RX5).before _ s = true := hts _ (List.mem_of_getElem? (i := 22) rfl)
  have hmethodLink_RX6_41 : (Cond.methodLink RX6 41 yX5_init).before _ s = true := hts _ (List.mem_of_getElem? (i := 63) rfl)
  have hinstanceMethod_yX5_init : (Cond.instanceMethod yX5_init).before _ s = true := hts _ (List.mem_of_getElem? (i := 64) rfl)
  have hfieldLink_RX6_42 : (Cond.fieldLink RX6 42 "TapLoom" "row" "LTapLoom$TapRow;").before _ s = true := hts _ (List.mem_of_getElem? (i := 23) rfl)
  have hfieldLink_RX6_46 : (Cond.fieldLink RX6 46 "TapLoom" "samples" "LTapLoom$Latest;").before _ s = true := hts _ (List.mem_of_getElem? (i := 24) rfl)
  have inJx4a65c : ∀ w ∈ u_ws RJx4a65c TJx4a65c 3, w ∈ wsX6_init := fun w h => (List.mem_cons_of_mem _ (List.mem_append_left _ (List.mem_append_left _ (List.mem_append_left _ (List.mem_append_left _ (List.mem_append_left _ (List.mem_append_right _ h)))))))
  have inX0 : ∀ w ∈ u_ws RX0 TX0 1, w ∈ wsX6_init := fun w h => (List.mem_cons_of_mem _ (List.mem_append_left _ (List.mem_append_left _ (List.mem_append_left _ (List.mem_append_right _ h)))))
  have inX1 : ∀ w ∈ u_ws RX1 TX1 5, w ∈ wsX6_init := fun w h => (List.mem_cons_of_mem _ (List.mem_append_left _ (List.mem_append_right _ h)))
  have inX3 : ∀ w ∈ u_ws RX3 TX3 2, w ∈ wsX6_init := fun w h => (List.mem_cons_of_mem _ (List.mem_append_left _ (List.mem_append_left _ (List.mem_append_right _ h))))
  have inX5 : ∀ w ∈ u_ws RX5 TX5 3, w ∈ wsX6_init := fun w h => (List.mem_cons_of_mem _ (List.mem_append_right _ h))
  have inX6 : ∀ w ∈ u_ws RX6 TX6 6, w ∈ wsX6_init := fun w h => (List.mem_cons_of_mem _ (List.mem_append_left _ (List.mem_append_left _ (List.mem_append_left _ (List.mem_append_left _ (List.mem_append_right _ h))))))
  have hP : va_P D ccl [(t0, .inr (7, [.null, .null, .null, .null, .null, .null]))] s.heap := hP
  have hl : lv_has ls 1 [(0, .ref t0)] := hl
  refine lv_aload_n hx hb dX6_init_0 rfl (lv_at hl 0 rfl) ?_
  refine W.objInit hx hb hown hmethodLink_RX6_1 hinstanceMethod_objectInit hcode_objectInit rfl (by rw [hml]; exact hl.1) rfl dX6_init_1 (Nat.le_of_ble_eq_true rfl) (Nat.le_of_ble_eq_true rfl) ?_
  refine W.eq (g2 := F0 m 4 ls []) rfl ?_
  refine lv_aload_n hx hb dX6_init_4 rfl (lv_at hl 0 rfl) ?_
  refine va_new (ci := 0) (fs := [.int 0, .null, .int 0]) (C := RJx4a65c) (T := TJx4a65c) (N := 3) hx hb hts inJx4a65c tyJx4a65c tyJx4a65c_ok hown hclassLink_RX6_7 hinstantiable_RJx4a65c_3 hinitialized_RJx4a65c hK hP hD hS hA rfl (fun j hj => by rcases (show j = 0 ∨ j = 1 ∨ j = 2 by omega) with rfl | rfl | rfl <;> rfl) (Nat.le_of_ble_eq_true rfl) (Nat.le_of_ble_eq_true rfl) dX6_init_5 (fun sl H hP hD hS => ?_)
  have hP : va_P D ccl [(t0, .inr (7, [.null, .null, .null, .null, .null, .null])), (sl, .inr (0, [.int 0, .null, .int 0]))] H := hP
  have hD : va_D A [(t0, .inr (7, [.null, .null, .null, .null, .null, .null])), (sl, .inr (0, [.int 0, .null, .int 0]))] := hD
  refine lv_dup hx hb dX6_init_8 rfl ?_
  have hPc := hP.sub (ws' := [(sl, .inr (0, [.int 0, va_rf none, .int 0]))]) [1] rfl
  have hDc := hD.sub (ws' := [(sl, .inr (0, [.int 0, va_rf none, .int 0]))]) [1] (by decide) rfl
  have hFc := va_free (wc := [(sl, .inr (0, [.int 0, va_rf none, .int 0]))]) hD hS hA [1] rfl
  refine g_Iv (As := []) (rest := [.ref sl, .ref t0]) CF (c_Jx4a65c_init_da8c8 l D cI cJ cO df H.size sl 0 none 0 ) (cwI 0 hts gX6_init_Jx4a65c_init_da8c8 rfl rfl rfl hinitialized_RJx4a65c hmethodLink_RX6_9 hinstanceMethod_yJx4a65c_init_da8c8 rfl (by decide +kernel) ⟨Nat.le_of_ble_eq_true rfl, Nat.le_of_ble_eq_true rfl⟩)  hPc hK hDc hV hH hS hFc rfl hl.1 rfl (Nat.le_of_ble_eq_true rfl) dX6_init_9 ⟨Nat.le_of_ble_eq_true rfl, Nat.le_of_ble_eq_true rfl⟩ (fun w1 H1 locs1 hq hP1 hD1 hk hS hz => ?_)
  obtain rfl := hq
  obtain ⟨hP, hD⟩ := g_join (ws' := [(t0, .inr (7, [.null, .null, .null, .null, .null, .null])), (sl, .inr (0, [.int 0, .ref df, .int 0]))]) hP hD hk hFc hP1 hD1 [1] [0] [0, 1] rfl rfl (by decide) (by decide) (by decide) rfl
  clear hPc hDc hFc hP1 hD1 hk hz
  generalize H1 = H at hP hS ⊢
  have hP : va_P D ccl [(t0, .inr (7, [.null, .null, .null, .null, .null, .null])), (sl, .inr (0, [.int 0, .ref df, .int 0]))] H := hP
  have hD : va_D A [(t0, .inr (7, [.null, .null, .null, .null, .null, .null])), (sl, .inr (0, [.int 0, .ref df, .int 0]))] := hD
  refine va_putF (D := D) (ci := 7) (v := .ref sl) (ty := .object "java/util/ArrayList") (C := RX6) (T := TX6) (N := 6) hx hb hts inX6 tyX6 tyX6_ok nmX6 hown hK hP hD hS 0 rfl rfl 0 (by decide) hfieldLink_RX6_10 (fun _ h9 => h9) rfl (hin rfl) rfl (by decide +kernel) rfl rfl (Nat.le_of_ble_eq_true rfl) dX6_init_12 (fun H locs hP hD hS => ?_)
  have hP : va_P D ccl [(t0, .inr (7, [.ref sl, .null, .null, .null, .null, .null])), (sl, .inr (0, [.int 0, .ref df, .int 0]))] H := hP
  have hD : va_D A [(t0, .inr (7, [.ref sl, .null, .null, .null, .null, .null])), (sl, .inr (0, [.int 0, .ref df, .int 0]))] := hD
  refine lv_aload_n hx hb dX6_init_15 rfl (lv_at hl 0 rfl) ?_
  refine va_new (ci := 1) (fs := [.null]) (C := RX0) (T := TX0) (N := 1) hx hb hts inX0 tyX0 tyX0_ok hown hclassLink_RX6_16 hinstantiable_RX0_1 hinitialized_RX0 hK hP hD hS hA rfl (fun j hj => by rcases (show j = 0 by omega) with rfl <;> rfl) (Nat.le_of_ble_eq_true rfl) (Nat.le_of_ble_eq_true rfl) dX6_init_16 (fun ch H hP hD hS => ?_)
  have hP : va_P D ccl [(t0, .inr (7, [.ref sl, .null, .null, .null, .null, .null])), (sl, .inr (0, [.int 0, .ref df, .int 0])), (ch, .inr (1, [.null]))] H := hP
  have hD : va_D A [(t0, .inr (7, [.ref sl, .null, .null, .null, .null, .null])), (sl, .inr (0, [.int 0, .ref df, .int 0])), (ch, .inr (1, [.null]))] := hD
  refine lv_dup hx hb dX6_init_19 rfl ?_
  have hPc := hP.sub (ws' := [(ch, .inr (1, [.null]))]) [2] rfl
  have hDc := hD.sub (ws' := [(ch, .inr (1, [.null]))]) [2] (by decide) rfl
  have hFc := va_free (wc := [(ch, .inr (1, [.null]))]) hD hS hA [2] rfl
  refine g_Iv (As := []) (rest := [.ref ch, .ref t0]) CF (c_X0_init l D cI cJ cO df H.size ch ) (cwI 0 hts gX6_init_X0_init rfl rfl rfl hinitialized_RX0 hmethodLink_RX6_18 hinstanceMethod_yX0_init rfl (by decide +kernel) ⟨Nat.le_of_ble_eq_true rfl, Nat.le_of_ble_eq_true rfl⟩)  hPc hK hDc hV hH hS hFc rfl hl.1 rfl (Nat.le_of_ble_eq_true rfl) dX6_init_20 ⟨Nat.le_of_ble_eq_true rfl, Nat.le_of_ble_eq_true rfl⟩ (fun w1 H1 locs1 hq hP1 hD1 hk hS hz => ?_)
  obtain ⟨lh, rfl⟩ := hq
  obtain ⟨hP, hD⟩ := g_join (ws' := [(t0, .inr (7, [.ref sl, .null, .null, .null, .null, .null])), (sl, .inr (0, [.int 0, .ref df, .int 0])), (ch, .inr (1, [.ref lh])), (lh, .inr (0, [.int 0, .ref df, .int 0]))]) hP hD hk hFc hP1 hD1 [2] [0, 1] [0, 1, 2, 3] rfl rfl (by decide) (by decide) (by decide) rfl
  clear hPc hDc hFc hP1 hD1 hk hz
  generalize H1 = H at hP hS ⊢
  have hP : va_P D ccl [(t0, .inr (7, [.ref sl, .null, .null, .null, .null, .null])), (sl, .inr (0, [.int 0, .ref df, .int 0])), (ch, .inr (1, [.ref lh])), (lh, .inr (0, [.int 0, .ref df, .int 0]))] H := hP
  have hD : va_D A [(t0, .inr (7, [.ref sl, .null, .null, .null, .null, .null])), (sl, .inr (0, [.int 0, .ref df, .int 0])), (ch, .inr (1, [.ref lh])), (lh, .inr (0, [.int 0, .ref df, .int 0]))] := hD
  refine va_putF (D := D) (ci := 7) (v := .ref ch) (ty := .object "TapLoom$Chain") (C := RX6) (T := TX6) (N := 6) hx hb hts inX6 tyX6 tyX6_ok nmX6 hown hK hP hD hS 0 rfl rfl 1 (by decide) hfieldLink_RX6_19 (fun _ h9 => h9) rfl (hin rfl) rfl (by decide +kernel) rfl rfl (Nat.le_of_ble_eq_true rfl) dX6_init_23 (fun H locs hP hD hS => ?_)
  have hP : va_P D ccl [(t0, .inr (7, [.ref sl, .ref ch, .null, .null, .null, .null])), (sl, .inr (0, [.int 0, .ref df, .int 0])), (ch, .inr (1, [.ref lh])), (lh, .inr (0, [.int 0, .ref df, .int 0]))] H := hP
  have hD : va_D A [(t0, .inr (7, [.ref sl, .ref ch, .null, .null, .null, .null])), (sl, .inr (0, [.int 0, .ref df, .int 0])), (ch, .inr (1, [.ref lh])), (lh, .inr (0, [.int 0, .ref df, .int 0]))] := hD
  refine lv_aload_n hx hb dX6_init_26 rfl (lv_at hl 0 rfl) ?_
  refine va_new (ci := 4) (fs := [.null, .int 0]) (C := RX3) (T := TX3) (N := 2) hx hb hts inX3 tyX3 tyX3_ok hown hclassLink_RX6_23 hinstantiable_RX3_2 hinitialized_RX3 hK hP hD hS hA rfl (fun j hj => by rcases (show j = 0 ∨ j = 1 by omega) with rfl | rfl <;> rfl) (Nat.le_of_ble_eq_true rfl) (Nat.le_of_ble_eq_true rfl) dX6_init_27 (fun oh H hP hD hS => ?_)
  have hP : va_P D ccl [(t0, .inr (7, [.ref sl, .ref ch, .null, .null, .null, .null])), (sl, .inr (0, [.int 0, .ref df, .int 0])), (ch, .inr (1, [.ref lh])), (lh, .inr (0, [.int 0, .ref df, .int 0])), (oh, .inr (4, [.null, .int 0]))] H := hP
  have hD : va_D A [(t0, .inr (7, [.ref sl, .ref ch, .null, .null, .null, .null])), (sl, .inr (0, [.int 0, .ref df, .int 0])), (ch, .inr (1, [.ref lh])), (lh, .inr (0, [.int 0, .ref df, .int 0])), (oh, .inr (4, [.null, .int 0]))] := hD
  refine lv_dup hx hb dX6_init_30 rfl ?_
  refine lv_bipush (v := 16) hx hb dX6_init_31 (by decide) ?_
  have hPc := hP.sub (ws' := [(oh, .inr (4, [.null, .int 0]))]) [4] rfl
  have hDc := hD.sub (ws' := [(oh, .inr (4, [.null, .int 0]))]) [4] (by decide) rfl
  have hFc := va_free (wc := [(oh, .inr (4, [.null, .int 0]))]) hD hS hA [4] rfl
  refine g_Iv (As := [.int 16]) (rest := [.ref oh, .ref t0]) CF (c_X3_init_n16 l D cI cJ cO df H.size oh ) (cwI 1 hts gX6_init_X3_init rfl rfl rfl hinitialized_RX3 hmethodLink_RX6_25 hinstanceMethod_yX3_init rfl (by decide +kernel) ⟨Nat.le_of_ble_eq_true rfl, Nat.le_of_ble_eq_true rfl⟩)  hPc hK hDc hV hH hS hFc rfl hl.1 rfl (Nat.le_of_ble_eq_true rfl) dX6_init_33 ⟨Nat.le_of_ble_eq_true rfl, Nat.le_of_ble_eq_true rfl⟩ (fun w1 H1 locs1 hq hP1 hD1 hk hS hz => ?_)
  obtain ⟨ob, rfl⟩ := hq
  obtain ⟨hP, hD⟩ := g_join (ws' := [(t0, .inr (7, [.ref sl, .ref ch, .null, .null, .null, .null])), (sl, .inr (0, [.int 0, .ref df, .int 0])), (ch, .inr (1, [.ref lh])), (lh, .inr (0, [.int 0, .ref df, .int 0])), (oh, .inr (4, [.ref ob, .int 0])), (ob, .inl (cI, 16, .inl (fun _ => 0)))]) hP hD hk hFc hP1 hD1 [4] [0, 1, 2, 3] [0, 1, 2, 3, 4, 5] rfl rfl (by decide) (by decide) (by decide) rfl
  clear hPc hDc hFc hP1 hD1 hk hz
  generalize H1 = H at hP hS ⊢
  have hP : va_P D ccl [(t0, .inr (7, [.ref sl, .ref ch, .null, .null, .null, .null])), (sl, .inr (0, [.int 0, .ref df, .int 0])), (ch, .inr (1, [.ref lh])), (lh, .inr (0, [.int 0, .ref df, .int 0])), (oh, .inr (4, [.ref ob, .int 0])), (ob, .inl (cI, 16, .inl (fun _ => 0)))] H := hP
  have hD : va_D A [(t0, .inr (7, [.ref sl, .ref ch, .null, .null, .null, .null])), (sl, .inr (0, [.int 0, .ref df, .int 0])), (ch, .inr (1, [.ref lh])), (lh, .inr (0, [.int 0, .ref df, .int 0])), (oh, .inr (4, [.ref ob, .int 0])), (ob, .inl (cI, 16, .inl (fun _ => 0)))] := hD
  refine va_putF (D := D) (ci := 7) (v := .ref oh) (ty := .object "TapLoom$Latest") (C := RX6) (T := TX6) (N := 6) hx hb hts inX6 tyX6 tyX6_ok nmX6 hown hK hP hD hS 0 rfl rfl 2 (by decide) hfieldLink_RX6_28 (fun _ h9 => h9) rfl (hin rfl) rfl (by decide +kernel) rfl rfl (Nat.le_of_ble_eq_true rfl) dX6_init_36 (fun H locs hP hD hS => ?_)
  have hP : va_P D ccl [(t0, .inr (7, [.ref sl, .ref ch, .ref oh, .null, .null, .null])), (sl, .inr (0, [.int 0, .ref df, .int 0])), (ch, .inr (1, [.ref lh])), (lh, .inr (0, [.int 0, .ref df, .int 0])), (oh, .inr (4, [.ref ob, .int 0])), (ob, .inl (cI, 16, .inl (fun _ => 0)))] H := hP
  have hD : va_D A [(t0, .inr (7, [.ref sl, .ref ch, .ref oh, .null, .null, .null])), (sl, .inr (0, [.int 0, .ref df, .int 0])), (ch, .inr (1, [.ref lh])), (lh, .inr (0, [.int 0, .ref df, .int 0])), (oh, .inr (4, [.ref ob, .int 0])), (ob, .inl (cI, 16, .inl (fun _ => 0)))] := hD
  refine lv_aload_n hx hb dX6_init_39 rfl (lv_at hl 0 rfl) ?_
  refine va_new (ci := 2) (fs := [.null, .int 0, .int 0, .int 0, .int 0]) (C := RX1) (T := TX1) (N := 5) hx hb hts inX1 tyX1 tyX1_ok hown hclassLink_RX6_32 hinstantiable_RX1_5 hinitialized_RX1 hK hP hD hS hA rfl (fun j hj => by rcases (show j = 0 ∨ j = 1 ∨ j = 2 ∨ j = 3 ∨ j = 4 by omega) with rfl | rfl | rfl | rfl | rfl <;> rfl) (Nat.le_of_ble_eq_true rfl) (Nat.le_of_ble_eq_true rfl) dX6_init_40 (fun xh H hP hD hS => ?_)
  have hP : va_P D ccl [(t0, .inr (7, [.ref sl, .ref ch, .ref oh, .null, .null, .null])), (sl, .inr (0, [.int 0, .ref df, .int 0])), (ch, .inr (1, [.ref lh])), (lh, .inr (0, [.int 0, .ref df, .int 0])), (oh, .inr (4, [.ref ob, .int 0])), (ob, .inl (cI, 16, .inl (fun _ => 0))), (xh, .inr (2, [.null, .int 0, .int 0, .int 0, .int 0]))] H := hP
  have hD : va_D A [(t0, .inr (7, [.ref sl, .ref ch, .ref oh, .null, .null, .null])), (sl, .inr (0, [.int 0, .ref df, .int 0])), (ch, .inr (1, [.ref lh])), (lh, .inr (0, [.int 0, .ref df, .int 0])), (oh, .inr (4, [.ref ob, .int 0])), (ob, .inl (cI, 16, .inl (fun _ => 0))), (xh, .inr (2, [.null, .int 0, .int 0, .int 0, .int 0]))] := hD
  refine lv_dup hx hb dX6_init_43 rfl ?_
  have hPc := hP.sub (ws' := [(xh, .inr (2, [.null, .int 0, .int 0, .int 0, .int 0]))]) [6] rfl
  have hDc := hD.sub (ws' := [(xh, .inr (2, [.null, .int 0, .int 0, .int 0, .int 0]))]) [6] (by decide) rfl
  have hFc := va_free (wc := [(xh, .inr (2, [.null, .int 0, .int 0, .int 0, .int 0]))]) hD hS hA [6] rfl
  refine g_Iv (As := []) (rest := [.ref xh, .ref t0]) CF (c_X1_init l D cI cJ cO df H.size xh ) (cwI 0 hts gX6_init_X1_init rfl rfl rfl hinitialized_RX1 hmethodLink_RX6_34 hinstanceMethod_yX1_init rfl (by decide +kernel) ⟨Nat.le_of_ble_eq_true rfl, Nat.le_of_ble_eq_true rfl⟩)  hPc hK hDc hV hH hS hFc rfl hl.1 rfl (Nat.le_of_ble_eq_true rfl) dX6_init_44 ⟨Nat.le_of_ble_eq_true rfl, Nat.le_of_ble_eq_true rfl⟩ (fun w1 H1 locs1 hq hP1 hD1 hk hS hz => ?_)
  obtain ⟨mk, rfl⟩ := hq
  obtain ⟨hP, hD⟩ := g_join (ws' := [(t0, .inr (7, [.ref sl, .ref ch, .ref oh, .null, .null, .null])), (sl, .inr (0, [.int 0, .ref df, .int 0])), (ch, .inr (1, [.ref lh])), (lh, .inr (0, [.int 0, .ref df, .int 0])), (oh, .inr (4, [.ref ob, .int 0])), (ob, .inl (cI, 16, .inl (fun _ => 0))), (xh, .inr (2, [.ref mk, .int 0, .int 0, .int 0, .int 0])), (mk, .inl (cJ, 1263, .inr (.inl (fun _ => 0))))]) hP hD hk hFc hP1 hD1 [6] [0, 1, 2, 3, 4, 5] [0, 1, 2, 3, 4, 5, 6, 7] rfl rfl (by decide) (by decide) (by decide) rfl
  clear hPc hDc hFc hP1 hD1 hk hz
  generalize H1 = H at hP hS ⊢
  have hP : va_P D ccl [(t0, .inr (7, [.ref sl, .ref ch, .ref oh, .null, .null, .null])), (sl, .inr (0, [.int 0, .ref df, .int 0])), (ch, .inr (1, [.ref lh])), (lh, .inr (0, [.int 0, .ref df, .int 0])), (oh, .inr (4, [.ref ob, .int 0])), (ob, .inl (cI, 16, .inl (fun _ => 0))), (xh, .inr (2, [.ref mk, .int 0, .int 0, .int 0, .int 0])), (mk, .inl (cJ, 1263, .inr (.inl (fun _ => 0))))] H := hP
  have hD : va_D A [(t0, .inr (7, [.ref sl, .ref ch, .ref oh, .null, .null, .null])), (sl, .inr (0, [.int 0, .ref df, .int 0])), (ch, .inr (1, [.ref lh])), (lh, .inr (0, [.int 0, .ref df, .int 0])), (oh, .inr (4, [.ref ob, .int 0])), (ob, .inl (cI, 16, .inl (fun _ => 0))), (xh, .inr (2, [.ref mk, .int 0, .int 0, .int 0, .int 0])), (mk, .inl (cJ, 1263, .inr (.inl (fun _ => 0))))] := hD
  refine va_putF (D := D) (ci := 7) (v := .ref xh) (ty := .object "TapLoom$CycleSearch") (C := RX6) (T := TX6) (N := 6) hx hb hts inX6 tyX6 tyX6_ok nmX6 hown hK hP hD hS 0 rfl rfl 3 (by decide) hfieldLink_RX6_35 (fun _ h9 => h9) rfl (hin rfl) rfl (by decide +kernel) rfl rfl (Nat.le_of_ble_eq_true rfl) dX6_init_47 (fun H locs hP hD hS => ?_)
  have hP : va_P D ccl [(t0, .inr (7, [.ref sl, .ref ch, .ref oh, .ref xh, .null, .null])), (sl, .inr (0, [.int 0, .ref df, .int 0])), (ch, .inr (1, [.ref lh])), (lh, .inr (0, [.int 0, .ref df, .int 0])), (oh, .inr (4, [.ref ob, .int 0])), (ob, .inl (cI, 16, .inl (fun _ => 0))), (xh, .inr (2, [.ref mk, .int 0, .int 0, .int 0, .int 0])), (mk, .inl (cJ, 1263, .inr (.inl (fun _ => 0))))] H := hP
  have hD : va_D A [(t0, .inr (7, [.ref sl, .ref ch, .ref oh, .ref xh, .null, .null])), (sl, .inr (0, [.int 0, .ref df, .int 0])), (ch, .inr (1, [.ref lh])), (lh, .inr (0, [.int 0, .ref df, .int 0])), (oh, .inr (4, [.ref ob, .int 0])), (ob, .inl (cI, 16, .inl (fun _ => 0))), (xh, .inr (2, [.ref mk, .int 0, .int 0, .int 0, .int 0])), (mk, .inl (cJ, 1263, .inr (.inl (fun _ => 0))))] := hD
  refine lv_aload_n hx hb dX6_init_50 rfl (lv_at hl 0 rfl) ?_
  refine va_new (ci := 6) (fs := [.null, .null, .null]) (C := RX5) (T := TX5) (N := 3) hx hb hts inX5 tyX5 tyX5_ok hown hclassLink_RX6_39 hinstantiable_RX5_3 hinitialized_RX5 hK hP hD hS hA rfl (fun j hj => by rcases (show j = 0 ∨ j = 1 ∨ j = 2 by omega) with rfl | rfl | rfl <;> rfl) (Nat.le_of_ble_eq_true rfl) (Nat.le_of_ble_eq_true rfl) dX6_init_51 (fun rh H hP hD hS => ?_)
  have hP : va_P D ccl [(t0, .inr (7, [.ref sl, .ref ch, .ref oh, .ref xh, .null, .null])), (sl, .inr (0, [.int 0, .ref df, .int 0])), (ch, .inr (1, [.ref lh])), (lh, .inr (0, [.int 0, .ref df, .int 0])), (oh, .inr (4, [.ref ob, .int 0])), (ob, .inl (cI, 16, .inl (fun _ => 0))), (xh, .inr (2, [.ref mk, .int 0, .int 0, .int 0, .int 0])), (mk, .inl (cJ, 1263, .inr (.inl (fun _ => 0)))), (rh, .inr (6, [.null, .null, .null]))] H := hP
  have hD : va_D A [(t0, .inr (7, [.ref sl, .ref ch, .ref oh, .ref xh, .null, .null])), (sl, .inr (0, [.int 0, .ref df, .int 0])), (ch, .inr (1, [.ref lh])), (lh, .inr (0, [.int 0, .ref df, .int 0])), (oh, .inr (4, [.ref ob, .int 0])), (ob, .inl (cI, 16, .inl (fun _ => 0))), (xh, .inr (2, [.ref mk, .int 0, .int 0, .int 0, .int 0])), (mk, .inl (cJ, 1263, .inr (.inl (fun _ => 0)))), (rh, .inr (6, [.null, .null, .null]))] := hD
  refine lv_dup hx hb dX6_init_54 rfl ?_
  have hPc := hP.sub (ws' := [(rh, .inr (6, [.null, .null, .null]))]) [8] rfl
  have hDc := hD.sub (ws' := [(rh, .inr (6, [.null, .null, .null]))]) [8] (by decide) rfl
  have hFc := va_free (wc := [(rh, .inr (6, [.null, .null, .null]))]) hD hS hA [8] rfl
  refine g_Iv (As := []) (rest := [.ref rh, .ref t0]) CF (c_X5_init l D cI cJ cO df H.size rh ) (cwI 0 hts gX6_init_X5_init rfl rfl rfl hinitialized_RX5 hmethodLink_RX6_41 hinstanceMethod_yX5_init rfl (by decide +kernel) ⟨Nat.le_of_ble_eq_true rfl, Nat.le_of_ble_eq_true rfl⟩)  hPc hK hDc hV hH hS hFc rfl hl.1 rfl (Nat.le_of_ble_eq_true rfl) dX6_init_55 ⟨Nat.le_of_ble_eq_true rfl, Nat.le_of_ble_eq_true rfl⟩ (fun w1 H1 locs1 hq hP1 hD1 hk hS hz => ?_)
  obtain ⟨ta, qa, pa, rfl⟩ := hq
  obtain ⟨hP, hD⟩ := g_join (ws' := [(t0, .inr (7, [.ref sl, .ref ch, .ref oh, .ref xh, .null, .null])), (sl, .inr (0, [.int 0, .ref df, .int 0])), (ch, .inr (1, [.ref lh])), (lh, .inr (0, [.int 0, .ref df, .int 0])), (oh, .inr (4, [.ref ob, .int 0])), (ob, .inl (cI, 16, .inl (fun _ => 0))), (xh, .inr (2, [.ref mk, .int 0, .int 0, .int 0, .int 0])), (mk, .inl (cJ, 1263, .inr (.inl (fun _ => 0)))), (rh, .inr (6, [.ref ta, .ref qa, .ref pa])), (ta, .inl (cI, 32, .inl (fun _ => 0))), (qa, .inl (cI, 32, .inl (fun _ => 0))), (pa, .inl (cI, 32, .inl (pwZ 32)))]) hP hD hk hFc hP1 hD1 [8] [0, 1, 2, 3, 4, 5, 6, 7] [0, 1, 2, 3, 4, 5, 6, 7, 8, 9, 10, 11] rfl rfl (by decide) (by decide) (by decide) rfl
  clear hPc hDc hFc hP1 hD1 hk hz
  generalize H1 = H at hP hS ⊢
  have hP : va_P D ccl [(t0, .inr (7, [.ref sl, .ref ch, .ref oh, .ref xh, .null, .null])), (sl, .inr (0, [.int 0, .ref df, .int 0])), (ch, .inr (1, [.ref lh])), (lh, .inr (0, [.int 0, .ref df, .int 0])), (oh, .inr (4, [.ref ob, .int 0])), (ob, .inl (cI, 16, .inl (fun _ => 0))), (xh, .inr (2, [.ref mk, .int 0, .int 0, .int 0, .int 0])), (mk, .inl (cJ, 1263, .inr (.inl (fun _ => 0)))), (rh, .inr (6, [.ref ta, .ref qa, .ref pa])), (ta, .inl (cI, 32, .inl (fun _ => 0))), (qa, .inl (cI, 32, .inl (fun _ => 0))), (pa, .inl (cI, 32, .inl (pwZ 32)))] H := hP
  have hD : va_D A [(t0, .inr (7, [.ref sl, .ref ch, .ref oh, .ref xh, .null, .null])), (sl, .inr (0, [.int 0, .ref df, .int 0])), (ch, .inr (1, [.ref lh])), (lh, .inr (0, [.int 0, .ref df, .int 0])), (oh, .inr (4, [.ref ob, .int 0])), (ob, .inl (cI, 16, .inl (fun _ => 0))), (xh, .inr (2, [.ref mk, .int 0, .int 0, .int 0, .int 0])), (mk, .inl (cJ, 1263, .inr (.inl (fun _ => 0)))), (rh, .inr (6, [.ref ta, .ref qa, .ref pa])), (ta, .inl (cI, 32, .inl (fun _ => 0))), (qa, .inl (cI, 32, .inl (fun _ => 0))), (pa, .inl (cI, 32, .inl (pwZ 32)))] := hD
  refine va_putF (D := D) (ci := 7) (v := .ref rh) (ty := .object "TapLoom$TapRow") (C := RX6) (T := TX6) (N := 6) hx hb hts inX6 tyX6 tyX6_ok nmX6 hown hK hP hD hS 0 rfl rfl 4 (by decide) hfieldLink_RX6_42 (fun _ h9 => h9) rfl (hin rfl) rfl (by decide +kernel) rfl rfl (Nat.le_of_ble_eq_true rfl) dX6_init_58 (fun H locs hP hD hS => ?_)
  have hP : va_P D ccl [(t0, .inr (7, [.ref sl, .ref ch, .ref oh, .ref xh, .ref rh, .null])), (sl, .inr (0, [.int 0, .ref df, .int 0])), (ch, .inr (1, [.ref lh])), (lh, .inr (0, [.int 0, .ref df, .int 0])), (oh, .inr (4, [.ref ob, .int 0])), (ob, .inl (cI, 16, .inl (fun _ => 0))), (xh, .inr (2, [.ref mk, .int 0, .int 0, .int 0, .int 0])), (mk, .inl (cJ, 1263, .inr (.inl (fun _ => 0)))), (rh, .inr (6, [.ref ta, .ref qa, .ref pa])), (ta, .inl (cI, 32, .inl (fun _ => 0))), (qa, .inl (cI, 32, .inl (fun _ => 0))), (pa, .inl (cI, 32, .inl (pwZ 32)))] H := hP
  have hD : va_D A [(t0, .inr (7, [.ref sl, .ref ch, .ref oh, .ref xh, .ref rh, .null])), (sl, .inr (0, [.int 0, .ref df, .int 0])), (ch, .inr (1, [.ref lh])), (lh, .inr (0, [.int 0, .ref df, .int 0])), (oh, .inr (4, [.ref ob, .int 0])), (ob, .inl (cI, 16, .inl (fun _ => 0))), (xh, .inr (2, [.ref mk, .int 0, .int 0, .int 0, .int 0])), (mk, .inl (cJ, 1263, .inr (.inl (fun _ => 0)))), (rh, .inr (6, [.ref ta, .ref qa, .ref pa])), (ta, .inl (cI, 32, .inl (fun _ => 0))), (qa, .inl (cI, 32, .inl (fun _ => 0))), (pa, .inl (cI, 32, .inl (pwZ 32)))] := hD
  refine lv_aload_n hx hb dX6_init_61 rfl (lv_at hl 0 rfl) ?_
  refine va_new (ci := 4) (fs := [.null, .int 0]) (C := RX3) (T := TX3) (N := 2) hx hb hts inX3 tyX3 tyX3_ok hown hclassLink_RX6_23 hinstantiable_RX3_2 hinitialized_RX3 hK hP hD hS hA rfl (fun j hj => by rcases (show j = 0 ∨ j = 1 by omega) with rfl | rfl <;> rfl) (Nat.le_of_ble_eq_true rfl) (Nat.le_of_ble_eq_true rfl) dX6_init_62 (fun sh H hP hD hS => ?_)
  have hP : va_P D ccl [(t0, .inr (7, [.ref sl, .ref ch, .ref oh, .ref xh, .ref rh, .null])), (sl, .inr (0, [.int 0, .ref df, .int 0])), (ch, .inr (1, [.ref lh])), (lh, .inr (0, [.int 0, .ref df, .int 0])), (oh, .inr (4, [.ref ob, .int 0])), (ob, .inl (cI, 16, .inl (fun _ => 0))), (xh, .inr (2, [.ref mk, .int 0, .int 0, .int 0, .int 0])), (mk, .inl (cJ, 1263, .inr (.inl (fun _ => 0)))), (rh, .inr (6, [.ref ta, .ref qa, .ref pa])), (ta, .inl (cI, 32, .inl (fun _ => 0))), (qa, .inl (cI, 32, .inl (fun _ => 0))), (pa, .inl (cI, 32, .inl (pwZ 32))), (sh, .inr (4, [.null, .int 0]))] H := hP
  have hD : va_D A [(t0, .inr (7, [.ref sl, .ref ch, .ref oh, .ref xh, .ref rh, .null])), (sl, .inr (0, [.int 0, .ref df, .int 0])), (ch, .inr (1, [.ref lh])), (lh, .inr (0, [.int 0, .ref df, .int 0])), (oh, .inr (4, [.ref ob, .int 0])), (ob, .inl (cI, 16, .inl (fun _ => 0))), (xh, .inr (2, [.ref mk, .int 0, .int 0, .int 0, .int 0])), (mk, .inl (cJ, 1263, .inr (.inl (fun _ => 0)))), (rh, .inr (6, [.ref ta, .ref qa, .ref pa])), (ta, .inl (cI, 32, .inl (fun _ => 0))), (qa, .inl (cI, 32, .inl (fun _ => 0))), (pa, .inl (cI, 32, .inl (pwZ 32))), (sh, .inr (4, [.null, .int 0]))] := hD
  refine lv_dup hx hb dX6_init_65 rfl ?_
  refine lv_bipush (v := 64) hx hb dX6_init_66 (by decide) ?_
  have hPc := hP.sub (ws' := [(sh, .inr (4, [.null, .int 0]))]) [12] rfl
  have hDc := hD.sub (ws' := [(sh, .inr (4, [.null, .int 0]))]) [12] (by decide) rfl
  have hFc := va_free (wc := [(sh, .inr (4, [.null, .int 0]))]) hD hS hA [12] rfl
  refine g_Iv (As := [.int 64]) (rest := [.ref sh, .ref t0]) CF (c_X3_init_n64 l D cI cJ cO df H.size sh ) (cwI 1 hts gX6_init_X3_init rfl rfl rfl hinitialized_RX3 hmethodLink_RX6_25 hinstanceMethod_yX3_init rfl (by decide +kernel) ⟨Nat.le_of_ble_eq_true rfl, Nat.le_of_ble_eq_true rfl⟩)  hPc hK hDc hV hH hS hFc rfl hl.1 rfl (Nat.le_of_ble_eq_true rfl) dX6_init_68 ⟨Nat.le_of_ble_eq_true rfl, Nat.le_of_ble_eq_true rfl⟩ (fun w1 H1 locs1 hq hP1 hD1 hk hS hz => ?_)
  obtain ⟨sb, rfl⟩ := hq
  obtain ⟨hP, hD⟩ := g_join (ws' := [(t0, .inr (7, [.ref sl, .ref ch, .ref oh, .ref xh, .ref rh, .null])), (sl, .inr (0, [.int 0, .ref df, .int 0])), (ch, .inr (1, [.ref lh])), (lh, .inr (0, [.int 0, .ref df, .int 0])), (oh, .inr (4, [.ref ob, .int 0])), (ob, .inl (cI, 16, .inl (fun _ => 0))), (xh, .inr (2, [.ref mk, .int 0, .int 0, .int 0, .int 0])), (mk, .inl (cJ, 1263, .inr (.inl (fun _ => 0)))), (rh, .inr (6, [.ref ta, .ref qa, .ref pa])), (ta, .inl (cI, 32, .inl (fun _ => 0))), (qa, .inl (cI, 32, .inl (fun _ => 0))), (pa, .inl (cI, 32, .inl (pwZ 32))), (sh, .inr (4, [.ref sb, .int 0])), (sb, .inl (cI, 64, .inl (fun _ => 0)))]) hP hD hk hFc hP1 hD1 [12] [0, 1, 2, 3, 4, 5, 6, 7, 8, 9, 10, 11] [0, 1, 2, 3, 4, 5, 6, 7, 8, 9, 10, 11, 12, 13] rfl rfl (by decide) (by decide) (by decide) rfl
  clear hPc hDc hFc hP1 hD1 hk hz
  generalize H1 = H at hP hS ⊢
  have hP : va_P D ccl [(t0, .inr (7, [.ref sl, .ref ch, .ref oh, .ref xh, .ref rh, .null])), (sl, .inr (0, [.int 0, .ref df, .int 0])), (ch, .inr (1, [.ref lh])), (lh, .inr (0, [.int 0, .ref df, .int 0])), (oh, .inr (4, [.ref ob, .int 0])), (ob, .inl (cI, 16, .inl (fun _ => 0))), (xh, .inr (2, [.ref mk, .int 0, .int 0, .int 0, .int 0])), (mk, .inl (cJ, 1263, .inr (.inl (fun _ => 0)))), (rh, .inr (6, [.ref ta, .ref qa, .ref pa])), (ta, .inl (cI, 32, .inl (fun _ => 0))), (qa, .inl (cI, 32, .inl (fun _ => 0))), (pa, .inl (cI, 32, .inl (pwZ 32))), (sh, .inr (4, [.ref sb, .int 0])), (sb, .inl (cI, 64, .inl (fun _ => 0)))] H := hP
  have hD : va_D A [(t0, .inr (7, [.ref sl, .ref ch, .ref oh, .ref xh, .ref rh, .null])), (sl, .inr (0, [.int 0, .ref df, .int 0])), (ch, .inr (1, [.ref lh])), (lh, .inr (0, [.int 0, .ref df, .int 0])), (oh, .inr (4, [.ref ob, .int 0])), (ob, .inl (cI, 16, .inl (fun _ => 0))), (xh, .inr (2, [.ref mk, .int 0, .int 0, .int 0, .int 0])), (mk, .inl (cJ, 1263, .inr (.inl (fun _ => 0)))), (rh, .inr (6, [.ref ta, .ref qa, .ref pa])), (ta, .inl (cI, 32, .inl (fun _ => 0))), (qa, .inl (cI, 32, .inl (fun _ => 0))), (pa, .inl (cI, 32, .inl (pwZ 32))), (sh, .inr (4, [.ref sb, .int 0])), (sb, .inl (cI, 64, .inl (fun _ => 0)))] := hD
  refine va_putF (D := D) (ci := 7) (v := .ref sh) (ty := .object "TapLoom$Latest") (C := RX6) (T := TX6) (N := 6) hx hb hts inX6 tyX6 tyX6_ok nmX6 hown hK hP hD hS 0 rfl rfl 5 (by decide) hfieldLink_RX6_46 (fun _ h9 => h9) rfl (hin rfl) rfl (by decide +kernel) rfl rfl (Nat.le_of_ble_eq_true rfl) dX6_init_71 (fun H locs hP hD hS => ?_)
  have hP : va_P D ccl [(t0, .inr (7, [.ref sl, .ref ch, .ref oh, .ref xh, .ref rh, .ref sh])), (sl, .inr (0, [.int 0, .ref df, .int 0])), (ch, .inr (1, [.ref lh])), (lh, .inr (0, [.int 0, .ref df, .int 0])), (oh, .inr (4, [.ref ob, .int 0])), (ob, .inl (cI, 16, .inl (fun _ => 0))), (xh, .inr (2, [.ref mk, .int 0, .int 0, .int 0, .int 0])), (mk, .inl (cJ, 1263, .inr (.inl (fun _ => 0)))), (rh, .inr (6, [.ref ta, .ref qa, .ref pa])), (ta, .inl (cI, 32, .inl (fun _ => 0))), (qa, .inl (cI, 32, .inl (fun _ => 0))), (pa, .inl (cI, 32, .inl (pwZ 32))), (sh, .inr (4, [.ref sb, .int 0])), (sb, .inl (cI, 64, .inl (fun _ => 0)))] H := hP
  have hD : va_D A [(t0, .inr (7, [.ref sl, .ref ch, .ref oh, .ref xh, .ref rh, .ref sh])), (sl, .inr (0, [.int 0, .ref df, .int 0])), (ch, .inr (1, [.ref lh])), (lh, .inr (0, [.int 0, .ref df, .int 0])), (oh, .inr (4, [.ref ob, .int 0])), (ob, .inl (cI, 16, .inl (fun _ => 0))), (xh, .inr (2, [.ref mk, .int 0, .int 0, .int 0, .int 0])), (mk, .inl (cJ, 1263, .inr (.inl (fun _ => 0)))), (rh, .inr (6, [.ref ta, .ref qa, .ref pa])), (ta, .inl (cI, 32, .inl (fun _ => 0))), (qa, .inl (cI, 32, .inl (fun _ => 0))), (pa, .inl (cI, 32, .inl (pwZ 32))), (sh, .inr (4, [.ref sb, .int 0])), (sb, .inl (cI, 64, .inl (fun _ => 0)))] := hD
  refine g_vret hx hb hr hlk hP hK hD hS (Nat.le_of_ble_eq_true rfl) (Nat.le_of_ble_eq_true rfl) dX6_init_74 ?_
  exact ⟨_, _, _, _, _, _, _, _, _, _, _, _, _, rfl⟩
