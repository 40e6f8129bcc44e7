set_option maxHeartbeats 4000000 in
set_option maxRecDepth 100000 in
theorem c_X6_meets (l : Launch) (hfl : l.stackTraces = false) (D : va_G) (cI cJ cO : ClassId) (df sz : Nat) (t0 : Nat) (sl : Nat) (ch : Nat) (oh : Nat) (xh : Nat) (rh : Nat) (sh : Nat) (lh : Nat) (er : Nat) (md : Int32) (C : Nat) (fr : Nat → Option Nat) (mo : Nat → Int32) (SA : Nat → Nat) (SB : Nat → Nat) (mc : Nat → Int32) (ms : Nat → Int32) (mw : Nat → Int32) (N : Nat) (wr : Int32) (lw : Int32) (hg : Int32) (hC : C ≤ 8) (hN : N ≤ 8) (hfr : ∀ k, k < C → fr k = some (SA (gN (mo k)))) (hO : ∀ i, i < C → gN (mo i) < N ∧ mo i = nI (gN (mo i))) (hc : isC mc) : MxI l yX6_meets wsX6_meets ({ frames := 7, cells := 5, slots := 26, locals := 112 } : Room) D (gTY cI cJ cO) df (([(t0, .inr (7, [.ref sl, .ref ch, .ref oh, .ref xh, .ref rh, .ref sh])), (ch, .inr (1, [.ref lh])), (lh, .inr (0, [.int md, .ref er, .int (nI C)])), (er, .inl (cO, 10, .inr (.inr (.inr (.inr fr)))))] : va_W) ++ scL (scJ cI SA SB mc ms mw) (List.range N)) sz [.ref t0, .int wr, .int lw, .int hg] (fun (u : String × va_W) => u.2 = ([(t0, .inr (7, [.ref sl, .ref ch, .ref oh, .ref xh, .ref rh, .ref sh])), (ch, .inr (1, [.ref lh])), (lh, .inr (0, [.int md, .ref er, .int (nI C)])), (er, .inl (cO, 10, .inr (.inr (.inr (.inr fr)))))] : va_W) ++ scL (scJ cI SA SB mc ms mw) (List.range N) ∧ ¬ gGo (if isIn wr 0 2 = 0 then 0 else if isIn lw 0 10000 = 0 then 0 else isIn hg lw 10000) (if C ≤ (if wr = 2 then 2 else 4) then (1 : Int32) else 0) 1 = 0 ∧ u.1 = xN gIAE gISE (gGo (if isIn wr 0 2 = 0 then 0 else if isIn lw 0 10000 = 0 then 0 else isIn hg lw 10000) (if C ≤ (if wr = 2 then 2 else 4) then (1 : Int32) else 0) 1)) (fun (r : Int32) (wZ : va_W) => wZ = ([(t0, .inr (7, [.ref sl, .ref ch, .ref oh, .ref xh, .ref rh, .ref sh])), (ch, .inr (1, [.ref lh])), (lh, .inr (0, [.int md, .ref er, .int (nI C)])), (er, .inl (cO, 10, .inr (.inr (.inr (.inr fr)))))] : va_W) ++ scL (scJ cI SA SB mc ms mw) (List.range N) ∧ r = (if mtP (stM mc mo C) (zO mc mo (gN wr) C) (zU mc mo (gN wr) C) (gN wr) (gN lw) (gN hg) then 1 else 0) ∧ gGo (if isIn wr 0 2 = 0 then 0 else if isIn lw 0 10000 = 0 then 0 else isIn hg lw 10000) (if C ≤ (if wr = 2 then 2 else 4) then (1 : Int32) else 0) 1 = 0) := by
  refine gx_of (cc := cX6_meets) (nL := 5) (ret := (some .boolean)) (D := D) (TY := (gTY cI cJ cO)) (df := df) (Qc := fun A => va_Qi (fun (r : Int32) (wZ : va_W) => wZ = ([(t0, .inr (7, [.ref sl, .ref ch, .ref oh, .ref xh, .ref rh, .ref sh])), (ch, .inr (1, [.ref lh])), (lh, .inr (0, [.int md, .ref er, .int (nI C)])), (er, .inl (cO, 10, .inr (.inr (.inr (.inr fr)))))] : va_W) ++ scL (scJ cI SA SB mc ms mw) (List.range N) ∧ r = (if mtP (stM mc mo C) (zO mc mo (gN wr) C) (zU mc mo (gN wr) C) (gN wr) (gN lw) (gN hg) then 1 else 0) ∧ gGo (if isIn wr 0 2 = 0 then 0 else if isIn lw 0 10000 = 0 then 0 else isIn hg lw 10000) (if C ≤ (if wr = 2 then 2 else 4) then (1 : Int32) else 0) 1 = 0) (gB D (gTY cI cJ cO) A) A) (XC := fun A => vx_X (fun (u : String × va_W) => u.2 = ([(t0, .inr (7, [.ref sl, .ref ch, .ref oh, .ref xh, .ref rh, .ref sh])), (ch, .inr (1, [.ref lh])), (lh, .inr (0, [.int md, .ref er, .int (nI C)])), (er, .inl (cO, 10, .inr (.inr (.inr (.inr fr)))))] : va_W) ++ scL (scJ cI SA SB mc ms mw) (List.range N) ∧ ¬ gGo (if isIn wr 0 2 = 0 then 0 else if isIn lw 0 10000 = 0 then 0 else isIn hg lw 10000) (if C ≤ (if wr = 2 then 2 else 4) then (1 : Int32) else 0) 1 = 0 ∧ u.1 = xN gIAE gISE (gGo (if isIn wr 0 2 = 0 then 0 else if isIn lw 0 10000 = 0 then 0 else isIn hg lw 10000) (if C ≤ (if wr = 2 then 2 else 4) then (1 : Int32) else 0) 1)) (gBx D (gTY cI cJ cO) A) A) (by decide +kernel) rfl (Nat.le_of_ble_eq_true rfl) ?_
  intro p e s m below meth c ls A hsz C0 hin hl
  obtain ⟨CF, hr, hlk, hA, hS, hP, hK, hD, hV, hH⟩ := C0
  have CF : CallFix p m c cX6_meets 5 s _ wsX6_meets RX6 := CF
  obtain ⟨hx, hb, hml, hown, hts⟩ := id CF
  subst hsz
  have hmethodLink_RX6_51 : (Cond.methodLink RX6 51 yX6_requireWithin).before _ s = true := hts _ (List.mem_of_getElem? (i := 4) rfl)
  have hmethodLink_RX6_144 : (Cond.methodLink RX6 144 yX6_requireShortChain).before _ s = true := hts _ (List.mem_of_getElem? (i := 10) rfl)
  have hfieldLink_RX6_19 : (Cond.fieldLink RX6 19 "TapLoom" "chained" "LTapLoom$Chain;").before _ s = true := hts _ (List.mem_of_getElem? (i := 1) rfl)
  have hmethodLink_RX6_160 : (Cond.methodLink RX6 160 yX0_isStable).before _ s = true := hts _ (List.mem_of_getElem? (i := 28) rfl)
  have hmethodLink_RX6_147 : (Cond.methodLink RX6 147 yX0_gainAt).before _ s = true := hts _ (List.mem_of_getElem? (i := 60) rfl)
  have hconstantLong_RX6_167 : (Cond.constantLong RX6 167 (1000)).before _ s = true := hts _ (List.mem_of_getElem? (i := 3) rfl)
  have hmethodLink_RX6_163 : (Cond.methodLink RX6 163 yX2_isWithin).before _ s = true := hts _ (List.mem_of_getElem? (i := 101) rfl)
  have hconstantLong_RX6_161 : (Cond.constantLong RX6 161 (1000000)).before _ s = true := hts _ (List.mem_of_getElem? (i := 2) rfl)
  have inX6 : ∀ w ∈ u_ws RX6 TX6 6, w ∈ wsX6_meets := fun w h => (List.mem_cons_of_mem _ (List.mem_append_left _ (List.mem_append_left _ (List.mem_append_left _ (List.mem_append_left _ (List.mem_append_left _ (List.mem_append_left _ (List.mem_append_right _ h))))))))
  have hP : va_P D ccl (([(t0, .inr (7, [.ref sl, .ref ch, .ref oh, .ref xh, .ref rh, .ref sh])), (ch, .inr (1, [.ref lh])), (lh, .inr (0, [.int md, .ref er, .int (nI C)])), (er, .inl (cO, 10, .inr (.inr (.inr (.inr fr)))))] : va_W) ++ scL (scJ cI SA SB mc ms mw) (List.range N)) s.heap := hP
  have hl : lv_has ls 5 [(0, .ref t0), (1, .int wr), (2, .int lw), (3, .int hg)] := hl
  refine lv_iload_n hx hb dX6_meets_0 rfl (lv_at hl 1 rfl) ?_
  refine lv_iconst (v := 0) hx hb dX6_meets_1 (by decide) ?_
  refine lv_iconst (v := 2) hx hb dX6_meets_2 (by decide) ?_
  have hPc : va_P D ccl [] s.heap := fun k q h => by simp at h
  have hDc : va_D A [] := ⟨fun i j p q h => by simp at h, fun k q h => by simp at h⟩
  have hFc := va_free (wc := []) hD hS hA [] rfl
  refine gx_Sv (As := [.int wr, .int 0, .int 2]) (rest := []) CF (c_X6_requireWithin l hfl D cI cJ cO df s.heap.size wr 0 2 ) (va_cwS 3 hts gX6_meets_X6_requireWithin rfl rfl rfl (by decide +kernel) ⟨Nat.le_of_ble_eq_true rfl, Nat.le_of_ble_eq_true rfl⟩)  hPc hK hDc hV hH hS hFc rfl hl.1 rfl (Nat.le_of_ble_eq_true rfl) dX6_meets_3 ⟨Nat.le_of_ble_eq_true rfl, Nat.le_of_ble_eq_true rfl⟩ (fun E9 ce q9 w1 H1 locs1 hq hP1 hD1 hk hS hz hc1 hc2 hc3 => ?_) (fun w1 H1 locs1 hq hP1 hD1 hk hS hz => ?_)
  · obtain ⟨ew1, hq⟩ := hq
    dsimp only at ew1 hq
    subst ew1
    have hP := g_keep0 hP hk
    refine vx_widen (k := 5) (n := 26) (Nat.le_of_ble_eq_true rfl) (Nat.le_of_ble_eq_true rfl) ?_
    refine vx_out (fun z hz9 => absurd hz9 (hin z)) hlk hc1 hc2 hc3 (fun t ht hvm => ⟨(E9, (([(t0, .inr (7, [.ref sl, .ref ch, .ref oh, .ref xh, .ref rh, .ref sh])), (ch, .inr (1, [.ref lh])), (lh, .inr (0, [.int md, .ref er, .int (nI C)])), (er, .inl (cO, 10, .inr (.inr (.inr (.inr fr)))))] : va_W) ++ scL (scJ cI SA SB mc ms mw) (List.range N))), ⟨rfl, px1 (if_pos hq.2) hq.1⟩, ⟨rfl, by rw [ht]; exact hP, va_K.moved hvm hK, hD⟩, hS.F ht⟩) hS.2.2 (Nat.le_refl _) (Nat.le_refl _)
  obtain ⟨rfl, hq_3⟩ := hq
  have hP := g_keep0 hP hk
  clear hPc hDc hFc hP1 hD1 hk hz
  generalize H1 = H at hP hS ⊢
  have hP : va_P D ccl (([(t0, .inr (7, [.ref sl, .ref ch, .ref oh, .ref xh, .ref rh, .ref sh])), (ch, .inr (1, [.ref lh])), (lh, .inr (0, [.int md, .ref er, .int (nI C)])), (er, .inl (cO, 10, .inr (.inr (.inr (.inr fr)))))] : va_W) ++ scL (scJ cI SA SB mc ms mw) (List.range N)) H := hP
  have hD : va_D A (([(t0, .inr (7, [.ref sl, .ref ch, .ref oh, .ref xh, .ref rh, .ref sh])), (ch, .inr (1, [.ref lh])), (lh, .inr (0, [.int md, .ref er, .int (nI C)])), (er, .inl (cO, 10, .inr (.inr (.inr (.inr fr)))))] : va_W) ++ scL (scJ cI SA SB mc ms mw) (List.range N)) := hD
  refine lv_iload_n hx hb dX6_meets_6 rfl (lv_at hl 2 rfl) ?_
  refine lv_iconst (v := 0) hx hb dX6_meets_7 (by decide) ?_
  refine lv_sipush (v := 10000) hx hb dX6_meets_8 (by decide) ?_
  have hPc : va_P D ccl [] H := fun k q h => by simp at h
  have hDc : va_D A [] := ⟨fun i j p q h => by simp at h, fun k q h => by simp at h⟩
  have hFc := va_free (wc := []) hD hS hA [] rfl
  refine gx_Sv (As := [.int lw, .int 0, .int 10000]) (rest := []) CF (c_X6_requireWithin l hfl D cI cJ cO df H.size lw 0 10000 ) (va_cwS 3 hts gX6_meets_X6_requireWithin rfl rfl rfl (by decide +kernel) ⟨Nat.le_of_ble_eq_true rfl, Nat.le_of_ble_eq_true rfl⟩)  hPc hK hDc hV hH hS hFc rfl hl.1 rfl (Nat.le_of_ble_eq_true rfl) dX6_meets_11 ⟨Nat.le_of_ble_eq_true rfl, Nat.le_of_ble_eq_true rfl⟩ (fun E9 ce q9 w1 H1 locs1 hq hP1 hD1 hk hS hz hc1 hc2 hc3 => ?_) (fun w1 H1 locs1 hq hP1 hD1 hk hS hz => ?_)
  · obtain ⟨ew1, hq⟩ := hq
    dsimp only at ew1 hq
    subst ew1
    have hP := g_keep0 hP hk
    refine vx_widen (k := 5) (n := 26) (Nat.le_of_ble_eq_true rfl) (Nat.le_of_ble_eq_true rfl) ?_
    refine vx_out (fun z hz9 => absurd hz9 (hin z)) hlk hc1 hc2 hc3 (fun t ht hvm => ⟨(E9, (([(t0, .inr (7, [.ref sl, .ref ch, .ref oh, .ref xh, .ref rh, .ref sh])), (ch, .inr (1, [.ref lh])), (lh, .inr (0, [.int md, .ref er, .int (nI C)])), (er, .inl (cO, 10, .inr (.inr (.inr (.inr fr)))))] : va_W) ++ scL (scJ cI SA SB mc ms mw) (List.range N))), ⟨rfl, px1 ((if_neg hq_3).trans (if_pos hq.2)) hq.1⟩, ⟨rfl, by rw [ht]; exact hP, va_K.moved hvm hK, hD⟩, hS.F ht⟩) hS.2.2 (Nat.le_refl _) (Nat.le_refl _)
  obtain ⟨rfl, hq_11⟩ := hq
  have hP := g_keep0 hP hk
  clear hPc hDc hFc hP1 hD1 hk hz
  generalize H1 = H at hP hS ⊢
  have hP : va_P D ccl (([(t0, .inr (7, [.ref sl, .ref ch, .ref oh, .ref xh, .ref rh, .ref sh])), (ch, .inr (1, [.ref lh])), (lh, .inr (0, [.int md, .ref er, .int (nI C)])), (er, .inl (cO, 10, .inr (.inr (.inr (.inr fr)))))] : va_W) ++ scL (scJ cI SA SB mc ms mw) (List.range N)) H := hP
  have hD : va_D A (([(t0, .inr (7, [.ref sl, .ref ch, .ref oh, .ref xh, .ref rh, .ref sh])), (ch, .inr (1, [.ref lh])), (lh, .inr (0, [.int md, .ref er, .int (nI C)])), (er, .inl (cO, 10, .inr (.inr (.inr (.inr fr)))))] : va_W) ++ scL (scJ cI SA SB mc ms mw) (List.range N)) := hD
  refine lv_iload_n hx hb dX6_meets_14 rfl (lv_at hl 3 rfl) ?_
  refine lv_iload_n hx hb dX6_meets_15 rfl (lv_at hl 2 rfl) ?_
  refine lv_sipush (v := 10000) hx hb dX6_meets_16 (by decide) ?_
  have hPc : va_P D ccl [] H := fun k q h => by simp at h
  have hDc : va_D A [] := ⟨fun i j p q h => by simp at h, fun k q h => by simp at h⟩
  have hFc := va_free (wc := []) hD hS hA [] rfl
  refine gx_Sv (As := [.int hg, .int lw, .int 10000]) (rest := []) CF (c_X6_requireWithin l hfl D cI cJ cO df H.size hg lw 10000 ) (va_cwS 3 hts gX6_meets_X6_requireWithin rfl rfl rfl (by decide +kernel) ⟨Nat.le_of_ble_eq_true rfl, Nat.le_of_ble_eq_true rfl⟩)  hPc hK hDc hV hH hS hFc rfl hl.1 rfl (Nat.le_of_ble_eq_true rfl) dX6_meets_19 ⟨Nat.le_of_ble_eq_true rfl, Nat.le_of_ble_eq_true rfl⟩ (fun E9 ce q9 w1 H1 locs1 hq hP1 hD1 hk hS hz hc1 hc2 hc3 => ?_) (fun w1 H1 locs1 hq hP1 hD1 hk hS hz => ?_)
  · obtain ⟨ew1, hq⟩ := hq
    dsimp only at ew1 hq
    subst ew1
    have hP := g_keep0 hP hk
    refine vx_widen (k := 5) (n := 26) (Nat.le_of_ble_eq_true rfl) (Nat.le_of_ble_eq_true rfl) ?_
    refine vx_out (fun z hz9 => absurd hz9 (hin z)) hlk hc1 hc2 hc3 (fun t ht hvm => ⟨(E9, (([(t0, .inr (7, [.ref sl, .ref ch, .ref oh, .ref xh, .ref rh, .ref sh])), (ch, .inr (1, [.ref lh])), (lh, .inr (0, [.int md, .ref er, .int (nI C)])), (er, .inl (cO, 10, .inr (.inr (.inr (.inr fr)))))] : va_W) ++ scL (scJ cI SA SB mc ms mw) (List.range N))), ⟨rfl, px1 ((if_neg hq_3).trans ((if_neg hq_11).trans hq.2)) hq.1⟩, ⟨rfl, by rw [ht]; exact hP, va_K.moved hvm hK, hD⟩, hS.F ht⟩) hS.2.2 (Nat.le_refl _) (Nat.le_refl _)
  obtain ⟨rfl, hq_19⟩ := hq
  have hP := g_keep0 hP hk
  clear hPc hDc hFc hP1 hD1 hk hz
  generalize H1 = H at hP hS ⊢
  have hP : va_P D ccl (([(t0, .inr (7, [.ref sl, .ref ch, .ref oh, .ref xh, .ref rh, .ref sh])), (ch, .inr (1, [.ref lh])), (lh, .inr (0, [.int md, .ref er, .int (nI C)])), (er, .inl (cO, 10, .inr (.inr (.inr (.inr fr)))))] : va_W) ++ scL (scJ cI SA SB mc ms mw) (List.range N)) H := hP
  have hD : va_D A (([(t0, .inr (7, [.ref sl, .ref ch, .ref oh, .ref xh, .ref rh, .ref sh])), (ch, .inr (1, [.ref lh])), (lh, .inr (0, [.int md, .ref er, .int (nI C)])), (er, .inl (cO, 10, .inr (.inr (.inr (.inr fr)))))] : va_W) ++ scL (scJ cI SA SB mc ms mw) (List.range N)) := hD
  have hA9 : ¬ (if isIn wr 0 2 = 0 then 0 else if isIn lw 0 10000 = 0 then 0 else isIn hg lw 10000) = 0 := by rw [if_neg hq_3, if_neg hq_11]; exact hq_19
  refine lv_aload_n hx hb dX6_meets_22 rfl (lv_at hl 0 rfl) ?_
  refine lv_iload_n hx hb dX6_meets_23 rfl (lv_at hl 1 rfl) ?_
  have hPc := hP.sub (ws' := [(t0, .inr (7, [.ref sl, .ref ch, .ref oh, .ref xh, .ref rh, .ref sh])), (ch, .inr (1, [.ref lh])), (lh, .inr (0, [.int md, .ref er, .int (nI C)]))]) [0, 1, 2] rfl
  have hDc := hD.sub (ws' := [(t0, .inr (7, [.ref sl, .ref ch, .ref oh, .ref xh, .ref rh, .ref sh])), (ch, .inr (1, [.ref lh])), (lh, .inr (0, [.int md, .ref er, .int (nI C)]))]) [0, 1, 2] (by decide) rfl
  have hFc := va_free (wc := [(t0, .inr (7, [.ref sl, .ref ch, .ref oh, .ref xh, .ref rh, .ref sh])), (ch, .inr (1, [.ref lh])), (lh, .inr (0, [.int md, .ref er, .int (nI C)]))]) hD hS hA [0, 1, 2] rfl
  refine gx_Vv (As := [.int wr]) (rest := []) CF (c_X6_requireShortChain l hfl D cI cJ cO df H.size t0 sl ch oh xh rh sh lh er md C wr hC) (cwV 1 hts gX6_meets_X6_requireShortChain rfl rfl rfl (by decide +kernel) ⟨Nat.le_of_ble_eq_true rfl, Nat.le_of_ble_eq_true rfl⟩) (va_recv hK hP (ci := 7) (q0 := 0) rfl rfl) hPc hK hDc hV hH hS hFc rfl hl.1 rfl (Nat.le_of_ble_eq_true rfl) dX6_meets_24 ⟨Nat.le_of_ble_eq_true rfl, Nat.le_of_ble_eq_true rfl⟩ (fun E9 ce q9 w1 H1 locs1 hq hP1 hD1 hk hS hz hc1 hc2 hc3 => ?_) (fun w1 H1 locs1 hq hP1 hD1 hk hS hz => ?_)
  · obtain ⟨ew1, hq⟩ := hq
    dsimp only at ew1 hq
    subst ew1
    have hP := g_keepR hP hD [0, 1, 2] rfl hk hP1
    refine vx_widen (k := 5) (n := 26) (Nat.le_of_ble_eq_true rfl) (Nat.le_of_ble_eq_true rfl) ?_
    refine vx_out (fun z hz9 => absurd hz9 (hin z)) hlk hc1 hc2 hc3 (fun t ht hvm => ⟨(E9, (([(t0, .inr (7, [.ref sl, .ref ch, .ref oh, .ref xh, .ref rh, .ref sh])), (ch, .inr (1, [.ref lh])), (lh, .inr (0, [.int md, .ref er, .int (nI C)])), (er, .inl (cO, 10, .inr (.inr (.inr (.inr fr)))))] : va_W) ++ scL (scJ cI SA SB mc ms mw) (List.range N))), ⟨rfl, px2 hA9 hq.2 hq.1⟩, ⟨rfl, by rw [ht]; exact hP, va_K.moved hvm hK, hD⟩, hS.F ht⟩) hS.2.2 (Nat.le_refl _) (Nat.le_refl _)
  obtain ⟨rfl, hq_24⟩ := hq
  have hP := g_keepR hP hD [0, 1, 2] rfl hk hP1
  clear hPc hDc hFc hP1 hD1 hk hz
  generalize H1 = H at hP hS ⊢
  have hP : va_P D ccl (([(t0, .inr (7, [.ref sl, .ref ch, .ref oh, .ref xh, .ref rh, .ref sh])), (ch, .inr (1, [.ref lh])), (lh, .inr (0, [.int md, .ref er, .int (nI C)])), (er, .inl (cO, 10, .inr (.inr (.inr (.inr fr)))))] : va_W) ++ scL (scJ cI SA SB mc ms mw) (List.range N)) H := hP
  have hD : va_D A (([(t0, .inr (7, [.ref sl, .ref ch, .ref oh, .ref xh, .ref rh, .ref sh])), (ch, .inr (1, [.ref lh])), (lh, .inr (0, [.int md, .ref er, .int (nI C)])), (er, .inl (cO, 10, .inr (.inr (.inr (.inr fr)))))] : va_W) ++ scL (scJ cI SA SB mc ms mw) (List.range N)) := hD
  obtain ⟨w, hw2, rfl⟩ := isIn_nat 2 (by decide) hq_3
  obtain ⟨L0, hL0, rfl⟩ := isIn_nat 10000 (by decide) hq_11
  obtain ⟨H0, hH0, hH1, rfl⟩ := isIn_nat2 (n := 10000) (by omega) (by decide) hq_19
  have hO8 : ∀ i, i < C → gN (mo i) < 8 := fun i hi => Nat.lt_of_lt_of_le (hO i hi).1 hN
  have hCw : C ≤ (if w = 2 then 2 else 4) := hCw_of hw2 (g_b1 hq_24)
  have hz9 := zOU_le (k := C) hc hCw (Nat.le_refl C) (fun i hi => hO8 i hi)
  have hq9 : (if w = 2 then 6503616025 else 21071715921) ≤ 21071715921 := by split <;> decide
  refine lv_aload_n hx hb dX6_meets_27 rfl (lv_at hl 0 rfl) ?_
  refine va_get (D := D) (ci := 7) (v := .ref ch) (C := RX6) (T := TX6) (N := 6) hx hb hts inX6 hown hK hP 0 rfl rfl 1 (by decide) hfieldLink_RX6_19 (fun _ h9 => h9) rfl dX6_meets_28 ?_
  have hPc := hP.part (X := [(t0, .inr (7, [.ref sl, .ref ch, .ref oh, .ref xh, .ref rh, .ref sh])), (ch, .inr (1, [.ref lh])), (lh, .inr (0, [.int md, .ref er, .int (nI C)])), (er, .inl (cO, 10, .inr (.inr (.inr (.inr fr)))))]) (cx := [(ch, .inr (1, [.ref lh])), (lh, .inr (0, [.int md, .ref er, .int (nI C)])), (er, .inl (cO, 10, .inr (.inr (.inr (.inr fr)))))]) [1, 2, 3] rfl
  have hDc := hD.part (X := [(t0, .inr (7, [.ref sl, .ref ch, .ref oh, .ref xh, .ref rh, .ref sh])), (ch, .inr (1, [.ref lh])), (lh, .inr (0, [.int md, .ref er, .int (nI C)])), (er, .inl (cO, 10, .inr (.inr (.inr (.inr fr)))))]) (cx := [(ch, .inr (1, [.ref lh])), (lh, .inr (0, [.int md, .ref er, .int (nI C)])), (er, .inl (cO, 10, .inr (.inr (.inr (.inr fr)))))]) [1, 2, 3] (by decide) rfl
  have hFc := va_freeP (X := [(t0, .inr (7, [.ref sl, .ref ch, .ref oh, .ref xh, .ref rh, .ref sh])), (ch, .inr (1, [.ref lh])), (lh, .inr (0, [.int md, .ref er, .int (nI C)])), (er, .inl (cO, 10, .inr (.inr (.inr (.inr fr)))))]) (cx := [(ch, .inr (1, [.ref lh])), (lh, .inr (0, [.int md, .ref er, .int (nI C)])), (er, .inl (cO, 10, .inr (.inr (.inr (.inr fr)))))]) hD hS hA [1, 2, 3] rfl
  refine g_Vi (As := []) (rest := []) CF (c_X0_isStable l D cI cJ cO df H.size ch lh er md C fr mo SA SB mc ms mw N hC hN hfr hO) (cwV 0 hts gX6_meets_X0_isStable rfl rfl rfl (by decide +kernel) ⟨Nat.le_of_ble_eq_true rfl, Nat.le_of_ble_eq_true rfl⟩) (va_recv hK hP (ci := 1) (q0 := 1) rfl rfl) hPc hK hDc hV hH hS hFc rfl hl.1 rfl (Nat.le_of_ble_eq_true rfl) dX6_meets_31 ⟨Nat.le_of_ble_eq_true rfl, Nat.le_of_ble_eq_true rfl⟩ (fun r_31 w1 H1 locs1 hq hP1 hD1 hk hS hz => ?_)
  obtain ⟨rfl, hr_31⟩ := hq
  obtain ⟨hP, hD⟩ := g_joinP (X := [(t0, .inr (7, [.ref sl, .ref ch, .ref oh, .ref xh, .ref rh, .ref sh])), (ch, .inr (1, [.ref lh])), (lh, .inr (0, [.int md, .ref er, .int (nI C)])), (er, .inl (cO, 10, .inr (.inr (.inr (.inr fr)))))]) (cx := [(ch, .inr (1, [.ref lh])), (lh, .inr (0, [.int md, .ref er, .int (nI C)])), (er, .inl (cO, 10, .inr (.inr (.inr (.inr fr)))))]) (rx := [(ch, .inr (1, [.ref lh])), (lh, .inr (0, [.int md, .ref er, .int (nI C)])), (er, .inl (cO, 10, .inr (.inr (.inr (.inr fr)))))]) (X' := [(t0, .inr (7, [.ref sl, .ref ch, .ref oh, .ref xh, .ref rh, .ref sh])), (ch, .inr (1, [.ref lh])), (lh, .inr (0, [.int md, .ref er, .int (nI C)])), (er, .inl (cO, 10, .inr (.inr (.inr (.inr fr)))))]) hP hD hk hFc hP1 hD1 [1, 2, 3] [0] [0, 1, 2, 3] rfl rfl (by decide) (by decide) (by decide) rfl
  clear hPc hDc hFc hP1 hD1 hk hz
  generalize H1 = H at hP hS ⊢
  have hP : va_P D ccl (([(t0, .inr (7, [.ref sl, .ref ch, .ref oh, .ref xh, .ref rh, .ref sh])), (ch, .inr (1, [.ref lh])), (lh, .inr (0, [.int md, .ref er, .int (nI C)])), (er, .inl (cO, 10, .inr (.inr (.inr (.inr fr)))))] : va_W) ++ scL (scJ cI SA SB mc ms mw) (List.range N)) H := hP
  have hD : va_D A (([(t0, .inr (7, [.ref sl, .ref ch, .ref oh, .ref xh, .ref rh, .ref sh])), (ch, .inr (1, [.ref lh])), (lh, .inr (0, [.int md, .ref er, .int (nI C)])), (er, .inl (cO, 10, .inr (.inr (.inr (.inr fr)))))] : va_W) ++ scL (scJ cI SA SB mc ms mw) (List.range N)) := hD
  subst hr_31
  refine lv_if_ne (tgt := 39) hx hb dX6_meets_34 (by decide) (fun c_34 => ?_) (fun c_34 => ?_)
  · have hzu : 0 < (zU mc mo w C) := zU_pos hc hO8 (Nat.le_refl C) c_34
    have hg0 : 0 < Nat.gcd (zO mc mo w C).natAbs (zU mc mo w C).natAbs := Nat.gcd_pos_of_pos_right _ (by omega)
    refine lv_aload_n hx hb dX6_meets_39 rfl (lv_at hl 0 rfl) ?_
    refine va_get (D := D) (ci := 7) (v := .ref ch) (C := RX6) (T := TX6) (N := 6) hx hb hts inX6 hown hK hP 0 rfl rfl 1 (by decide) hfieldLink_RX6_19 (fun _ h9 => h9) rfl dX6_meets_40 ?_
    refine lv_iload_n hx hb dX6_meets_43 rfl (lv_at hl 1 rfl) ?_
    have hPc := hP.part (X := [(t0, .inr (7, [.ref sl, .ref ch, .ref oh, .ref xh, .ref rh, .ref sh])), (ch, .inr (1, [.ref lh])), (lh, .inr (0, [.int md, .ref er, .int (nI C)])), (er, .inl (cO, 10, .inr (.inr (.inr (.inr fr)))))]) (cx := [(ch, .inr (1, [.ref lh])), (lh, .inr (0, [.int md, .ref er, .int (nI C)])), (er, .inl (cO, 10, .inr (.inr (.inr (.inr fr)))))]) [1, 2, 3] rfl
    have hDc := hD.part (X := [(t0, .inr (7, [.ref sl, .ref ch, .ref oh, .ref xh, .ref rh, .ref sh])), (ch, .inr (1, [.ref lh])), (lh, .inr (0, [.int md, .ref er, .int (nI C)])), (er, .inl (cO, 10, .inr (.inr (.inr (.inr fr)))))]) (cx := [(ch, .inr (1, [.ref lh])), (lh, .inr (0, [.int md, .ref er, .int (nI C)])), (er, .inl (cO, 10, .inr (.inr (.inr (.inr fr)))))]) [1, 2, 3] (by decide) rfl
    have hFc := va_freeP (X := [(t0, .inr (7, [.ref sl, .ref ch, .ref oh, .ref xh, .ref rh, .ref sh])), (ch, .inr (1, [.ref lh])), (lh, .inr (0, [.int md, .ref er, .int (nI C)])), (er, .inl (cO, 10, .inr (.inr (.inr (.inr fr)))))]) (cx := [(ch, .inr (1, [.ref lh])), (lh, .inr (0, [.int md, .ref er, .int (nI C)])), (er, .inl (cO, 10, .inr (.inr (.inr (.inr fr)))))]) hD hS hA [1, 2, 3] rfl
    refine g_Vr (As := [.int (nI w)]) (rest := []) CF (c_X0_gainAt l D cI cJ cO df H.size ch lh er md C fr mo SA SB mc ms mw N w hC hN hfr hO hc hw2 hCw) (cwV 1 hts gX6_meets_X0_gainAt rfl rfl rfl (by decide +kernel) ⟨Nat.le_of_ble_eq_true rfl, Nat.le_of_ble_eq_true rfl⟩) (va_recv hK hP (ci := 1) (q0 := 1) rfl rfl) hPc hK hDc hV hH hS hFc rfl hl.1 rfl (Nat.le_of_ble_eq_true rfl) dX6_meets_44 ⟨Nat.le_of_ble_eq_true rfl, Nat.le_of_ble_eq_true rfl⟩ (fun w1 H1 locs1 hq hP1 hD1 hk hS hz => ?_)
    obtain ⟨w1, a1⟩ := w1
    obtain ⟨qf, rn, rd, ew1, hr_44, hq_44⟩ := hq
    dsimp only at ew1 hP1 hD1 hr_44
    subst ew1
    obtain ⟨hP, hD⟩ := g_joinP (X := [(t0, .inr (7, [.ref sl, .ref ch, .ref oh, .ref xh, .ref rh, .ref sh])), (ch, .inr (1, [.ref lh])), (lh, .inr (0, [.int md, .ref er, .int (nI C)])), (er, .inl (cO, 10, .inr (.inr (.inr (.inr fr)))))]) (cx := [(ch, .inr (1, [.ref lh])), (lh, .inr (0, [.int md, .ref er, .int (nI C)])), (er, .inl (cO, 10, .inr (.inr (.inr (.inr fr)))))]) (rx := [(ch, .inr (1, [.ref lh])), (lh, .inr (0, [.int md, .ref er, .int (nI C)])), (er, .inl (cO, 10, .inr (.inr (.inr (.inr fr))))), (qf, .inr (3, [.long rn, .long rd]))]) (X' := [(t0, .inr (7, [.ref sl, .ref ch, .ref oh, .ref xh, .ref rh, .ref sh])), (ch, .inr (1, [.ref lh])), (lh, .inr (0, [.int md, .ref er, .int (nI C)])), (er, .inl (cO, 10, .inr (.inr (.inr (.inr fr))))), (qf, .inr (3, [.long rn, .long rd]))]) hP hD hk hFc hP1 hD1 [1, 2, 3] [0] [0, 1, 2, 3, 4] rfl rfl (by decide) (by decide) (by decide) rfl
    clear hPc hDc hFc hP1 hD1 hk hz
    generalize H1 = H at hP hS ⊢
    have hP : va_P D ccl (([(t0, .inr (7, [.ref sl, .ref ch, .ref oh, .ref xh, .ref rh, .ref sh])), (ch, .inr (1, [.ref lh])), (lh, .inr (0, [.int md, .ref er, .int (nI C)])), (er, .inl (cO, 10, .inr (.inr (.inr (.inr fr))))), (qf, .inr (3, [.long rn, .long rd]))] : va_W) ++ scL (scJ cI SA SB mc ms mw) (List.range N)) H := hP
    have hD : va_D A (([(t0, .inr (7, [.ref sl, .ref ch, .ref oh, .ref xh, .ref rh, .ref sh])), (ch, .inr (1, [.ref lh])), (lh, .inr (0, [.int md, .ref er, .int (nI C)])), (er, .inl (cO, 10, .inr (.inr (.inr (.inr fr))))), (qf, .inr (3, [.long rn, .long rd]))] : va_W) ++ scL (scJ cI SA SB mc ms mw) (List.range N)) := hD
    have hr_44 := hr_44.symm
    subst hr_44
    obtain ⟨er9, ed9⟩ := hq_44
    have hza := gnR_abs (zo := (zO mc mo w C)) (zu := (zU mc mo w C)) hzu
    have hrn : rn.toInt.natAbs = (zO mc mo w C).natAbs / Nat.gcd (zO mc mo w C).natAbs (zU mc mo w C).natAbs := by rw [er9]; exact hza.1
    have hrd : rd = lN ((zU mc mo w C).natAbs / Nat.gcd (zO mc mo w C).natAbs (zU mc mo w C).natAbs) := by rw [← Int64.toInt_inj, ed9, hza.2, pk_lT (by have := Nat.div_le_self (zU mc mo w C).natAbs (Nat.gcd (zO mc mo w C).natAbs (zU mc mo w C).natAbs); omega)]
    subst hrd
    have hdl1 := Nat.div_le_self (zO mc mo w C).natAbs (Nat.gcd (zO mc mo w C).natAbs (zU mc mo w C).natAbs)
    have hdl2 := Nat.div_le_self (zU mc mo w C).natAbs (Nat.gcd (zO mc mo w C).natAbs (zU mc mo w C).natAbs)
    have hbZ := (mt_bd hL0 (U := rn.toInt.natAbs) (w := w) (by rw [hrn]; omega)).2
    have hbL := (mt_bd hL0 (U := ((zU mc mo w C).natAbs / Nat.gcd (zO mc mo w C).natAbs (zU mc mo w C).natAbs)) (w := w) (by omega)).1
    have hbH := (mt_bd hH1 (U := ((zU mc mo w C).natAbs / Nat.gcd (zO mc mo w C).natAbs (zU mc mo w C).natAbs)) (w := w) (by omega)).1
    refine lv_astore (lv' := [(4, .ref qf), (0, .ref t0), (1, .int (nI w)), (2, .int (nI L0)), (3, .int (nI H0))]) hx hb dX6_meets_47 hl (by decide) rfl (fun ls hl => ?_)
    refine lv_iload_n hx hb dX6_meets_49 rfl (lv_at hl 2 rfl) ?_
    refine lv_iconst (v := 2) hx hb dX6_meets_50 (by decide) ?_
    refine lv_icmp_ne (tgt := 75) hx hb dX6_meets_51 (by decide) (fun c_51 => ?_) (fun c_51 => ?_)
    · have c_51 : w ≠ 2 := g_ne (a := w) (b := 2) c_51 (by omega) (by omega)
      refine lv_aload hx hb dX6_meets_75 (lv_at hl 0 rfl) ?_
      refine lv_iload_n hx hb dX6_meets_77 rfl (lv_at hl 3 rfl) ?_
      refine lv_i2l (v := (nI L0).toInt64) hx hb dX6_meets_78 rfl ?_
      refine lv_topl (fun f ef => ?_)
      obtain rfl : f = lN L0 := ef.trans (nI_l (by omega))
      refine lv_iload_n hx hb dX6_meets_79 rfl (lv_at hl 4 rfl) ?_
      refine lv_i2l (v := (nI H0).toInt64) hx hb dX6_meets_80 rfl ?_
      refine lv_topl (fun f ef => ?_)
      obtain rfl : f = lN H0 := ef.trans (nI_l (by omega))
      refine lv_ldc2 (v := 1000) hx hb hown hconstantLong_RX6_167 dX6_meets_81 ?_
      have hPc := hP.sub (ws' := [(qf, .inr (3, [.long rn, .long (lN ((zU mc mo w C).natAbs / Nat.gcd (zO mc mo w C).natAbs (zU mc mo w C).natAbs))]))]) [4] rfl
      have hDc := hD.sub (ws' := [(qf, .inr (3, [.long rn, .long (lN ((zU mc mo w C).natAbs / Nat.gcd (zO mc mo w C).natAbs (zU mc mo w C).natAbs))]))]) [4] (by decide) rfl
      have hFc := va_free (wc := [(qf, .inr (3, [.long rn, .long (lN ((zU mc mo w C).natAbs / Nat.gcd (zO mc mo w C).natAbs (zU mc mo w C).natAbs))]))]) hD hS hA [4] rfl
      refine g_Vi (As := [.long (lN L0), .long (lN H0), .long 1000]) (rest := []) CF (c_X2_isWithin l D cI cJ cO df H.size qf rn ((zU mc mo w C).natAbs / Nat.gcd (zO mc mo w C).natAbs (zU mc mo w C).natAbs) L0 H0 1000 (by omega) (by rw [if_neg c_51] at hbZ; exact hbZ) (by rw [if_neg c_51] at hbL; exact hbL) (by rw [if_neg c_51] at hbH; exact hbH)) (cwV 3 hts gX6_meets_X2_isWithin rfl rfl rfl (by decide +kernel) ⟨Nat.le_of_ble_eq_true rfl, Nat.le_of_ble_eq_true rfl⟩) (va_recv hK hP (ci := 3) (q0 := 4) rfl rfl) hPc hK hDc hV hH hS hFc rfl hl.1 rfl (Nat.le_of_ble_eq_true rfl) dX6_meets_84 ⟨Nat.le_of_ble_eq_true rfl, Nat.le_of_ble_eq_true rfl⟩ (fun r_84 w1 H1 locs1 hq hP1 hD1 hk hS hz => ?_)
      obtain ⟨rfl, hr_84⟩ := hq
      have hP := g_keepR hP hD [4] rfl hk hP1
      clear hPc hDc hFc hP1 hD1 hk hz
      generalize H1 = H at hP hS ⊢
      have hP : va_P D ccl (([(t0, .inr (7, [.ref sl, .ref ch, .ref oh, .ref xh, .ref rh, .ref sh])), (ch, .inr (1, [.ref lh])), (lh, .inr (0, [.int md, .ref er, .int (nI C)])), (er, .inl (cO, 10, .inr (.inr (.inr (.inr fr))))), (qf, .inr (3, [.long rn, .long (lN ((zU mc mo w C).natAbs / Nat.gcd (zO mc mo w C).natAbs (zU mc mo w C).natAbs))]))] : va_W) ++ scL (scJ cI SA SB mc ms mw) (List.range N)) H := hP
      have hD : va_D A (([(t0, .inr (7, [.ref sl, .ref ch, .ref oh, .ref xh, .ref rh, .ref sh])), (ch, .inr (1, [.ref lh])), (lh, .inr (0, [.int md, .ref er, .int (nI C)])), (er, .inl (cO, 10, .inr (.inr (.inr (.inr fr))))), (qf, .inr (3, [.long rn, .long (lN ((zU mc mo w C).natAbs / Nat.gcd (zO mc mo w C).natAbs (zU mc mo w C).natAbs))]))] : va_W) ++ scL (scJ cI SA SB mc ms mw) (List.range N)) := hD
      subst hr_84
      have hP := hP.part (X := [(t0, .inr (7, [.ref sl, .ref ch, .ref oh, .ref xh, .ref rh, .ref sh])), (ch, .inr (1, [.ref lh])), (lh, .inr (0, [.int md, .ref er, .int (nI C)])), (er, .inl (cO, 10, .inr (.inr (.inr (.inr fr))))), (qf, .inr (3, [.long rn, .long (lN ((zU mc mo w C).natAbs / Nat.gcd (zO mc mo w C).natAbs (zU mc mo w C).natAbs))]))]) (cx := [(t0, .inr (7, [.ref sl, .ref ch, .ref oh, .ref xh, .ref rh, .ref sh])), (ch, .inr (1, [.ref lh])), (lh, .inr (0, [.int md, .ref er, .int (nI C)])), (er, .inl (cO, 10, .inr (.inr (.inr (.inr fr)))))]) [0, 1, 2, 3] rfl
      have hD := hD.part (X := [(t0, .inr (7, [.ref sl, .ref ch, .ref oh, .ref xh, .ref rh, .ref sh])), (ch, .inr (1, [.ref lh])), (lh, .inr (0, [.int md, .ref er, .int (nI C)])), (er, .inl (cO, 10, .inr (.inr (.inr (.inr fr))))), (qf, .inr (3, [.long rn, .long (lN ((zU mc mo w C).natAbs / Nat.gcd (zO mc mo w C).natAbs (zU mc mo w C).natAbs))]))]) (cx := [(t0, .inr (7, [.ref sl, .ref ch, .ref oh, .ref xh, .ref rh, .ref sh])), (ch, .inr (1, [.ref lh])), (lh, .inr (0, [.int md, .ref er, .int (nI C)])), (er, .inl (cO, 10, .inr (.inr (.inr (.inr fr)))))]) [0, 1, 2, 3] (by decide) rfl
      have hP : va_P D ccl (([(t0, .inr (7, [.ref sl, .ref ch, .ref oh, .ref xh, .ref rh, .ref sh])), (ch, .inr (1, [.ref lh])), (lh, .inr (0, [.int md, .ref er, .int (nI C)])), (er, .inl (cO, 10, .inr (.inr (.inr (.inr fr)))))] : va_W) ++ scL (scJ cI SA SB mc ms mw) (List.range N)) H := hP
      have hD : va_D A (([(t0, .inr (7, [.ref sl, .ref ch, .ref oh, .ref xh, .ref rh, .ref sh])), (ch, .inr (1, [.ref lh])), (lh, .inr (0, [.int md, .ref er, .int (nI C)])), (er, .inl (cO, 10, .inr (.inr (.inr (.inr fr)))))] : va_W) ++ scL (scJ cI SA SB mc ms mw) (List.range N)) := hD
      refine vx_ret ?_
      refine g_zret (v := if L0 * ((zU mc mo w C).natAbs / Nat.gcd (zO mc mo w C).natAbs (zU mc mo w C).natAbs) ≤ rn.toInt.natAbs * 1000 ∧ rn.toInt.natAbs * 1000 ≤ H0 * ((zU mc mo w C).natAbs / Nat.gcd (zO mc mo w C).natAbs (zU mc mo w C).natAbs) then 1 else 0) hx hb hr hlk hP hK hD hS (Nat.le_of_ble_eq_true rfl) (Nat.le_of_ble_eq_true rfl) dX6_meets_87 (by split <;> decide +kernel) ?_
      have e1 : gN (nI w) = w := gN_nI (by omega)
      have e2 : gN (nI L0) = L0 := gN_nI (by omega)
      have e3 : gN (nI H0) = H0 := gN_nI (by omega)
      exact ⟨rfl, by
        rw [e1, e2, e3]
        have hri := fun L => red_iff (L := L) (s := (if w = 2 then 1000000 else 1000)) hg0 (Nat.gcd_dvd_left (zO mc mo w C).natAbs (zU mc mo w C).natAbs) (Nat.gcd_dvd_right (zO mc mo w C).natAbs (zU mc mo w C).natAbs)
        rw [hrn]
        by_cases hall : mtP (stM mc mo C) (zO mc mo w C) (zU mc mo w C) w L0 H0
        · rw [if_pos hall]
          have a1 := (hri (if w = 2 then L0 * L0 else L0)).1.mpr hall.2.1
          have a2 := (hri (if w = 2 then H0 * H0 else H0)).2.mpr hall.2.2
          simp only [if_neg c_51] at a1 a2
          exact if_pos ⟨a1, a2⟩
        · rw [if_neg hall]
          refine if_neg (fun h9 => hall ⟨c_34, ?_⟩)
          have b1 := (hri (if w = 2 then L0 * L0 else L0)).1
          have b2 := (hri (if w = 2 then H0 * H0 else H0)).2
          simp only [if_neg c_51] at b1 b2 ⊢
          exact ⟨b1.mp h9.1, b2.mp h9.2⟩, gGoOk hA9 hq_24 (by decide)⟩
    · have c_51 : w = 2 := g_eq (a := w) (b := 2) c_51 (by omega) (by omega)
      refine lv_aload hx hb dX6_meets_54 (lv_at hl 0 rfl) ?_
      refine lv_iload_n hx hb dX6_meets_56 rfl (lv_at hl 3 rfl) ?_
      refine lv_i2l (v := (nI L0).toInt64) hx hb dX6_meets_57 rfl ?_
      refine lv_topl (fun f ef => ?_)
      obtain rfl : f = lN L0 := ef.trans (nI_l (by omega))
      refine lv_iload_n hx hb dX6_meets_58 rfl (lv_at hl 3 rfl) ?_
      refine lv_i2l (v := (nI L0).toInt64) hx hb dX6_meets_59 rfl ?_
      refine lv_topl (fun f ef => ?_)
      obtain rfl : f = lN L0 := ef.trans (nI_l (by omega))
      refine lv_lmul hx hb dX6_meets_60 ?_
      refine lv_topl (fun f ef => ?_)
      obtain rfl : f = lN (L0 * L0) := ef.trans (lN_mul _ _)
      refine lv_iload_n hx hb dX6_meets_61 rfl (lv_at hl 4 rfl) ?_
      refine lv_i2l (v := (nI H0).toInt64) hx hb dX6_meets_62 rfl ?_
      refine lv_topl (fun f ef => ?_)
      obtain rfl : f = lN H0 := ef.trans (nI_l (by omega))
      refine lv_iload_n hx hb dX6_meets_63 rfl (lv_at hl 4 rfl) ?_
      refine lv_i2l (v := (nI H0).toInt64) hx hb dX6_meets_64 rfl ?_
      refine lv_topl (fun f ef => ?_)
      obtain rfl : f = lN H0 := ef.trans (nI_l (by omega))
      refine lv_lmul hx hb dX6_meets_65 ?_
      refine lv_topl (fun f ef => ?_)
      obtain rfl : f = lN (H0 * H0) := ef.trans (lN_mul _ _)
      refine lv_ldc2 (v := 1000000) hx hb hown hconstantLong_RX6_161 dX6_meets_66 ?_
      have hPc := hP.sub (ws' := [(qf, .inr (3, [.long rn, .long (lN ((zU mc mo w C).natAbs / Nat.gcd (zO mc mo w C).natAbs (zU mc mo w C).natAbs))]))]) [4] rfl
      have hDc := hD.sub (ws' := [(qf, .inr (3, [.long rn, .long (lN ((zU mc mo w C).natAbs / Nat.gcd (zO mc mo w C).natAbs (zU mc mo w C).natAbs))]))]) [4] (by decide) rfl
      have hFc := va_free (wc := [(qf, .inr (3, [.long rn, .long (lN ((zU mc mo w C).natAbs / Nat.gcd (zO mc mo w C).natAbs (zU mc mo w C).natAbs))]))]) hD hS hA [4] rfl
      refine g_Vi (As := [.long (lN (L0 * L0)), .long (lN (H0 * H0)), .long 1000000]) (rest := []) CF (c_X2_isWithin l D cI cJ cO df H.size qf rn ((zU mc mo w C).natAbs / Nat.gcd (zO mc mo w C).natAbs (zU mc mo w C).natAbs) (L0 * L0) (H0 * H0) 1000000 (by omega) (by rw [if_pos c_51] at hbZ; exact hbZ) (by rw [if_pos c_51] at hbL; exact hbL) (by rw [if_pos c_51] at hbH; exact hbH)) (cwV 3 hts gX6_meets_X2_isWithin rfl rfl rfl (by decide +kernel) ⟨Nat.le_of_ble_eq_true rfl, Nat.le_of_ble_eq_true rfl⟩) (va_recv hK hP (ci := 3) (q0 := 4) rfl rfl) hPc hK hDc hV hH hS hFc rfl hl.1 rfl (Nat.le_of_ble_eq_true rfl) dX6_meets_69 ⟨Nat.le_of_ble_eq_true rfl, Nat.le_of_ble_eq_true rfl⟩ (fun r_69 w1 H1 locs1 hq hP1 hD1 hk hS hz => ?_)
      obtain ⟨rfl, hr_69⟩ := hq
      have hP := g_keepR hP hD [4] rfl hk hP1
      clear hPc hDc hFc hP1 hD1 hk hz
      generalize H1 = H at hP hS ⊢
      have hP : va_P D ccl (([(t0, .inr (7, [.ref sl, .ref ch, .ref oh, .ref xh, .ref rh, .ref sh])), (ch, .inr (1, [.ref lh])), (lh, .inr (0, [.int md, .ref er, .int (nI C)])), (er, .inl (cO, 10, .inr (.inr (.inr (.inr fr))))), (qf, .inr (3, [.long rn, .long (lN ((zU mc mo w C).natAbs / Nat.gcd (zO mc mo w C).natAbs (zU mc mo w C).natAbs))]))] : va_W) ++ scL (scJ cI SA SB mc ms mw) (List.range N)) H := hP
      have hD : va_D A (([(t0, .inr (7, [.ref sl, .ref ch, .ref oh, .ref xh, .ref rh, .ref sh])), (ch, .inr (1, [.ref lh])), (lh, .inr (0, [.int md, .ref er, .int (nI C)])), (er, .inl (cO, 10, .inr (.inr (.inr (.inr fr))))), (qf, .inr (3, [.long rn, .long (lN ((zU mc mo w C).natAbs / Nat.gcd (zO mc mo w C).natAbs (zU mc mo w C).natAbs))]))] : va_W) ++ scL (scJ cI SA SB mc ms mw) (List.range N)) := hD
      subst hr_69
      refine lv_goto (tgt := 87) hx hb dX6_meets_72 (by decide) ?_
      have hP := hP.part (X := [(t0, .inr (7, [.ref sl, .ref ch, .ref oh, .ref xh, .ref rh, .ref sh])), (ch, .inr (1, [.ref lh])), (lh, .inr (0, [.int md, .ref er, .int (nI C)])), (er, .inl (cO, 10, .inr (.inr (.inr (.inr fr))))), (qf, .inr (3, [.long rn, .long (lN ((zU mc mo w C).natAbs / Nat.gcd (zO mc mo w C).natAbs (zU mc mo w C).natAbs))]))]) (cx := [(t0, .inr (7, [.ref sl, .ref ch, .ref oh, .ref xh, .ref rh, .ref sh])), (ch, .inr (1, [.ref lh])), (lh, .inr (0, [.int md, .ref er, .int (nI C)])), (er, .inl (cO, 10, .inr (.inr (.inr (.inr fr)))))]) [0, 1, 2, 3] rfl
      have hD := hD.part (X := [(t0, .inr (7, [.ref sl, .ref ch, .ref oh, .ref xh, .ref rh, .ref sh])), (ch, .inr (1, [.ref lh])), (lh, .inr (0, [.int md, .ref er, .int (nI C)])), (er, .inl (cO, 10, .inr (.inr (.inr (.inr fr))))), (qf, .inr (3, [.long rn, .long (lN ((zU mc mo w C).natAbs / Nat.gcd (zO mc mo w C).natAbs (zU mc mo w C).natAbs))]))]) (cx := [(t0, .inr (7, [.ref sl, .ref ch, .ref oh, .ref xh, .ref rh, .ref sh])), (ch, .inr (1, [.ref lh])), (lh, .inr (0, [.int md, .ref er, .int (nI C)])), (er, .inl (cO, 10, .inr (.inr (.inr (.inr fr)))))]) [0, 1, 2, 3] (by decide) rfl
      have hP : va_P D ccl (([(t0, .inr (7, [.ref sl, .ref ch, .ref oh, .ref xh, .ref rh, .ref sh])), (ch, .inr (1, [.ref lh])), (lh, .inr (0, [.int md, .ref er, .int (nI C)])), (er, .inl (cO, 10, .inr (.inr (.inr (.inr fr)))))] : va_W) ++ scL (scJ cI SA SB mc ms mw) (List.range N)) H := hP
      have hD : va_D A (([(t0, .inr (7, [.ref sl, .ref ch, .ref oh, .ref xh, .ref rh, .ref sh])), (ch, .inr (1, [.ref lh])), (lh, .inr (0, [.int md, .ref er, .int (nI C)])), (er, .inl (cO, 10, .inr (.inr (.inr (.inr fr)))))] : va_W) ++ scL (scJ cI SA SB mc ms mw) (List.range N)) := hD
      refine vx_ret ?_
      refine g_zret (v := if (L0 * L0) * ((zU mc mo w C).natAbs / Nat.gcd (zO mc mo w C).natAbs (zU mc mo w C).natAbs) ≤ rn.toInt.natAbs * 1000000 ∧ rn.toInt.natAbs * 1000000 ≤ (H0 * H0) * ((zU mc mo w C).natAbs / Nat.gcd (zO mc mo w C).natAbs (zU mc mo w C).natAbs) then 1 else 0) hx hb hr hlk hP hK hD hS (Nat.le_of_ble_eq_true rfl) (Nat.le_of_ble_eq_true rfl) dX6_meets_87 (by split <;> decide +kernel) ?_
      have e1 : gN (nI w) = w := gN_nI (by omega)
      have e2 : gN (nI L0) = L0 := gN_nI (by omega)
      have e3 : gN (nI H0) = H0 := gN_nI (by omega)
      exact ⟨rfl, by
        rw [e1, e2, e3]
        have hri := fun L => red_iff (L := L) (s := (if w = 2 then 1000000 else 1000)) hg0 (Nat.gcd_dvd_left (zO mc mo w C).natAbs (zU mc mo w C).natAbs) (Nat.gcd_dvd_right (zO mc mo w C).natAbs (zU mc mo w C).natAbs)
        rw [hrn]
        by_cases hall : mtP (stM mc mo C) (zO mc mo w C) (zU mc mo w C) w L0 H0
        · rw [if_pos hall]
          have a1 := (hri (if w = 2 then L0 * L0 else L0)).1.mpr hall.2.1
          have a2 := (hri (if w = 2 then H0 * H0 else H0)).2.mpr hall.2.2
          simp only [if_pos c_51] at a1 a2
          exact if_pos ⟨a1, a2⟩
        · rw [if_neg hall]
          refine if_neg (fun h9 => hall ⟨c_34, ?_⟩)
          have b1 := (hri (if w = 2 then L0 * L0 else L0)).1
          have b2 := (hri (if w = 2 then H0 * H0 else H0)).2
          simp only [if_pos c_51] at b1 b2 ⊢
          exact ⟨b1.mp h9.1, b2.mp h9.2⟩, gGoOk hA9 hq_24 (by decide)⟩
  · refine lv_iconst (v := 0) hx hb dX6_meets_37 (by decide) ?_
    refine vx_ret ?_
    refine g_zret (v := 0) hx hb hr hlk hP hK hD hS (Nat.le_of_ble_eq_true rfl) (Nat.le_of_ble_eq_true rfl) dX6_meets_38 (by decide +kernel) ?_
    have e1 : gN (nI w) = w := gN_nI (by omega)
    have e2 : gN (nI L0) = L0 := gN_nI (by omega)
    have e3 : gN (nI H0) = H0 := gN_nI (by omega)
    exact ⟨rfl, by rw [if_neg (fun h9 => h9.1 c_34)], gGoOk hA9 hq_24 (by decide)⟩

set_option maxHeartbeats 4000000 in
set_option maxRecDepth 100000 in
theorem c_X6_meets_e (l : Launch) (hfl : l.stackTraces = false) (D : va_G) (cI cJ cO : ClassId) (df sz : Nat) (t0 : Nat) (sl : Nat) (ch : Nat) (oh : Nat) (xh : Nat) (rh : Nat) (sh : Nat) (lh : Nat) (md : Int32) (wr : Int32) (lw : Int32) (hg : Int32)  : MxI l yX6_meets wsX6_meets ({ frames := 7, cells := 5, slots := 26, locals := 112 } : Room) D (gTY cI cJ cO) df [(t0, .inr (7, [.ref sl, .ref ch, .ref oh, .ref xh, .ref rh, .ref sh])), (ch, .inr (1, [.ref lh])), (lh, .inr (0, [.int md, .ref df, .int 0]))] sz [.ref t0, .int wr, .int lw, .int hg] (fun (u : String × va_W) => u.2 = [(t0, .inr (7, [.ref sl, .ref ch, .ref oh, .ref xh, .ref rh, .ref sh])), (ch, .inr (1, [.ref lh])), (lh, .inr (0, [.int md, .ref df, .int 0]))] ∧ ¬ gGo (if isIn wr 0 2 = 0 then 0 else if isIn lw 0 10000 = 0 then 0 else isIn hg lw 10000) 1 1 = 0 ∧ u.1 = xN gIAE gISE (gGo (if isIn wr 0 2 = 0 then 0 else if isIn lw 0 10000 = 0 then 0 else isIn hg lw 10000) 1 1)) (fun (r : Int32) (wZ : va_W) => wZ = [(t0, .inr (7, [.ref sl, .ref ch, .ref oh, .ref xh, .ref rh, .ref sh])), (ch, .inr (1, [.ref lh])), (lh, .inr (0, [.int md, .ref df, .int 0]))] ∧ r = (if mtP 1 1 1 (gN wr) (gN lw) (gN hg) then 1 else 0) ∧ gGo (if isIn wr 0 2 = 0 then 0 else if isIn lw 0 10000 = 0 then 0 else isIn hg lw 10000) 1 1 = 0) := by
  refine gx_of (cc := cX6_meets) (nL := 5) (ret := (some .boolean)) (D := D) (TY := (gTY cI cJ cO)) (df := df) (Qc := fun A => va_Qi (fun (r : Int32) (wZ : va_W) => wZ = [(t0, .inr (7, [.ref sl, .ref ch, .ref oh, .ref xh, .ref rh, .ref sh])), (ch, .inr (1, [.ref lh])), (lh, .inr (0, [.int md, .ref df, .int 0]))] ∧ r = (if mtP 1 1 1 (gN wr) (gN lw) (gN hg) then 1 else 0) ∧ gGo (if isIn wr 0 2 = 0 then 0 else if isIn lw 0 10000 = 0 then 0 else isIn hg lw 10000) 1 1 = 0) (gB D (gTY cI cJ cO) A) A) (XC := fun A => vx_X (fun (u : String × va_W) => u.2 = [(t0, .inr (7, [.ref sl, .ref ch, .ref oh, .ref xh, .ref rh, .ref sh])), (ch, .inr (1, [.ref lh])), (lh, .inr (0, [.int md, .ref df, .int 0]))] ∧ ¬ gGo (if isIn wr 0 2 = 0 then 0 else if isIn lw 0 10000 = 0 then 0 else isIn hg lw 10000) 1 1 = 0 ∧ u.1 = xN gIAE gISE (gGo (if isIn wr 0 2 = 0 then 0 else if isIn lw 0 10000 = 0 then 0 else isIn hg lw 10000) 1 1)) (gBx D (gTY cI cJ cO) A) A) (by decide +kernel) rfl (Nat.le_of_ble_eq_true rfl) ?_
  intro p e s m below meth c ls A hsz C0 hin hl
  obtain ⟨CF, hr, hlk, hA, hS, hP, hK, hD, hV, hH⟩ := C0
  have CF : CallFix p m c cX6_meets 5 s _ wsX6_meets RX6 := CF
  obtain ⟨hx, hb, hml, hown, hts⟩ := id CF
  subst hsz
  have hmethodLink_RX6_51 : (Cond.methodLink RX6 51 yX6_requireWithin).before _ s = true := hts _ (List.mem_of_getElem? (i := 4) rfl)
  have hmethodLink_RX6_144 : (Cond.methodLink RX6 144 yX6_requireShortChain).before _ s = true := hts _ (List.mem_of_getElem? (i := 10) rfl)
  have hfieldLink_RX6_19 : (Cond.fieldLink RX6 19 "TapLoom" "chained" "LTapLoom$Chain;").before _ s = true := hts _ (List.mem_of_getElem? (i := 1) rfl)
  have hmethodLink_RX6_160 : (Cond.methodLink RX6 160 yX0_isStable).before _ s = true := hts _ (List.mem_of_getElem? (i := 28) rfl)
  have hmethodLink_RX6_147 : (Cond.methodLink RX6 147 yX0_gainAt).before _ s = true := hts _ (List.mem_of_getElem? (i := 60) rfl)
  have hconstantLong_RX6_167 : (Cond.constantLong RX6 167 (1000)).before _ s = true := hts _ (List.mem_of_getElem? (i := 3) rfl)
  have hmethodLink_RX6_163 : (Cond.methodLink RX6 163 yX2_isWithin).before _ s = true := hts _ (List.mem_of_getElem? (i := 101) rfl)
  have hconstantLong_RX6_161 : (Cond.constantLong RX6 161 (1000000)).before _ s = true := hts _ (List.mem_of_getElem? (i := 2) rfl)
  have inX6 : ∀ w ∈ u_ws RX6 TX6 6, w ∈ wsX6_meets := fun w h => (List.mem_cons_of_mem _ (List.mem_append_left _ (List.mem_append_left _ (List.mem_append_left _ (List.mem_append_left _ (List.mem_append_left _ (List.mem_append_left _ (List.mem_append_right _ h))))))))
  have hP : va_P D ccl [(t0, .inr (7, [.ref sl, .ref ch, .ref oh, .ref xh, .ref rh, .ref sh])), (ch, .inr (1, [.ref lh])), (lh, .inr (0, [.int md, .ref df, .int 0]))] s.heap := hP
  have hl : lv_has ls 5 [(0, .ref t0), (1, .int wr), (2, .int lw), (3, .int hg)] := hl
  refine lv_iload_n hx hb dX6_meets_0 rfl (lv_at hl 1 rfl) ?_
  refine lv_iconst (v := 0) hx hb dX6_meets_1 (by decide) ?_
  refine lv_iconst (v := 2) hx hb dX6_meets_2 (by decide) ?_
  have hPc : va_P D ccl [] s.heap := fun k q h => by simp at h
  have hDc : va_D A [] := ⟨fun i j p q h => by simp at h, fun k q h => by simp at h⟩
  have hFc := va_free (wc := []) hD hS hA [] rfl
  refine gx_Sv (As := [.int wr, .int 0, .int 2]) (rest := []) CF (c_X6_requireWithin l hfl D cI cJ cO df s.heap.size wr 0 2 ) (va_cwS 3 hts gX6_meets_X6_requireWithin rfl rfl rfl (by decide +kernel) ⟨Nat.le_of_ble_eq_true rfl, Nat.le_of_ble_eq_true rfl⟩)  hPc hK hDc hV hH hS hFc rfl hl.1 rfl (Nat.le_of_ble_eq_true rfl) dX6_meets_3 ⟨Nat.le_of_ble_eq_true rfl, Nat.le_of_ble_eq_true rfl⟩ (fun E9 ce q9 w1 H1 locs1 hq hP1 hD1 hk hS hz hc1 hc2 hc3 => ?_) (fun w1 H1 locs1 hq hP1 hD1 hk hS hz => ?_)
  · obtain ⟨ew1, hq⟩ := hq
    dsimp only at ew1 hq
    subst ew1
    have hP := g_keep0 hP hk
    refine vx_widen (k := 5) (n := 26) (Nat.le_of_ble_eq_true rfl) (Nat.le_of_ble_eq_true rfl) ?_
    refine vx_out (fun z hz9 => absurd hz9 (hin z)) hlk hc1 hc2 hc3 (fun t ht hvm => ⟨(E9, [(t0, .inr (7, [.ref sl, .ref ch, .ref oh, .ref xh, .ref rh, .ref sh])), (ch, .inr (1, [.ref lh])), (lh, .inr (0, [.int md, .ref df, .int 0]))]), ⟨rfl, px1 (if_pos hq.2) hq.1⟩, ⟨rfl, by rw [ht]; exact hP, va_K.moved hvm hK, hD⟩, hS.F ht⟩) hS.2.2 (Nat.le_refl _) (Nat.le_refl _)
  obtain ⟨rfl, hq_3⟩ := hq
  have hP := g_keep0 hP hk
  clear hPc hDc hFc hP1 hD1 hk hz
  generalize H1 = H at hP hS ⊢
  have hP : va_P D ccl [(t0, .inr (7, [.ref sl, .ref ch, .ref oh, .ref xh, .ref rh, .ref sh])), (ch, .inr (1, [.ref lh])), (lh, .inr (0, [.int md, .ref df, .int 0]))] H := hP
  have hD : va_D A [(t0, .inr (7, [.ref sl, .ref ch, .ref oh, .ref xh, .ref rh, .ref sh])), (ch, .inr (1, [.ref lh])), (lh, .inr (0, [.int md, .ref df, .int 0]))] := hD
  refine lv_iload_n hx hb dX6_meets_6 rfl (lv_at hl 2 rfl) ?_
  refine lv_iconst (v := 0) hx hb dX6_meets_7 (by decide) ?_
  refine lv_sipush (v := 10000) hx hb dX6_meets_8 (by decide) ?_
  have hPc : va_P D ccl [] H := fun k q h => by simp at h
  have hDc : va_D A [] := ⟨fun i j p q h => by simp at h, fun k q h => by simp at h⟩
  have hFc := va_free (wc := []) hD hS hA [] rfl
  refine gx_Sv (As := [.int lw, .int 0, .int 10000]) (rest := []) CF (c_X6_requireWithin l hfl D cI cJ cO df H.size lw 0 10000 ) (va_cwS 3 hts gX6_meets_X6_requireWithin rfl rfl rfl (by decide +kernel) ⟨Nat.le_of_ble_eq_true rfl, Nat.le_of_ble_eq_true rfl⟩)  hPc hK hDc hV hH hS hFc rfl hl.1 rfl (Nat.le_of_ble_eq_true rfl) dX6_meets_11 ⟨Nat.le_of_ble_eq_true rfl, Nat.le_of_ble_eq_true rfl⟩ (fun E9 ce q9 w1 H1 locs1 hq hP1 hD1 hk hS hz hc1 hc2 hc3 => ?_) (fun w1 H1 locs1 hq hP1 hD1 hk hS hz => ?_)
  · obtain ⟨ew1, hq⟩ := hq
    dsimp only at ew1 hq
    subst ew1
    have hP := g_keep0 hP hk
    refine vx_widen (k := 5) (n := 26) (Nat.le_of_ble_eq_true rfl) (Nat.le_of_ble_eq_true rfl) ?_
    refine vx_out (fun z hz9 => absurd hz9 (hin z)) hlk hc1 hc2 hc3 (fun t ht hvm => ⟨(E9, [(t0, .inr (7, [.ref sl, .ref ch, .ref oh, .ref xh, .ref rh, .ref sh])), (ch, .inr (1, [.ref lh])), (lh, .inr (0, [.int md, .ref df, .int 0]))]), ⟨rfl, px1 ((if_neg hq_3).trans (if_pos hq.2)) hq.1⟩, ⟨rfl, by rw [ht]; exact hP, va_K.moved hvm hK, hD⟩, hS.F ht⟩) hS.2.2 (Nat.le_refl _) (Nat.le_refl _)
  obtain ⟨rfl, hq_11⟩ := hq
  have hP := g_keep0 hP hk
  clear hPc hDc hFc hP1 hD1 hk hz
  generalize H1 = H at hP hS ⊢
  have hP : va_P D ccl [(t0, .inr (7, [.ref sl, .ref ch, .ref oh, .ref xh, .ref rh, .ref sh])), (ch, .inr (1, [.ref lh])), (lh, .inr (0, [.int md, .ref df, .int 0]))] H := hP
  have hD : va_D A [(t0, .inr (7, [.ref sl, .ref ch, .ref oh, .ref xh, .ref rh, .ref sh])), (ch, .inr (1, [.ref lh])), (lh, .inr (0, [.int md, .ref df, .int 0]))] := hD
  refine lv_iload_n hx hb dX6_meets_14 rfl (lv_at hl 3 rfl) ?_
  refine lv_iload_n hx hb dX6_meets_15 rfl (lv_at hl 2 rfl) ?_
  refine lv_sipush (v := 10000) hx hb dX6_meets_16 (by decide) ?_
  have hPc : va_P D ccl [] H := fun k q h => by simp at h
  have hDc : va_D A [] := ⟨fun i j p q h => by simp at h, fun k q h => by simp at h⟩
  have hFc := va_free (wc := []) hD hS hA [] rfl
  refine gx_Sv (As := [.int hg, .int lw, .int 10000]) (rest := []) CF (c_X6_requireWithin l hfl D cI cJ cO df H.size hg lw 10000 ) (va_cwS 3 hts gX6_meets_X6_requireWithin rfl rfl rfl (by decide +kernel) ⟨Nat.le_of_ble_eq_true rfl, Nat.le_of_ble_eq_true rfl⟩)  hPc hK hDc hV hH hS hFc rfl hl.1 rfl (Nat.le_of_ble_eq_true rfl) dX6_meets_19 ⟨Nat.le_of_ble_eq_true rfl, Nat.le_of_ble_eq_true rfl⟩ (fun E9 ce q9 w1 H1 locs1 hq hP1 hD1 hk hS hz hc1 hc2 hc3 => ?_) (fun w1 H1 locs1 hq hP1 hD1 hk hS hz => ?_)
  · obtain ⟨ew1, hq⟩ := hq
    dsimp only at ew1 hq
    subst ew1
    have hP := g_keep0 hP hk
    refine vx_widen (k := 5) (n := 26) (Nat.le_of_ble_eq_true rfl) (Nat.le_of_ble_eq_true rfl) ?_
    refine vx_out (fun z hz9 => absurd hz9 (hin z)) hlk hc1 hc2 hc3 (fun t ht hvm => ⟨(E9, [(t0, .inr (7, [.ref sl, .ref ch, .ref oh, .ref xh, .ref rh, .ref sh])), (ch, .inr (1, [.ref lh])), (lh, .inr (0, [.int md, .ref df, .int 0]))]), ⟨rfl, px1 ((if_neg hq_3).trans ((if_neg hq_11).trans hq.2)) hq.1⟩, ⟨rfl, by rw [ht]; exact hP, va_K.moved hvm hK, hD⟩, hS.F ht⟩) hS.2.2 (Nat.le_refl _) (Nat.le_refl _)
  obtain ⟨rfl, hq_19⟩ := hq
  have hP := g_keep0 hP hk
  clear hPc hDc hFc hP1 hD1 hk hz
  generalize H1 = H at hP hS ⊢
  have hP : va_P D ccl [(t0, .inr (7, [.ref sl, .ref ch, .ref oh, .ref xh, .ref rh, .ref sh])), (ch, .inr (1, [.ref lh])), (lh, .inr (0, [.int md, .ref df, .int 0]))] H := hP
  have hD : va_D A [(t0, .inr (7, [.ref sl, .ref ch, .ref oh, .ref xh, .ref rh, .ref sh])), (ch, .inr (1, [.ref lh])), (lh, .inr (0, [.int md, .ref df, .int 0]))] := hD
  have hA9 : ¬ (if isIn wr 0 2 = 0 then 0 else if isIn lw 0 10000 = 0 then 0 else isIn hg lw 10000) = 0 := by rw [if_neg hq_3, if_neg hq_11]; exact hq_19
  refine lv_aload_n hx hb dX6_meets_22 rfl (lv_at hl 0 rfl) ?_
  refine lv_iload_n hx hb dX6_meets_23 rfl (lv_at hl 1 rfl) ?_
  have hPc := hP.sub (ws' := [(t0, .inr (7, [.ref sl, .ref ch, .ref oh, .ref xh, .ref rh, .ref sh])), (ch, .inr (1, [.ref lh])), (lh, .inr (0, [.int md, .ref df, .int (nI 0)]))]) [0, 1, 2] rfl
  have hDc := hD.sub (ws' := [(t0, .inr (7, [.ref sl, .ref ch, .ref oh, .ref xh, .ref rh, .ref sh])), (ch, .inr (1, [.ref lh])), (lh, .inr (0, [.int md, .ref df, .int (nI 0)]))]) [0, 1, 2] (by decide) rfl
  have hFc := va_free (wc := [(t0, .inr (7, [.ref sl, .ref ch, .ref oh, .ref xh, .ref rh, .ref sh])), (ch, .inr (1, [.ref lh])), (lh, .inr (0, [.int md, .ref df, .int (nI 0)]))]) hD hS hA [0, 1, 2] rfl
  refine gx_Vv (As := [.int wr]) (rest := []) CF (c_X6_requireShortChain l hfl D cI cJ cO df H.size t0 sl ch oh xh rh sh lh df md 0 wr (by decide)) (cwV 1 hts gX6_meets_X6_requireShortChain rfl rfl rfl (by decide +kernel) ⟨Nat.le_of_ble_eq_true rfl, Nat.le_of_ble_eq_true rfl⟩) (va_recv hK hP (ci := 7) (q0 := 0) rfl rfl) hPc hK hDc hV hH hS hFc rfl hl.1 rfl (Nat.le_of_ble_eq_true rfl) dX6_meets_24 ⟨Nat.le_of_ble_eq_true rfl, Nat.le_of_ble_eq_true rfl⟩ (fun E9 ce q9 w1 H1 locs1 hq hP1 hD1 hk hS hz hc1 hc2 hc3 => ?_) (fun w1 H1 locs1 hq hP1 hD1 hk hS hz => ?_)
  · obtain ⟨ew1, hq⟩ := hq
    dsimp only at ew1 hq
    subst ew1
    have hP := g_keepR hP hD [0, 1, 2] rfl hk hP1
    refine vx_widen (k := 5) (n := 26) (Nat.le_of_ble_eq_true rfl) (Nat.le_of_ble_eq_true rfl) ?_
    refine vx_out (fun z hz9 => absurd hz9 (hin z)) hlk hc1 hc2 hc3 (fun t ht hvm => ⟨(E9, [(t0, .inr (7, [.ref sl, .ref ch, .ref oh, .ref xh, .ref rh, .ref sh])), (ch, .inr (1, [.ref lh])), (lh, .inr (0, [.int md, .ref df, .int 0]))]), ⟨rfl, absurd hq.2 (by rw [if_pos (by split <;> omega)]; decide)⟩, ⟨rfl, by rw [ht]; exact hP, va_K.moved hvm hK, hD⟩, hS.F ht⟩) hS.2.2 (Nat.le_refl _) (Nat.le_refl _)
  obtain ⟨rfl, hq_24⟩ := hq
  have hP := g_keepR hP hD [0, 1, 2] rfl hk hP1
  clear hPc hDc hFc hP1 hD1 hk hz
  generalize H1 = H at hP hS ⊢
  have hP : va_P D ccl [(t0, .inr (7, [.ref sl, .ref ch, .ref oh, .ref xh, .ref rh, .ref sh])), (ch, .inr (1, [.ref lh])), (lh, .inr (0, [.int md, .ref df, .int 0]))] H := hP
  have hD : va_D A [(t0, .inr (7, [.ref sl, .ref ch, .ref oh, .ref xh, .ref rh, .ref sh])), (ch, .inr (1, [.ref lh])), (lh, .inr (0, [.int md, .ref df, .int 0]))] := hD
  obtain ⟨w, hw2, rfl⟩ := isIn_nat 2 (by decide) hq_3
  obtain ⟨L0, hL0, rfl⟩ := isIn_nat 10000 (by decide) hq_11
  obtain ⟨H0, hH0, hH1, rfl⟩ := isIn_nat2 (n := 10000) (by omega) (by decide) hq_19
  refine lv_aload_n hx hb dX6_meets_27 rfl (lv_at hl 0 rfl) ?_
  refine va_get (D := D) (ci := 7) (v := .ref ch) (C := RX6) (T := TX6) (N := 6) hx hb hts inX6 hown hK hP 0 rfl rfl 1 (by decide) hfieldLink_RX6_19 (fun _ h9 => h9) rfl dX6_meets_28 ?_
  have hPc := hP.sub (ws' := [(ch, .inr (1, [.ref lh])), (lh, .inr (0, [.int md, .ref df, .int 0]))]) [1, 2] rfl
  have hDc := hD.sub (ws' := [(ch, .inr (1, [.ref lh])), (lh, .inr (0, [.int md, .ref df, .int 0]))]) [1, 2] (by decide) rfl
  have hFc := va_free (wc := [(ch, .inr (1, [.ref lh])), (lh, .inr (0, [.int md, .ref df, .int 0]))]) hD hS hA [1, 2] rfl
  refine g_Vi (As := []) (rest := []) CF (c_X0_isStable_e l D cI cJ cO df H.size ch lh md ) (cwV 0 hts gX6_meets_X0_isStable rfl rfl rfl (by decide +kernel) ⟨Nat.le_of_ble_eq_true rfl, Nat.le_of_ble_eq_true rfl⟩) (va_recv hK hP (ci := 1) (q0 := 1) rfl rfl) hPc hK hDc hV hH hS hFc rfl hl.1 rfl (Nat.le_of_ble_eq_true rfl) dX6_meets_31 ⟨Nat.le_of_ble_eq_true rfl, Nat.le_of_ble_eq_true rfl⟩ (fun r_31 w1 H1 locs1 hq hP1 hD1 hk hS hz => ?_)
  obtain ⟨rfl, hr_31⟩ := hq
  have hP := g_keepR hP hD [1, 2] rfl hk hP1
  clear hPc hDc hFc hP1 hD1 hk hz
  generalize H1 = H at hP hS ⊢
  have hP : va_P D ccl [(t0, .inr (7, [.ref sl, .ref ch, .ref oh, .ref xh, .ref rh, .ref sh])), (ch, .inr (1, [.ref lh])), (lh, .inr (0, [.int md, .ref df, .int 0]))] H := hP
  have hD : va_D A [(t0, .inr (7, [.ref sl, .ref ch, .ref oh, .ref xh, .ref rh, .ref sh])), (ch, .inr (1, [.ref lh])), (lh, .inr (0, [.int md, .ref df, .int 0]))] := hD
  subst hr_31
  refine lv_if_ne (tgt := 39) hx hb dX6_meets_34 (by decide) (fun c_34 => ?_) (fun c_34 => ?_)
  · refine lv_aload_n hx hb dX6_meets_39 rfl (lv_at hl 0 rfl) ?_
    refine va_get (D := D) (ci := 7) (v := .ref ch) (C := RX6) (T := TX6) (N := 6) hx hb hts inX6 hown hK hP 0 rfl rfl 1 (by decide) hfieldLink_RX6_19 (fun _ h9 => h9) rfl dX6_meets_40 ?_
    refine lv_iload_n hx hb dX6_meets_43 rfl (lv_at hl 1 rfl) ?_
    have hPc := hP.sub (ws' := [(ch, .inr (1, [.ref lh])), (lh, .inr (0, [.int md, .ref df, .int 0]))]) [1, 2] rfl
    have hDc := hD.sub (ws' := [(ch, .inr (1, [.ref lh])), (lh, .inr (0, [.int md, .ref df, .int 0]))]) [1, 2] (by decide) rfl
    have hFc := va_free (wc := [(ch, .inr (1, [.ref lh])), (lh, .inr (0, [.int md, .ref df, .int 0]))]) hD hS hA [1, 2] rfl
    refine g_Vr (As := [.int (nI w)]) (rest := []) CF (c_X0_gainAt_e l D cI cJ cO df H.size ch lh md w ) (cwV 1 hts gX6_meets_X0_gainAt rfl rfl rfl (by decide +kernel) ⟨Nat.le_of_ble_eq_true rfl, Nat.le_of_ble_eq_true rfl⟩) (va_recv hK hP (ci := 1) (q0 := 1) rfl rfl) hPc hK hDc hV hH hS hFc rfl hl.1 rfl (Nat.le_of_ble_eq_true rfl) dX6_meets_44 ⟨Nat.le_of_ble_eq_true rfl, Nat.le_of_ble_eq_true rfl⟩ (fun w1 H1 locs1 hq hP1 hD1 hk hS hz => ?_)
    obtain ⟨w1, a1⟩ := w1
    obtain ⟨qf, rn, rd, ew1, hr_44, hq_44⟩ := hq
    dsimp only at ew1 hP1 hD1 hr_44
    subst ew1
    obtain ⟨hP, hD⟩ := g_join (ws' := [(t0, .inr (7, [.ref sl, .ref ch, .ref oh, .ref xh, .ref rh, .ref sh])), (ch, .inr (1, [.ref lh])), (lh, .inr (0, [.int md, .ref df, .int 0])), (qf, .inr (3, [.long rn, .long rd]))]) hP hD hk hFc hP1 hD1 [1, 2] [0] [0, 1, 2, 3] rfl rfl (by decide) (by decide) (by decide) rfl
    clear hPc hDc hFc hP1 hD1 hk hz
    generalize H1 = H at hP hS ⊢
    have hP : va_P D ccl [(t0, .inr (7, [.ref sl, .ref ch, .ref oh, .ref xh, .ref rh, .ref sh])), (ch, .inr (1, [.ref lh])), (lh, .inr (0, [.int md, .ref df, .int 0])), (qf, .inr (3, [.long rn, .long rd]))] H := hP
    have hD : va_D A [(t0, .inr (7, [.ref sl, .ref ch, .ref oh, .ref xh, .ref rh, .ref sh])), (ch, .inr (1, [.ref lh])), (lh, .inr (0, [.int md, .ref df, .int 0])), (qf, .inr (3, [.long rn, .long rd]))] := hD
    have hr_44 := hr_44.symm
    subst hr_44
    have er9 : rn.toInt = 1 := hq_44.1.trans (by decide)
    have hrd : rd = lN 1 := by rw [← Int64.toInt_inj, hq_44.2]; decide
    subst hrd
    have hLL : L0 * L0 ≤ 10000 * 10000 := Nat.mul_le_mul hL0 hL0
    have hHH : H0 * H0 ≤ 10000 * 10000 := Nat.mul_le_mul hH1 hH1
    refine lv_astore (lv' := [(4, .ref qf), (0, .ref t0), (1, .int (nI w)), (2, .int (nI L0)), (3, .int (nI H0))]) hx hb dX6_meets_47 hl (by decide) rfl (fun ls hl => ?_)
    refine lv_iload_n hx hb dX6_meets_49 rfl (lv_at hl 2 rfl) ?_
    refine lv_iconst (v := 2) hx hb dX6_meets_50 (by decide) ?_
    refine lv_icmp_ne (tgt := 75) hx hb dX6_meets_51 (by decide) (fun c_51 => ?_) (fun c_51 => ?_)
    · have c_51 : w ≠ 2 := g_ne (a := w) (b := 2) c_51 (by omega) (by omega)
      refine lv_aload hx hb dX6_meets_75 (lv_at hl 0 rfl) ?_
      refine lv_iload_n hx hb dX6_meets_77 rfl (lv_at hl 3 rfl) ?_
      refine lv_i2l (v := (nI L0).toInt64) hx hb dX6_meets_78 rfl ?_
      refine lv_topl (fun f ef => ?_)
      obtain rfl : f = lN L0 := ef.trans (nI_l (by omega))
      refine lv_iload_n hx hb dX6_meets_79 rfl (lv_at hl 4 rfl) ?_
      refine lv_i2l (v := (nI H0).toInt64) hx hb dX6_meets_80 rfl ?_
      refine lv_topl (fun f ef => ?_)
      obtain rfl : f = lN H0 := ef.trans (nI_l (by omega))
      refine lv_ldc2 (v := 1000) hx hb hown hconstantLong_RX6_167 dX6_meets_81 ?_
      have hPc := hP.sub (ws' := [(qf, .inr (3, [.long rn, .long (lN 1)]))]) [3] rfl
      have hDc := hD.sub (ws' := [(qf, .inr (3, [.long rn, .long (lN 1)]))]) [3] (by decide) rfl
      have hFc := va_free (wc := [(qf, .inr (3, [.long rn, .long (lN 1)]))]) hD hS hA [3] rfl
      refine g_Vi (As := [.long (lN L0), .long (lN H0), .long 1000]) (rest := []) CF (c_X2_isWithin l D cI cJ cO df H.size qf rn 1 L0 H0 1000 (by omega) (by rw [er9]; decide) (by omega) (by omega)) (cwV 3 hts gX6_meets_X2_isWithin rfl rfl rfl (by decide +kernel) ⟨Nat.le_of_ble_eq_true rfl, Nat.le_of_ble_eq_true rfl⟩) (va_recv hK hP (ci := 3) (q0 := 3) rfl rfl) hPc hK hDc hV hH hS hFc rfl hl.1 rfl (Nat.le_of_ble_eq_true rfl) dX6_meets_84 ⟨Nat.le_of_ble_eq_true rfl, Nat.le_of_ble_eq_true rfl⟩ (fun r_84 w1 H1 locs1 hq hP1 hD1 hk hS hz => ?_)
      obtain ⟨rfl, hr_84⟩ := hq
      have hP := g_keepR hP hD [3] rfl hk hP1
      clear hPc hDc hFc hP1 hD1 hk hz
      generalize H1 = H at hP hS ⊢
      have hP : va_P D ccl [(t0, .inr (7, [.ref sl, .ref ch, .ref oh, .ref xh, .ref rh, .ref sh])), (ch, .inr (1, [.ref lh])), (lh, .inr (0, [.int md, .ref df, .int 0])), (qf, .inr (3, [.long rn, .long (lN 1)]))] H := hP
      have hD : va_D A [(t0, .inr (7, [.ref sl, .ref ch, .ref oh, .ref xh, .ref rh, .ref sh])), (ch, .inr (1, [.ref lh])), (lh, .inr (0, [.int md, .ref df, .int 0])), (qf, .inr (3, [.long rn, .long (lN 1)]))] := hD
      subst hr_84
      have hP := hP.sub (ws' := [(t0, .inr (7, [.ref sl, .ref ch, .ref oh, .ref xh, .ref rh, .ref sh])), (ch, .inr (1, [.ref lh])), (lh, .inr (0, [.int md, .ref df, .int 0]))]) [0, 1, 2] rfl
      have hD := hD.sub (ws' := [(t0, .inr (7, [.ref sl, .ref ch, .ref oh, .ref xh, .ref rh, .ref sh])), (ch, .inr (1, [.ref lh])), (lh, .inr (0, [.int md, .ref df, .int 0]))]) [0, 1, 2] (by decide) rfl
      have hP : va_P D ccl [(t0, .inr (7, [.ref sl, .ref ch, .ref oh, .ref xh, .ref rh, .ref sh])), (ch, .inr (1, [.ref lh])), (lh, .inr (0, [.int md, .ref df, .int 0]))] H := hP
      have hD : va_D A [(t0, .inr (7, [.ref sl, .ref ch, .ref oh, .ref xh, .ref rh, .ref sh])), (ch, .inr (1, [.ref lh])), (lh, .inr (0, [.int md, .ref df, .int 0]))] := hD
      refine vx_ret ?_
      refine g_zret (v := if L0 * 1 ≤ rn.toInt.natAbs * 1000 ∧ rn.toInt.natAbs * 1000 ≤ H0 * 1 then 1 else 0) hx hb hr hlk hP hK hD hS (Nat.le_of_ble_eq_true rfl) (Nat.le_of_ble_eq_true rfl) dX6_meets_87 (by split <;> decide +kernel) ?_
      have e1 : gN (nI w) = w := gN_nI (by omega)
      have e2 : gN (nI L0) = L0 := gN_nI (by omega)
      have e3 : gN (nI H0) = H0 := gN_nI (by omega)
      exact ⟨rfl, by
        rw [e1, e2, e3, er9]
        show _ = (if (¬ (1 : Int32) = 0 ∧ _ ∧ _) then (1 : Int32) else 0)
        simp only [if_neg c_51]
        refine ite_congr (propext ⟨fun h9 => ⟨by decide, h9.1, h9.2⟩, fun h9 => ⟨h9.2.1, h9.2.2⟩⟩) (fun _ => rfl) (fun _ => rfl), gGoOk hA9 (by decide) (by decide)⟩
    · have c_51 : w = 2 := g_eq (a := w) (b := 2) c_51 (by omega) (by omega)
      refine lv_aload hx hb dX6_meets_54 (lv_at hl 0 rfl) ?_
      refine lv_iload_n hx hb dX6_meets_56 rfl (lv_at hl 3 rfl) ?_
      refine lv_i2l (v := (nI L0).toInt64) hx hb dX6_meets_57 rfl ?_
      refine lv_topl (fun f ef => ?_)
      obtain rfl : f = lN L0 := ef.trans (nI_l (by omega))
      refine lv_iload_n hx hb dX6_meets_58 rfl (lv_at hl 3 rfl) ?_
      refine lv_i2l (v := (nI L0).toInt64) hx hb dX6_meets_59 rfl ?_
      refine lv_topl (fun f ef => ?_)
      obtain rfl : f = lN L0 := ef.trans (nI_l (by omega))
      refine lv_lmul hx hb dX6_meets_60 ?_
      refine lv_topl (fun f ef => ?_)
      obtain rfl : f = lN (L0 * L0) := ef.trans (lN_mul _ _)
      refine lv_iload_n hx hb dX6_meets_61 rfl (lv_at hl 4 rfl) ?_
      refine lv_i2l (v := (nI H0).toInt64) hx hb dX6_meets_62 rfl ?_
      refine lv_topl (fun f ef => ?_)
      obtain rfl : f = lN H0 := ef.trans (nI_l (by omega))
      refine lv_iload_n hx hb dX6_meets_63 rfl (lv_at hl 4 rfl) ?_
      refine lv_i2l (v := (nI H0).toInt64) hx hb dX6_meets_64 rfl ?_
      refine lv_topl (fun f ef => ?_)
      obtain rfl : f = lN H0 := ef.trans (nI_l (by omega))
      refine lv_lmul hx hb dX6_meets_65 ?_
      refine lv_topl (fun f ef => ?_)
      obtain rfl : f = lN (H0 * H0) := ef.trans (lN_mul _ _)
      refine lv_ldc2 (v := 1000000) hx hb hown hconstantLong_RX6_161 dX6_meets_66 ?_
      have hPc := hP.sub (ws' := [(qf, .inr (3, [.long rn, .long (lN 1)]))]) [3] rfl
      have hDc := hD.sub (ws' := [(qf, .inr (3, [.long rn, .long (lN 1)]))]) [3] (by decide) rfl
      have hFc := va_free (wc := [(qf, .inr (3, [.long rn, .long (lN 1)]))]) hD hS hA [3] rfl
      refine g_Vi (As := [.long (lN (L0 * L0)), .long (lN (H0 * H0)), .long 1000000]) (rest := []) CF (c_X2_isWithin l D cI cJ cO df H.size qf rn 1 (L0 * L0) (H0 * H0) 1000000 (by omega) (by rw [er9]; decide) (by omega) (by omega)) (cwV 3 hts gX6_meets_X2_isWithin rfl rfl rfl (by decide +kernel) ⟨Nat.le_of_ble_eq_true rfl, Nat.le_of_ble_eq_true rfl⟩) (va_recv hK hP (ci := 3) (q0 := 3) rfl rfl) hPc hK hDc hV hH hS hFc rfl hl.1 rfl (Nat.le_of_ble_eq_true rfl) dX6_meets_69 ⟨Nat.le_of_ble_eq_true rfl, Nat.le_of_ble_eq_true rfl⟩ (fun r_69 w1 H1 locs1 hq hP1 hD1 hk hS hz => ?_)
      obtain ⟨rfl, hr_69⟩ := hq
      have hP := g_keepR hP hD [3] rfl hk hP1
      clear hPc hDc hFc hP1 hD1 hk hz
      generalize H1 = H at hP hS ⊢
      have hP : va_P D ccl [(t0, .inr (7, [.ref sl, .ref ch, .ref oh, .ref xh, .ref rh, .ref sh])), (ch, .inr (1, [.ref lh])), (lh, .inr (0, [.int md, .ref df, .int 0])), (qf, .inr (3, [.long rn, .long (lN 1)]))] H := hP
      have hD : va_D A [(t0, .inr (7, [.ref sl, .ref ch, .ref oh, .ref xh, .ref rh, .ref sh])), (ch, .inr (1, [.ref lh])), (lh, .inr (0, [.int md, .ref df, .int 0])), (qf, .inr (3, [.long rn, .long (lN 1)]))] := hD
      subst hr_69
      refine lv_goto (tgt := 87) hx hb dX6_meets_72 (by decide) ?_
      have hP := hP.sub (ws' := [(t0, .inr (7, [.ref sl, .ref ch, .ref oh, .ref xh, .ref rh, .ref sh])), (ch, .inr (1, [.ref lh])), (lh, .inr (0, [.int md, .ref df, .int 0]))]) [0, 1, 2] rfl
      have hD := hD.sub (ws' := [(t0, .inr (7, [.ref sl, .ref ch, .ref oh, .ref xh, .ref rh, .ref sh])), (ch, .inr (1, [.ref lh])), (lh, .inr (0, [.int md, .ref df, .int 0]))]) [0, 1, 2] (by decide) rfl
      have hP : va_P D ccl [(t0, .inr (7, [.ref sl, .ref ch, .ref oh, .ref xh, .ref rh, .ref sh])), (ch, .inr (1, [.ref lh])), (lh, .inr (0, [.int md, .ref df, .int 0]))] H := hP
      have hD : va_D A [(t0, .inr (7, [.ref sl, .ref ch, .ref oh, .ref xh, .ref rh, .ref sh])), (ch, .inr (1, [.ref lh])), (lh, .inr (0, [.int md, .ref df, .int 0]))] := hD
      refine vx_ret ?_
      refine g_zret (v := if (L0 * L0) * 1 ≤ rn.toInt.natAbs * 1000000 ∧ rn.toInt.natAbs * 1000000 ≤ (H0 * H0) * 1 then 1 else 0) hx hb hr hlk hP hK hD hS (Nat.le_of_ble_eq_true rfl) (Nat.le_of_ble_eq_true rfl) dX6_meets_87 (by split <;> decide +kernel) ?_
      have e1 : gN (nI w) = w := gN_nI (by omega)
      have e2 : gN (nI L0) = L0 := gN_nI (by omega)
      have e3 : gN (nI H0) = H0 := gN_nI (by omega)
      exact ⟨rfl, by
        rw [e1, e2, e3, er9]
        show _ = (if (¬ (1 : Int32) = 0 ∧ _ ∧ _) then (1 : Int32) else 0)
        simp only [if_pos c_51]
        refine ite_congr (propext ⟨fun h9 => ⟨by decide, h9.1, h9.2⟩, fun h9 => ⟨h9.2.1, h9.2.2⟩⟩) (fun _ => rfl) (fun _ => rfl), gGoOk hA9 (by decide) (by decide)⟩
  · exact absurd c_34 (by decide)
