set_option maxHeartbeats 4000000 in
set_option maxRecDepth 100000 in
theorem c_X6_of (l : Launch) (hfl : l.stackTraces = false) (D : va_G) (cI cJ cO : ClassId) (df sz : Nat) (t0 : Nat) (sl : Nat) (ch : Nat) (oh : Nat) (xh : Nat) (rh : Nat) (sh : Nat) (smd : Int32) (ser : Nat) (sf : Nat → Option Nat) (lh : Nat) (er : Nat) (md : Int32) (C : Nat) (fr : Nat → Option Nat) (mo : Nat → Int32) (SA : Nat → Nat) (SB : Nat → Nat) (mc : Nat → Int32) (ms : Nat → Int32) (mw : Nat → Int32) (N : Nat) (j : Int32) (wh : Int32) (hN : N ≤ 8) (hsf : ∀ k, k < N → sf k = some (SA k)) (hC : C ≤ 8) (hfr : ∀ k, k < C → fr k = some (SA (gN (mo k)))) (hO : ∀ i, i < C → gN (mo i) < N ∧ mo i = nI (gN (mo i))) (hiM : ∀ i j, i < C → j < C → gN (mo i) = gN (mo j) → i = j) : MxI l yX6_of wsX6_of ({ frames := 7, cells := 2, slots := 12, locals := 112 } : Room) D (gTY cI cJ cO) df (([(t0, .inr (7, [.ref sl, .ref ch, .ref oh, .ref xh, .ref rh, .ref sh])), (sl, .inr (0, [.int smd, .ref ser, .int (nI N)])), (ser, .inl (cO, 10, .inr (.inr (.inr (.inr sf))))), (ch, .inr (1, [.ref lh])), (lh, .inr (0, [.int md, .ref er, .int (nI C)])), (er, .inl (cO, 10, .inr (.inr (.inr (.inr fr)))))] : va_W) ++ scL (scJ cI SA SB mc ms mw) (List.range N)) sz [.ref t0, .int j, .int wh] (fun (u : String × va_W) => u.2 = ([(t0, .inr (7, [.ref sl, .ref ch, .ref oh, .ref xh, .ref rh, .ref sh])), (sl, .inr (0, [.int smd, .ref ser, .int (nI N)])), (ser, .inl (cO, 10, .inr (.inr (.inr (.inr sf))))), (ch, .inr (1, [.ref lh])), (lh, .inr (0, [.int md, .ref er, .int (nI C)])), (er, .inl (cO, 10, .inr (.inr (.inr (.inr fr)))))] : va_W) ++ scL (scJ cI SA SB mc ms mw) (List.range N) ∧ ¬ gGo (isSec N j) (isIn wh 0 9) 1 = 0 ∧ u.1 = xN gIOB gIAE (gGo (isSec N j) (isIn wh 0 9) 1)) (fun (r : Int32) (wZ : va_W) => wZ = ([(t0, .inr (7, [.ref sl, .ref ch, .ref oh, .ref xh, .ref rh, .ref sh])), (sl, .inr (0, [.int smd, .ref ser, .int (nI N)])), (ser, .inl (cO, 10, .inr (.inr (.inr (.inr sf))))), (ch, .inr (1, [.ref lh])), (lh, .inr (0, [.int md, .ref er, .int (nI C)])), (er, .inl (cO, 10, .inr (.inr (.inr (.inr fr)))))] : va_W) ++ scL (scJ cI SA SB mc ms mw) (List.range N) ∧ r = (if gN wh < 5 then mc (5 * gN j + gN wh) else if gN wh = 5 then mStab mc (gN j) else if gN wh = 6 then lastAt mo j C else if gN wh < 9 then ms (4 * gN j + gN wh - 5) else mw (gN j)) ∧ gGo (isSec N j) (isIn wh 0 9) 1 = 0) := by
  refine gx_of (cc := cX6_of) (nL := 4) (ret := (some .int)) (D := D) (TY := (gTY cI cJ cO)) (df := df) (Qc := fun A => va_Qi (fun (r : Int32) (wZ : va_W) => wZ = ([(t0, .inr (7, [.ref sl, .ref ch, .ref oh, .ref xh, .ref rh, .ref sh])), (sl, .inr (0, [.int smd, .ref ser, .int (nI N)])), (ser, .inl (cO, 10, .inr (.inr (.inr (.inr sf))))), (ch, .inr (1, [.ref lh])), (lh, .inr (0, [.int md, .ref er, .int (nI C)])), (er, .inl (cO, 10, .inr (.inr (.inr (.inr fr)))))] : va_W) ++ scL (scJ cI SA SB mc ms mw) (List.range N) ∧ r = (if gN wh < 5 then mc (5 * gN j + gN wh) else if gN wh = 5 then mStab mc (gN j) else if gN wh = 6 then lastAt mo j C else if gN wh < 9 then ms (4 * gN j + gN wh - 5) else mw (gN j)) ∧ gGo (isSec N j) (isIn wh 0 9) 1 = 0) (gB D (gTY cI cJ cO) A) A) (XC := fun A => vx_X (fun (u : String × va_W) => u.2 = ([(t0, .inr (7, [.ref sl, .ref ch, .ref oh, .ref xh, .ref rh, .ref sh])), (sl, .inr (0, [.int smd, .ref ser, .int (nI N)])), (ser, .inl (cO, 10, .inr (.inr (.inr (.inr sf))))), (ch, .inr (1, [.ref lh])), (lh, .inr (0, [.int md, .ref er, .int (nI C)])), (er, .inl (cO, 10, .inr (.inr (.inr (.inr fr)))))] : va_W) ++ scL (scJ cI SA SB mc ms mw) (List.range N) ∧ ¬ gGo (isSec N j) (isIn wh 0 9) 1 = 0 ∧ u.1 = xN gIOB gIAE (gGo (isSec N j) (isIn wh 0 9) 1)) (gBx D (gTY cI cJ cO) A) A) (by decide +kernel) rfl (Nat.le_of_ble_eq_true rfl) ?_
  intro p e s m below meth c ls A hsz C0 hin hl
  obtain ⟨CF, hr, hlk, hA, hS, hP, hK, hD, hV, hH⟩ := C0
  have CF : CallFix p m c cX6_of 4 s _ wsX6_of RX6 := CF
  obtain ⟨hx, hb, hml, hown, hts⟩ := id CF
  subst hsz
  have hfieldLink_RX6_10 : (Cond.fieldLink RX6 10 "TapLoom" "sections" "Ljava/util/ArrayList;").before _ s = true := hts _ (List.mem_of_getElem? (i := 1) rfl)
  have hmethodLink_RX6_55 : (Cond.methodLink RX6 55 yJx4a65c_size_8abf5).before _ s = true := hts _ (List.mem_of_getElem? (i := 7) rfl)
  have hmethodLink_RX6_73 : (Cond.methodLink RX6 73 yX6_requirePlace).before _ s = true := hts _ (List.mem_of_getElem? (i := 13) rfl)
  have hmethodLink_RX6_51 : (Cond.methodLink RX6 51 yX6_requireWithin).before _ s = true := hts _ (List.mem_of_getElem? (i := 19) rfl)
  have hmethodLink_RX6_76 : (Cond.methodLink RX6 76 yJx4a65c_get_915e3).before _ s = true := hts _ (List.mem_of_getElem? (i := 24) rfl)
  have hclassLink_RX6_49 : (Cond.classLink RX6 49 "TapLoom$Section").before _ s = true := hts _ (List.mem_of_getElem? (i := 2) rfl)
  have hmethodLink_RX6_118 : (Cond.methodLink RX6 118 yX4_isStable).before _ s = true := hts _ (List.mem_of_getElem? (i := 41) rfl)
  have hfieldLink_RX6_19 : (Cond.fieldLink RX6 19 "TapLoom" "chained" "LTapLoom$Chain;").before _ s = true := hts _ (List.mem_of_getElem? (i := 3) rfl)
  have hmethodLink_RX6_122 : (Cond.methodLink RX6 122 yX0_placeOf).before _ s = true := hts _ (List.mem_of_getElem? (i := 51) rfl)
  have hfieldLink_RX6_125 : (Cond.fieldLink RX6 125 "TapLoom$Section" "y1" "I").before _ s = true := hts _ (List.mem_of_getElem? (i := 4) rfl)
  have hfieldLink_RX6_129 : (Cond.fieldLink RX6 129 "TapLoom$Section" "y2" "I").before _ s = true := hts _ (List.mem_of_getElem? (i := 5) rfl)
  have hfieldLink_RX6_132 : (Cond.fieldLink RX6 132 "TapLoom$Section" "way" "I").before _ s = true := hts _ (List.mem_of_getElem? (i := 6) rfl)
  have hmethodLink_RX6_135 : (Cond.methodLink RX6 135 yX4_coefficient).before _ s = true := hts _ (List.mem_of_getElem? (i := 59) rfl)
  have inX4 : ∀ w ∈ u_ws RX4 TX4 7, w ∈ wsX6_of := fun w h => (List.mem_cons_of_mem _ (List.mem_append_left _ (List.mem_append_left _ (List.mem_append_left _ (List.mem_append_left _ (List.mem_append_right _ h))))))
  have inX6 : ∀ w ∈ u_ws RX6 TX6 6, w ∈ wsX6_of := fun w h => (List.mem_cons_of_mem _ (List.mem_append_left _ (List.mem_append_left _ (List.mem_append_left _ (List.mem_append_left _ (List.mem_append_left _ (List.mem_append_right _ h)))))))
  have hP : va_P D ccl (([(t0, .inr (7, [.ref sl, .ref ch, .ref oh, .ref xh, .ref rh, .ref sh])), (sl, .inr (0, [.int smd, .ref ser, .int (nI N)])), (ser, .inl (cO, 10, .inr (.inr (.inr (.inr sf))))), (ch, .inr (1, [.ref lh])), (lh, .inr (0, [.int md, .ref er, .int (nI C)])), (er, .inl (cO, 10, .inr (.inr (.inr (.inr fr)))))] : va_W) ++ scL (scJ cI SA SB mc ms mw) (List.range N)) s.heap := hP
  have hl : lv_has ls 4 [(0, .ref t0), (1, .int j), (2, .int wh)] := hl
  refine lv_iload_n hx hb dX6_of_0 rfl (lv_at hl 1 rfl) ?_
  refine lv_aload_n hx hb dX6_of_1 rfl (lv_at hl 0 rfl) ?_
  refine va_get (D := D) (ci := 7) (v := .ref sl) (C := RX6) (T := TX6) (N := 6) hx hb hts inX6 hown hK hP 0 rfl rfl 0 (by decide) hfieldLink_RX6_10 (fun _ h9 => h9) rfl dX6_of_2 ?_
  have hPc := hP.sub (ws' := [(sl, .inr (0, [.int smd, .ref ser, .int (nI N)]))]) [1] rfl
  have hDc := hD.sub (ws' := [(sl, .inr (0, [.int smd, .ref ser, .int (nI N)]))]) [1] (by decide) rfl
  have hFc := va_free (wc := [(sl, .inr (0, [.int smd, .ref ser, .int (nI N)]))]) hD hS hA [1] rfl
  refine g_Vi (As := []) (rest := [.int j]) CF (c_Jx4a65c_size_8abf5 l D cI cJ cO df s.heap.size sl smd ser (nI N) ) (cwV 0 hts gX6_of_Jx4a65c_size_8abf5 rfl rfl rfl (by decide +kernel) ⟨Nat.le_of_ble_eq_true rfl, Nat.le_of_ble_eq_true rfl⟩) (va_recv hK hP (ci := 0) (q0 := 1) rfl rfl) hPc hK hDc hV hH hS hFc rfl hl.1 rfl (Nat.le_of_ble_eq_true rfl) dX6_of_5 ⟨Nat.le_of_ble_eq_true rfl, Nat.le_of_ble_eq_true rfl⟩ (fun r_5 w1 H1 locs1 hq hP1 hD1 hk hS hz => ?_)
  obtain ⟨rfl, hr_5⟩ := hq
  have hP := g_keepR hP hD [1] rfl hk hP1
  clear hPc hDc hFc hP1 hD1 hk hz
  generalize H1 = H at hP hS ⊢
  have hP : va_P D ccl (([(t0, .inr (7, [.ref sl, .ref ch, .ref oh, .ref xh, .ref rh, .ref sh])), (sl, .inr (0, [.int smd, .ref ser, .int (nI N)])), (ser, .inl (cO, 10, .inr (.inr (.inr (.inr sf))))), (ch, .inr (1, [.ref lh])), (lh, .inr (0, [.int md, .ref er, .int (nI C)])), (er, .inl (cO, 10, .inr (.inr (.inr (.inr fr)))))] : va_W) ++ scL (scJ cI SA SB mc ms mw) (List.range N)) H := hP
  have hD : va_D A (([(t0, .inr (7, [.ref sl, .ref ch, .ref oh, .ref xh, .ref rh, .ref sh])), (sl, .inr (0, [.int smd, .ref ser, .int (nI N)])), (ser, .inl (cO, 10, .inr (.inr (.inr (.inr sf))))), (ch, .inr (1, [.ref lh])), (lh, .inr (0, [.int md, .ref er, .int (nI C)])), (er, .inl (cO, 10, .inr (.inr (.inr (.inr fr)))))] : va_W) ++ scL (scJ cI SA SB mc ms mw) (List.range N)) := hD
  subst hr_5
  have hPc : va_P D ccl [] H := fun k q h => by simp at h
  have hDc : va_D A [] := ⟨fun i j p q h => by simp at h, fun k q h => by simp at h⟩
  have hFc := va_free (wc := []) hD hS hA [] rfl
  refine gx_Sv (As := [.int j, .int (nI N)]) (rest := []) CF (c_X6_requirePlace l hfl D cI cJ cO df H.size j N ) (va_cwS 2 hts gX6_of_X6_requirePlace rfl rfl rfl (by decide +kernel) ⟨Nat.le_of_ble_eq_true rfl, Nat.le_of_ble_eq_true rfl⟩)  hPc hK hDc hV hH hS hFc rfl hl.1 rfl (Nat.le_of_ble_eq_true rfl) dX6_of_8 ⟨Nat.le_of_ble_eq_true rfl, Nat.le_of_ble_eq_true rfl⟩ (fun E9 ce q9 w1 H1 locs1 hq hP1 hD1 hk hS hz hc1 hc2 hc3 => ?_) (fun w1 H1 locs1 hq hP1 hD1 hk hS hz => ?_)
  · obtain ⟨ew1, hq⟩ := hq
    dsimp only at ew1 hq
    subst ew1
    have hP := g_keep0 hP hk
    refine vx_widen (k := 2) (n := 12) (Nat.le_of_ble_eq_true rfl) (Nat.le_of_ble_eq_true rfl) ?_
    refine vx_out (fun z hz9 => absurd hz9 (hin z)) hlk hc1 hc2 hc3 (fun t ht hvm => ⟨(E9, (([(t0, .inr (7, [.ref sl, .ref ch, .ref oh, .ref xh, .ref rh, .ref sh])), (sl, .inr (0, [.int smd, .ref ser, .int (nI N)])), (ser, .inl (cO, 10, .inr (.inr (.inr (.inr sf))))), (ch, .inr (1, [.ref lh])), (lh, .inr (0, [.int md, .ref er, .int (nI C)])), (er, .inl (cO, 10, .inr (.inr (.inr (.inr fr)))))] : va_W) ++ scL (scJ cI SA SB mc ms mw) (List.range N))), ⟨rfl, px1 hq.2 hq.1⟩, ⟨rfl, by rw [ht]; exact hP, va_K.moved hvm hK, hD⟩, hS.F ht⟩) hS.2.2 (Nat.le_refl _) (Nat.le_refl _)
  obtain ⟨rfl, hq_8⟩ := hq
  have hP := g_keep0 hP hk
  clear hPc hDc hFc hP1 hD1 hk hz
  generalize H1 = H at hP hS ⊢
  have hP : va_P D ccl (([(t0, .inr (7, [.ref sl, .ref ch, .ref oh, .ref xh, .ref rh, .ref sh])), (sl, .inr (0, [.int smd, .ref ser, .int (nI N)])), (ser, .inl (cO, 10, .inr (.inr (.inr (.inr sf))))), (ch, .inr (1, [.ref lh])), (lh, .inr (0, [.int md, .ref er, .int (nI C)])), (er, .inl (cO, 10, .inr (.inr (.inr (.inr fr)))))] : va_W) ++ scL (scJ cI SA SB mc ms mw) (List.range N)) H := hP
  have hD : va_D A (([(t0, .inr (7, [.ref sl, .ref ch, .ref oh, .ref xh, .ref rh, .ref sh])), (sl, .inr (0, [.int smd, .ref ser, .int (nI N)])), (ser, .inl (cO, 10, .inr (.inr (.inr (.inr sf))))), (ch, .inr (1, [.ref lh])), (lh, .inr (0, [.int md, .ref er, .int (nI C)])), (er, .inl (cO, 10, .inr (.inr (.inr (.inr fr)))))] : va_W) ++ scL (scJ cI SA SB mc ms mw) (List.range N)) := hD
  refine lv_iload_n hx hb dX6_of_11 rfl (lv_at hl 2 rfl) ?_
  refine lv_iconst (v := 0) hx hb dX6_of_12 (by decide) ?_
  refine lv_bipush (v := 9) hx hb dX6_of_13 (by decide) ?_
  have hPc : va_P D ccl [] H := fun k q h => by simp at h
  have hDc : va_D A [] := ⟨fun i j p q h => by simp at h, fun k q h => by simp at h⟩
  have hFc := va_free (wc := []) hD hS hA [] rfl
  refine gx_Sv (As := [.int wh, .int 0, .int 9]) (rest := []) CF (c_X6_requireWithin l hfl D cI cJ cO df H.size wh 0 9 ) (va_cwS 3 hts gX6_of_X6_requireWithin rfl rfl rfl (by decide +kernel) ⟨Nat.le_of_ble_eq_true rfl, Nat.le_of_ble_eq_true rfl⟩)  hPc hK hDc hV hH hS hFc rfl hl.1 rfl (Nat.le_of_ble_eq_true rfl) dX6_of_15 ⟨Nat.le_of_ble_eq_true rfl, Nat.le_of_ble_eq_true rfl⟩ (fun E9 ce q9 w1 H1 locs1 hq hP1 hD1 hk hS hz hc1 hc2 hc3 => ?_) (fun w1 H1 locs1 hq hP1 hD1 hk hS hz => ?_)
  · obtain ⟨ew1, hq⟩ := hq
    dsimp only at ew1 hq
    subst ew1
    have hP := g_keep0 hP hk
    refine vx_widen (k := 2) (n := 12) (Nat.le_of_ble_eq_true rfl) (Nat.le_of_ble_eq_true rfl) ?_
    refine vx_out (fun z hz9 => absurd hz9 (hin z)) hlk hc1 hc2 hc3 (fun t ht hvm => ⟨(E9, (([(t0, .inr (7, [.ref sl, .ref ch, .ref oh, .ref xh, .ref rh, .ref sh])), (sl, .inr (0, [.int smd, .ref ser, .int (nI N)])), (ser, .inl (cO, 10, .inr (.inr (.inr (.inr sf))))), (ch, .inr (1, [.ref lh])), (lh, .inr (0, [.int md, .ref er, .int (nI C)])), (er, .inl (cO, 10, .inr (.inr (.inr (.inr fr)))))] : va_W) ++ scL (scJ cI SA SB mc ms mw) (List.range N))), ⟨rfl, px2 hq_8 hq.2 hq.1⟩, ⟨rfl, by rw [ht]; exact hP, va_K.moved hvm hK, hD⟩, hS.F ht⟩) hS.2.2 (Nat.le_refl _) (Nat.le_refl _)
  obtain ⟨rfl, hq_15⟩ := hq
  have hP := g_keep0 hP hk
  clear hPc hDc hFc hP1 hD1 hk hz
  generalize H1 = H at hP hS ⊢
  have hP : va_P D ccl (([(t0, .inr (7, [.ref sl, .ref ch, .ref oh, .ref xh, .ref rh, .ref sh])), (sl, .inr (0, [.int smd, .ref ser, .int (nI N)])), (ser, .inl (cO, 10, .inr (.inr (.inr (.inr sf))))), (ch, .inr (1, [.ref lh])), (lh, .inr (0, [.int md, .ref er, .int (nI C)])), (er, .inl (cO, 10, .inr (.inr (.inr (.inr fr)))))] : va_W) ++ scL (scJ cI SA SB mc ms mw) (List.range N)) H := hP
  have hD : va_D A (([(t0, .inr (7, [.ref sl, .ref ch, .ref oh, .ref xh, .ref rh, .ref sh])), (sl, .inr (0, [.int smd, .ref ser, .int (nI N)])), (ser, .inl (cO, 10, .inr (.inr (.inr (.inr sf))))), (ch, .inr (1, [.ref lh])), (lh, .inr (0, [.int md, .ref er, .int (nI C)])), (er, .inl (cO, 10, .inr (.inr (.inr (.inr fr)))))] : va_W) ++ scL (scJ cI SA SB mc ms mw) (List.range N)) := hD
  obtain ⟨J, hJ, rfl⟩ := isSec_get hN hq_8
  obtain ⟨W0, hW0, rfl⟩ := isIn_nat 9 (by decide) hq_15
  refine lv_aload_n hx hb dX6_of_18 rfl (lv_at hl 0 rfl) ?_
  refine va_get (D := D) (ci := 7) (v := .ref sl) (C := RX6) (T := TX6) (N := 6) hx hb hts inX6 hown hK hP 0 rfl rfl 0 (by decide) hfieldLink_RX6_10 (fun _ h9 => h9) rfl dX6_of_19 ?_
  refine lv_iload_n hx hb dX6_of_22 rfl (lv_at hl 1 rfl) ?_
  have hPc := hP.sub (ws' := [(sl, .inr (0, [.int smd, .ref ser, .int (nI N)])), (ser, .inl (cO, 10, .inr (.inr (.inr (.inr sf)))))]) [1, 2] rfl
  have hDc := hD.sub (ws' := [(sl, .inr (0, [.int smd, .ref ser, .int (nI N)])), (ser, .inl (cO, 10, .inr (.inr (.inr (.inr sf)))))]) [1, 2] (by decide) rfl
  have hFc := va_free (wc := [(sl, .inr (0, [.int smd, .ref ser, .int (nI N)])), (ser, .inl (cO, 10, .inr (.inr (.inr (.inr sf)))))]) hD hS hA [1, 2] rfl
  refine g_Vr (As := [.int (nI J)]) (rest := []) CF (c_Jx4a65c_get_915e3 l D cI cJ cO df H.size sl smd ser N sf J (SA J) hJ (by omega) (hsf J hJ)) (cwV 1 hts gX6_of_Jx4a65c_get_915e3 rfl rfl rfl (by decide +kernel) ⟨Nat.le_of_ble_eq_true rfl, Nat.le_of_ble_eq_true rfl⟩) (va_recv hK hP (ci := 0) (q0 := 1) rfl rfl) hPc hK hDc hV hH hS hFc rfl hl.1 rfl (Nat.le_of_ble_eq_true rfl) dX6_of_23 ⟨Nat.le_of_ble_eq_true rfl, Nat.le_of_ble_eq_true rfl⟩ (fun w1 H1 locs1 hq hP1 hD1 hk hS hz => ?_)
  obtain ⟨w1, a1⟩ := w1
  obtain ⟨ew1, hr_23⟩ := hq
  dsimp only at ew1 hP1 hD1 hr_23
  subst ew1
  have hP := g_keepR hP hD [1, 2] rfl hk hP1
  clear hPc hDc hFc hP1 hD1 hk hz
  generalize H1 = H at hP hS ⊢
  have hP : va_P D ccl (([(t0, .inr (7, [.ref sl, .ref ch, .ref oh, .ref xh, .ref rh, .ref sh])), (sl, .inr (0, [.int smd, .ref ser, .int (nI N)])), (ser, .inl (cO, 10, .inr (.inr (.inr (.inr sf))))), (ch, .inr (1, [.ref lh])), (lh, .inr (0, [.int md, .ref er, .int (nI C)])), (er, .inl (cO, 10, .inr (.inr (.inr (.inr fr)))))] : va_W) ++ scL (scJ cI SA SB mc ms mw) (List.range N)) H := hP
  have hD : va_D A (([(t0, .inr (7, [.ref sl, .ref ch, .ref oh, .ref xh, .ref rh, .ref sh])), (sl, .inr (0, [.int smd, .ref ser, .int (nI N)])), (ser, .inl (cO, 10, .inr (.inr (.inr (.inr sf))))), (ch, .inr (1, [.ref lh])), (lh, .inr (0, [.int md, .ref er, .int (nI C)])), (er, .inl (cO, 10, .inr (.inr (.inr (.inr fr)))))] : va_W) ++ scL (scJ cI SA SB mc ms mw) (List.range N)) := hD
  have hr_23 := hr_23.symm
  subst hr_23
  refine va_castS hx hb hown hclassLink_RX6_49 (gS4 hK) ((inT_scL (rgm hJ)).recv (X := [(t0, .inr (7, [.ref sl, .ref ch, .ref oh, .ref xh, .ref rh, .ref sh])), (sl, .inr (0, [.int smd, .ref ser, .int (nI N)])), (ser, .inl (cO, 10, .inr (.inr (.inr (.inr sf))))), (ch, .inr (1, [.ref lh])), (lh, .inr (0, [.int md, .ref er, .int (nI C)])), (er, .inl (cO, 10, .inr (.inr (.inr (.inr fr)))))]) hK hP) dX6_of_26 ?_
  refine lv_astore_n (lv' := [(3, .ref (SA J)), (0, .ref t0), (1, .int (nI J)), (2, .int (nI W0))]) hx hb dX6_of_29 rfl hl (by decide) rfl (fun ls hl => ?_)
  refine lv_iload_n hx hb dX6_of_30 rfl (lv_at hl 3 rfl) ?_
  by_cases s_31_0 : nI W0 = 5
  · have c_31_0 := s_31_0
    have c_31_0 : W0 = 5 := g_eq (a := W0) (b := 5) c_31_0 (by omega) (by omega)
    refine lv_tableIn (off := 33) (tgt := 64) hx hb dX6_of_31 (by rw [s_31_0]; decide) (by rw [s_31_0]; decide) (by rw [s_31_0]; rfl) (by decide) ?_
    refine lv_aload_n hx hb dX6_of_64 rfl (lv_at hl 0 rfl) ?_
    obtain ⟨hP, hD⟩ := sc_open (X := [(t0, .inr (7, [.ref sl, .ref ch, .ref oh, .ref xh, .ref rh, .ref sh])), (sl, .inr (0, [.int smd, .ref ser, .int (nI N)])), (ser, .inl (cO, 10, .inr (.inr (.inr (.inr sf))))), (ch, .inr (1, [.ref lh])), (lh, .inr (0, [.int md, .ref er, .int (nI C)])), (er, .inl (cO, 10, .inr (.inr (.inr (.inr fr)))))]) J hP hD (rgm hJ)
    have hP : va_P D ccl (([(t0, .inr (7, [.ref sl, .ref ch, .ref oh, .ref xh, .ref rh, .ref sh])), (sl, .inr (0, [.int smd, .ref ser, .int (nI N)])), (ser, .inl (cO, 10, .inr (.inr (.inr (.inr sf))))), (ch, .inr (1, [.ref lh])), (lh, .inr (0, [.int md, .ref er, .int (nI C)])), (er, .inl (cO, 10, .inr (.inr (.inr (.inr fr))))), (SA J, .inr (5, [.int (nI J), .int (mw J), .ref (SB J), .int (ms (4 * J)), .int (ms (4 * J + 1)), .int (ms (4 * J + 2)), .int (ms (4 * J + 3))])), (SB J, .inl (cI, 5, .inl (fun z9 => if z9 < 5 then mc (5 * J + z9) else 0)))] : va_W) ++ scL (scJ cI SA SB mc ms mw) ((List.range N).erase J)) H := hP
    have hD : va_D A (([(t0, .inr (7, [.ref sl, .ref ch, .ref oh, .ref xh, .ref rh, .ref sh])), (sl, .inr (0, [.int smd, .ref ser, .int (nI N)])), (ser, .inl (cO, 10, .inr (.inr (.inr (.inr sf))))), (ch, .inr (1, [.ref lh])), (lh, .inr (0, [.int md, .ref er, .int (nI C)])), (er, .inl (cO, 10, .inr (.inr (.inr (.inr fr))))), (SA J, .inr (5, [.int (nI J), .int (mw J), .ref (SB J), .int (ms (4 * J)), .int (ms (4 * J + 1)), .int (ms (4 * J + 2)), .int (ms (4 * J + 3))])), (SB J, .inl (cI, 5, .inl (fun z9 => if z9 < 5 then mc (5 * J + z9) else 0)))] : va_W) ++ scL (scJ cI SA SB mc ms mw) ((List.range N).erase J)) := hD
    have hPc := hP.sub (ws' := [((SA J), .inr (5, [.int (nI J), .int (mw J), .ref (SB J), .int (ms (4 * J)), .int (ms (4 * J + 1)), .int (ms (4 * J + 2)), .int (ms (4 * J + 3))])), ((SB J), .inl (cI, 5, .inl (fun z9 => if z9 < 5 then mc (5 * J + z9) else 0)))]) [6, 7] rfl
    have hDc := hD.sub (ws' := [((SA J), .inr (5, [.int (nI J), .int (mw J), .ref (SB J), .int (ms (4 * J)), .int (ms (4 * J + 1)), .int (ms (4 * J + 2)), .int (ms (4 * J + 3))])), ((SB J), .inl (cI, 5, .inl (fun z9 => if z9 < 5 then mc (5 * J + z9) else 0)))]) [6, 7] (by decide) rfl
    have hFc := va_free (wc := [((SA J), .inr (5, [.int (nI J), .int (mw J), .ref (SB J), .int (ms (4 * J)), .int (ms (4 * J + 1)), .int (ms (4 * J + 2)), .int (ms (4 * J + 3))])), ((SB J), .inl (cI, 5, .inl (fun z9 => if z9 < 5 then mc (5 * J + z9) else 0)))]) hD hS hA [6, 7] rfl
    refine g_Vi (As := []) (rest := []) CF (c_X4_isStable l D cI cJ cO df H.size (SA J) (SB J) (nI J) (mw J) (ms (4 * J)) (ms (4 * J + 1)) (ms (4 * J + 2)) (ms (4 * J + 3)) (fun z9 => if z9 < 5 then mc (5 * J + z9) else 0) ) (cwV 0 hts gX6_of_X4_isStable rfl rfl rfl (by decide +kernel) ⟨Nat.le_of_ble_eq_true rfl, Nat.le_of_ble_eq_true rfl⟩) (va_recv hK hP (ci := 5) (q0 := 6) rfl rfl) hPc hK hDc hV hH hS hFc rfl hl.1 rfl (Nat.le_of_ble_eq_true rfl) dX6_of_65 ⟨Nat.le_of_ble_eq_true rfl, Nat.le_of_ble_eq_true rfl⟩ (fun r_65 w1 H1 locs1 hq hP1 hD1 hk hS hz => ?_)
    obtain ⟨rfl, hr_65⟩ := hq
    have hP := g_keepR hP hD [6, 7] rfl hk hP1
    clear hPc hDc hFc hP1 hD1 hk hz
    generalize H1 = H at hP hS ⊢
    have hP : va_P D ccl (([(t0, .inr (7, [.ref sl, .ref ch, .ref oh, .ref xh, .ref rh, .ref sh])), (sl, .inr (0, [.int smd, .ref ser, .int (nI N)])), (ser, .inl (cO, 10, .inr (.inr (.inr (.inr sf))))), (ch, .inr (1, [.ref lh])), (lh, .inr (0, [.int md, .ref er, .int (nI C)])), (er, .inl (cO, 10, .inr (.inr (.inr (.inr fr))))), (SA J, .inr (5, [.int (nI J), .int (mw J), .ref (SB J), .int (ms (4 * J)), .int (ms (4 * J + 1)), .int (ms (4 * J + 2)), .int (ms (4 * J + 3))])), (SB J, .inl (cI, 5, .inl (fun z9 => if z9 < 5 then mc (5 * J + z9) else 0)))] : va_W) ++ scL (scJ cI SA SB mc ms mw) ((List.range N).erase J)) H := hP
    have hD : va_D A (([(t0, .inr (7, [.ref sl, .ref ch, .ref oh, .ref xh, .ref rh, .ref sh])), (sl, .inr (0, [.int smd, .ref ser, .int (nI N)])), (ser, .inl (cO, 10, .inr (.inr (.inr (.inr sf))))), (ch, .inr (1, [.ref lh])), (lh, .inr (0, [.int md, .ref er, .int (nI C)])), (er, .inl (cO, 10, .inr (.inr (.inr (.inr fr))))), (SA J, .inr (5, [.int (nI J), .int (mw J), .ref (SB J), .int (ms (4 * J)), .int (ms (4 * J + 1)), .int (ms (4 * J + 2)), .int (ms (4 * J + 3))])), (SB J, .inl (cI, 5, .inl (fun z9 => if z9 < 5 then mc (5 * J + z9) else 0)))] : va_W) ++ scL (scJ cI SA SB mc ms mw) ((List.range N).erase J)) := hD
    subst hr_65
    refine lv_topi (fun f ef => ?_)
    obtain rfl : f = mStab mc J := ef.trans (sStab_eq)
    obtain ⟨hP, hD⟩ := sc_close (X := [(t0, .inr (7, [.ref sl, .ref ch, .ref oh, .ref xh, .ref rh, .ref sh])), (sl, .inr (0, [.int smd, .ref ser, .int (nI N)])), (ser, .inl (cO, 10, .inr (.inr (.inr (.inr sf))))), (ch, .inr (1, [.ref lh])), (lh, .inr (0, [.int md, .ref er, .int (nI C)])), (er, .inl (cO, 10, .inr (.inr (.inr (.inr fr)))))]) (c2 := [(SA J, .inr (5, [.int (nI J), .int (mw J), .ref (SB J), .int (ms (4 * J)), .int (ms (4 * J + 1)), .int (ms (4 * J + 2)), .int (ms (4 * J + 3))])), (SB J, .inl (cI, 5, .inl (fun z9 => if z9 < 5 then mc (5 * J + z9) else 0)))]) (S := (scJ cI SA SB mc ms mw)) (S' := (scJ cI SA SB mc ms mw)) (js := (List.range N)) J hP hD (rgm hJ) rgn rfl (fun _ _ _ => rfl)
    have hP : va_P D ccl (([(t0, .inr (7, [.ref sl, .ref ch, .ref oh, .ref xh, .ref rh, .ref sh])), (sl, .inr (0, [.int smd, .ref ser, .int (nI N)])), (ser, .inl (cO, 10, .inr (.inr (.inr (.inr sf))))), (ch, .inr (1, [.ref lh])), (lh, .inr (0, [.int md, .ref er, .int (nI C)])), (er, .inl (cO, 10, .inr (.inr (.inr (.inr fr)))))] : va_W) ++ scL (scJ cI SA SB mc ms mw) (List.range N)) H := hP
    have hD : va_D A (([(t0, .inr (7, [.ref sl, .ref ch, .ref oh, .ref xh, .ref rh, .ref sh])), (sl, .inr (0, [.int smd, .ref ser, .int (nI N)])), (ser, .inl (cO, 10, .inr (.inr (.inr (.inr sf))))), (ch, .inr (1, [.ref lh])), (lh, .inr (0, [.int md, .ref er, .int (nI C)])), (er, .inl (cO, 10, .inr (.inr (.inr (.inr fr)))))] : va_W) ++ scL (scJ cI SA SB mc ms mw) (List.range N)) := hD
    refine lv_if_eq (tgt := 75) hx hb dX6_of_68 (by decide) (fun c_68 => ?_) (fun c_68 => ?_)
    · refine lv_iconst (v := 0) hx hb dX6_of_75 (by decide) ?_
      refine vx_ret ?_
      refine g_iret (v := 0) hx hb hr hlk hP hK hD hS (Nat.le_of_ble_eq_true rfl) (Nat.le_of_ble_eq_true rfl) dX6_of_76 ?_
      have e1 : gN (nI J) = J := gN_nI (by omega)
      have e2 : gN (nI W0) = W0 := gN_nI (by omega)
      exact ⟨rfl, by
        rw [e1, e2]
        (repeat (first | rw [if_pos (by omega)] | rw [if_neg (by omega)]))
        first | exact c_68.symm | exact ((mStab_01 mc J).resolve_left c_68).symm, gGoOk hq_8 hq_15 (by decide)⟩
    · refine lv_iconst (v := 1) hx hb dX6_of_71 (by decide) ?_
      refine lv_goto (tgt := 76) hx hb dX6_of_72 (by decide) ?_
      refine vx_ret ?_
      refine g_iret (v := 1) hx hb hr hlk hP hK hD hS (Nat.le_of_ble_eq_true rfl) (Nat.le_of_ble_eq_true rfl) dX6_of_76 ?_
      have e1 : gN (nI J) = J := gN_nI (by omega)
      have e2 : gN (nI W0) = W0 := gN_nI (by omega)
      exact ⟨rfl, by
        rw [e1, e2]
        (repeat (first | rw [if_pos (by omega)] | rw [if_neg (by omega)]))
        first | exact c_68.symm | exact ((mStab_01 mc J).resolve_left c_68).symm, gGoOk hq_8 hq_15 (by decide)⟩
  have c_31_0 := s_31_0
  have c_31_0 : W0 ≠ 5 := g_ne (a := W0) (b := 5) c_31_0 (by omega) (by omega)
  by_cases s_31_1 : nI W0 = 6
  · have c_31_1 := s_31_1
    have c_31_1 : W0 = 6 := g_eq (a := W0) (b := 6) c_31_1 (by omega) (by omega)
    refine lv_tableIn (off := 46) (tgt := 77) hx hb dX6_of_31 (by rw [s_31_1]; decide) (by rw [s_31_1]; decide) (by rw [s_31_1]; rfl) (by decide) ?_
    refine lv_aload_n hx hb dX6_of_77 rfl (lv_at hl 1 rfl) ?_
    refine va_get (D := D) (ci := 7) (v := .ref ch) (C := RX6) (T := TX6) (N := 6) hx hb hts inX6 hown hK hP 0 rfl rfl 1 (by decide) hfieldLink_RX6_19 (fun _ h9 => h9) rfl dX6_of_78 ?_
    refine lv_aload_n hx hb dX6_of_81 rfl (lv_at hl 0 rfl) ?_
    have hPc := hP.sub (ws' := [(ch, .inr (1, [.ref lh])), (lh, .inr (0, [.int md, .ref er, .int (nI C)])), (er, .inl (cO, 10, .inr (.inr (.inr (.inr fr)))))]) [3, 4, 5] rfl
    have hDc := hD.sub (ws' := [(ch, .inr (1, [.ref lh])), (lh, .inr (0, [.int md, .ref er, .int (nI C)])), (er, .inl (cO, 10, .inr (.inr (.inr (.inr fr)))))]) [3, 4, 5] (by decide) rfl
    have hFc := va_free (wc := [(ch, .inr (1, [.ref lh])), (lh, .inr (0, [.int md, .ref er, .int (nI C)])), (er, .inl (cO, 10, .inr (.inr (.inr (.inr fr)))))]) hD hS hA [3, 4, 5] rfl
    refine g_Vi (As := [.ref (SA J)]) (rest := []) CF (c_X0_placeOf l D cI cJ cO df H.size ch lh er md C fr SA mo N J hC hN hfr hO (fun a b ha hb e => scJ_inj (X := [(t0, .inr (7, [.ref sl, .ref ch, .ref oh, .ref xh, .ref rh, .ref sh])), (sl, .inr (0, [.int smd, .ref ser, .int (nI N)])), (ser, .inl (cO, 10, .inr (.inr (.inr (.inr sf))))), (ch, .inr (1, [.ref lh])), (lh, .inr (0, [.int md, .ref er, .int (nI C)])), (er, .inl (cO, 10, .inr (.inr (.inr (.inr fr)))))]) hD (rgm ha) (rgm hb) e) hiM hJ) (cwV 1 hts gX6_of_X0_placeOf rfl rfl rfl (by decide +kernel) ⟨Nat.le_of_ble_eq_true rfl, Nat.le_of_ble_eq_true rfl⟩) (va_recv hK hP (ci := 1) (q0 := 3) rfl rfl) hPc hK hDc hV hH hS hFc rfl hl.1 rfl (Nat.le_of_ble_eq_true rfl) dX6_of_82 ⟨Nat.le_of_ble_eq_true rfl, Nat.le_of_ble_eq_true rfl⟩ (fun r_82 w1 H1 locs1 hq hP1 hD1 hk hS hz => ?_)
    obtain ⟨rfl, hr_82⟩ := hq
    have hP := g_keepR hP hD [3, 4, 5] rfl hk hP1
    clear hPc hDc hFc hP1 hD1 hk hz
    generalize H1 = H at hP hS ⊢
    have hP : va_P D ccl (([(t0, .inr (7, [.ref sl, .ref ch, .ref oh, .ref xh, .ref rh, .ref sh])), (sl, .inr (0, [.int smd, .ref ser, .int (nI N)])), (ser, .inl (cO, 10, .inr (.inr (.inr (.inr sf))))), (ch, .inr (1, [.ref lh])), (lh, .inr (0, [.int md, .ref er, .int (nI C)])), (er, .inl (cO, 10, .inr (.inr (.inr (.inr fr)))))] : va_W) ++ scL (scJ cI SA SB mc ms mw) (List.range N)) H := hP
    have hD : va_D A (([(t0, .inr (7, [.ref sl, .ref ch, .ref oh, .ref xh, .ref rh, .ref sh])), (sl, .inr (0, [.int smd, .ref ser, .int (nI N)])), (ser, .inl (cO, 10, .inr (.inr (.inr (.inr sf))))), (ch, .inr (1, [.ref lh])), (lh, .inr (0, [.int md, .ref er, .int (nI C)])), (er, .inl (cO, 10, .inr (.inr (.inr (.inr fr)))))] : va_W) ++ scL (scJ cI SA SB mc ms mw) (List.range N)) := hD
    subst hr_82
    refine vx_ret ?_
    refine g_iret (v := lastAt mo (nI J) C) hx hb hr hlk hP hK hD hS (Nat.le_of_ble_eq_true rfl) (Nat.le_of_ble_eq_true rfl) dX6_of_85 ?_
    have e1 : gN (nI J) = J := gN_nI (by omega)
    have e2 : gN (nI W0) = W0 := gN_nI (by omega)
    exact ⟨rfl, by
      rw [e1, e2]
      (repeat (first | rw [if_pos (by omega)] | rw [if_neg (by omega)]))
      try rfl, gGoOk hq_8 hq_15 (by decide)⟩
  have c_31_1 := s_31_1
  have c_31_1 : W0 ≠ 6 := g_ne (a := W0) (b := 6) c_31_1 (by omega) (by omega)
  by_cases s_31_2 : nI W0 = 7
  · have c_31_2 := s_31_2
    have c_31_2 : W0 = 7 := g_eq (a := W0) (b := 7) c_31_2 (by omega) (by omega)
    refine lv_tableIn (off := 55) (tgt := 86) hx hb dX6_of_31 (by rw [s_31_2]; decide) (by rw [s_31_2]; decide) (by rw [s_31_2]; rfl) (by decide) ?_
    obtain ⟨hP, hD⟩ := sc_open (X := [(t0, .inr (7, [.ref sl, .ref ch, .ref oh, .ref xh, .ref rh, .ref sh])), (sl, .inr (0, [.int smd, .ref ser, .int (nI N)])), (ser, .inl (cO, 10, .inr (.inr (.inr (.inr sf))))), (ch, .inr (1, [.ref lh])), (lh, .inr (0, [.int md, .ref er, .int (nI C)])), (er, .inl (cO, 10, .inr (.inr (.inr (.inr fr)))))]) J hP hD (rgm hJ)
    have hP : va_P D ccl (([(t0, .inr (7, [.ref sl, .ref ch, .ref oh, .ref xh, .ref rh, .ref sh])), (sl, .inr (0, [.int smd, .ref ser, .int (nI N)])), (ser, .inl (cO, 10, .inr (.inr (.inr (.inr sf))))), (ch, .inr (1, [.ref lh])), (lh, .inr (0, [.int md, .ref er, .int (nI C)])), (er, .inl (cO, 10, .inr (.inr (.inr (.inr fr))))), (SA J, .inr (5, [.int (nI J), .int (mw J), .ref (SB J), .int (ms (4 * J)), .int (ms (4 * J + 1)), .int (ms (4 * J + 2)), .int (ms (4 * J + 3))])), (SB J, .inl (cI, 5, .inl (fun z9 => if z9 < 5 then mc (5 * J + z9) else 0)))] : va_W) ++ scL (scJ cI SA SB mc ms mw) ((List.range N).erase J)) H := hP
    have hD : va_D A (([(t0, .inr (7, [.ref sl, .ref ch, .ref oh, .ref xh, .ref rh, .ref sh])), (sl, .inr (0, [.int smd, .ref ser, .int (nI N)])), (ser, .inl (cO, 10, .inr (.inr (.inr (.inr sf))))), (ch, .inr (1, [.ref lh])), (lh, .inr (0, [.int md, .ref er, .int (nI C)])), (er, .inl (cO, 10, .inr (.inr (.inr (.inr fr))))), (SA J, .inr (5, [.int (nI J), .int (mw J), .ref (SB J), .int (ms (4 * J)), .int (ms (4 * J + 1)), .int (ms (4 * J + 2)), .int (ms (4 * J + 3))])), (SB J, .inl (cI, 5, .inl (fun z9 => if z9 < 5 then mc (5 * J + z9) else 0)))] : va_W) ++ scL (scJ cI SA SB mc ms mw) ((List.range N).erase J)) := hD
    refine lv_aload_n hx hb dX6_of_86 rfl (lv_at hl 0 rfl) ?_
    refine va_get (D := D) (ci := 5) (v := .int (ms (4 * J + 2))) (C := RX4) (T := TX4) (N := 7) hx hb hts inX4 hown hK hP 6 rfl rfl 5 (by decide) hfieldLink_RX6_125 (fun _ h9 => h9) rfl dX6_of_87 ?_
    obtain ⟨hP, hD⟩ := sc_close (X := [(t0, .inr (7, [.ref sl, .ref ch, .ref oh, .ref xh, .ref rh, .ref sh])), (sl, .inr (0, [.int smd, .ref ser, .int (nI N)])), (ser, .inl (cO, 10, .inr (.inr (.inr (.inr sf))))), (ch, .inr (1, [.ref lh])), (lh, .inr (0, [.int md, .ref er, .int (nI C)])), (er, .inl (cO, 10, .inr (.inr (.inr (.inr fr)))))]) (c2 := [(SA J, .inr (5, [.int (nI J), .int (mw J), .ref (SB J), .int (ms (4 * J)), .int (ms (4 * J + 1)), .int (ms (4 * J + 2)), .int (ms (4 * J + 3))])), (SB J, .inl (cI, 5, .inl (fun z9 => if z9 < 5 then mc (5 * J + z9) else 0)))]) (S := (scJ cI SA SB mc ms mw)) (S' := (scJ cI SA SB mc ms mw)) (js := (List.range N)) J hP hD (rgm hJ) rgn rfl (fun _ _ _ => rfl)
    have hP : va_P D ccl (([(t0, .inr (7, [.ref sl, .ref ch, .ref oh, .ref xh, .ref rh, .ref sh])), (sl, .inr (0, [.int smd, .ref ser, .int (nI N)])), (ser, .inl (cO, 10, .inr (.inr (.inr (.inr sf))))), (ch, .inr (1, [.ref lh])), (lh, .inr (0, [.int md, .ref er, .int (nI C)])), (er, .inl (cO, 10, .inr (.inr (.inr (.inr fr)))))] : va_W) ++ scL (scJ cI SA SB mc ms mw) (List.range N)) H := hP
    have hD : va_D A (([(t0, .inr (7, [.ref sl, .ref ch, .ref oh, .ref xh, .ref rh, .ref sh])), (sl, .inr (0, [.int smd, .ref ser, .int (nI N)])), (ser, .inl (cO, 10, .inr (.inr (.inr (.inr sf))))), (ch, .inr (1, [.ref lh])), (lh, .inr (0, [.int md, .ref er, .int (nI C)])), (er, .inl (cO, 10, .inr (.inr (.inr (.inr fr)))))] : va_W) ++ scL (scJ cI SA SB mc ms mw) (List.range N)) := hD
    refine vx_ret ?_
    refine g_iret (v := ms (4 * J + 2)) hx hb hr hlk hP hK hD hS (Nat.le_of_ble_eq_true rfl) (Nat.le_of_ble_eq_true rfl) dX6_of_90 ?_
    have e1 : gN (nI J) = J := gN_nI (by omega)
    have e2 : gN (nI W0) = W0 := gN_nI (by omega)
    exact ⟨rfl, by
      rw [e1, e2]
      (repeat (first | rw [if_pos (by omega)] | rw [if_neg (by omega)]))
      exact congrArg ms (by omega), gGoOk hq_8 hq_15 (by decide)⟩
  have c_31_2 := s_31_2
  have c_31_2 : W0 ≠ 7 := g_ne (a := W0) (b := 7) c_31_2 (by omega) (by omega)
  by_cases s_31_3 : nI W0 = 8
  · have c_31_3 := s_31_3
    have c_31_3 : W0 = 8 := g_eq (a := W0) (b := 8) c_31_3 (by omega) (by omega)
    refine lv_tableIn (off := 60) (tgt := 91) hx hb dX6_of_31 (by rw [s_31_3]; decide) (by rw [s_31_3]; decide) (by rw [s_31_3]; rfl) (by decide) ?_
    obtain ⟨hP, hD⟩ := sc_open (X := [(t0, .inr (7, [.ref sl, .ref ch, .ref oh, .ref xh, .ref rh, .ref sh])), (sl, .inr (0, [.int smd, .ref ser, .int (nI N)])), (ser, .inl (cO, 10, .inr (.inr (.inr (.inr sf))))), (ch, .inr (1, [.ref lh])), (lh, .inr (0, [.int md, .ref er, .int (nI C)])), (er, .inl (cO, 10, .inr (.inr (.inr (.inr fr)))))]) J hP hD (rgm hJ)
    have hP : va_P D ccl (([(t0, .inr (7, [.ref sl, .ref ch, .ref oh, .ref xh, .ref rh, .ref sh])), (sl, .inr (0, [.int smd, .ref ser, .int (nI N)])), (ser, .inl (cO, 10, .inr (.inr (.inr (.inr sf))))), (ch, .inr (1, [.ref lh])), (lh, .inr (0, [.int md, .ref er, .int (nI C)])), (er, .inl (cO, 10, .inr (.inr (.inr (.inr fr))))), (SA J, .inr (5, [.int (nI J), .int (mw J), .ref (SB J), .int (ms (4 * J)), .int (ms (4 * J + 1)), .int (ms (4 * J + 2)), .int (ms (4 * J + 3))])), (SB J, .inl (cI, 5, .inl (fun z9 => if z9 < 5 then mc (5 * J + z9) else 0)))] : va_W) ++ scL (scJ cI SA SB mc ms mw) ((List.range N).erase J)) H := hP
    have hD : va_D A (([(t0, .inr (7, [.ref sl, .ref ch, .ref oh, .ref xh, .ref rh, .ref sh])), (sl, .inr (0, [.int smd, .ref ser, .int (nI N)])), (ser, .inl (cO, 10, .inr (.inr (.inr (.inr sf))))), (ch, .inr (1, [.ref lh])), (lh, .inr (0, [.int md, .ref er, .int (nI C)])), (er, .inl (cO, 10, .inr (.inr (.inr (.inr fr))))), (SA J, .inr (5, [.int (nI J), .int (mw J), .ref (SB J), .int (ms (4 * J)), .int (ms (4 * J + 1)), .int (ms (4 * J + 2)), .int (ms (4 * J + 3))])), (SB J, .inl (cI, 5, .inl (fun z9 => if z9 < 5 then mc (5 * J + z9) else 0)))] : va_W) ++ scL (scJ cI SA SB mc ms mw) ((List.range N).erase J)) := hD
    refine lv_aload_n hx hb dX6_of_91 rfl (lv_at hl 0 rfl) ?_
    refine va_get (D := D) (ci := 5) (v := .int (ms (4 * J + 3))) (C := RX4) (T := TX4) (N := 7) hx hb hts inX4 hown hK hP 6 rfl rfl 6 (by decide) hfieldLink_RX6_129 (fun _ h9 => h9) rfl dX6_of_92 ?_
    obtain ⟨hP, hD⟩ := sc_close (X := [(t0, .inr (7, [.ref sl, .ref ch, .ref oh, .ref xh, .ref rh, .ref sh])), (sl, .inr (0, [.int smd, .ref ser, .int (nI N)])), (ser, .inl (cO, 10, .inr (.inr (.inr (.inr sf))))), (ch, .inr (1, [.ref lh])), (lh, .inr (0, [.int md, .ref er, .int (nI C)])), (er, .inl (cO, 10, .inr (.inr (.inr (.inr fr)))))]) (c2 := [(SA J, .inr (5, [.int (nI J), .int (mw J), .ref (SB J), .int (ms (4 * J)), .int (ms (4 * J + 1)), .int (ms (4 * J + 2)), .int (ms (4 * J + 3))])), (SB J, .inl (cI, 5, .inl (fun z9 => if z9 < 5 then mc (5 * J + z9) else 0)))]) (S := (scJ cI SA SB mc ms mw)) (S' := (scJ cI SA SB mc ms mw)) (js := (List.range N)) J hP hD (rgm hJ) rgn rfl (fun _ _ _ => rfl)
    have hP : va_P D ccl (([(t0, .inr (7, [.ref sl, .ref ch, .ref oh, .ref xh, .ref rh, .ref sh])), (sl, .inr (0, [.int smd, .ref ser, .int (nI N)])), (ser, .inl (cO, 10, .inr (.inr (.inr (.inr sf))))), (ch, .inr (1, [.ref lh])), (lh, .inr (0, [.int md, .ref er, .int (nI C)])), (er, .inl (cO, 10, .inr (.inr (.inr (.inr fr)))))] : va_W) ++ scL (scJ cI SA SB mc ms mw) (List.range N)) H := hP
    have hD : va_D A (([(t0, .inr (7, [.ref sl, .ref ch, .ref oh, .ref xh, .ref rh, .ref sh])), (sl, .inr (0, [.int smd, .ref ser, .int (nI N)])), (ser, .inl (cO, 10, .inr (.inr (.inr (.inr sf))))), (ch, .inr (1, [.ref lh])), (lh, .inr (0, [.int md, .ref er, .int (nI C)])), (er, .inl (cO, 10, .inr (.inr (.inr (.inr fr)))))] : va_W) ++ scL (scJ cI SA SB mc ms mw) (List.range N)) := hD
    refine vx_ret ?_
    refine g_iret (v := ms (4 * J + 3)) hx hb hr hlk hP hK hD hS (Nat.le_of_ble_eq_true rfl) (Nat.le_of_ble_eq_true rfl) dX6_of_95 ?_
    have e1 : gN (nI J) = J := gN_nI (by omega)
    have e2 : gN (nI W0) = W0 := gN_nI (by omega)
    exact ⟨rfl, by
      rw [e1, e2]
      (repeat (first | rw [if_pos (by omega)] | rw [if_neg (by omega)]))
      exact congrArg ms (by omega), gGoOk hq_8 hq_15 (by decide)⟩
  have c_31_3 := s_31_3
  have c_31_3 : W0 ≠ 8 := g_ne (a := W0) (b := 8) c_31_3 (by omega) (by omega)
  by_cases s_31_4 : nI W0 = 9
  · have c_31_4 := s_31_4
    have c_31_4 : W0 = 9 := g_eq (a := W0) (b := 9) c_31_4 (by omega) (by omega)
    refine lv_tableIn (off := 65) (tgt := 96) hx hb dX6_of_31 (by rw [s_31_4]; decide) (by rw [s_31_4]; decide) (by rw [s_31_4]; rfl) (by decide) ?_
    obtain ⟨hP, hD⟩ := sc_open (X := [(t0, .inr (7, [.ref sl, .ref ch, .ref oh, .ref xh, .ref rh, .ref sh])), (sl, .inr (0, [.int smd, .ref ser, .int (nI N)])), (ser, .inl (cO, 10, .inr (.inr (.inr (.inr sf))))), (ch, .inr (1, [.ref lh])), (lh, .inr (0, [.int md, .ref er, .int (nI C)])), (er, .inl (cO, 10, .inr (.inr (.inr (.inr fr)))))]) J hP hD (rgm hJ)
    have hP : va_P D ccl (([(t0, .inr (7, [.ref sl, .ref ch, .ref oh, .ref xh, .ref rh, .ref sh])), (sl, .inr (0, [.int smd, .ref ser, .int (nI N)])), (ser, .inl (cO, 10, .inr (.inr (.inr (.inr sf))))), (ch, .inr (1, [.ref lh])), (lh, .inr (0, [.int md, .ref er, .int (nI C)])), (er, .inl (cO, 10, .inr (.inr (.inr (.inr fr))))), (SA J, .inr (5, [.int (nI J), .int (mw J), .ref (SB J), .int (ms (4 * J)), .int (ms (4 * J + 1)), .int (ms (4 * J + 2)), .int (ms (4 * J + 3))])), (SB J, .inl (cI, 5, .inl (fun z9 => if z9 < 5 then mc (5 * J + z9) else 0)))] : va_W) ++ scL (scJ cI SA SB mc ms mw) ((List.range N).erase J)) H := hP
    have hD : va_D A (([(t0, .inr (7, [.ref sl, .ref ch, .ref oh, .ref xh, .ref rh, .ref sh])), (sl, .inr (0, [.int smd, .ref ser, .int (nI N)])), (ser, .inl (cO, 10, .inr (.inr (.inr (.inr sf))))), (ch, .inr (1, [.ref lh])), (lh, .inr (0, [.int md, .ref er, .int (nI C)])), (er, .inl (cO, 10, .inr (.inr (.inr (.inr fr))))), (SA J, .inr (5, [.int (nI J), .int (mw J), .ref (SB J), .int (ms (4 * J)), .int (ms (4 * J + 1)), .int (ms (4 * J + 2)), .int (ms (4 * J + 3))])), (SB J, .inl (cI, 5, .inl (fun z9 => if z9 < 5 then mc (5 * J + z9) else 0)))] : va_W) ++ scL (scJ cI SA SB mc ms mw) ((List.range N).erase J)) := hD
    refine lv_aload_n hx hb dX6_of_96 rfl (lv_at hl 0 rfl) ?_
    refine va_get (D := D) (ci := 5) (v := .int (mw J)) (C := RX4) (T := TX4) (N := 7) hx hb hts inX4 hown hK hP 6 rfl rfl 1 (by decide) hfieldLink_RX6_132 (fun _ h9 => h9) rfl dX6_of_97 ?_
    obtain ⟨hP, hD⟩ := sc_close (X := [(t0, .inr (7, [.ref sl, .ref ch, .ref oh, .ref xh, .ref rh, .ref sh])), (sl, .inr (0, [.int smd, .ref ser, .int (nI N)])), (ser, .inl (cO, 10, .inr (.inr (.inr (.inr sf))))), (ch, .inr (1, [.ref lh])), (lh, .inr (0, [.int md, .ref er, .int (nI C)])), (er, .inl (cO, 10, .inr (.inr (.inr (.inr fr)))))]) (c2 := [(SA J, .inr (5, [.int (nI J), .int (mw J), .ref (SB J), .int (ms (4 * J)), .int (ms (4 * J + 1)), .int (ms (4 * J + 2)), .int (ms (4 * J + 3))])), (SB J, .inl (cI, 5, .inl (fun z9 => if z9 < 5 then mc (5 * J + z9) else 0)))]) (S := (scJ cI SA SB mc ms mw)) (S' := (scJ cI SA SB mc ms mw)) (js := (List.range N)) J hP hD (rgm hJ) rgn rfl (fun _ _ _ => rfl)
    have hP : va_P D ccl (([(t0, .inr (7, [.ref sl, .ref ch, .ref oh, .ref xh, .ref rh, .ref sh])), (sl, .inr (0, [.int smd, .ref ser, .int (nI N)])), (ser, .inl (cO, 10, .inr (.inr (.inr (.inr sf))))), (ch, .inr (1, [.ref lh])), (lh, .inr (0, [.int md, .ref er, .int (nI C)])), (er, .inl (cO, 10, .inr (.inr (.inr (.inr fr)))))] : va_W) ++ scL (scJ cI SA SB mc ms mw) (List.range N)) H := hP
    have hD : va_D A (([(t0, .inr (7, [.ref sl, .ref ch, .ref oh, .ref xh, .ref rh, .ref sh])), (sl, .inr (0, [.int smd, .ref ser, .int (nI N)])), (ser, .inl (cO, 10, .inr (.inr (.inr (.inr sf))))), (ch, .inr (1, [.ref lh])), (lh, .inr (0, [.int md, .ref er, .int (nI C)])), (er, .inl (cO, 10, .inr (.inr (.inr (.inr fr)))))] : va_W) ++ scL (scJ cI SA SB mc ms mw) (List.range N)) := hD
    refine vx_ret ?_
    refine g_iret (v := mw J) hx hb hr hlk hP hK hD hS (Nat.le_of_ble_eq_true rfl) (Nat.le_of_ble_eq_true rfl) dX6_of_100 ?_
    have e1 : gN (nI J) = J := gN_nI (by omega)
    have e2 : gN (nI W0) = W0 := gN_nI (by omega)
    exact ⟨rfl, by
      rw [e1, e2]
      (repeat (first | rw [if_pos (by omega)] | rw [if_neg (by omega)]))
      try rfl, gGoOk hq_8 hq_15 (by decide)⟩
  have c_31_4 := s_31_4
  have c_31_4 : W0 ≠ 9 := g_ne (a := W0) (b := 9) c_31_4 (by omega) (by omega)
  refine lv_tableOut (tgt := 101) hx hb dX6_of_31 (by have z0 := lv_neT (a := 5) s_31_0 (by decide); have z1 := lv_neT (a := 6) s_31_1 (by decide); have z2 := lv_neT (a := 7) s_31_2 (by decide); have z3 := lv_neT (a := 8) s_31_3 (by decide); have z4 := lv_neT (a := 9) s_31_4 (by decide); omega) (by decide) ?_
  refine lv_aload_n hx hb dX6_of_101 rfl (lv_at hl 0 rfl) ?_
  refine lv_iload_n hx hb dX6_of_102 rfl (lv_at hl 3 rfl) ?_
  obtain ⟨hP, hD⟩ := sc_open (X := [(t0, .inr (7, [.ref sl, .ref ch, .ref oh, .ref xh, .ref rh, .ref sh])), (sl, .inr (0, [.int smd, .ref ser, .int (nI N)])), (ser, .inl (cO, 10, .inr (.inr (.inr (.inr sf))))), (ch, .inr (1, [.ref lh])), (lh, .inr (0, [.int md, .ref er, .int (nI C)])), (er, .inl (cO, 10, .inr (.inr (.inr (.inr fr)))))]) J hP hD (rgm hJ)
  have hP : va_P D ccl (([(t0, .inr (7, [.ref sl, .ref ch, .ref oh, .ref xh, .ref rh, .ref sh])), (sl, .inr (0, [.int smd, .ref ser, .int (nI N)])), (ser, .inl (cO, 10, .inr (.inr (.inr (.inr sf))))), (ch, .inr (1, [.ref lh])), (lh, .inr (0, [.int md, .ref er, .int (nI C)])), (er, .inl (cO, 10, .inr (.inr (.inr (.inr fr))))), (SA J, .inr (5, [.int (nI J), .int (mw J), .ref (SB J), .int (ms (4 * J)), .int (ms (4 * J + 1)), .int (ms (4 * J + 2)), .int (ms (4 * J + 3))])), (SB J, .inl (cI, 5, .inl (fun z9 => if z9 < 5 then mc (5 * J + z9) else 0)))] : va_W) ++ scL (scJ cI SA SB mc ms mw) ((List.range N).erase J)) H := hP
  have hD : va_D A (([(t0, .inr (7, [.ref sl, .ref ch, .ref oh, .ref xh, .ref rh, .ref sh])), (sl, .inr (0, [.int smd, .ref ser, .int (nI N)])), (ser, .inl (cO, 10, .inr (.inr (.inr (.inr sf))))), (ch, .inr (1, [.ref lh])), (lh, .inr (0, [.int md, .ref er, .int (nI C)])), (er, .inl (cO, 10, .inr (.inr (.inr (.inr fr))))), (SA J, .inr (5, [.int (nI J), .int (mw J), .ref (SB J), .int (ms (4 * J)), .int (ms (4 * J + 1)), .int (ms (4 * J + 2)), .int (ms (4 * J + 3))])), (SB J, .inl (cI, 5, .inl (fun z9 => if z9 < 5 then mc (5 * J + z9) else 0)))] : va_W) ++ scL (scJ cI SA SB mc ms mw) ((List.range N).erase J)) := hD
  have hPc := hP.sub (ws' := [((SA J), .inr (5, [.int (nI J), .int (mw J), .ref (SB J), .int (ms (4 * J)), .int (ms (4 * J + 1)), .int (ms (4 * J + 2)), .int (ms (4 * J + 3))])), ((SB J), .inl (cI, 5, .inl (fun z9 => if z9 < 5 then mc (5 * J + z9) else 0)))]) [6, 7] rfl
  have hDc := hD.sub (ws' := [((SA J), .inr (5, [.int (nI J), .int (mw J), .ref (SB J), .int (ms (4 * J)), .int (ms (4 * J + 1)), .int (ms (4 * J + 2)), .int (ms (4 * J + 3))])), ((SB J), .inl (cI, 5, .inl (fun z9 => if z9 < 5 then mc (5 * J + z9) else 0)))]) [6, 7] (by decide) rfl
  have hFc := va_free (wc := [((SA J), .inr (5, [.int (nI J), .int (mw J), .ref (SB J), .int (ms (4 * J)), .int (ms (4 * J + 1)), .int (ms (4 * J + 2)), .int (ms (4 * J + 3))])), ((SB J), .inl (cI, 5, .inl (fun z9 => if z9 < 5 then mc (5 * J + z9) else 0)))]) hD hS hA [6, 7] rfl
  refine g_Vi (As := [.int (nI W0)]) (rest := []) CF (c_X4_coefficient l D cI cJ cO df H.size (SA J) (SB J) (nI J) (mw J) (ms (4 * J)) (ms (4 * J + 1)) (ms (4 * J + 2)) (ms (4 * J + 3)) (fun z9 => if z9 < 5 then mc (5 * J + z9) else 0) W0 (by omega)) (cwV 1 hts gX6_of_X4_coefficient rfl rfl rfl (by decide +kernel) ⟨Nat.le_of_ble_eq_true rfl, Nat.le_of_ble_eq_true rfl⟩) (va_recv hK hP (ci := 5) (q0 := 6) rfl rfl) hPc hK hDc hV hH hS hFc rfl hl.1 rfl (Nat.le_of_ble_eq_true rfl) dX6_of_103 ⟨Nat.le_of_ble_eq_true rfl, Nat.le_of_ble_eq_true rfl⟩ (fun r_103 w1 H1 locs1 hq hP1 hD1 hk hS hz => ?_)
  obtain ⟨rfl, hr_103⟩ := hq
  have hP := g_keepR hP hD [6, 7] rfl hk hP1
  clear hPc hDc hFc hP1 hD1 hk hz
  generalize H1 = H at hP hS ⊢
  have hP : va_P D ccl (([(t0, .inr (7, [.ref sl, .ref ch, .ref oh, .ref xh, .ref rh, .ref sh])), (sl, .inr (0, [.int smd, .ref ser, .int (nI N)])), (ser, .inl (cO, 10, .inr (.inr (.inr (.inr sf))))), (ch, .inr (1, [.ref lh])), (lh, .inr (0, [.int md, .ref er, .int (nI C)])), (er, .inl (cO, 10, .inr (.inr (.inr (.inr fr))))), (SA J, .inr (5, [.int (nI J), .int (mw J), .ref (SB J), .int (ms (4 * J)), .int (ms (4 * J + 1)), .int (ms (4 * J + 2)), .int (ms (4 * J + 3))])), (SB J, .inl (cI, 5, .inl (fun z9 => if z9 < 5 then mc (5 * J + z9) else 0)))] : va_W) ++ scL (scJ cI SA SB mc ms mw) ((List.range N).erase J)) H := hP
  have hD : va_D A (([(t0, .inr (7, [.ref sl, .ref ch, .ref oh, .ref xh, .ref rh, .ref sh])), (sl, .inr (0, [.int smd, .ref ser, .int (nI N)])), (ser, .inl (cO, 10, .inr (.inr (.inr (.inr sf))))), (ch, .inr (1, [.ref lh])), (lh, .inr (0, [.int md, .ref er, .int (nI C)])), (er, .inl (cO, 10, .inr (.inr (.inr (.inr fr))))), (SA J, .inr (5, [.int (nI J), .int (mw J), .ref (SB J), .int (ms (4 * J)), .int (ms (4 * J + 1)), .int (ms (4 * J + 2)), .int (ms (4 * J + 3))])), (SB J, .inl (cI, 5, .inl (fun z9 => if z9 < 5 then mc (5 * J + z9) else 0)))] : va_W) ++ scL (scJ cI SA SB mc ms mw) ((List.range N).erase J)) := hD
  subst hr_103
  refine lv_topi (fun f ef => ?_)
  obtain rfl : f = mc (5 * J + W0) := ef.trans (if_pos (by omega))
  obtain ⟨hP, hD⟩ := sc_close (X := [(t0, .inr (7, [.ref sl, .ref ch, .ref oh, .ref xh, .ref rh, .ref sh])), (sl, .inr (0, [.int smd, .ref ser, .int (nI N)])), (ser, .inl (cO, 10, .inr (.inr (.inr (.inr sf))))), (ch, .inr (1, [.ref lh])), (lh, .inr (0, [.int md, .ref er, .int (nI C)])), (er, .inl (cO, 10, .inr (.inr (.inr (.inr fr)))))]) (c2 := [(SA J, .inr (5, [.int (nI J), .int (mw J), .ref (SB J), .int (ms (4 * J)), .int (ms (4 * J + 1)), .int (ms (4 * J + 2)), .int (ms (4 * J + 3))])), (SB J, .inl (cI, 5, .inl (fun z9 => if z9 < 5 then mc (5 * J + z9) else 0)))]) (S := (scJ cI SA SB mc ms mw)) (S' := (scJ cI SA SB mc ms mw)) (js := (List.range N)) J hP hD (rgm hJ) rgn rfl (fun _ _ _ => rfl)
  have hP : va_P D ccl (([(t0, .inr (7, [.ref sl, .ref ch, .ref oh, .ref xh, .ref rh, .ref sh])), (sl, .inr (0, [.int smd, .ref ser, .int (nI N)])), (ser, .inl (cO, 10, .inr (.inr (.inr (.inr sf))))), (ch, .inr (1, [.ref lh])), (lh, .inr (0, [.int md, .ref er, .int (nI C)])), (er, .inl (cO, 10, .inr (.inr (.inr (.inr fr)))))] : va_W) ++ scL (scJ cI SA SB mc ms mw) (List.range N)) H := hP
  have hD : va_D A (([(t0, .inr (7, [.ref sl, .ref ch, .ref oh, .ref xh, .ref rh, .ref sh])), (sl, .inr (0, [.int smd, .ref ser, .int (nI N)])), (ser, .inl (cO, 10, .inr (.inr (.inr (.inr sf))))), (ch, .inr (1, [.ref lh])), (lh, .inr (0, [.int md, .ref er, .int (nI C)])), (er, .inl (cO, 10, .inr (.inr (.inr (.inr fr)))))] : va_W) ++ scL (scJ cI SA SB mc ms mw) (List.range N)) := hD
  refine vx_ret ?_
  refine g_iret (v := mc (5 * J + W0)) hx hb hr hlk hP hK hD hS (Nat.le_of_ble_eq_true rfl) (Nat.le_of_ble_eq_true rfl) dX6_of_106 ?_
  have e1 : gN (nI J) = J := gN_nI (by omega)
  have e2 : gN (nI W0) = W0 := gN_nI (by omega)
  exact ⟨rfl, by
    rw [e1, e2]
    (repeat (first | rw [if_pos (by omega)] | rw [if_neg (by omega)]))
    try rfl, gGoOk hq_8 hq_15 (by decide)⟩

set_option maxHeartbeats 4000000 in
set_option maxRecDepth 100000 in
theorem c_X6_of_e (l : Launch) (hfl : l.stackTraces = false) (D : va_G) (cI cJ cO : ClassId) (df sz : Nat) (t0 : Nat) (sl : Nat) (ch : Nat) (oh : Nat) (xh : Nat) (rh : Nat) (sh : Nat) (smd : Int32) (ser : Nat) (sf : Nat → Option Nat) (lh : Nat) (md : Int32) (SA : Nat → Nat) (SB : Nat → Nat) (mc : Nat → Int32) (ms : Nat → Int32) (mw : Nat → Int32) (N : Nat) (j : Int32) (wh : Int32) (hN : N ≤ 8) (hsf : ∀ k, k < N → sf k = some (SA k)) : MxI l yX6_of wsX6_of ({ frames := 7, cells := 2, slots := 12, locals := 112 } : Room) D (gTY cI cJ cO) df (([(t0, .inr (7, [.ref sl, .ref ch, .ref oh, .ref xh, .ref rh, .ref sh])), (sl, .inr (0, [.int smd, .ref ser, .int (nI N)])), (ser, .inl (cO, 10, .inr (.inr (.inr (.inr sf))))), (ch, .inr (1, [.ref lh])), (lh, .inr (0, [.int md, .ref df, .int 0]))] : va_W) ++ scL (scJ cI SA SB mc ms mw) (List.range N)) sz [.ref t0, .int j, .int wh] (fun (u : String × va_W) => u.2 = ([(t0, .inr (7, [.ref sl, .ref ch, .ref oh, .ref xh, .ref rh, .ref sh])), (sl, .inr (0, [.int smd, .ref ser, .int (nI N)])), (ser, .inl (cO, 10, .inr (.inr (.inr (.inr sf))))), (ch, .inr (1, [.ref lh])), (lh, .inr (0, [.int md, .ref df, .int 0]))] : va_W) ++ scL (scJ cI SA SB mc ms mw) (List.range N) ∧ ¬ gGo (isSec N j) (isIn wh 0 9) 1 = 0 ∧ u.1 = xN gIOB gIAE (gGo (isSec N j) (isIn wh 0 9) 1)) (fun (r : Int32) (wZ : va_W) => wZ = ([(t0, .inr (7, [.ref sl, .ref ch, .ref oh, .ref xh, .ref rh, .ref sh])), (sl, .inr (0, [.int smd, .ref ser, .int (nI N)])), (ser, .inl (cO, 10, .inr (.inr (.inr (.inr sf))))), (ch, .inr (1, [.ref lh])), (lh, .inr (0, [.int md, .ref df, .int 0]))] : va_W) ++ scL (scJ cI SA SB mc ms mw) (List.range N) ∧ r = (if gN wh < 5 then mc (5 * gN j + gN wh) else if gN wh = 5 then mStab mc (gN j) else if gN wh = 6 then (-1) else if gN wh < 9 then ms (4 * gN j + gN wh - 5) else mw (gN j)) ∧ gGo (isSec N j) (isIn wh 0 9) 1 = 0) := by
  refine gx_of (cc := cX6_of) (nL := 4) (ret := (some .int)) (D := D) (TY := (gTY cI cJ cO)) (df := df) (Qc := fun A => va_Qi (fun (r : Int32) (wZ : va_W) => wZ = ([(t0, .inr (7, [.ref sl, .ref ch, .ref oh, .ref xh, .ref rh, .ref sh])), (sl, .inr (0, [.int smd, .ref ser, .int (nI N)])), (ser, .inl (cO, 10, .inr (.inr (.inr (.inr sf))))), (ch, .inr (1, [.ref lh])), (lh, .inr (0, [.int md, .ref df, .int 0]))] : va_W) ++ scL (scJ cI SA SB mc ms mw) (List.range N) ∧ r = (if gN wh < 5 then mc (5 * gN j + gN wh) else if gN wh = 5 then mStab mc (gN j) else if gN wh = 6 then (-1) else if gN wh < 9 then ms (4 * gN j + gN wh - 5) else mw (gN j)) ∧ gGo (isSec N j) (isIn wh 0 9) 1 = 0) (gB D (gTY cI cJ cO) A) A) (XC := fun A => vx_X (fun (u : String × va_W) => u.2 = ([(t0, .inr (7, [.ref sl, .ref ch, .ref oh, .ref xh, .ref rh, .ref sh])), (sl, .inr (0, [.int smd, .ref ser, .int (nI N)])), (ser, .inl (cO, 10, .inr (.inr (.inr (.inr sf))))), (ch, .inr (1, [.ref lh])), (lh, .inr (0, [.int md, .ref df, .int 0]))] : va_W) ++ scL (scJ cI SA SB mc ms mw) (List.range N) ∧ ¬ gGo (isSec N j) (isIn wh 0 9) 1 = 0 ∧ u.1 = xN gIOB gIAE (gGo (isSec N j) (isIn wh 0 9) 1)) (gBx D (gTY cI cJ cO) A) A) (by decide +kernel) rfl (Nat.le_of_ble_eq_true rfl) ?_
  intro p e s m below meth c ls A hsz C0 hin hl
  obtain ⟨CF, hr, hlk, hA, hS, hP, hK, hD, hV, hH⟩ := C0
  have CF : CallFix p m c cX6_of 4 s _ wsX6_of RX6 := CF
  obtain ⟨hx, hb, hml, hown, hts⟩ := id CF
  subst hsz
  have hfieldLink_RX6_10 : (Cond.fieldLink RX6 10 "TapLoom" "sections" "Ljava/util/ArrayList;").before _ s = true := hts _ (List.mem_of_getElem? (i := 1) rfl)
  have hmethodLink_RX6_55 : (Cond.methodLink RX6 55 yJx4a65c_size_8abf5).before _ s = true := hts _ (List.mem_of_getElem? (i := 7) rfl)
  have hmethodLink_RX6_73 : (Cond.methodLink RX6 73 yX6_requirePlace).before _ s = true := hts _ (List.mem_of_getElem? (i := 13) rfl)
  have hmethodLink_RX6_51 : (Cond.methodLink RX6 51 yX6_requireWithin).before _ s = true := hts _ (List.mem_of_getElem? (i := 19) rfl)
  have hmethodLink_RX6_76 : (Cond.methodLink RX6 76 yJx4a65c_get_915e3).before _ s = true := hts _ (List.mem_of_getElem? (i := 24) rfl)
  have hclassLink_RX6_49 : (Cond.classLink RX6 49 "TapLoom$Section").before _ s = true := hts _ (List.mem_of_getElem? (i := 2) rfl)
  have hmethodLink_RX6_118 : (Cond.methodLink RX6 118 yX4_isStable).before _ s = true := hts _ (List.mem_of_getElem? (i := 41) rfl)
  have hfieldLink_RX6_19 : (Cond.fieldLink RX6 19 "TapLoom" "chained" "LTapLoom$Chain;").before _ s = true := hts _ (List.mem_of_getElem? (i := 3) rfl)
  have hmethodLink_RX6_122 : (Cond.methodLink RX6 122 yX0_placeOf).before _ s = true := hts _ (List.mem_of_getElem? (i := 51) rfl)
  have hfieldLink_RX6_125 : (Cond.fieldLink RX6 125 "TapLoom$Section" "y1" "I").before _ s = true := hts _ (List.mem_of_getElem? (i := 4) rfl)
  have hfieldLink_RX6_129 : (Cond.fieldLink RX6 129 "TapLoom$Section" "y2" "I").before _ s = true := hts _ (List.mem_of_getElem? (i := 5) rfl)
  have hfieldLink_RX6_132 : (Cond.fieldLink RX6 132 "TapLoom$Section" "way" "I").before _ s = true := hts _ (List.mem_of_getElem? (i := 6) rfl)
  have hmethodLink_RX6_135 : (Cond.methodLink RX6 135 yX4_coefficient).before _ s = true := hts _ (List.mem_of_getElem? (i := 59) rfl)
  have inX4 : ∀ w ∈ u_ws RX4 TX4 7, w ∈ wsX6_of := fun w h => (List.mem_cons_of_mem _ (List.mem_append_left _ (List.mem_append_left _ (List.mem_append_left _ (List.mem_append_left _ (List.mem_append_right _ h))))))
  have inX6 : ∀ w ∈ u_ws RX6 TX6 6, w ∈ wsX6_of := fun w h => (List.mem_cons_of_mem _ (List.mem_append_left _ (List.mem_append_left _ (List.mem_append_left _ (List.mem_append_left _ (List.mem_append_left _ (List.mem_append_right _ h)))))))
  have hP : va_P D ccl (([(t0, .inr (7, [.ref sl, .ref ch, .ref oh, .ref xh, .ref rh, .ref sh])), (sl, .inr (0, [.int smd, .ref ser, .int (nI N)])), (ser, .inl (cO, 10, .inr (.inr (.inr (.inr sf))))), (ch, .inr (1, [.ref lh])), (lh, .inr (0, [.int md, .ref df, .int 0]))] : va_W) ++ scL (scJ cI SA SB mc ms mw) (List.range N)) s.heap := hP
  have hl : lv_has ls 4 [(0, .ref t0), (1, .int j), (2, .int wh)] := hl
  refine lv_iload_n hx hb dX6_of_0 rfl (lv_at hl 1 rfl) ?_
  refine lv_aload_n hx hb dX6_of_1 rfl (lv_at hl 0 rfl) ?_
  refine va_get (D := D) (ci := 7) (v := .ref sl) (C := RX6) (T := TX6) (N := 6) hx hb hts inX6 hown hK hP 0 rfl rfl 0 (by decide) hfieldLink_RX6_10 (fun _ h9 => h9) rfl dX6_of_2 ?_
  have hPc := hP.sub (ws' := [(sl, .inr (0, [.int smd, .ref ser, .int (nI N)]))]) [1] rfl
  have hDc := hD.sub (ws' := [(sl, .inr (0, [.int smd, .ref ser, .int (nI N)]))]) [1] (by decide) rfl
  have hFc := va_free (wc := [(sl, .inr (0, [.int smd, .ref ser, .int (nI N)]))]) hD hS hA [1] rfl
  refine g_Vi (As := []) (rest := [.int j]) CF (c_Jx4a65c_size_8abf5 l D cI cJ cO df s.heap.size sl smd ser (nI N) ) (cwV 0 hts gX6_of_Jx4a65c_size_8abf5 rfl rfl rfl (by decide +kernel) ⟨Nat.le_of_ble_eq_true rfl, Nat.le_of_ble_eq_true rfl⟩) (va_recv hK hP (ci := 0) (q0 := 1) rfl rfl) hPc hK hDc hV hH hS hFc rfl hl.1 rfl (Nat.le_of_ble_eq_true rfl) dX6_of_5 ⟨Nat.le_of_ble_eq_true rfl, Nat.le_of_ble_eq_true rfl⟩ (fun r_5 w1 H1 locs1 hq hP1 hD1 hk hS hz => ?_)
  obtain ⟨rfl, hr_5⟩ := hq
  have hP := g_keepR hP hD [1] rfl hk hP1
  clear hPc hDc hFc hP1 hD1 hk hz
  generalize H1 = H at hP hS ⊢
  have hP : va_P D ccl (([(t0, .inr (7, [.ref sl, .ref ch, .ref oh, .ref xh, .ref rh, .ref sh])), (sl, .inr (0, [.int smd, .ref ser, .int (nI N)])), (ser, .inl (cO, 10, .inr (.inr (.inr (.inr sf))))), (ch, .inr (1, [.ref lh])), (lh, .inr (0, [.int md, .ref df, .int 0]))] : va_W) ++ scL (scJ cI SA SB mc ms mw) (List.range N)) H := hP
  have hD : va_D A (([(t0, .inr (7, [.ref sl, .ref ch, .ref oh, .ref xh, .ref rh, .ref sh])), (sl, .inr (0, [.int smd, .ref ser, .int (nI N)])), (ser, .inl (cO, 10, .inr (.inr (.inr (.inr sf))))), (ch, .inr (1, [.ref lh])), (lh, .inr (0, [.int md, .ref df, .int 0]))] : va_W) ++ scL (scJ cI SA SB mc ms mw) (List.range N)) := hD
  subst hr_5
  have hPc : va_P D ccl [] H := fun k q h => by simp at h
  have hDc : va_D A [] := ⟨fun i j p q h => by simp at h, fun k q h => by simp at h⟩
  have hFc := va_free (wc := []) hD hS hA [] rfl
  refine gx_Sv (As := [.int j, .int (nI N)]) (rest := []) CF (c_X6_requirePlace l hfl D cI cJ cO df H.size j N ) (va_cwS 2 hts gX6_of_X6_requirePlace rfl rfl rfl (by decide +kernel) ⟨Nat.le_of_ble_eq_true rfl, Nat.le_of_ble_eq_true rfl⟩)  hPc hK hDc hV hH hS hFc rfl hl.1 rfl (Nat.le_of_ble_eq_true rfl) dX6_of_8 ⟨Nat.le_of_ble_eq_true rfl, Nat.le_of_ble_eq_true rfl⟩ (fun E9 ce q9 w1 H1 locs1 hq hP1 hD1 hk hS hz hc1 hc2 hc3 => ?_) (fun w1 H1 locs1 hq hP1 hD1 hk hS hz => ?_)
  · obtain ⟨ew1, hq⟩ := hq
    dsimp only at ew1 hq
    subst ew1
    have hP := g_keep0 hP hk
    refine vx_widen (k := 2) (n := 12) (Nat.le_of_ble_eq_true rfl) (Nat.le_of_ble_eq_true rfl) ?_
    refine vx_out (fun z hz9 => absurd hz9 (hin z)) hlk hc1 hc2 hc3 (fun t ht hvm => ⟨(E9, (([(t0, .inr (7, [.ref sl, .ref ch, .ref oh, .ref xh, .ref rh, .ref sh])), (sl, .inr (0, [.int smd, .ref ser, .int (nI N)])), (ser, .inl (cO, 10, .inr (.inr (.inr (.inr sf))))), (ch, .inr (1, [.ref lh])), (lh, .inr (0, [.int md, .ref df, .int 0]))] : va_W) ++ scL (scJ cI SA SB mc ms mw) (List.range N))), ⟨rfl, px1 hq.2 hq.1⟩, ⟨rfl, by rw [ht]; exact hP, va_K.moved hvm hK, hD⟩, hS.F ht⟩) hS.2.2 (Nat.le_refl _) (Nat.le_refl _)
  obtain ⟨rfl, hq_8⟩ := hq
  have hP := g_keep0 hP hk
  clear hPc hDc hFc hP1 hD1 hk hz
  generalize H1 = H at hP hS ⊢
  have hP : va_P D ccl (([(t0, .inr (7, [.ref sl, .ref ch, .ref oh, .ref xh, .ref rh, .ref sh])), (sl, .inr (0, [.int smd, .ref ser, .int (nI N)])), (ser, .inl (cO, 10, .inr (.inr (.inr (.inr sf))))), (ch, .inr (1, [.ref lh])), (lh, .inr (0, [.int md, .ref df, .int 0]))] : va_W) ++ scL (scJ cI SA SB mc ms mw) (List.range N)) H := hP
  have hD : va_D A (([(t0, .inr (7, [.ref sl, .ref ch, .ref oh, .ref xh, .ref rh, .ref sh])), (sl, .inr (0, [.int smd, .ref ser, .int (nI N)])), (ser, .inl (cO, 10, .inr (.inr (.inr (.inr sf))))), (ch, .inr (1, [.ref lh])), (lh, .inr (0, [.int md, .ref df, .int 0]))] : va_W) ++ scL (scJ cI SA SB mc ms mw) (List.range N)) := hD
  refine lv_iload_n hx hb dX6_of_11 rfl (lv_at hl 2 rfl) ?_
  refine lv_iconst (v := 0) hx hb dX6_of_12 (by decide) ?_
  refine lv_bipush (v := 9) hx hb dX6_of_13 (by decide) ?_
  have hPc : va_P D ccl [] H := fun k q h => by simp at h
  have hDc : va_D A [] := ⟨fun i j p q h => by simp at h, fun k q h => by simp at h⟩
  have hFc := va_free (wc := []) hD hS hA [] rfl
  refine gx_Sv (As := [.int wh, .int 0, .int 9]) (rest := []) CF (c_X6_requireWithin l hfl D cI cJ cO df H.size wh 0 9 ) (va_cwS 3 hts gX6_of_X6_requireWithin rfl rfl rfl (by decide +kernel) ⟨Nat.le_of_ble_eq_true rfl, Nat.le_of_ble_eq_true rfl⟩)  hPc hK hDc hV hH hS hFc rfl hl.1 rfl (Nat.le_of_ble_eq_true rfl) dX6_of_15 ⟨Nat.le_of_ble_eq_true rfl, Nat.le_of_ble_eq_true rfl⟩ (fun E9 ce q9 w1 H1 locs1 hq hP1 hD1 hk hS hz hc1 hc2 hc3 => ?_) (fun w1 H1 locs1 hq hP1 hD1 hk hS hz => ?_)
  · obtain ⟨ew1, hq⟩ := hq
    dsimp only at ew1 hq
    subst ew1
    have hP := g_keep0 hP hk
    refine vx_widen (k := 2) (n := 12) (Nat.le_of_ble_eq_true rfl) (Nat.le_of_ble_eq_true rfl) ?_
    refine vx_out (fun z hz9 => absurd hz9 (hin z)) hlk hc1 hc2 hc3 (fun t ht hvm => ⟨(E9, (([(t0, .inr (7, [.ref sl, .ref ch, .ref oh, .ref xh, .ref rh, .ref sh])), (sl, .inr (0, [.int smd, .ref ser, .int (nI N)])), (ser, .inl (cO, 10, .inr (.inr (.inr (.inr sf))))), (ch, .inr (1, [.ref lh])), (lh, .inr (0, [.int md, .ref df, .int 0]))] : va_W) ++ scL (scJ cI SA SB mc ms mw) (List.range N))), ⟨rfl, px2 hq_8 hq.2 hq.1⟩, ⟨rfl, by rw [ht]; exact hP, va_K.moved hvm hK, hD⟩, hS.F ht⟩) hS.2.2 (Nat.le_refl _) (Nat.le_refl _)
  obtain ⟨rfl, hq_15⟩ := hq
  have hP := g_keep0 hP hk
  clear hPc hDc hFc hP1 hD1 hk hz
  generalize H1 = H at hP hS ⊢
  have hP : va_P D ccl (([(t0, .inr (7, [.ref sl, .ref ch, .ref oh, .ref xh, .ref rh, .ref sh])), (sl, .inr (0, [.int smd, .ref ser, .int (nI N)])), (ser, .inl (cO, 10, .inr (.inr (.inr (.inr sf))))), (ch, .inr (1, [.ref lh])), (lh, .inr (0, [.int md, .ref df, .int 0]))] : va_W) ++ scL (scJ cI SA SB mc ms mw) (List.range N)) H := hP
  have hD : va_D A (([(t0, .inr (7, [.ref sl, .ref ch, .ref oh, .ref xh, .ref rh, .ref sh])), (sl, .inr (0, [.int smd, .ref ser, .int (nI N)])), (ser, .inl (cO, 10, .inr (.inr (.inr (.inr sf))))), (ch, .inr (1, [.ref lh])), (lh, .inr (0, [.int md, .ref df, .int 0]))] : va_W) ++ scL (scJ cI SA SB mc ms mw) (List.range N)) := hD
  obtain ⟨J, hJ, rfl⟩ := isSec_get hN hq_8
  obtain ⟨W0, hW0, rfl⟩ := isIn_nat 9 (by decide) hq_15
  refine lv_aload_n hx hb dX6_of_18 rfl (lv_at hl 0 rfl) ?_
  refine va_get (D := D) (ci := 7) (v := .ref sl) (C := RX6) (T := TX6) (N := 6) hx hb hts inX6 hown hK hP 0 rfl rfl 0 (by decide) hfieldLink_RX6_10 (fun _ h9 => h9) rfl dX6_of_19 ?_
  refine lv_iload_n hx hb dX6_of_22 rfl (lv_at hl 1 rfl) ?_
  have hPc := hP.sub (ws' := [(sl, .inr (0, [.int smd, .ref ser, .int (nI N)])), (ser, .inl (cO, 10, .inr (.inr (.inr (.inr sf)))))]) [1, 2] rfl
  have hDc := hD.sub (ws' := [(sl, .inr (0, [.int smd, .ref ser, .int (nI N)])), (ser, .inl (cO, 10, .inr (.inr (.inr (.inr sf)))))]) [1, 2] (by decide) rfl
  have hFc := va_free (wc := [(sl, .inr (0, [.int smd, .ref ser, .int (nI N)])), (ser, .inl (cO, 10, .inr (.inr (.inr (.inr sf)))))]) hD hS hA [1, 2] rfl
  refine g_Vr (As := [.int (nI J)]) (rest := []) CF (c_Jx4a65c_get_915e3 l D cI cJ cO df H.size sl smd ser N sf J (SA J) hJ (by omega) (hsf J hJ)) (cwV 1 hts gX6_of_Jx4a65c_get_915e3 rfl rfl rfl (by decide +kernel) ⟨Nat.le_of_ble_eq_true rfl, Nat.le_of_ble_eq_true rfl⟩) (va_recv hK hP (ci := 0) (q0 := 1) rfl rfl) hPc hK hDc hV hH hS hFc rfl hl.1 rfl (Nat.le_of_ble_eq_true rfl) dX6_of_23 ⟨Nat.le_of_ble_eq_true rfl, Nat.le_of_ble_eq_true rfl⟩ (fun w1 H1 locs1 hq hP1 hD1 hk hS hz => ?_)
  obtain ⟨w1, a1⟩ := w1
  obtain ⟨ew1, hr_23⟩ := hq
  dsimp only at ew1 hP1 hD1 hr_23
  subst ew1
  have hP := g_keepR hP hD [1, 2] rfl hk hP1
  clear hPc hDc hFc hP1 hD1 hk hz
  generalize H1 = H at hP hS ⊢
  have hP : va_P D ccl (([(t0, .inr (7, [.ref sl, .ref ch, .ref oh, .ref xh, .ref rh, .ref sh])), (sl, .inr (0, [.int smd, .ref ser, .int (nI N)])), (ser, .inl (cO, 10, .inr (.inr (.inr (.inr sf))))), (ch, .inr (1, [.ref lh])), (lh, .inr (0, [.int md, .ref df, .int 0]))] : va_W) ++ scL (scJ cI SA SB mc ms mw) (List.range N)) H := hP
  have hD : va_D A (([(t0, .inr (7, [.ref sl, .ref ch, .ref oh, .ref xh, .ref rh, .ref sh])), (sl, .inr (0, [.int smd, .ref ser, .int (nI N)])), (ser, .inl (cO, 10, .inr (.inr (.inr (.inr sf))))), (ch, .inr (1, [.ref lh])), (lh, .inr (0, [.int md, .ref df, .int 0]))] : va_W) ++ scL (scJ cI SA SB mc ms mw) (List.range N)) := hD
  have hr_23 := hr_23.symm
  subst hr_23
  refine va_castS hx hb hown hclassLink_RX6_49 (gS4 hK) ((inT_scL (rgm hJ)).recv (X := [(t0, .inr (7, [.ref sl, .ref ch, .ref oh, .ref xh, .ref rh, .ref sh])), (sl, .inr (0, [.int smd, .ref ser, .int (nI N)])), (ser, .inl (cO, 10, .inr (.inr (.inr (.inr sf))))), (ch, .inr (1, [.ref lh])), (lh, .inr (0, [.int md, .ref df, .int 0]))]) hK hP) dX6_of_26 ?_
  refine lv_astore_n (lv' := [(3, .ref (SA J)), (0, .ref t0), (1, .int (nI J)), (2, .int (nI W0))]) hx hb dX6_of_29 rfl hl (by decide) rfl (fun ls hl => ?_)
  refine lv_iload_n hx hb dX6_of_30 rfl (lv_at hl 3 rfl) ?_
  by_cases s_31_0 : nI W0 = 5
  · have c_31_0 := s_31_0
    have c_31_0 : W0 = 5 := g_eq (a := W0) (b := 5) c_31_0 (by omega) (by omega)
    refine lv_tableIn (off := 33) (tgt := 64) hx hb dX6_of_31 (by rw [s_31_0]; decide) (by rw [s_31_0]; decide) (by rw [s_31_0]; rfl) (by decide) ?_
    refine lv_aload_n hx hb dX6_of_64 rfl (lv_at hl 0 rfl) ?_
    obtain ⟨hP, hD⟩ := sc_open (X := [(t0, .inr (7, [.ref sl, .ref ch, .ref oh, .ref xh, .ref rh, .ref sh])), (sl, .inr (0, [.int smd, .ref ser, .int (nI N)])), (ser, .inl (cO, 10, .inr (.inr (.inr (.inr sf))))), (ch, .inr (1, [.ref lh])), (lh, .inr (0, [.int md, .ref df, .int 0]))]) J hP hD (rgm hJ)
    have hP : va_P D ccl (([(t0, .inr (7, [.ref sl, .ref ch, .ref oh, .ref xh, .ref rh, .ref sh])), (sl, .inr (0, [.int smd, .ref ser, .int (nI N)])), (ser, .inl (cO, 10, .inr (.inr (.inr (.inr sf))))), (ch, .inr (1, [.ref lh])), (lh, .inr (0, [.int md, .ref df, .int 0])), (SA J, .inr (5, [.int (nI J), .int (mw J), .ref (SB J), .int (ms (4 * J)), .int (ms (4 * J + 1)), .int (ms (4 * J + 2)), .int (ms (4 * J + 3))])), (SB J, .inl (cI, 5, .inl (fun z9 => if z9 < 5 then mc (5 * J + z9) else 0)))] : va_W) ++ scL (scJ cI SA SB mc ms mw) ((List.range N).erase J)) H := hP
    have hD : va_D A (([(t0, .inr (7, [.ref sl, .ref ch, .ref oh, .ref xh, .ref rh, .ref sh])), (sl, .inr (0, [.int smd, .ref ser, .int (nI N)])), (ser, .inl (cO, 10, .inr (.inr (.inr (.inr sf))))), (ch, .inr (1, [.ref lh])), (lh, .inr (0, [.int md, .ref df, .int 0])), (SA J, .inr (5, [.int (nI J), .int (mw J), .ref (SB J), .int (ms (4 * J)), .int (ms (4 * J + 1)), .int (ms (4 * J + 2)), .int (ms (4 * J + 3))])), (SB J, .inl (cI, 5, .inl (fun z9 => if z9 < 5 then mc (5 * J + z9) else 0)))] : va_W) ++ scL (scJ cI SA SB mc ms mw) ((List.range N).erase J)) := hD
    have hPc := hP.sub (ws' := [((SA J), .inr (5, [.int (nI J), .int (mw J), .ref (SB J), .int (ms (4 * J)), .int (ms (4 * J + 1)), .int (ms (4 * J + 2)), .int (ms (4 * J + 3))])), ((SB J), .inl (cI, 5, .inl (fun z9 => if z9 < 5 then mc (5 * J + z9) else 0)))]) [5, 6] rfl
    have hDc := hD.sub (ws' := [((SA J), .inr (5, [.int (nI J), .int (mw J), .ref (SB J), .int (ms (4 * J)), .int (ms (4 * J + 1)), .int (ms (4 * J + 2)), .int (ms (4 * J + 3))])), ((SB J), .inl (cI, 5, .inl (fun z9 => if z9 < 5 then mc (5 * J + z9) else 0)))]) [5, 6] (by decide) rfl
    have hFc := va_free (wc := [((SA J), .inr (5, [.int (nI J), .int (mw J), .ref (SB J), .int (ms (4 * J)), .int (ms (4 * J + 1)), .int (ms (4 * J + 2)), .int (ms (4 * J + 3))])), ((SB J), .inl (cI, 5, .inl (fun z9 => if z9 < 5 then mc (5 * J + z9) else 0)))]) hD hS hA [5, 6] rfl
    refine g_Vi (As := []) (rest := []) CF (c_X4_isStable l D cI cJ cO df H.size (SA J) (SB J) (nI J) (mw J) (ms (4 * J)) (ms (4 * J + 1)) (ms (4 * J + 2)) (ms (4 * J + 3)) (fun z9 => if z9 < 5 then mc (5 * J + z9) else 0) ) (cwV 0 hts gX6_of_X4_isStable rfl rfl rfl (by decide +kernel) ⟨Nat.le_of_ble_eq_true rfl, Nat.le_of_ble_eq_true rfl⟩) (va_recv hK hP (ci := 5) (q0 := 5) rfl rfl) hPc hK hDc hV hH hS hFc rfl hl.1 rfl (Nat.le_of_ble_eq_true rfl) dX6_of_65 ⟨Nat.le_of_ble_eq_true rfl, Nat.le_of_ble_eq_true rfl⟩ (fun r_65 w1 H1 locs1 hq hP1 hD1 hk hS hz => ?_)
    obtain ⟨rfl, hr_65⟩ := hq
    have hP := g_keepR hP hD [5, 6] rfl hk hP1
    clear hPc hDc hFc hP1 hD1 hk hz
    generalize H1 = H at hP hS ⊢
    have hP : va_P D ccl (([(t0, .inr (7, [.ref sl, .ref ch, .ref oh, .ref xh, .ref rh, .ref sh])), (sl, .inr (0, [.int smd, .ref ser, .int (nI N)])), (ser, .inl (cO, 10, .inr (.inr (.inr (.inr sf))))), (ch, .inr (1, [.ref lh])), (lh, .inr (0, [.int md, .ref df, .int 0])), (SA J, .inr (5, [.int (nI J), .int (mw J), .ref (SB J), .int (ms (4 * J)), .int (ms (4 * J + 1)), .int (ms (4 * J + 2)), .int (ms (4 * J + 3))])), (SB J, .inl (cI, 5, .inl (fun z9 => if z9 < 5 then mc (5 * J + z9) else 0)))] : va_W) ++ scL (scJ cI SA SB mc ms mw) ((List.range N).erase J)) H := hP
    have hD : va_D A (([(t0, .inr (7, [.ref sl, .ref ch, .ref oh, .ref xh, .ref rh, .ref sh])), (sl, .inr (0, [.int smd, .ref ser, .int (nI N)])), (ser, .inl (cO, 10, .inr (.inr (.inr (.inr sf))))), (ch, .inr (1, [.ref lh])), (lh, .inr (0, [.int md, .ref df, .int 0])), (SA J, .inr (5, [.int (nI J), .int (mw J), .ref (SB J), .int (ms (4 * J)), .int (ms (4 * J + 1)), .int (ms (4 * J + 2)), .int (ms (4 * J + 3))])), (SB J, .inl (cI, 5, .inl (fun z9 => if z9 < 5 then mc (5 * J + z9) else 0)))] : va_W) ++ scL (scJ cI SA SB mc ms mw) ((List.range N).erase J)) := hD
    subst hr_65
    refine lv_topi (fun f ef => ?_)
    obtain rfl : f = mStab mc J := ef.trans (sStab_eq)
    obtain ⟨hP, hD⟩ := sc_close (X := [(t0, .inr (7, [.ref sl, .ref ch, .ref oh, .ref xh, .ref rh, .ref sh])), (sl, .inr (0, [.int smd, .ref ser, .int (nI N)])), (ser, .inl (cO, 10, .inr (.inr (.inr (.inr sf))))), (ch, .inr (1, [.ref lh])), (lh, .inr (0, [.int md, .ref df, .int 0]))]) (c2 := [(SA J, .inr (5, [.int (nI J), .int (mw J), .ref (SB J), .int (ms (4 * J)), .int (ms (4 * J + 1)), .int (ms (4 * J + 2)), .int (ms (4 * J + 3))])), (SB J, .inl (cI, 5, .inl (fun z9 => if z9 < 5 then mc (5 * J + z9) else 0)))]) (S := (scJ cI SA SB mc ms mw)) (S' := (scJ cI SA SB mc ms mw)) (js := (List.range N)) J hP hD (rgm hJ) rgn rfl (fun _ _ _ => rfl)
    have hP : va_P D ccl (([(t0, .inr (7, [.ref sl, .ref ch, .ref oh, .ref xh, .ref rh, .ref sh])), (sl, .inr (0, [.int smd, .ref ser, .int (nI N)])), (ser, .inl (cO, 10, .inr (.inr (.inr (.inr sf))))), (ch, .inr (1, [.ref lh])), (lh, .inr (0, [.int md, .ref df, .int 0]))] : va_W) ++ scL (scJ cI SA SB mc ms mw) (List.range N)) H := hP
    have hD : va_D A (([(t0, .inr (7, [.ref sl, .ref ch, .ref oh, .ref xh, .ref rh, .ref sh])), (sl, .inr (0, [.int smd, .ref ser, .int (nI N)])), (ser, .inl (cO, 10, .inr (.inr (.inr (.inr sf))))), (ch, .inr (1, [.ref lh])), (lh, .inr (0, [.int md, .ref df, .int 0]))] : va_W) ++ scL (scJ cI SA SB mc ms mw) (List.range N)) := hD
    refine lv_if_eq (tgt := 75) hx hb dX6_of_68 (by decide) (fun c_68 => ?_) (fun c_68 => ?_)
    · refine lv_iconst (v := 0) hx hb dX6_of_75 (by decide) ?_
      refine vx_ret ?_
      refine g_iret (v := 0) hx hb hr hlk hP hK hD hS (Nat.le_of_ble_eq_true rfl) (Nat.le_of_ble_eq_true rfl) dX6_of_76 ?_
      have e1 : gN (nI J) = J := gN_nI (by omega)
      have e2 : gN (nI W0) = W0 := gN_nI (by omega)
      exact ⟨rfl, by
        rw [e1, e2]
        (repeat (first | rw [if_pos (by omega)] | rw [if_neg (by omega)]))
        first | exact c_68.symm | exact ((mStab_01 mc J).resolve_left c_68).symm, gGoOk hq_8 hq_15 (by decide)⟩
    · refine lv_iconst (v := 1) hx hb dX6_of_71 (by decide) ?_
      refine lv_goto (tgt := 76) hx hb dX6_of_72 (by decide) ?_
      refine vx_ret ?_
      refine g_iret (v := 1) hx hb hr hlk hP hK hD hS (Nat.le_of_ble_eq_true rfl) (Nat.le_of_ble_eq_true rfl) dX6_of_76 ?_
      have e1 : gN (nI J) = J := gN_nI (by omega)
      have e2 : gN (nI W0) = W0 := gN_nI (by omega)
      exact ⟨rfl, by
        rw [e1, e2]
        (repeat (first | rw [if_pos (by omega)] | rw [if_neg (by omega)]))
        first | exact c_68.symm | exact ((mStab_01 mc J).resolve_left c_68).symm, gGoOk hq_8 hq_15 (by decide)⟩
  have c_31_0 := s_31_0
  have c_31_0 : W0 ≠ 5 := g_ne (a := W0) (b := 5) c_31_0 (by omega) (by omega)
  by_cases s_31_1 : nI W0 = 6
  · have c_31_1 := s_31_1
    have c_31_1 : W0 = 6 := g_eq (a := W0) (b := 6) c_31_1 (by omega) (by omega)
    refine lv_tableIn (off := 46) (tgt := 77) hx hb dX6_of_31 (by rw [s_31_1]; decide) (by rw [s_31_1]; decide) (by rw [s_31_1]; rfl) (by decide) ?_
    refine lv_aload_n hx hb dX6_of_77 rfl (lv_at hl 1 rfl) ?_
    refine va_get (D := D) (ci := 7) (v := .ref ch) (C := RX6) (T := TX6) (N := 6) hx hb hts inX6 hown hK hP 0 rfl rfl 1 (by decide) hfieldLink_RX6_19 (fun _ h9 => h9) rfl dX6_of_78 ?_
    refine lv_aload_n hx hb dX6_of_81 rfl (lv_at hl 0 rfl) ?_
    have hPc := hP.sub (ws' := [(ch, .inr (1, [.ref lh])), (lh, .inr (0, [.int md, .ref df, .int 0]))]) [3, 4] rfl
    have hDc := hD.sub (ws' := [(ch, .inr (1, [.ref lh])), (lh, .inr (0, [.int md, .ref df, .int 0]))]) [3, 4] (by decide) rfl
    have hFc := va_free (wc := [(ch, .inr (1, [.ref lh])), (lh, .inr (0, [.int md, .ref df, .int 0]))]) hD hS hA [3, 4] rfl
    refine g_Vi (As := [.ref (SA J)]) (rest := []) CF (c_X0_placeOf_e l D cI cJ cO df H.size ch lh md (SA J) ) (cwV 1 hts gX6_of_X0_placeOf rfl rfl rfl (by decide +kernel) ⟨Nat.le_of_ble_eq_true rfl, Nat.le_of_ble_eq_true rfl⟩) (va_recv hK hP (ci := 1) (q0 := 3) rfl rfl) hPc hK hDc hV hH hS hFc rfl hl.1 rfl (Nat.le_of_ble_eq_true rfl) dX6_of_82 ⟨Nat.le_of_ble_eq_true rfl, Nat.le_of_ble_eq_true rfl⟩ (fun r_82 w1 H1 locs1 hq hP1 hD1 hk hS hz => ?_)
    obtain ⟨rfl, hr_82⟩ := hq
    have hP := g_keepR hP hD [3, 4] rfl hk hP1
    clear hPc hDc hFc hP1 hD1 hk hz
    generalize H1 = H at hP hS ⊢
    have hP : va_P D ccl (([(t0, .inr (7, [.ref sl, .ref ch, .ref oh, .ref xh, .ref rh, .ref sh])), (sl, .inr (0, [.int smd, .ref ser, .int (nI N)])), (ser, .inl (cO, 10, .inr (.inr (.inr (.inr sf))))), (ch, .inr (1, [.ref lh])), (lh, .inr (0, [.int md, .ref df, .int 0]))] : va_W) ++ scL (scJ cI SA SB mc ms mw) (List.range N)) H := hP
    have hD : va_D A (([(t0, .inr (7, [.ref sl, .ref ch, .ref oh, .ref xh, .ref rh, .ref sh])), (sl, .inr (0, [.int smd, .ref ser, .int (nI N)])), (ser, .inl (cO, 10, .inr (.inr (.inr (.inr sf))))), (ch, .inr (1, [.ref lh])), (lh, .inr (0, [.int md, .ref df, .int 0]))] : va_W) ++ scL (scJ cI SA SB mc ms mw) (List.range N)) := hD
    subst hr_82
    refine vx_ret ?_
    refine g_iret (v := (-1)) hx hb hr hlk hP hK hD hS (Nat.le_of_ble_eq_true rfl) (Nat.le_of_ble_eq_true rfl) dX6_of_85 ?_
    have e1 : gN (nI J) = J := gN_nI (by omega)
    have e2 : gN (nI W0) = W0 := gN_nI (by omega)
    exact ⟨rfl, by
      rw [e1, e2]
      (repeat (first | rw [if_pos (by omega)] | rw [if_neg (by omega)]))
      try rfl, gGoOk hq_8 hq_15 (by decide)⟩
  have c_31_1 := s_31_1
  have c_31_1 : W0 ≠ 6 := g_ne (a := W0) (b := 6) c_31_1 (by omega) (by omega)
  by_cases s_31_2 : nI W0 = 7
  · have c_31_2 := s_31_2
    have c_31_2 : W0 = 7 := g_eq (a := W0) (b := 7) c_31_2 (by omega) (by omega)
    refine lv_tableIn (off := 55) (tgt := 86) hx hb dX6_of_31 (by rw [s_31_2]; decide) (by rw [s_31_2]; decide) (by rw [s_31_2]; rfl) (by decide) ?_
    obtain ⟨hP, hD⟩ := sc_open (X := [(t0, .inr (7, [.ref sl, .ref ch, .ref oh, .ref xh, .ref rh, .ref sh])), (sl, .inr (0, [.int smd, .ref ser, .int (nI N)])), (ser, .inl (cO, 10, .inr (.inr (.inr (.inr sf))))), (ch, .inr (1, [.ref lh])), (lh, .inr (0, [.int md, .ref df, .int 0]))]) J hP hD (rgm hJ)
    have hP : va_P D ccl (([(t0, .inr (7, [.ref sl, .ref ch, .ref oh, .ref xh, .ref rh, .ref sh])), (sl, .inr (0, [.int smd, .ref ser, .int (nI N)])), (ser, .inl (cO, 10, .inr (.inr (.inr (.inr sf))))), (ch, .inr (1, [.ref lh])), (lh, .inr (0, [.int md, .ref df, .int 0])), (SA J, .inr (5, [.int (nI J), .int (mw J), .ref (SB J), .int (ms (4 * J)), .int (ms (4 * J + 1)), .int (ms (4 * J + 2)), .int (ms (4 * J + 3))])), (SB J, .inl (cI, 5, .inl (fun z9 => if z9 < 5 then mc (5 * J + z9) else 0)))] : va_W) ++ scL (scJ cI SA SB mc ms mw) ((List.range N).erase J)) H := hP
    have hD : va_D A (([(t0, .inr (7, [.ref sl, .ref ch, .ref oh, .ref xh, .ref rh, .ref sh])), (sl, .inr (0, [.int smd, .ref ser, .int (nI N)])), (ser, .inl (cO, 10, .inr (.inr (.inr (.inr sf))))), (ch, .inr (1, [.ref lh])), (lh, .inr (0, [.int md, .ref df, .int 0])), (SA J, .inr (5, [.int (nI J), .int (mw J), .ref (SB J), .int (ms (4 * J)), .int (ms (4 * J + 1)), .int (ms (4 * J + 2)), .int (ms (4 * J + 3))])), (SB J, .inl (cI, 5, .inl (fun z9 => if z9 < 5 then mc (5 * J + z9) else 0)))] : va_W) ++ scL (scJ cI SA SB mc ms mw) ((List.range N).erase J)) := hD
    refine lv_aload_n hx hb dX6_of_86 rfl (lv_at hl 0 rfl) ?_
    refine va_get (D := D) (ci := 5) (v := .int (ms (4 * J + 2))) (C := RX4) (T := TX4) (N := 7) hx hb hts inX4 hown hK hP 5 rfl rfl 5 (by decide) hfieldLink_RX6_125 (fun _ h9 => h9) rfl dX6_of_87 ?_
    obtain ⟨hP, hD⟩ := sc_close (X := [(t0, .inr (7, [.ref sl, .ref ch, .ref oh, .ref xh, .ref rh, .ref sh])), (sl, .inr (0, [.int smd, .ref ser, .int (nI N)])), (ser, .inl (cO, 10, .inr (.inr (.inr (.inr sf))))), (ch, .inr (1, [.ref lh])), (lh, .inr (0, [.int md, .ref df, .int 0]))]) (c2 := [(SA J, .inr (5, [.int (nI J), .int (mw J), .ref (SB J), .int (ms (4 * J)), .int (ms (4 * J + 1)), .int (ms (4 * J + 2)), .int (ms (4 * J + 3))])), (SB J, .inl (cI, 5, .inl (fun z9 => if z9 < 5 then mc (5 * J + z9) else 0)))]) (S := (scJ cI SA SB mc ms mw)) (S' := (scJ cI SA SB mc ms mw)) (js := (List.range N)) J hP hD (rgm hJ) rgn rfl (fun _ _ _ => rfl)
    have hP : va_P D ccl (([(t0, .inr (7, [.ref sl, .ref ch, .ref oh, .ref xh, .ref rh, .ref sh])), (sl, .inr (0, [.int smd, .ref ser, .int (nI N)])), (ser, .inl (cO, 10, .inr (.inr (.inr (.inr sf))))), (ch, .inr (1, [.ref lh])), (lh, .inr (0, [.int md, .ref df, .int 0]))] : va_W) ++ scL (scJ cI SA SB mc ms mw) (List.range N)) H := hP
    have hD : va_D A (([(t0, .inr (7, [.ref sl, .ref ch, .ref oh, .ref xh, .ref rh, .ref sh])), (sl, .inr (0, [.int smd, .ref ser, .int (nI N)])), (ser, .inl (cO, 10, .inr (.inr (.inr (.inr sf))))), (ch, .inr (1, [.ref lh])), (lh, .inr (0, [.int md, .ref df, .int 0]))] : va_W) ++ scL (scJ cI SA SB mc ms mw) (List.range N)) := hD
    refine vx_ret ?_
    refine g_iret (v := ms (4 * J + 2)) hx hb hr hlk hP hK hD hS (Nat.le_of_ble_eq_true rfl) (Nat.le_of_ble_eq_true rfl) dX6_of_90 ?_
    have e1 : gN (nI J) = J := gN_nI (by omega)
    have e2 : gN (nI W0) = W0 := gN_nI (by omega)
    exact ⟨rfl, by
      rw [e1, e2]
      (repeat (first | rw [if_pos (by omega)] | rw [if_neg (by omega)]))
      exact congrArg ms (by omega), gGoOk hq_8 hq_15 (by decide)⟩
  have c_31_2 := s_31_2
  have c_31_2 : W0 ≠ 7 := g_ne (a := W0) (b := 7) c_31_2 (by omega) (by omega)
  by_cases s_31_3 : nI W0 = 8
  · have c_31_3 := s_31_3
    have c_31_3 : W0 = 8 := g_eq (a := W0) (b := 8) c_31_3 (by omega) (by omega)
    refine lv_tableIn (off := 60) (tgt := 91) hx hb dX6_of_31 (by rw [s_31_3]; decide) (by rw [s_31_3]; decide) (by rw [s_31_3]; rfl) (by decide) ?_
    obtain ⟨hP, hD⟩ := sc_open (X := [(t0, .inr (7, [.ref sl, .ref ch, .ref oh, .ref xh, .ref rh, .ref sh])), (sl, .inr (0, [.int smd, .ref ser, .int (nI N)])), (ser, .inl (cO, 10, .inr (.inr (.inr (.inr sf))))), (ch, .inr (1, [.ref lh])), (lh, .inr (0, [.int md, .ref df, .int 0]))]) J hP hD (rgm hJ)
    have hP : va_P D ccl (([(t0, .inr (7, [.ref sl, .ref ch, .ref oh, .ref xh, .ref rh, .ref sh])), (sl, .inr (0, [.int smd, .ref ser, .int (nI N)])), (ser, .inl (cO, 10, .inr (.inr (.inr (.inr sf))))), (ch, .inr (1, [.ref lh])), (lh, .inr (0, [.int md, .ref df, .int 0])), (SA J, .inr (5, [.int (nI J), .int (mw J), .ref (SB J), .int (ms (4 * J)), .int (ms (4 * J + 1)), .int (ms (4 * J + 2)), .int (ms (4 * J + 3))])), (SB J, .inl (cI, 5, .inl (fun z9 => if z9 < 5 then mc (5 * J + z9) else 0)))] : va_W) ++ scL (scJ cI SA SB mc ms mw) ((List.range N).erase J)) H := hP
    have hD : va_D A (([(t0, .inr (7, [.ref sl, .ref ch, .ref oh, .ref xh, .ref rh, .ref sh])), (sl, .inr (0, [.int smd, .ref ser, .int (nI N)])), (ser, .inl (cO, 10, .inr (.inr (.inr (.inr sf))))), (ch, .inr (1, [.ref lh])), (lh, .inr (0, [.int md, .ref df, .int 0])), (SA J, .inr (5, [.int (nI J), .int (mw J), .ref (SB J), .int (ms (4 * J)), .int (ms (4 * J + 1)), .int (ms (4 * J + 2)), .int (ms (4 * J + 3))])), (SB J, .inl (cI, 5, .inl (fun z9 => if z9 < 5 then mc (5 * J + z9) else 0)))] : va_W) ++ scL (scJ cI SA SB mc ms mw) ((List.range N).erase J)) := hD
    refine lv_aload_n hx hb dX6_of_91 rfl (lv_at hl 0 rfl) ?_
    refine va_get (D := D) (ci := 5) (v := .int (ms (4 * J + 3))) (C := RX4) (T := TX4) (N := 7) hx hb hts inX4 hown hK hP 5 rfl rfl 6 (by decide) hfieldLink_RX6_129 (fun _ h9 => h9) rfl dX6_of_92 ?_
    obtain ⟨hP, hD⟩ := sc_close (X := [(t0, .inr (7, [.ref sl, .ref ch, .ref oh, .ref xh, .ref rh, .ref sh])), (sl, .inr (0, [.int smd, .ref ser, .int (nI N)])), (ser, .inl (cO, 10, .inr (.inr (.inr (.inr sf))))), (ch, .inr (1, [.ref lh])), (lh, .inr (0, [.int md, .ref df, .int 0]))]) (c2 := [(SA J, .inr (5, [.int (nI J), .int (mw J), .ref (SB J), .int (ms (4 * J)), .int (ms (4 * J + 1)), .int (ms (4 * J + 2)), .int (ms (4 * J + 3))])), (SB J, .inl (cI, 5, .inl (fun z9 => if z9 < 5 then mc (5 * J + z9) else 0)))]) (S := (scJ cI SA SB mc ms mw)) (S' := (scJ cI SA SB mc ms mw)) (js := (List.range N)) J hP hD (rgm hJ) rgn rfl (fun _ _ _ => rfl)
    have hP : va_P D ccl (([(t0, .inr (7, [.ref sl, .ref ch, .ref oh, .ref xh, .ref rh, .ref sh])), (sl, .inr (0, [.int smd, .ref ser, .int (nI N)])), (ser, .inl (cO, 10, .inr (.inr (.inr (.inr sf))))), (ch, .inr (1, [.ref lh])), (lh, .inr (0, [.int md, .ref df, .int 0]))] : va_W) ++ scL (scJ cI SA SB mc ms mw) (List.range N)) H := hP
    have hD : va_D A (([(t0, .inr (7, [.ref sl, .ref ch, .ref oh, .ref xh, .ref rh, .ref sh])), (sl, .inr (0, [.int smd, .ref ser, .int (nI N)])), (ser, .inl (cO, 10, .inr (.inr (.inr (.inr sf))))), (ch, .inr (1, [.ref lh])), (lh, .inr (0, [.int md, .ref df, .int 0]))] : va_W) ++ scL (scJ cI SA SB mc ms mw) (List.range N)) := hD
    refine vx_ret ?_
    refine g_iret (v := ms (4 * J + 3)) hx hb hr hlk hP hK hD hS (Nat.le_of_ble_eq_true rfl) (Nat.le_of_ble_eq_true rfl) dX6_of_95 ?_
    have e1 : gN (nI J) = J := gN_nI (by omega)
    have e2 : gN (nI W0) = W0 := gN_nI (by omega)
    exact ⟨rfl, by
      rw [e1, e2]
      (repeat (first | rw [if_pos (by omega)] | rw [if_neg (by omega)]))
      exact congrArg ms (by omega), gGoOk hq_8 hq_15 (by decide)⟩
  have c_31_3 := s_31_3
  have c_31_3 : W0 ≠ 8 := g_ne (a := W0) (b := 8) c_31_3 (by omega) (by omega)
  by_cases s_31_4 : nI W0 = 9
  · have c_31_4 := s_31_4
    have c_31_4 : W0 = 9 := g_eq (a := W0) (b := 9) c_31_4 (by omega) (by omega)
    refine lv_tableIn (off := 65) (tgt := 96) hx hb dX6_of_31 (by rw [s_31_4]; decide) (by rw [s_31_4]; decide) (by rw [s_31_4]; rfl) (by decide) ?_
    obtain ⟨hP, hD⟩ := sc_open (X := [(t0, .inr (7, [.ref sl, .ref ch, .ref oh, .ref xh, .ref rh, .ref sh])), (sl, .inr (0, [.int smd, .ref ser, .int (nI N)])), (ser, .inl (cO, 10, .inr (.inr (.inr (.inr sf))))), (ch, .inr (1, [.ref lh])), (lh, .inr (0, [.int md, .ref df, .int 0]))]) J hP hD (rgm hJ)
    have hP : va_P D ccl (([(t0, .inr (7, [.ref sl, .ref ch, .ref oh, .ref xh, .ref rh, .ref sh])), (sl, .inr (0, [.int smd, .ref ser, .int (nI N)])), (ser, .inl (cO, 10, .inr (.inr (.inr (.inr sf))))), (ch, .inr (1, [.ref lh])), (lh, .inr (0, [.int md, .ref df, .int 0])), (SA J, .inr (5, [.int (nI J), .int (mw J), .ref (SB J), .int (ms (4 * J)), .int (ms (4 * J + 1)), .int (ms (4 * J + 2)), .int (ms (4 * J + 3))])), (SB J, .inl (cI, 5, .inl (fun z9 => if z9 < 5 then mc (5 * J + z9) else 0)))] : va_W) ++ scL (scJ cI SA SB mc ms mw) ((List.range N).erase J)) H := hP
    have hD : va_D A (([(t0, .inr (7, [.ref sl, .ref ch, .ref oh, .ref xh, .ref rh, .ref sh])), (sl, .inr (0, [.int smd, .ref ser, .int (nI N)])), (ser, .inl (cO, 10, .inr (.inr (.inr (.inr sf))))), (ch, .inr (1, [.ref lh])), (lh, .inr (0, [.int md, .ref df, .int 0])), (SA J, .inr (5, [.int (nI J), .int (mw J), .ref (SB J), .int (ms (4 * J)), .int (ms (4 * J + 1)), .int (ms (4 * J + 2)), .int (ms (4 * J + 3))])), (SB J, .inl (cI, 5, .inl (fun z9 => if z9 < 5 then mc (5 * J + z9) else 0)))] : va_W) ++ scL (scJ cI SA SB mc ms mw) ((List.range N).erase J)) := hD
    refine lv_aload_n hx hb dX6_of_96 rfl (lv_at hl 0 rfl) ?_
    refine va_get (D := D) (ci := 5) (v := .int (mw J)) (C := RX4) (T := TX4) (N := 7) hx hb hts inX4 hown hK hP 5 rfl rfl 1 (by decide) hfieldLink_RX6_132 (fun _ h9 => h9) rfl dX6_of_97 ?_
    obtain ⟨hP, hD⟩ := sc_close (X := [(t0, .inr (7, [.ref sl, .ref ch, .ref oh, .ref xh, .ref rh, .ref sh])), (sl, .inr (0, [.int smd, .ref ser, .int (nI N)])), (ser, .inl (cO, 10, .inr (.inr (.inr (.inr sf))))), (ch, .inr (1, [.ref lh])), (lh, .inr (0, [.int md, .ref df, .int 0]))]) (c2 := [(SA J, .inr (5, [.int (nI J), .int (mw J), .ref (SB J), .int (ms (4 * J)), .int (ms (4 * J + 1)), .int (ms (4 * J + 2)), .int (ms (4 * J + 3))])), (SB J, .inl (cI, 5, .inl (fun z9 => if z9 < 5 then mc (5 * J + z9) else 0)))]) (S := (scJ cI SA SB mc ms mw)) (S' := (scJ cI SA SB mc ms mw)) (js := (List.range N)) J hP hD (rgm hJ) rgn rfl (fun _ _ _ => rfl)
    have hP : va_P D ccl (([(t0, .inr (7, [.ref sl, .ref ch, .ref oh, .ref xh, .ref rh, .ref sh])), (sl, .inr (0, [.int smd, .ref ser, .int (nI N)])), (ser, .inl (cO, 10, .inr (.inr (.inr (.inr sf))))), (ch, .inr (1, [.ref lh])), (lh, .inr (0, [.int md, .ref df, .int 0]))] : va_W) ++ scL (scJ cI SA SB mc ms mw) (List.range N)) H := hP
    have hD : va_D A (([(t0, .inr (7, [.ref sl, .ref ch, .ref oh, .ref xh, .ref rh, .ref sh])), (sl, .inr (0, [.int smd, .ref ser, .int (nI N)])), (ser, .inl (cO, 10, .inr (.inr (.inr (.inr sf))))), (ch, .inr (1, [.ref lh])), (lh, .inr (0, [.int md, .ref df, .int 0]))] : va_W) ++ scL (scJ cI SA SB mc ms mw) (List.range N)) := hD
    refine vx_ret ?_
    refine g_iret (v := mw J) hx hb hr hlk hP hK hD hS (Nat.le_of_ble_eq_true rfl) (Nat.le_of_ble_eq_true rfl) dX6_of_100 ?_
    have e1 : gN (nI J) = J := gN_nI (by omega)
    have e2 : gN (nI W0) = W0 := gN_nI (by omega)
    exact ⟨rfl, by
      rw [e1, e2]
      (repeat (first | rw [if_pos (by omega)] | rw [if_neg (by omega)]))
      try rfl, gGoOk hq_8 hq_15 (by decide)⟩
  have c_31_4 := s_31_4
  have c_31_4 : W0 ≠ 9 := g_ne (a := W0) (b := 9) c_31_4 (by omega) (by omega)
  refine lv_tableOut (tgt := 101) hx hb dX6_of_31 (by have z0 := lv_neT (a := 5) s_31_0 (by decide); have z1 := lv_neT (a := 6) s_31_1 (by decide); have z2 := lv_neT (a := 7) s_31_2 (by decide); have z3 := lv_neT (a := 8) s_31_3 (by decide); have z4 := lv_neT (a := 9) s_31_4 (by decide); omega) (by decide) ?_
  refine lv_aload_n hx hb dX6_of_101 rfl (lv_at hl 0 rfl) ?_
  refine lv_iload_n hx hb dX6_of_102 rfl (lv_at hl 3 rfl) ?_
  obtain ⟨hP, hD⟩ := sc_open (X := [(t0, .inr (7, [.ref sl, .ref ch, .ref oh, .ref xh, .ref rh, .ref sh])), (sl, .inr (0, [.int smd, .ref ser, .int (nI N)])), (ser, .inl (cO, 10, .inr (.inr (.inr (.inr sf))))), (ch, .inr (1, [.ref lh])), (lh, .inr (0, [.int md, .ref df, .int 0]))]) J hP hD (rgm hJ)
  have hP : va_P D ccl (([(t0, .inr (7, [.ref sl, .ref ch, .ref oh, .ref xh, .ref rh, .ref sh])), (sl, .inr (0, [.int smd, .ref ser, .int (nI N)])), (ser, .inl (cO, 10, .inr (.inr (.inr (.inr sf))))), (ch, .inr (1, [.ref lh])), (lh, .inr (0, [.int md, .ref df, .int 0])), (SA J, .inr (5, [.int (nI J), .int (mw J), .ref (SB J), .int (ms (4 * J)), .int (ms (4 * J + 1)), .int (ms (4 * J + 2)), .int (ms (4 * J + 3))])), (SB J, .inl (cI, 5, .inl (fun z9 => if z9 < 5 then mc (5 * J + z9) else 0)))] : va_W) ++ scL (scJ cI SA SB mc ms mw) ((List.range N).erase J)) H := hP
  have hD : va_D A (([(t0, .inr (7, [.ref sl, .ref ch, .ref oh, .ref xh, .ref rh, .ref sh])), (sl, .inr (0, [.int smd, .ref ser, .int (nI N)])), (ser, .inl (cO, 10, .inr (.inr (.inr (.inr sf))))), (ch, .inr (1, [.ref lh])), (lh, .inr (0, [.int md, .ref df, .int 0])), (SA J, .inr (5, [.int (nI J), .int (mw J), .ref (SB J), .int (ms (4 * J)), .int (ms (4 * J + 1)), .int (ms (4 * J + 2)), .int (ms (4 * J + 3))])), (SB J, .inl (cI, 5, .inl (fun z9 => if z9 < 5 then mc (5 * J + z9) else 0)))] : va_W) ++ scL (scJ cI SA SB mc ms mw) ((List.range N).erase J)) := hD
  have hPc := hP.sub (ws' := [((SA J), .inr (5, [.int (nI J), .int (mw J), .ref (SB J), .int (ms (4 * J)), .int (ms (4 * J + 1)), .int (ms (4 * J + 2)), .int (ms (4 * J + 3))])), ((SB J), .inl (cI, 5, .inl (fun z9 => if z9 < 5 then mc (5 * J + z9) else 0)))]) [5, 6] rfl
  have hDc := hD.sub (ws' := [((SA J), .inr (5, [.int (nI J), .int (mw J), .ref (SB J), .int (ms (4 * J)), .int (ms (4 * J + 1)), .int (ms (4 * J + 2)), .int (ms (4 * J + 3))])), ((SB J), .inl (cI, 5, .inl (fun z9 => if z9 < 5 then mc (5 * J + z9) else 0)))]) [5, 6] (by decide) rfl
  have hFc := va_free (wc := [((SA J), .inr (5, [.int (nI J), .int (mw J), .ref (SB J), .int (ms (4 * J)), .int (ms (4 * J + 1)), .int (ms (4 * J + 2)), .int (ms (4 * J + 3))])), ((SB J), .inl (cI, 5, .inl (fun z9 => if z9 < 5 then mc (5 * J + z9) else 0)))]) hD hS hA [5, 6] rfl
  refine g_Vi (As := [.int (nI W0)]) (rest := []) CF (c_X4_coefficient l D cI cJ cO df H.size (SA J) (SB J) (nI J) (mw J) (ms (4 * J)) (ms (4 * J + 1)) (ms (4 * J + 2)) (ms (4 * J + 3)) (fun z9 => if z9 < 5 then mc (5 * J + z9) else 0) W0 (by omega)) (cwV 1 hts gX6_of_X4_coefficient rfl rfl rfl (by decide +kernel) ⟨Nat.le_of_ble_eq_true rfl, Nat.le_of_ble_eq_true rfl⟩) (va_recv hK hP (ci := 5) (q0 := 5) rfl rfl) hPc hK hDc hV hH hS hFc rfl hl.1 rfl (Nat.le_of_ble_eq_true rfl) dX6_of_103 ⟨Nat.le_of_ble_eq_true rfl, Nat.le_of_ble_eq_true rfl⟩ (fun r_103 w1 H1 locs1 hq hP1 hD1 hk hS hz => ?_)
  obtain ⟨rfl, hr_103⟩ := hq
  have hP := g_keepR hP hD [5, 6] rfl hk hP1
  clear hPc hDc hFc hP1 hD1 hk hz
  generalize H1 = H at hP hS ⊢
  have hP : va_P D ccl (([(t0, .inr (7, [.ref sl, .ref ch, .ref oh, .ref xh, .ref rh, .ref sh])), (sl, .inr (0, [.int smd, .ref ser, .int (nI N)])), (ser, .inl (cO, 10, .inr (.inr (.inr (.inr sf))))), (ch, .inr (1, [.ref lh])), (lh, .inr (0, [.int md, .ref df, .int 0])), (SA J, .inr (5, [.int (nI J), .int (mw J), .ref (SB J), .int (ms (4 * J)), .int (ms (4 * J + 1)), .int (ms (4 * J + 2)), .int (ms (4 * J + 3))])), (SB J, .inl (cI, 5, .inl (fun z9 => if z9 < 5 then mc (5 * J + z9) else 0)))] : va_W) ++ scL (scJ cI SA SB mc ms mw) ((List.range N).erase J)) H := hP
  have hD : va_D A (([(t0, .inr (7, [.ref sl, .ref ch, .ref oh, .ref xh, .ref rh, .ref sh])), (sl, .inr (0, [.int smd, .ref ser, .int (nI N)])), (ser, .inl (cO, 10, .inr (.inr (.inr (.inr sf))))), (ch, .inr (1, [.ref lh])), (lh, .inr (0, [.int md, .ref df, .int 0])), (SA J, .inr (5, [.int (nI J), .int (mw J), .ref (SB J), .int (ms (4 * J)), .int (ms (4 * J + 1)), .int (ms (4 * J + 2)), .int (ms (4 * J + 3))])), (SB J, .inl (cI, 5, .inl (fun z9 => if z9 < 5 then mc (5 * J + z9) else 0)))] : va_W) ++ scL (scJ cI SA SB mc ms mw) ((List.range N).erase J)) := hD
  subst hr_103
  refine lv_topi (fun f ef => ?_)
  obtain rfl : f = mc (5 * J + W0) := ef.trans (if_pos (by omega))
  obtain ⟨hP, hD⟩ := sc_close (X := [(t0, .inr (7, [.ref sl, .ref ch, .ref oh, .ref xh, .ref rh, .ref sh])), (sl, .inr (0, [.int smd, .ref ser, .int (nI N)])), (ser, .inl (cO, 10, .inr (.inr (.inr (.inr sf))))), (ch, .inr (1, [.ref lh])), (lh, .inr (0, [.int md, .ref df, .int 0]))]) (c2 := [(SA J, .inr (5, [.int (nI J), .int (mw J), .ref (SB J), .int (ms (4 * J)), .int (ms (4 * J + 1)), .int (ms (4 * J + 2)), .int (ms (4 * J + 3))])), (SB J, .inl (cI, 5, .inl (fun z9 => if z9 < 5 then mc (5 * J + z9) else 0)))]) (S := (scJ cI SA SB mc ms mw)) (S' := (scJ cI SA SB mc ms mw)) (js := (List.range N)) J hP hD (rgm hJ) rgn rfl (fun _ _ _ => rfl)
  have hP : va_P D ccl (([(t0, .inr (7, [.ref sl, .ref ch, .ref oh, .ref xh, .ref rh, .ref sh])), (sl, .inr (0, [.int smd, .ref ser, .int (nI N)])), (ser, .inl (cO, 10, .inr (.inr (.inr (.inr sf))))), (ch, .inr (1, [.ref lh])), (lh, .inr (0, [.int md, .ref df, .int 0]))] : va_W) ++ scL (scJ cI SA SB mc ms mw) (List.range N)) H := hP
  have hD : va_D A (([(t0, .inr (7, [.ref sl, .ref ch, .ref oh, .ref xh, .ref rh, .ref sh])), (sl, .inr (0, [.int smd, .ref ser, .int (nI N)])), (ser, .inl (cO, 10, .inr (.inr (.inr (.inr sf))))), (ch, .inr (1, [.ref lh])), (lh, .inr (0, [.int md, .ref df, .int 0]))] : va_W) ++ scL (scJ cI SA SB mc ms mw) (List.range N)) := hD
  refine vx_ret ?_
  refine g_iret (v := mc (5 * J + W0)) hx hb hr hlk hP hK hD hS (Nat.le_of_ble_eq_true rfl) (Nat.le_of_ble_eq_true rfl) dX6_of_106 ?_
  have e1 : gN (nI J) = J := gN_nI (by omega)
  have e2 : gN (nI W0) = W0 := gN_nI (by omega)
  exact ⟨rfl, by
    rw [e1, e2]
    (repeat (first | rw [if_pos (by omega)] | rw [if_neg (by omega)]))
    try rfl, gGoOk hq_8 hq_15 (by decide)⟩

set_option maxHeartbeats 4000000 in
set_option maxRecDepth 100000 in
theorem c_X6_cycles (l : Launch) (hfl : l.stackTraces = false) (D : va_G) (cI cJ cO : ClassId) (df sz : Nat) (t0 : Nat) (sl : Nat) (ch : Nat) (oh : Nat) (xh : Nat) (rh : Nat) (sh : Nat) (smd : Int32) (ser : Nat) (sf : Nat → Option Nat) (mk : Nat) (g : Nat → Int64) (fc : Int32) (fl : Int32) (fg : Int32) (fe : Int32) (SA : Nat → Nat) (SB : Nat → Nat) (mc : Nat → Int32) (ms : Nat → Int32) (mw : Nat → Int32) (N : Nat) (j : Int32) (rr : Int32) (wh : Int32) (hN : N ≤ 8) (hsf : ∀ k, k < N → sf k = some (SA k)) (hc : isC mc) (hw : ∀ j, j < 8 → isW (mw j)) : MxI l yX6_cycles wsX6_cycles ({ frames := 7, cells := 3, slots := 18, locals := 163 } : Room) D (gTY cI cJ cO) df (([(t0, .inr (7, [.ref sl, .ref ch, .ref oh, .ref xh, .ref rh, .ref sh])), (sl, .inr (0, [.int smd, .ref ser, .int (nI N)])), (ser, .inl (cO, 10, .inr (.inr (.inr (.inr sf))))), (xh, .inr (2, [.ref mk, .int fc, .int fl, .int fg, .int fe])), (mk, .inl (cJ, 1263, .inr (.inl g)))] : va_W) ++ scL (scJ cI SA SB mc ms mw) (List.range N)) sz [.ref t0, .int j, .int rr, .int wh] (fun (u : String × va_W) => u.2 = ([(t0, .inr (7, [.ref sl, .ref ch, .ref oh, .ref xh, .ref rh, .ref sh])), (sl, .inr (0, [.int smd, .ref ser, .int (nI N)])), (ser, .inl (cO, 10, .inr (.inr (.inr (.inr sf))))), (xh, .inr (2, [.ref mk, .int fc, .int fl, .int fg, .int fe])), (mk, .inl (cJ, 1263, .inr (.inl g)))] : va_W) ++ scL (scJ cI SA SB mc ms mw) (List.range N) ∧ ¬ gGo (isSec N j) (if isIn rr 1 12 = 0 then 0 else isIn wh 0 3) 1 = 0 ∧ u.1 = xN gIOB gIAE (gGo (isSec N j) (if isIn rr 1 12 = 0 then 0 else isIn wh 0 3) 1)) (fun (r : Int32) (wZ : va_W) => ∃ (g1 : Nat → Int64), ∃ (A1 : Nat → Nat), ∃ (c1 : Nat), ∃ (l1 : Nat), ∃ (g9 : Nat), ∃ (e1 : Nat), wZ = ([(t0, .inr (7, [.ref sl, .ref ch, .ref oh, .ref xh, .ref rh, .ref sh])), (sl, .inr (0, [.int smd, .ref ser, .int (nI N)])), (ser, .inl (cO, 10, .inr (.inr (.inr (.inr sf))))), (xh, .inr (2, [.ref mk, .int (nI c1), .int (nI l1), .int (nI g9), .int (nI e1)])), (mk, .inl (cJ, 1263, .inr (.inl g1)))] : va_W) ++ scL (scJ cI SA SB mc ms mw) (List.range N) ∧ crun (nxO mc mw (gN j)) (otn (gN rr) (2 * gN rr + 1)) A1 c1 l1 g9 e1 ∧ r = nI (pick (gN wh) c1 l1 g9 e1) ∧ gGo (isSec N j) (if isIn rr 1 12 = 0 then 0 else isIn wh 0 3) 1 = 0) := by
  refine gx_of (cc := cX6_cycles) (nL := 4) (ret := (some .int)) (D := D) (TY := (gTY cI cJ cO)) (df := df) (Qc := fun A => va_Qi (fun (r : Int32) (wZ : va_W) => ∃ (g1 : Nat → Int64), ∃ (A1 : Nat → Nat), ∃ (c1 : Nat), ∃ (l1 : Nat), ∃ (g9 : Nat), ∃ (e1 : Nat), wZ = ([(t0, .inr (7, [.ref sl, .ref ch, .ref oh, .ref xh, .ref rh, .ref sh])), (sl, .inr (0, [.int smd, .ref ser, .int (nI N)])), (ser, .inl (cO, 10, .inr (.inr (.inr (.inr sf))))), (xh, .inr (2, [.ref mk, .int (nI c1), .int (nI l1), .int (nI g9), .int (nI e1)])), (mk, .inl (cJ, 1263, .inr (.inl g1)))] : va_W) ++ scL (scJ cI SA SB mc ms mw) (List.range N) ∧ crun (nxO mc mw (gN j)) (otn (gN rr) (2 * gN rr + 1)) A1 c1 l1 g9 e1 ∧ r = nI (pick (gN wh) c1 l1 g9 e1) ∧ gGo (isSec N j) (if isIn rr 1 12 = 0 then 0 else isIn wh 0 3) 1 = 0) (gB D (gTY cI cJ cO) A) A) (XC := fun A => vx_X (fun (u : String × va_W) => u.2 = ([(t0, .inr (7, [.ref sl, .ref ch, .ref oh, .ref xh, .ref rh, .ref sh])), (sl, .inr (0, [.int smd, .ref ser, .int (nI N)])), (ser, .inl (cO, 10, .inr (.inr (.inr (.inr sf))))), (xh, .inr (2, [.ref mk, .int fc, .int fl, .int fg, .int fe])), (mk, .inl (cJ, 1263, .inr (.inl g)))] : va_W) ++ scL (scJ cI SA SB mc ms mw) (List.range N) ∧ ¬ gGo (isSec N j) (if isIn rr 1 12 = 0 then 0 else isIn wh 0 3) 1 = 0 ∧ u.1 = xN gIOB gIAE (gGo (isSec N j) (if isIn rr 1 12 = 0 then 0 else isIn wh 0 3) 1)) (gBx D (gTY cI cJ cO) A) A) (by decide +kernel) rfl (Nat.le_of_ble_eq_true rfl) ?_
  intro p e s m below meth c ls A hsz C0 hin hl
  obtain ⟨CF, hr, hlk, hA, hS, hP, hK, hD, hV, hH⟩ := C0
  have CF : CallFix p m c cX6_cycles 4 s _ wsX6_cycles RX6 := CF
  obtain ⟨hx, hb, hml, hown, hts⟩ := id CF
  subst hsz
  have hfieldLink_RX6_10 : (Cond.fieldLink RX6 10 "TapLoom" "sections" "Ljava/util/ArrayList;").before _ s = true := hts _ (List.mem_of_getElem? (i := 1) rfl)
  have hmethodLink_RX6_55 : (Cond.methodLink RX6 55 yJx4a65c_size_8abf5).before _ s = true := hts _ (List.mem_of_getElem? (i := 4) rfl)
  have hmethodLink_RX6_73 : (Cond.methodLink RX6 73 yX6_requirePlace).before _ s = true := hts _ (List.mem_of_getElem? (i := 10) rfl)
  have hmethodLink_RX6_51 : (Cond.methodLink RX6 51 yX6_requireWithin).before _ s = true := hts _ (List.mem_of_getElem? (i := 16) rfl)
  have hfieldLink_RX6_35 : (Cond.fieldLink RX6 35 "TapLoom" "search" "LTapLoom$CycleSearch;").before _ s = true := hts _ (List.mem_of_getElem? (i := 2) rfl)
  have hmethodLink_RX6_76 : (Cond.methodLink RX6 76 yJx4a65c_get_915e3).before _ s = true := hts _ (List.mem_of_getElem? (i := 21) rfl)
  have hclassLink_RX6_49 : (Cond.classLink RX6 49 "TapLoom$Section").before _ s = true := hts _ (List.mem_of_getElem? (i := 3) rfl)
  have hmethodLink_RX6_169 : (Cond.methodLink RX6 169 yX1_tryAll).before _ s = true := hts _ (List.mem_of_getElem? (i := 38) rfl)
  have hmethodLink_RX6_173 : (Cond.methodLink RX6 173 yX1_found).before _ s = true := hts _ (List.mem_of_getElem? (i := 116) rfl)
  have inX6 : ∀ w ∈ u_ws RX6 TX6 6, w ∈ wsX6_cycles := fun w h => (List.mem_cons_of_mem _ (List.mem_append_left _ (List.mem_append_left _ (List.mem_append_left _ (List.mem_append_left _ (List.mem_append_left _ (List.mem_append_right _ h)))))))
  have hP : va_P D ccl (([(t0, .inr (7, [.ref sl, .ref ch, .ref oh, .ref xh, .ref rh, .ref sh])), (sl, .inr (0, [.int smd, .ref ser, .int (nI N)])), (ser, .inl (cO, 10, .inr (.inr (.inr (.inr sf))))), (xh, .inr (2, [.ref mk, .int fc, .int fl, .int fg, .int fe])), (mk, .inl (cJ, 1263, .inr (.inl g)))] : va_W) ++ scL (scJ cI SA SB mc ms mw) (List.range N)) s.heap := hP
  have hl : lv_has ls 4 [(0, .ref t0), (1, .int j), (2, .int rr), (3, .int wh)] := hl
  refine lv_iload_n hx hb dX6_cycles_0 rfl (lv_at hl 1 rfl) ?_
  refine lv_aload_n hx hb dX6_cycles_1 rfl (lv_at hl 0 rfl) ?_
  refine va_get (D := D) (ci := 7) (v := .ref sl) (C := RX6) (T := TX6) (N := 6) hx hb hts inX6 hown hK hP 0 rfl rfl 0 (by decide) hfieldLink_RX6_10 (fun _ h9 => h9) rfl dX6_cycles_2 ?_
  have hPc := hP.sub (ws' := [(sl, .inr (0, [.int smd, .ref ser, .int (nI N)]))]) [1] rfl
  have hDc := hD.sub (ws' := [(sl, .inr (0, [.int smd, .ref ser, .int (nI N)]))]) [1] (by decide) rfl
  have hFc := va_free (wc := [(sl, .inr (0, [.int smd, .ref ser, .int (nI N)]))]) hD hS hA [1] rfl
  refine g_Vi (As := []) (rest := [.int j]) CF (c_Jx4a65c_size_8abf5 l D cI cJ cO df s.heap.size sl smd ser (nI N) ) (cwV 0 hts gX6_cycles_Jx4a65c_size_8abf5 rfl rfl rfl (by decide +kernel) ⟨Nat.le_of_ble_eq_true rfl, Nat.le_of_ble_eq_true rfl⟩) (va_recv hK hP (ci := 0) (q0 := 1) rfl rfl) hPc hK hDc hV hH hS hFc rfl hl.1 rfl (Nat.le_of_ble_eq_true rfl) dX6_cycles_5 ⟨Nat.le_of_ble_eq_true rfl, Nat.le_of_ble_eq_true rfl⟩ (fun r_5 w1 H1 locs1 hq hP1 hD1 hk hS hz => ?_)
  obtain ⟨rfl, hr_5⟩ := hq
  have hP := g_keepR hP hD [1] rfl hk hP1
  clear hPc hDc hFc hP1 hD1 hk hz
  generalize H1 = H at hP hS ⊢
  have hP : va_P D ccl (([(t0, .inr (7, [.ref sl, .ref ch, .ref oh, .ref xh, .ref rh, .ref sh])), (sl, .inr (0, [.int smd, .ref ser, .int (nI N)])), (ser, .inl (cO, 10, .inr (.inr (.inr (.inr sf))))), (xh, .inr (2, [.ref mk, .int fc, .int fl, .int fg, .int fe])), (mk, .inl (cJ, 1263, .inr (.inl g)))] : va_W) ++ scL (scJ cI SA SB mc ms mw) (List.range N)) H := hP
  have hD : va_D A (([(t0, .inr (7, [.ref sl, .ref ch, .ref oh, .ref xh, .ref rh, .ref sh])), (sl, .inr (0, [.int smd, .ref ser, .int (nI N)])), (ser, .inl (cO, 10, .inr (.inr (.inr (.inr sf))))), (xh, .inr (2, [.ref mk, .int fc, .int fl, .int fg, .int fe])), (mk, .inl (cJ, 1263, .inr (.inl g)))] : va_W) ++ scL (scJ cI SA SB mc ms mw) (List.range N)) := hD
  subst hr_5
  have hPc : va_P D ccl [] H := fun k q h => by simp at h
  have hDc : va_D A [] := ⟨fun i j p q h => by simp at h, fun k q h => by simp at h⟩
  have hFc := va_free (wc := []) hD hS hA [] rfl
  refine gx_Sv (As := [.int j, .int (nI N)]) (rest := []) CF (c_X6_requirePlace l hfl D cI cJ cO df H.size j N ) (va_cwS 2 hts gX6_cycles_X6_requirePlace rfl rfl rfl (by decide +kernel) ⟨Nat.le_of_ble_eq_true rfl, Nat.le_of_ble_eq_true rfl⟩)  hPc hK hDc hV hH hS hFc rfl hl.1 rfl (Nat.le_of_ble_eq_true rfl) dX6_cycles_8 ⟨Nat.le_of_ble_eq_true rfl, Nat.le_of_ble_eq_true rfl⟩ (fun E9 ce q9 w1 H1 locs1 hq hP1 hD1 hk hS hz hc1 hc2 hc3 => ?_) (fun w1 H1 locs1 hq hP1 hD1 hk hS hz => ?_)
  · obtain ⟨ew1, hq⟩ := hq
    dsimp only at ew1 hq
    subst ew1
    have hP := g_keep0 hP hk
    refine vx_widen (k := 3) (n := 18) (Nat.le_of_ble_eq_true rfl) (Nat.le_of_ble_eq_true rfl) ?_
    refine vx_out (fun z hz9 => absurd hz9 (hin z)) hlk hc1 hc2 hc3 (fun t ht hvm => ⟨(E9, (([(t0, .inr (7, [.ref sl, .ref ch, .ref oh, .ref xh, .ref rh, .ref sh])), (sl, .inr (0, [.int smd, .ref ser, .int (nI N)])), (ser, .inl (cO, 10, .inr (.inr (.inr (.inr sf))))), (xh, .inr (2, [.ref mk, .int fc, .int fl, .int fg, .int fe])), (mk, .inl (cJ, 1263, .inr (.inl g)))] : va_W) ++ scL (scJ cI SA SB mc ms mw) (List.range N))), ⟨rfl, px1 hq.2 hq.1⟩, ⟨rfl, by rw [ht]; exact hP, va_K.moved hvm hK, hD⟩, hS.F ht⟩) hS.2.2 (Nat.le_refl _) (Nat.le_refl _)
  obtain ⟨rfl, hq_8⟩ := hq
  have hP := g_keep0 hP hk
  clear hPc hDc hFc hP1 hD1 hk hz
  generalize H1 = H at hP hS ⊢
  have hP : va_P D ccl (([(t0, .inr (7, [.ref sl, .ref ch, .ref oh, .ref xh, .ref rh, .ref sh])), (sl, .inr (0, [.int smd, .ref ser, .int (nI N)])), (ser, .inl (cO, 10, .inr (.inr (.inr (.inr sf))))), (xh, .inr (2, [.ref mk, .int fc, .int fl, .int fg, .int fe])), (mk, .inl (cJ, 1263, .inr (.inl g)))] : va_W) ++ scL (scJ cI SA SB mc ms mw) (List.range N)) H := hP
  have hD : va_D A (([(t0, .inr (7, [.ref sl, .ref ch, .ref oh, .ref xh, .ref rh, .ref sh])), (sl, .inr (0, [.int smd, .ref ser, .int (nI N)])), (ser, .inl (cO, 10, .inr (.inr (.inr (.inr sf))))), (xh, .inr (2, [.ref mk, .int fc, .int fl, .int fg, .int fe])), (mk, .inl (cJ, 1263, .inr (.inl g)))] : va_W) ++ scL (scJ cI SA SB mc ms mw) (List.range N)) := hD
  refine lv_iload_n hx hb dX6_cycles_11 rfl (lv_at hl 2 rfl) ?_
  refine lv_iconst (v := 1) hx hb dX6_cycles_12 (by decide) ?_
  refine lv_bipush (v := 12) hx hb dX6_cycles_13 (by decide) ?_
  have hPc : va_P D ccl [] H := fun k q h => by simp at h
  have hDc : va_D A [] := ⟨fun i j p q h => by simp at h, fun k q h => by simp at h⟩
  have hFc := va_free (wc := []) hD hS hA [] rfl
  refine gx_Sv (As := [.int rr, .int 1, .int 12]) (rest := []) CF (c_X6_requireWithin l hfl D cI cJ cO df H.size rr 1 12 ) (va_cwS 3 hts gX6_cycles_X6_requireWithin rfl rfl rfl (by decide +kernel) ⟨Nat.le_of_ble_eq_true rfl, Nat.le_of_ble_eq_true rfl⟩)  hPc hK hDc hV hH hS hFc rfl hl.1 rfl (Nat.le_of_ble_eq_true rfl) dX6_cycles_15 ⟨Nat.le_of_ble_eq_true rfl, Nat.le_of_ble_eq_true rfl⟩ (fun E9 ce q9 w1 H1 locs1 hq hP1 hD1 hk hS hz hc1 hc2 hc3 => ?_) (fun w1 H1 locs1 hq hP1 hD1 hk hS hz => ?_)
  · obtain ⟨ew1, hq⟩ := hq
    dsimp only at ew1 hq
    subst ew1
    have hP := g_keep0 hP hk
    refine vx_widen (k := 3) (n := 18) (Nat.le_of_ble_eq_true rfl) (Nat.le_of_ble_eq_true rfl) ?_
    refine vx_out (fun z hz9 => absurd hz9 (hin z)) hlk hc1 hc2 hc3 (fun t ht hvm => ⟨(E9, (([(t0, .inr (7, [.ref sl, .ref ch, .ref oh, .ref xh, .ref rh, .ref sh])), (sl, .inr (0, [.int smd, .ref ser, .int (nI N)])), (ser, .inl (cO, 10, .inr (.inr (.inr (.inr sf))))), (xh, .inr (2, [.ref mk, .int fc, .int fl, .int fg, .int fe])), (mk, .inl (cJ, 1263, .inr (.inl g)))] : va_W) ++ scL (scJ cI SA SB mc ms mw) (List.range N))), ⟨rfl, px2 hq_8 (if_pos hq.2) hq.1⟩, ⟨rfl, by rw [ht]; exact hP, va_K.moved hvm hK, hD⟩, hS.F ht⟩) hS.2.2 (Nat.le_refl _) (Nat.le_refl _)
  obtain ⟨rfl, hq_15⟩ := hq
  have hP := g_keep0 hP hk
  clear hPc hDc hFc hP1 hD1 hk hz
  generalize H1 = H at hP hS ⊢
  have hP : va_P D ccl (([(t0, .inr (7, [.ref sl, .ref ch, .ref oh, .ref xh, .ref rh, .ref sh])), (sl, .inr (0, [.int smd, .ref ser, .int (nI N)])), (ser, .inl (cO, 10, .inr (.inr (.inr (.inr sf))))), (xh, .inr (2, [.ref mk, .int fc, .int fl, .int fg, .int fe])), (mk, .inl (cJ, 1263, .inr (.inl g)))] : va_W) ++ scL (scJ cI SA SB mc ms mw) (List.range N)) H := hP
  have hD : va_D A (([(t0, .inr (7, [.ref sl, .ref ch, .ref oh, .ref xh, .ref rh, .ref sh])), (sl, .inr (0, [.int smd, .ref ser, .int (nI N)])), (ser, .inl (cO, 10, .inr (.inr (.inr (.inr sf))))), (xh, .inr (2, [.ref mk, .int fc, .int fl, .int fg, .int fe])), (mk, .inl (cJ, 1263, .inr (.inl g)))] : va_W) ++ scL (scJ cI SA SB mc ms mw) (List.range N)) := hD
  refine lv_iload_n hx hb dX6_cycles_18 rfl (lv_at hl 3 rfl) ?_
  refine lv_iconst (v := 0) hx hb dX6_cycles_19 (by decide) ?_
  refine lv_iconst (v := 3) hx hb dX6_cycles_20 (by decide) ?_
  have hPc : va_P D ccl [] H := fun k q h => by simp at h
  have hDc : va_D A [] := ⟨fun i j p q h => by simp at h, fun k q h => by simp at h⟩
  have hFc := va_free (wc := []) hD hS hA [] rfl
  refine gx_Sv (As := [.int wh, .int 0, .int 3]) (rest := []) CF (c_X6_requireWithin l hfl D cI cJ cO df H.size wh 0 3 ) (va_cwS 3 hts gX6_cycles_X6_requireWithin rfl rfl rfl (by decide +kernel) ⟨Nat.le_of_ble_eq_true rfl, Nat.le_of_ble_eq_true rfl⟩)  hPc hK hDc hV hH hS hFc rfl hl.1 rfl (Nat.le_of_ble_eq_true rfl) dX6_cycles_21 ⟨Nat.le_of_ble_eq_true rfl, Nat.le_of_ble_eq_true rfl⟩ (fun E9 ce q9 w1 H1 locs1 hq hP1 hD1 hk hS hz hc1 hc2 hc3 => ?_) (fun w1 H1 locs1 hq hP1 hD1 hk hS hz => ?_)
  · obtain ⟨ew1, hq⟩ := hq
    dsimp only at ew1 hq
    subst ew1
    have hP := g_keep0 hP hk
    refine vx_widen (k := 3) (n := 18) (Nat.le_of_ble_eq_true rfl) (Nat.le_of_ble_eq_true rfl) ?_
    refine vx_out (fun z hz9 => absurd hz9 (hin z)) hlk hc1 hc2 hc3 (fun t ht hvm => ⟨(E9, (([(t0, .inr (7, [.ref sl, .ref ch, .ref oh, .ref xh, .ref rh, .ref sh])), (sl, .inr (0, [.int smd, .ref ser, .int (nI N)])), (ser, .inl (cO, 10, .inr (.inr (.inr (.inr sf))))), (xh, .inr (2, [.ref mk, .int fc, .int fl, .int fg, .int fe])), (mk, .inl (cJ, 1263, .inr (.inl g)))] : va_W) ++ scL (scJ cI SA SB mc ms mw) (List.range N))), ⟨rfl, px2 hq_8 ((if_neg hq_15).trans hq.2) hq.1⟩, ⟨rfl, by rw [ht]; exact hP, va_K.moved hvm hK, hD⟩, hS.F ht⟩) hS.2.2 (Nat.le_refl _) (Nat.le_refl _)
  obtain ⟨rfl, hq_21⟩ := hq
  have hP := g_keep0 hP hk
  clear hPc hDc hFc hP1 hD1 hk hz
  generalize H1 = H at hP hS ⊢
  have hP : va_P D ccl (([(t0, .inr (7, [.ref sl, .ref ch, .ref oh, .ref xh, .ref rh, .ref sh])), (sl, .inr (0, [.int smd, .ref ser, .int (nI N)])), (ser, .inl (cO, 10, .inr (.inr (.inr (.inr sf))))), (xh, .inr (2, [.ref mk, .int fc, .int fl, .int fg, .int fe])), (mk, .inl (cJ, 1263, .inr (.inl g)))] : va_W) ++ scL (scJ cI SA SB mc ms mw) (List.range N)) H := hP
  have hD : va_D A (([(t0, .inr (7, [.ref sl, .ref ch, .ref oh, .ref xh, .ref rh, .ref sh])), (sl, .inr (0, [.int smd, .ref ser, .int (nI N)])), (ser, .inl (cO, 10, .inr (.inr (.inr (.inr sf))))), (xh, .inr (2, [.ref mk, .int fc, .int fl, .int fg, .int fe])), (mk, .inl (cJ, 1263, .inr (.inl g)))] : va_W) ++ scL (scJ cI SA SB mc ms mw) (List.range N)) := hD
  obtain ⟨J, hJ, rfl⟩ := isSec_get hN hq_8
  obtain ⟨R0, hR1, hR2, rfl⟩ := isIn_nat2 (L := 1) (n := 12) (by decide) (by decide) hq_15
  obtain ⟨w0, hw0, rfl⟩ := isIn_nat 3 (by decide) hq_21
  refine lv_aload_n hx hb dX6_cycles_24 rfl (lv_at hl 0 rfl) ?_
  refine va_get (D := D) (ci := 7) (v := .ref xh) (C := RX6) (T := TX6) (N := 6) hx hb hts inX6 hown hK hP 0 rfl rfl 3 (by decide) hfieldLink_RX6_35 (fun _ h9 => h9) rfl dX6_cycles_25 ?_
  refine lv_aload_n hx hb dX6_cycles_28 rfl (lv_at hl 0 rfl) ?_
  refine va_get (D := D) (ci := 7) (v := .ref sl) (C := RX6) (T := TX6) (N := 6) hx hb hts inX6 hown hK hP 0 rfl rfl 0 (by decide) hfieldLink_RX6_10 (fun _ h9 => h9) rfl dX6_cycles_29 ?_
  refine lv_iload_n hx hb dX6_cycles_32 rfl (lv_at hl 1 rfl) ?_
  have hPc := hP.sub (ws' := [(sl, .inr (0, [.int smd, .ref ser, .int (nI N)])), (ser, .inl (cO, 10, .inr (.inr (.inr (.inr sf)))))]) [1, 2] rfl
  have hDc := hD.sub (ws' := [(sl, .inr (0, [.int smd, .ref ser, .int (nI N)])), (ser, .inl (cO, 10, .inr (.inr (.inr (.inr sf)))))]) [1, 2] (by decide) rfl
  have hFc := va_free (wc := [(sl, .inr (0, [.int smd, .ref ser, .int (nI N)])), (ser, .inl (cO, 10, .inr (.inr (.inr (.inr sf)))))]) hD hS hA [1, 2] rfl
  refine g_Vr (As := [.int (nI J)]) (rest := [.ref xh]) CF (c_Jx4a65c_get_915e3 l D cI cJ cO df H.size sl smd ser N sf J (SA J) hJ (by omega) (hsf J hJ)) (cwV 1 hts gX6_cycles_Jx4a65c_get_915e3 rfl rfl rfl (by decide +kernel) ⟨Nat.le_of_ble_eq_true rfl, Nat.le_of_ble_eq_true rfl⟩) (va_recv hK hP (ci := 0) (q0 := 1) rfl rfl) hPc hK hDc hV hH hS hFc rfl hl.1 rfl (Nat.le_of_ble_eq_true rfl) dX6_cycles_33 ⟨Nat.le_of_ble_eq_true rfl, Nat.le_of_ble_eq_true rfl⟩ (fun w1 H1 locs1 hq hP1 hD1 hk hS hz => ?_)
  obtain ⟨w1, a1⟩ := w1
  obtain ⟨ew1, hr_33⟩ := hq
  dsimp only at ew1 hP1 hD1 hr_33
  subst ew1
  have hP := g_keepR hP hD [1, 2] rfl hk hP1
  clear hPc hDc hFc hP1 hD1 hk hz
  generalize H1 = H at hP hS ⊢
  have hP : va_P D ccl (([(t0, .inr (7, [.ref sl, .ref ch, .ref oh, .ref xh, .ref rh, .ref sh])), (sl, .inr (0, [.int smd, .ref ser, .int (nI N)])), (ser, .inl (cO, 10, .inr (.inr (.inr (.inr sf))))), (xh, .inr (2, [.ref mk, .int fc, .int fl, .int fg, .int fe])), (mk, .inl (cJ, 1263, .inr (.inl g)))] : va_W) ++ scL (scJ cI SA SB mc ms mw) (List.range N)) H := hP
  have hD : va_D A (([(t0, .inr (7, [.ref sl, .ref ch, .ref oh, .ref xh, .ref rh, .ref sh])), (sl, .inr (0, [.int smd, .ref ser, .int (nI N)])), (ser, .inl (cO, 10, .inr (.inr (.inr (.inr sf))))), (xh, .inr (2, [.ref mk, .int fc, .int fl, .int fg, .int fe])), (mk, .inl (cJ, 1263, .inr (.inl g)))] : va_W) ++ scL (scJ cI SA SB mc ms mw) (List.range N)) := hD
  have hr_33 := hr_33.symm
  subst hr_33
  refine va_castS hx hb hown hclassLink_RX6_49 (gS4 hK) ((inT_scL (rgm hJ)).recv (X := [(t0, .inr (7, [.ref sl, .ref ch, .ref oh, .ref xh, .ref rh, .ref sh])), (sl, .inr (0, [.int smd, .ref ser, .int (nI N)])), (ser, .inl (cO, 10, .inr (.inr (.inr (.inr sf))))), (xh, .inr (2, [.ref mk, .int fc, .int fl, .int fg, .int fe])), (mk, .inl (cJ, 1263, .inr (.inl g)))]) hK hP) dX6_cycles_36 ?_
  refine lv_iload_n hx hb dX6_cycles_39 rfl (lv_at hl 2 rfl) ?_
  obtain ⟨hP, hD⟩ := sc_open (X := [(t0, .inr (7, [.ref sl, .ref ch, .ref oh, .ref xh, .ref rh, .ref sh])), (sl, .inr (0, [.int smd, .ref ser, .int (nI N)])), (ser, .inl (cO, 10, .inr (.inr (.inr (.inr sf))))), (xh, .inr (2, [.ref mk, .int fc, .int fl, .int fg, .int fe])), (mk, .inl (cJ, 1263, .inr (.inl g)))]) J hP hD (rgm hJ)
  have hP : va_P D ccl (([(t0, .inr (7, [.ref sl, .ref ch, .ref oh, .ref xh, .ref rh, .ref sh])), (sl, .inr (0, [.int smd, .ref ser, .int (nI N)])), (ser, .inl (cO, 10, .inr (.inr (.inr (.inr sf))))), (xh, .inr (2, [.ref mk, .int fc, .int fl, .int fg, .int fe])), (mk, .inl (cJ, 1263, .inr (.inl g))), (SA J, .inr (5, [.int (nI J), .int (mw J), .ref (SB J), .int (ms (4 * J)), .int (ms (4 * J + 1)), .int (ms (4 * J + 2)), .int (ms (4 * J + 3))])), (SB J, .inl (cI, 5, .inl (fun z9 => if z9 < 5 then mc (5 * J + z9) else 0)))] : va_W) ++ scL (scJ cI SA SB mc ms mw) ((List.range N).erase J)) H := hP
  have hD : va_D A (([(t0, .inr (7, [.ref sl, .ref ch, .ref oh, .ref xh, .ref rh, .ref sh])), (sl, .inr (0, [.int smd, .ref ser, .int (nI N)])), (ser, .inl (cO, 10, .inr (.inr (.inr (.inr sf))))), (xh, .inr (2, [.ref mk, .int fc, .int fl, .int fg, .int fe])), (mk, .inl (cJ, 1263, .inr (.inl g))), (SA J, .inr (5, [.int (nI J), .int (mw J), .ref (SB J), .int (ms (4 * J)), .int (ms (4 * J + 1)), .int (ms (4 * J + 2)), .int (ms (4 * J + 3))])), (SB J, .inl (cI, 5, .inl (fun z9 => if z9 < 5 then mc (5 * J + z9) else 0)))] : va_W) ++ scL (scJ cI SA SB mc ms mw) ((List.range N).erase J)) := hD
  have hPc := hP.sub (ws' := [(xh, .inr (2, [.ref mk, .int fc, .int fl, .int fg, .int fe])), (mk, .inl (cJ, 1263, .inr (.inl g))), ((SA J), .inr (5, [.int (nI J), .int (mw J), .ref (SB J), .int (ms (4 * J)), .int (ms (4 * J + 1)), .int (ms (4 * J + 2)), .int (ms (4 * J + 3))])), ((SB J), .inl (cI, 5, .inl (fun z9 => if z9 < 5 then mc (5 * J + z9) else 0)))]) [3, 4, 5, 6] rfl
  have hDc := hD.sub (ws' := [(xh, .inr (2, [.ref mk, .int fc, .int fl, .int fg, .int fe])), (mk, .inl (cJ, 1263, .inr (.inl g))), ((SA J), .inr (5, [.int (nI J), .int (mw J), .ref (SB J), .int (ms (4 * J)), .int (ms (4 * J + 1)), .int (ms (4 * J + 2)), .int (ms (4 * J + 3))])), ((SB J), .inl (cI, 5, .inl (fun z9 => if z9 < 5 then mc (5 * J + z9) else 0)))]) [3, 4, 5, 6] (by decide) rfl
  have hFc := va_free (wc := [(xh, .inr (2, [.ref mk, .int fc, .int fl, .int fg, .int fe])), (mk, .inl (cJ, 1263, .inr (.inl g))), ((SA J), .inr (5, [.int (nI J), .int (mw J), .ref (SB J), .int (ms (4 * J)), .int (ms (4 * J + 1)), .int (ms (4 * J + 2)), .int (ms (4 * J + 3))])), ((SB J), .inl (cI, 5, .inl (fun z9 => if z9 < 5 then mc (5 * J + z9) else 0)))]) hD hS hA [3, 4, 5, 6] rfl
  refine g_Vv (As := [.ref (SA J), .int (nI R0)]) (rest := []) CF (c_X1_tryAll l D cI cJ cO df H.size xh mk g fc fl fg fe (SA J) (SB J) (nI J) (ms (4 * J)) (ms (4 * J + 1)) (ms (4 * J + 2)) (ms (4 * J + 3)) mc mw J R0 (by omega) hc (hw J (by omega)) hR2) (cwV 2 hts gX6_cycles_X1_tryAll rfl rfl rfl (by decide +kernel) ⟨Nat.le_of_ble_eq_true rfl, Nat.le_of_ble_eq_true rfl⟩) (va_recv hK hP (ci := 2) (q0 := 3) rfl rfl) hPc hK hDc hV hH hS hFc rfl hl.1 rfl (Nat.le_of_ble_eq_true rfl) dX6_cycles_40 ⟨Nat.le_of_ble_eq_true rfl, Nat.le_of_ble_eq_true rfl⟩ (fun w1 H1 locs1 hq hP1 hD1 hk hS hz => ?_)
  obtain ⟨g2, A2, c2, l2, g3, e3, rfl, hq_40⟩ := hq
  obtain ⟨hP, hD⟩ := g_joinQ (X := [(t0, .inr (7, [.ref sl, .ref ch, .ref oh, .ref xh, .ref rh, .ref sh])), (sl, .inr (0, [.int smd, .ref ser, .int (nI N)])), (ser, .inl (cO, 10, .inr (.inr (.inr (.inr sf))))), (xh, .inr (2, [.ref mk, .int fc, .int fl, .int fg, .int fe])), (mk, .inl (cJ, 1263, .inr (.inl g))), (SA J, .inr (5, [.int (nI J), .int (mw J), .ref (SB J), .int (ms (4 * J)), .int (ms (4 * J + 1)), .int (ms (4 * J + 2)), .int (ms (4 * J + 3))])), (SB J, .inl (cI, 5, .inl (fun z9 => if z9 < 5 then mc (5 * J + z9) else 0)))]) (X' := [(t0, .inr (7, [.ref sl, .ref ch, .ref oh, .ref xh, .ref rh, .ref sh])), (sl, .inr (0, [.int smd, .ref ser, .int (nI N)])), (ser, .inl (cO, 10, .inr (.inr (.inr (.inr sf))))), (xh, .inr (2, [.ref mk, .int (nI c2), .int (nI l2), .int (nI g3), .int (nI e3)])), (mk, .inl (cJ, 1263, .inr (.inl g2))), ((SA J), .inr (5, [.int (nI J), .int (mw J), .ref (SB J), .int (ms (4 * J)), .int (ms (4 * J + 1)), .int (ms (4 * J + 2)), .int (ms (4 * J + 3))])), ((SB J), .inl (cI, 5, .inl (fun z9 => if z9 < 5 then mc (5 * J + z9) else 0)))]) hP hD hk hFc hP1 hD1 [3, 4, 5, 6] [0, 1, 2] [0, 1, 2, 3, 4, 5, 6] rfl rfl (by decide) (by decide) (by decide) rfl
  clear hPc hDc hFc hP1 hD1 hk hz
  generalize H1 = H at hP hS ⊢
  have hP : va_P D ccl (([(t0, .inr (7, [.ref sl, .ref ch, .ref oh, .ref xh, .ref rh, .ref sh])), (sl, .inr (0, [.int smd, .ref ser, .int (nI N)])), (ser, .inl (cO, 10, .inr (.inr (.inr (.inr sf))))), (xh, .inr (2, [.ref mk, .int (nI c2), .int (nI l2), .int (nI g3), .int (nI e3)])), (mk, .inl (cJ, 1263, .inr (.inl g2))), ((SA J), .inr (5, [.int (nI J), .int (mw J), .ref (SB J), .int (ms (4 * J)), .int (ms (4 * J + 1)), .int (ms (4 * J + 2)), .int (ms (4 * J + 3))])), ((SB J), .inl (cI, 5, .inl (fun z9 => if z9 < 5 then mc (5 * J + z9) else 0)))] : va_W) ++ scL (scJ cI SA SB mc ms mw) ((List.range N).erase J)) H := hP
  have hD : va_D A (([(t0, .inr (7, [.ref sl, .ref ch, .ref oh, .ref xh, .ref rh, .ref sh])), (sl, .inr (0, [.int smd, .ref ser, .int (nI N)])), (ser, .inl (cO, 10, .inr (.inr (.inr (.inr sf))))), (xh, .inr (2, [.ref mk, .int (nI c2), .int (nI l2), .int (nI g3), .int (nI e3)])), (mk, .inl (cJ, 1263, .inr (.inl g2))), ((SA J), .inr (5, [.int (nI J), .int (mw J), .ref (SB J), .int (ms (4 * J)), .int (ms (4 * J + 1)), .int (ms (4 * J + 2)), .int (ms (4 * J + 3))])), ((SB J), .inl (cI, 5, .inl (fun z9 => if z9 < 5 then mc (5 * J + z9) else 0)))] : va_W) ++ scL (scJ cI SA SB mc ms mw) ((List.range N).erase J)) := hD
  obtain ⟨hP, hD⟩ := sc_close (X := [(t0, .inr (7, [.ref sl, .ref ch, .ref oh, .ref xh, .ref rh, .ref sh])), (sl, .inr (0, [.int smd, .ref ser, .int (nI N)])), (ser, .inl (cO, 10, .inr (.inr (.inr (.inr sf))))), (xh, .inr (2, [.ref mk, .int (nI c2), .int (nI l2), .int (nI g3), .int (nI e3)])), (mk, .inl (cJ, 1263, .inr (.inl g2)))]) (c2 := [((SA J), .inr (5, [.int (nI J), .int (mw J), .ref (SB J), .int (ms (4 * J)), .int (ms (4 * J + 1)), .int (ms (4 * J + 2)), .int (ms (4 * J + 3))])), ((SB J), .inl (cI, 5, .inl (fun z9 => if z9 < 5 then mc (5 * J + z9) else 0)))]) (S := (scJ cI SA SB mc ms mw)) (S' := (scJ cI SA SB mc ms mw)) (js := (List.range N)) J hP hD (rgm hJ) rgn rfl (fun _ _ _ => rfl)
  have hP : va_P D ccl (([(t0, .inr (7, [.ref sl, .ref ch, .ref oh, .ref xh, .ref rh, .ref sh])), (sl, .inr (0, [.int smd, .ref ser, .int (nI N)])), (ser, .inl (cO, 10, .inr (.inr (.inr (.inr sf))))), (xh, .inr (2, [.ref mk, .int (nI c2), .int (nI l2), .int (nI g3), .int (nI e3)])), (mk, .inl (cJ, 1263, .inr (.inl g2)))] : va_W) ++ scL (scJ cI SA SB mc ms mw) (List.range N)) H := hP
  have hD : va_D A (([(t0, .inr (7, [.ref sl, .ref ch, .ref oh, .ref xh, .ref rh, .ref sh])), (sl, .inr (0, [.int smd, .ref ser, .int (nI N)])), (ser, .inl (cO, 10, .inr (.inr (.inr (.inr sf))))), (xh, .inr (2, [.ref mk, .int (nI c2), .int (nI l2), .int (nI g3), .int (nI e3)])), (mk, .inl (cJ, 1263, .inr (.inl g2)))] : va_W) ++ scL (scJ cI SA SB mc ms mw) (List.range N)) := hD
  refine lv_aload_n hx hb dX6_cycles_43 rfl (lv_at hl 0 rfl) ?_
  refine va_get (D := D) (ci := 7) (v := .ref xh) (C := RX6) (T := TX6) (N := 6) hx hb hts inX6 hown hK hP 0 rfl rfl 3 (by decide) hfieldLink_RX6_35 (fun _ h9 => h9) rfl dX6_cycles_44 ?_
  refine lv_iload_n hx hb dX6_cycles_47 rfl (lv_at hl 3 rfl) ?_
  have hPc := hP.sub (ws' := [(xh, .inr (2, [.ref mk, .int (nI c2), .int (nI l2), .int (nI g3), .int (nI e3)])), (mk, .inl (cJ, 1263, .inr (.inl g2)))]) [3, 4] rfl
  have hDc := hD.sub (ws' := [(xh, .inr (2, [.ref mk, .int (nI c2), .int (nI l2), .int (nI g3), .int (nI e3)])), (mk, .inl (cJ, 1263, .inr (.inl g2)))]) [3, 4] (by decide) rfl
  have hFc := va_free (wc := [(xh, .inr (2, [.ref mk, .int (nI c2), .int (nI l2), .int (nI g3), .int (nI e3)])), (mk, .inl (cJ, 1263, .inr (.inl g2)))]) hD hS hA [3, 4] rfl
  refine g_Vi (As := [.int (nI w0)]) (rest := []) CF (c_X1_found l D cI cJ cO df H.size xh mk g2 c2 l2 g3 e3 w0 hw0) (cwV 1 hts gX6_cycles_X1_found rfl rfl rfl (by decide +kernel) ⟨Nat.le_of_ble_eq_true rfl, Nat.le_of_ble_eq_true rfl⟩) (va_recv hK hP (ci := 2) (q0 := 3) rfl rfl) hPc hK hDc hV hH hS hFc rfl hl.1 rfl (Nat.le_of_ble_eq_true rfl) dX6_cycles_48 ⟨Nat.le_of_ble_eq_true rfl, Nat.le_of_ble_eq_true rfl⟩ (fun r_48 w1 H1 locs1 hq hP1 hD1 hk hS hz => ?_)
  obtain ⟨rfl, hr_48⟩ := hq
  have hP := g_keepR hP hD [3, 4] rfl hk hP1
  clear hPc hDc hFc hP1 hD1 hk hz
  generalize H1 = H at hP hS ⊢
  have hP : va_P D ccl (([(t0, .inr (7, [.ref sl, .ref ch, .ref oh, .ref xh, .ref rh, .ref sh])), (sl, .inr (0, [.int smd, .ref ser, .int (nI N)])), (ser, .inl (cO, 10, .inr (.inr (.inr (.inr sf))))), (xh, .inr (2, [.ref mk, .int (nI c2), .int (nI l2), .int (nI g3), .int (nI e3)])), (mk, .inl (cJ, 1263, .inr (.inl g2)))] : va_W) ++ scL (scJ cI SA SB mc ms mw) (List.range N)) H := hP
  have hD : va_D A (([(t0, .inr (7, [.ref sl, .ref ch, .ref oh, .ref xh, .ref rh, .ref sh])), (sl, .inr (0, [.int smd, .ref ser, .int (nI N)])), (ser, .inl (cO, 10, .inr (.inr (.inr (.inr sf))))), (xh, .inr (2, [.ref mk, .int (nI c2), .int (nI l2), .int (nI g3), .int (nI e3)])), (mk, .inl (cJ, 1263, .inr (.inl g2)))] : va_W) ++ scL (scJ cI SA SB mc ms mw) (List.range N)) := hD
  subst hr_48
  refine vx_ret ?_
  refine g_iret (v := nI (pick w0 c2 l2 g3 e3)) hx hb hr hlk hP hK hD hS (Nat.le_of_ble_eq_true rfl) (Nat.le_of_ble_eq_true rfl) dX6_cycles_51 ?_
  have e1 : gN (nI J) = J := gN_nI (by omega)
  have e2 : gN (nI R0) = R0 := gN_nI (by omega)
  have e4 : gN (nI w0) = w0 := gN_nI (by omega)
  exact ⟨_, _, _, _, _, _, rfl, by rw [e1, e2]; exact hq_40, by rw [e4], gGoOk hq_8 (by rw [if_neg hq_15]; exact hq_21) (by decide)⟩

set_option maxHeartbeats 4000000 in
set_option maxRecDepth 100000 in
theorem c_X6_requireShortChain (l : Launch) (hfl : l.stackTraces = false) (D : va_G) (cI cJ cO : ClassId) (df sz : Nat) (t0 : Nat) (sl : Nat) (ch : Nat) (oh : Nat) (xh : Nat) (rh : Nat) (sh : Nat) (lh : Nat) (er : Nat) (md : Int32) (C : Nat) (wr : Int32) (hC : C ≤ 8) : MxV l yX6_requireShortChain wsX6_requireShortChain ({ frames := 6, cells := 1, slots := 6, locals := 90 } : Room) D (gTY cI cJ cO) df [(t0, .inr (7, [.ref sl, .ref ch, .ref oh, .ref xh, .ref rh, .ref sh])), (ch, .inr (1, [.ref lh])), (lh, .inr (0, [.int md, .ref er, .int (nI C)]))] sz [.ref t0, .int wr] (fun (u : String × va_W) => u.2 = [(t0, .inr (7, [.ref sl, .ref ch, .ref oh, .ref xh, .ref rh, .ref sh])), (ch, .inr (1, [.ref lh])), (lh, .inr (0, [.int md, .ref er, .int (nI C)]))] ∧ u.1 = gISE ∧ (if C ≤ (if wr = 2 then 2 else 4) then (1 : Int32) else 0) = 0) (fun (wZ : va_W) => wZ = [(t0, .inr (7, [.ref sl, .ref ch, .ref oh, .ref xh, .ref rh, .ref sh])), (ch, .inr (1, [.ref lh])), (lh, .inr (0, [.int md, .ref er, .int (nI C)]))] ∧ ¬ (if C ≤ (if wr = 2 then 2 else 4) then (1 : Int32) else 0) = 0) := by
  refine gx_of (cc := cX6_requireShortChain) (nL := 2) (ret := none) (D := D) (TY := (gTY cI cJ cO)) (df := df) (Qc := fun A => va_Qv (fun (wZ : va_W) => wZ = [(t0, .inr (7, [.ref sl, .ref ch, .ref oh, .ref xh, .ref rh, .ref sh])), (ch, .inr (1, [.ref lh])), (lh, .inr (0, [.int md, .ref er, .int (nI C)]))] ∧ ¬ (if C ≤ (if wr = 2 then 2 else 4) then (1 : Int32) else 0) = 0) (gB D (gTY cI cJ cO) A) A) (XC := fun A => vx_X (fun (u : String × va_W) => u.2 = [(t0, .inr (7, [.ref sl, .ref ch, .ref oh, .ref xh, .ref rh, .ref sh])), (ch, .inr (1, [.ref lh])), (lh, .inr (0, [.int md, .ref er, .int (nI C)]))] ∧ u.1 = gISE ∧ (if C ≤ (if wr = 2 then 2 else 4) then (1 : Int32) else 0) = 0) (gBx D (gTY cI cJ cO) A) A) (by decide +kernel) rfl (Nat.le_of_ble_eq_true rfl) ?_
  intro p e s m below meth c ls A hsz C0 hin hl
  obtain ⟨CF, hr, hlk, hA, hS, hP, hK, hD, hV, hH⟩ := C0
  have CF : CallFix p m c cX6_requireShortChain 2 s _ wsX6_requireShortChain RX6 := CF
  obtain ⟨hx, hb, hml, hown, hts⟩ := id CF
  subst hsz
  have hfieldLink_RX6_19 : (Cond.fieldLink RX6 19 "TapLoom" "chained" "LTapLoom$Chain;").before _ s = true := hts _ (List.mem_of_getElem? (i := 3) rfl)
  have hmethodLink_RX6_201 : (Cond.methodLink RX6 201 yX0_length).before _ s = true := hts _ (List.mem_of_getElem? (i := 4) rfl)
  have hclassLink_RX6_59 : (Cond.classLink RX6 59 "java/lang/IllegalStateException").before _ s = true := hts _ (List.mem_of_getElem? (i := 1) rfl)
  have hinitialized_java_lang_IllegalStateException : (Cond.initialized "java/lang/IllegalStateException").before _ s = true := hts _ (List.mem_of_getElem? (i := 2) rfl)
  have hXw0 : ∀ w ∈ (vx_atS RX6 63 "java/lang/IllegalStateException" ["java/lang/RuntimeException", "java/lang/Exception"]).filter goodWord, w.before _ s = true := fun w h => hts w (List.mem_cons_of_mem _ (List.mem_append_right _ h))
  have inX6 : ∀ w ∈ u_ws RX6 TX6 6, w ∈ wsX6_requireShortChain := fun w h => (List.mem_cons_of_mem _ (List.mem_append_left _ (List.mem_append_left _ (List.mem_append_left _ (List.mem_append_right _ h)))))
  have hP : va_P D ccl [(t0, .inr (7, [.ref sl, .ref ch, .ref oh, .ref xh, .ref rh, .ref sh])), (ch, .inr (1, [.ref lh])), (lh, .inr (0, [.int md, .ref er, .int (nI C)]))] s.heap := hP
  have hl : lv_has ls 2 [(0, .ref t0), (1, .int wr)] := hl
  refine lv_aload_n hx hb dX6_requireShortChain_0 rfl (lv_at hl 0 rfl) ?_
  refine va_get (D := D) (ci := 7) (v := .ref ch) (C := RX6) (T := TX6) (N := 6) hx hb hts inX6 hown hK hP 0 rfl rfl 1 (by decide) hfieldLink_RX6_19 (fun _ h9 => h9) rfl dX6_requireShortChain_1 ?_
  have hPc := hP.sub (ws' := [(ch, .inr (1, [.ref lh])), (lh, .inr (0, [.int md, .ref er, .int (nI C)]))]) [1, 2] rfl
  have hDc := hD.sub (ws' := [(ch, .inr (1, [.ref lh])), (lh, .inr (0, [.int md, .ref er, .int (nI C)]))]) [1, 2] (by decide) rfl
  have hFc := va_free (wc := [(ch, .inr (1, [.ref lh])), (lh, .inr (0, [.int md, .ref er, .int (nI C)]))]) hD hS hA [1, 2] rfl
  refine g_Vi (As := []) (rest := []) CF (c_X0_length l D cI cJ cO df s.heap.size ch lh er md C ) (cwV 0 hts gX6_requireShortChain_X0_length rfl rfl rfl (by decide +kernel) ⟨Nat.le_of_ble_eq_true rfl, Nat.le_of_ble_eq_true rfl⟩) (va_recv hK hP (ci := 1) (q0 := 1) rfl rfl) hPc hK hDc hV hH hS hFc rfl hl.1 rfl (Nat.le_of_ble_eq_true rfl) dX6_requireShortChain_4 ⟨Nat.le_of_ble_eq_true rfl, Nat.le_of_ble_eq_true rfl⟩ (fun r_4 w1 H1 locs1 hq hP1 hD1 hk hS hz => ?_)
  obtain ⟨rfl, hr_4⟩ := hq
  have hP := g_keepR hP hD [1, 2] rfl hk hP1
  clear hPc hDc hFc hP1 hD1 hk hz
  generalize H1 = H at hP hS ⊢
  have hP : va_P D ccl [(t0, .inr (7, [.ref sl, .ref ch, .ref oh, .ref xh, .ref rh, .ref sh])), (ch, .inr (1, [.ref lh])), (lh, .inr (0, [.int md, .ref er, .int (nI C)]))] H := hP
  have hD : va_D A [(t0, .inr (7, [.ref sl, .ref ch, .ref oh, .ref xh, .ref rh, .ref sh])), (ch, .inr (1, [.ref lh])), (lh, .inr (0, [.int md, .ref er, .int (nI C)]))] := hD
  subst hr_4
  refine lv_iload_n hx hb dX6_requireShortChain_7 rfl (lv_at hl 1 rfl) ?_
  refine lv_iconst (v := 2) hx hb dX6_requireShortChain_8 (by decide) ?_
  refine lv_icmp_ne (tgt := 16) hx hb dX6_requireShortChain_9 (by decide) (fun c_9 => ?_) (fun c_9 => ?_)
  · refine lv_iconst (v := 4) hx hb dX6_requireShortChain_16 (by decide) ?_
    refine lv_icmp_le (tgt := 30) hx hb dX6_requireShortChain_17 (by decide) (fun c_17 => ?_) (fun c_17 => ?_)
    · have c_17 : C ≤ 4 := g_le (a := C) (b := 4) c_17 (by omega) (by omega)
      refine vx_ret ?_
      refine g_vret hx hb hr hlk hP hK hD hS (Nat.le_of_ble_eq_true rfl) (Nat.le_of_ble_eq_true rfl) dX6_requireShortChain_30 ?_
      exact ⟨rfl, by rw [if_pos (by (first | rw [if_pos c_9] | rw [if_neg c_9]); omega)]; decide⟩
    · have c_17 : 4 < C := g_nle (a := C) (b := 4) c_17 (by omega) (by omega)
      have hP : va_P D ccl [(t0, .inr (7, [.ref sl, .ref ch, .ref oh, .ref xh, .ref rh, .ref sh])), (ch, .inr (1, [.ref lh])), (lh, .inr (0, [.int md, .ref er, .int (nI C)]))] H := hP
      exact gx_thr hx hb hfl hown (by decide) hclassLink_RX6_59 hinitialized_java_lang_IllegalStateException hV.2.2.2.1 hXw0 (by decide +kernel) hV hV.2.2.2.2.2.2.2.2.1 (by decide +kernel) hH hP hK hD hS (by rw [hml]; exact hl.1) dX6_requireShortChain_20 dX6_requireShortChain_23 dX6_requireShortChain_24 dX6_requireShortChain_26 dX6_requireShortChain_29 hin (Nat.le_of_ble_eq_true rfl) (Nat.le_of_ble_eq_true rfl) (Nat.le_of_ble_eq_true rfl) (Nat.le_of_ble_eq_true rfl) hlk (Nat.le_of_ble_eq_true rfl) (Nat.le_of_ble_eq_true rfl) ⟨rfl, rfl, if_neg (by (first | rw [if_pos c_9] | rw [if_neg c_9]); omega)⟩
  · refine lv_iconst (v := 2) hx hb dX6_requireShortChain_12 (by decide) ?_
    refine lv_goto (tgt := 17) hx hb dX6_requireShortChain_13 (by decide) ?_
    refine lv_icmp_le (tgt := 30) hx hb dX6_requireShortChain_17 (by decide) (fun c_17 => ?_) (fun c_17 => ?_)
    · have c_17 : C ≤ 2 := g_le (a := C) (b := 2) c_17 (by omega) (by omega)
      refine vx_ret ?_
      refine g_vret hx hb hr hlk hP hK hD hS (Nat.le_of_ble_eq_true rfl) (Nat.le_of_ble_eq_true rfl) dX6_requireShortChain_30 ?_
      exact ⟨rfl, by rw [if_pos (by (first | rw [if_pos c_9] | rw [if_neg c_9]); omega)]; decide⟩
    · have c_17 : 2 < C := g_nle (a := C) (b := 2) c_17 (by omega) (by omega)
      have hP : va_P D ccl [(t0, .inr (7, [.ref sl, .ref ch, .ref oh, .ref xh, .ref rh, .ref sh])), (ch, .inr (1, [.ref lh])), (lh, .inr (0, [.int md, .ref er, .int (nI C)]))] H := hP
      exact gx_thr hx hb hfl hown (by decide) hclassLink_RX6_59 hinitialized_java_lang_IllegalStateException hV.2.2.2.1 hXw0 (by decide +kernel) hV hV.2.2.2.2.2.2.2.2.1 (by decide +kernel) hH hP hK hD hS (by rw [hml]; exact hl.1) dX6_requireShortChain_20 dX6_requireShortChain_23 dX6_requireShortChain_24 dX6_requireShortChain_26 dX6_requireShortChain_29 hin (Nat.le_of_ble_eq_true rfl) (Nat.le_of_ble_eq_true rfl) (Nat.le_of_ble_eq_true rfl) (Nat.le_of_ble_eq_true rfl) hlk (Nat.le_of_ble_eq_true rfl) (Nat.le_of_ble_eq_true rfl) ⟨rfl, rfl, if_neg (by (first | rw [if_pos c_9] | rw [if_neg c_9]); omega)⟩
