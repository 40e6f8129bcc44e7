set_option maxHeartbeats 4000000 in
set_option maxRecDepth 100000 in
theorem c_X6_chain (l : Launch) (hfl : l.stackTraces = false) (D : va_G) (cI cJ cO : ClassId) (df sz : Nat) (t0 : Nat) (sl : Nat) (ch : Nat) (oh : Nat) (xh : Nat) (rh : Nat) (sh : Nat) (smd : Int32) (ser : Nat) (sf : Nat → Option Nat) (lh : Nat) (er : Nat) (md : Int32) (C : Nat) (fr : Nat → Option Nat) (mo : Nat → Int32) (SA : Nat → Nat) (SB : Nat → Nat) (mc : Nat → Int32) (ms : Nat → Int32) (mw : Nat → Int32) (N : Nat) (j : Int32) (hN : N ≤ 8) (hsf : ∀ k, k < N → sf k = some (SA k)) (hC : C ≤ 8) (hfr : ∀ k, k < C → fr k = some (SA (gN (mo k)))) (hO : ∀ i, i < C → gN (mo i) < N ∧ mo i = nI (gN (mo i))) (hiM : ∀ i j, i < C → j < C → gN (mo i) = gN (mo j) → i = j) : MxI l yX6_chain wsX6_chain ({ frames := 7, cells := 1, slots := 6, locals := 128 } : Room) D (gTY cI cJ cO) df (([(t0, .inr (7, [.ref sl, .ref ch, .ref oh, .ref xh, .ref rh, .ref sh])), (sl, .inr (0, [.int smd, .ref ser, .int (nI N)])), (ser, .inl (cO, 10, .inr (.inr (.inr (.inr sf))))), (ch, .inr (1, [.ref lh])), (lh, .inr (0, [.int md, .ref er, .int (nI C)])), (er, .inl (cO, 10, .inr (.inr (.inr (.inr fr)))))] : va_W) ++ scL (scJ cI SA SB mc ms mw) (List.range N)) sz [.ref t0, .int j] (fun (u : String × va_W) => u.2 = ([(t0, .inr (7, [.ref sl, .ref ch, .ref oh, .ref xh, .ref rh, .ref sh])), (sl, .inr (0, [.int smd, .ref ser, .int (nI N)])), (ser, .inl (cO, 10, .inr (.inr (.inr (.inr sf))))), (ch, .inr (1, [.ref lh])), (lh, .inr (0, [.int md, .ref er, .int (nI C)])), (er, .inl (cO, 10, .inr (.inr (.inr (.inr fr)))))] : va_W) ++ scL (scJ cI SA SB mc ms mw) (List.range N) ∧ ¬ gGo (isSec N j) 1 1 = 0 ∧ u.1 = xN gIOB gIOB (gGo (isSec N j) 1 1)) (fun (r : Int32) (wZ : va_W) => ∃ (md1 : Int32), ∃ (C1 : Nat), ∃ (fr1 : Nat → Option Nat), wZ = ([(t0, .inr (7, [.ref sl, .ref ch, .ref oh, .ref xh, .ref rh, .ref sh])), (sl, .inr (0, [.int smd, .ref ser, .int (nI N)])), (ser, .inl (cO, 10, .inr (.inr (.inr (.inr sf))))), (ch, .inr (1, [.ref lh])), (lh, .inr (0, [.int md1, .ref er, .int (nI C1)])), (er, .inl (cO, 10, .inr (.inr (.inr (.inr fr1)))))] : va_W) ++ scL (scJ cI SA SB mc ms mw) (List.range N) ∧ (lastAt mo j C = -1 → C1 = C + 1 ∧ fr1 = va_up fr C (some (SA (gN j)))) ∧ (∀ Q, Q < C → lastAt mo j C = nI Q → C1 = C - 1 ∧ fr1 = rmF fr Q C) ∧ r = nI C1 ∧ gGo (isSec N j) 1 1 = 0) := by
  refine gx_of (cc := cX6_chain) (nL := 2) (ret := (some .int)) (D := D) (TY := (gTY cI cJ cO)) (df := df) (Qc := fun A => va_Qi (fun (r : Int32) (wZ : va_W) => ∃ (md1 : Int32), ∃ (C1 : Nat), ∃ (fr1 : Nat → Option Nat), wZ = ([(t0, .inr (7, [.ref sl, .ref ch, .ref oh, .ref xh, .ref rh, .ref sh])), (sl, .inr (0, [.int smd, .ref ser, .int (nI N)])), (ser, .inl (cO, 10, .inr (.inr (.inr (.inr sf))))), (ch, .inr (1, [.ref lh])), (lh, .inr (0, [.int md1, .ref er, .int (nI C1)])), (er, .inl (cO, 10, .inr (.inr (.inr (.inr fr1)))))] : va_W) ++ scL (scJ cI SA SB mc ms mw) (List.range N) ∧ (lastAt mo j C = -1 → C1 = C + 1 ∧ fr1 = va_up fr C (some (SA (gN j)))) ∧ (∀ Q, Q < C → lastAt mo j C = nI Q → C1 = C - 1 ∧ fr1 = rmF fr Q C) ∧ r = nI C1 ∧ gGo (isSec N j) 1 1 = 0) (gB D (gTY cI cJ cO) A) A) (XC := fun A => vx_X (fun (u : String × va_W) => u.2 = ([(t0, .inr (7, [.ref sl, .ref ch, .ref oh, .ref xh, .ref rh, .ref sh])), (sl, .inr (0, [.int smd, .ref ser, .int (nI N)])), (ser, .inl (cO, 10, .inr (.inr (.inr (.inr sf))))), (ch, .inr (1, [.ref lh])), (lh, .inr (0, [.int md, .ref er, .int (nI C)])), (er, .inl (cO, 10, .inr (.inr (.inr (.inr fr)))))] : va_W) ++ scL (scJ cI SA SB mc ms mw) (List.range N) ∧ ¬ gGo (isSec N j) 1 1 = 0 ∧ u.1 = xN gIOB gIOB (gGo (isSec N j) 1 1)) (gBx D (gTY cI cJ cO) A) A) (by decide +kernel) rfl (Nat.le_of_ble_eq_true rfl) ?_
  intro p e s m below meth c ls A hsz C0 hin hl
  obtain ⟨CF, hr, hlk, hA, hS, hP, hK, hD, hV, hH⟩ := C0
  have CF : CallFix p m c cX6_chain 2 s _ wsX6_chain RX6 := CF
  obtain ⟨hx, hb, hml, hown, hts⟩ := id CF
  subst hsz
  have hfieldLink_RX6_10 : (Cond.fieldLink RX6 10 "TapLoom" "sections" "Ljava/util/ArrayList;").before _ s = true := hts _ (List.mem_of_getElem? (i := 1) rfl)
  have hmethodLink_RX6_55 : (Cond.methodLink RX6 55 yJx4a65c_size_8abf5).before _ s = true := hts _ (List.mem_of_getElem? (i := 4) rfl)
  have hmethodLink_RX6_73 : (Cond.methodLink RX6 73 yX6_requirePlace).before _ s = true := hts _ (List.mem_of_getElem? (i := 10) rfl)
  have hfieldLink_RX6_19 : (Cond.fieldLink RX6 19 "TapLoom" "chained" "LTapLoom$Chain;").before _ s = true := hts _ (List.mem_of_getElem? (i := 2) rfl)
  have hmethodLink_RX6_76 : (Cond.methodLink RX6 76 yJx4a65c_get_915e3).before _ s = true := hts _ (List.mem_of_getElem? (i := 16) rfl)
  have hclassLink_RX6_49 : (Cond.classLink RX6 49 "TapLoom$Section").before _ s = true := hts _ (List.mem_of_getElem? (i := 3) rfl)
  have hmethodLink_RX6_84 : (Cond.methodLink RX6 84 yX0_toggle).before _ s = true := hts _ (List.mem_of_getElem? (i := 33) rfl)
  have inX6 : ∀ w ∈ u_ws RX6 TX6 6, w ∈ wsX6_chain := fun w h => (List.mem_cons_of_mem _ (List.mem_append_left _ (List.mem_append_left _ (List.mem_append_left _ (List.mem_append_right _ h)))))
  have hP : va_P D ccl (([(t0, .inr (7, [.ref sl, .ref ch, .ref oh, .ref xh, .ref rh, .ref sh])), (sl, .inr (0, [.int smd, .ref ser, .int (nI N)])), (ser, .inl (cO, 10, .inr (.inr (.inr (.inr sf))))), (ch, .inr (1, [.ref lh])), (lh, .inr (0, [.int md, .ref er, .int (nI C)])), (er, .inl (cO, 10, .inr (.inr (.inr (.inr fr)))))] : va_W) ++ scL (scJ cI SA SB mc ms mw) (List.range N)) s.heap := hP
  have hl : lv_has ls 2 [(0, .ref t0), (1, .int j)] := hl
  refine lv_iload_n hx hb dX6_chain_0 rfl (lv_at hl 1 rfl) ?_
  refine lv_aload_n hx hb dX6_chain_1 rfl (lv_at hl 0 rfl) ?_
  refine va_get (D := D) (ci := 7) (v := .ref sl) (C := RX6) (T := TX6) (N := 6) hx hb hts inX6 hown hK hP 0 rfl rfl 0 (by decide) hfieldLink_RX6_10 (fun _ h9 => h9) rfl dX6_chain_2 ?_
  have hPc := hP.sub (ws' := [(sl, .inr (0, [.int smd, .ref ser, .int (nI N)]))]) [1] rfl
  have hDc := hD.sub (ws' := [(sl, .inr (0, [.int smd, .ref ser, .int (nI N)]))]) [1] (by decide) rfl
  have hFc := va_free (wc := [(sl, .inr (0, [.int smd, .ref ser, .int (nI N)]))]) hD hS hA [1] rfl
  refine g_Vi (As := []) (rest := [.int j]) CF (c_Jx4a65c_size_8abf5 l D cI cJ cO df s.heap.size sl smd ser (nI N) ) (cwV 0 hts gX6_chain_Jx4a65c_size_8abf5 rfl rfl rfl (by decide +kernel) ⟨Nat.le_of_ble_eq_true rfl, Nat.le_of_ble_eq_true rfl⟩) (va_recv hK hP (ci := 0) (q0 := 1) rfl rfl) hPc hK hDc hV hH hS hFc rfl hl.1 rfl (Nat.le_of_ble_eq_true rfl) dX6_chain_5 ⟨Nat.le_of_ble_eq_true rfl, Nat.le_of_ble_eq_true rfl⟩ (fun r_5 w1 H1 locs1 hq hP1 hD1 hk hS hz => ?_)
  obtain ⟨rfl, hr_5⟩ := hq
  have hP := g_keepR hP hD [1] rfl hk hP1
  clear hPc hDc hFc hP1 hD1 hk hz
  generalize H1 = H at hP hS ⊢
  have hP : va_P D ccl (([(t0, .inr (7, [.ref sl, .ref ch, .ref oh, .ref xh, .ref rh, .ref sh])), (sl, .inr (0, [.int smd, .ref ser, .int (nI N)])), (ser, .inl (cO, 10, .inr (.inr (.inr (.inr sf))))), (ch, .inr (1, [.ref lh])), (lh, .inr (0, [.int md, .ref er, .int (nI C)])), (er, .inl (cO, 10, .inr (.inr (.inr (.inr fr)))))] : va_W) ++ scL (scJ cI SA SB mc ms mw) (List.range N)) H := hP
  have hD : va_D A (([(t0, .inr (7, [.ref sl, .ref ch, .ref oh, .ref xh, .ref rh, .ref sh])), (sl, .inr (0, [.int smd, .ref ser, .int (nI N)])), (ser, .inl (cO, 10, .inr (.inr (.inr (.inr sf))))), (ch, .inr (1, [.ref lh])), (lh, .inr (0, [.int md, .ref er, .int (nI C)])), (er, .inl (cO, 10, .inr (.inr (.inr (.inr fr)))))] : va_W) ++ scL (scJ cI SA SB mc ms mw) (List.range N)) := hD
  subst hr_5
  have hPc : va_P D ccl [] H := fun k q h => by simp at h
  have hDc : va_D A [] := ⟨fun i j p q h => by simp at h, fun k q h => by simp at h⟩
  have hFc := va_free (wc := []) hD hS hA [] rfl
  refine gx_Sv (As := [.int j, .int (nI N)]) (rest := []) CF (c_X6_requirePlace l hfl D cI cJ cO df H.size j N ) (va_cwS 2 hts gX6_chain_X6_requirePlace rfl rfl rfl (by decide +kernel) ⟨Nat.le_of_ble_eq_true rfl, Nat.le_of_ble_eq_true rfl⟩)  hPc hK hDc hV hH hS hFc rfl hl.1 rfl (Nat.le_of_ble_eq_true rfl) dX6_chain_8 ⟨Nat.le_of_ble_eq_true rfl, Nat.le_of_ble_eq_true rfl⟩ (fun E9 ce q9 w1 H1 locs1 hq hP1 hD1 hk hS hz hc1 hc2 hc3 => ?_) (fun w1 H1 locs1 hq hP1 hD1 hk hS hz => ?_)
  · obtain ⟨ew1, hq⟩ := hq
    dsimp only at ew1 hq
    subst ew1
    have hP := g_keep0 hP hk
    refine vx_widen (k := 1) (n := 6) (Nat.le_of_ble_eq_true rfl) (Nat.le_of_ble_eq_true rfl) ?_
    refine vx_out (fun z hz9 => absurd hz9 (hin z)) hlk hc1 hc2 hc3 (fun t ht hvm => ⟨(E9, (([(t0, .inr (7, [.ref sl, .ref ch, .ref oh, .ref xh, .ref rh, .ref sh])), (sl, .inr (0, [.int smd, .ref ser, .int (nI N)])), (ser, .inl (cO, 10, .inr (.inr (.inr (.inr sf))))), (ch, .inr (1, [.ref lh])), (lh, .inr (0, [.int md, .ref er, .int (nI C)])), (er, .inl (cO, 10, .inr (.inr (.inr (.inr fr)))))] : va_W) ++ scL (scJ cI SA SB mc ms mw) (List.range N))), ⟨rfl, px1 hq.2 hq.1⟩, ⟨rfl, by rw [ht]; exact hP, va_K.moved hvm hK, hD⟩, hS.F ht⟩) hS.2.2 (Nat.le_refl _) (Nat.le_refl _)
  obtain ⟨rfl, hq_8⟩ := hq
  have hP := g_keep0 hP hk
  clear hPc hDc hFc hP1 hD1 hk hz
  generalize H1 = H at hP hS ⊢
  have hP : va_P D ccl (([(t0, .inr (7, [.ref sl, .ref ch, .ref oh, .ref xh, .ref rh, .ref sh])), (sl, .inr (0, [.int smd, .ref ser, .int (nI N)])), (ser, .inl (cO, 10, .inr (.inr (.inr (.inr sf))))), (ch, .inr (1, [.ref lh])), (lh, .inr (0, [.int md, .ref er, .int (nI C)])), (er, .inl (cO, 10, .inr (.inr (.inr (.inr fr)))))] : va_W) ++ scL (scJ cI SA SB mc ms mw) (List.range N)) H := hP
  have hD : va_D A (([(t0, .inr (7, [.ref sl, .ref ch, .ref oh, .ref xh, .ref rh, .ref sh])), (sl, .inr (0, [.int smd, .ref ser, .int (nI N)])), (ser, .inl (cO, 10, .inr (.inr (.inr (.inr sf))))), (ch, .inr (1, [.ref lh])), (lh, .inr (0, [.int md, .ref er, .int (nI C)])), (er, .inl (cO, 10, .inr (.inr (.inr (.inr fr)))))] : va_W) ++ scL (scJ cI SA SB mc ms mw) (List.range N)) := hD
  obtain ⟨J, hJ, rfl⟩ := isSec_get hN hq_8
  refine lv_aload_n hx hb dX6_chain_11 rfl (lv_at hl 0 rfl) ?_
  refine va_get (D := D) (ci := 7) (v := .ref ch) (C := RX6) (T := TX6) (N := 6) hx hb hts inX6 hown hK hP 0 rfl rfl 1 (by decide) hfieldLink_RX6_19 (fun _ h9 => h9) rfl dX6_chain_12 ?_
  refine lv_aload_n hx hb dX6_chain_15 rfl (lv_at hl 0 rfl) ?_
  refine va_get (D := D) (ci := 7) (v := .ref sl) (C := RX6) (T := TX6) (N := 6) hx hb hts inX6 hown hK hP 0 rfl rfl 0 (by decide) hfieldLink_RX6_10 (fun _ h9 => h9) rfl dX6_chain_16 ?_
  refine lv_iload_n hx hb dX6_chain_19 rfl (lv_at hl 1 rfl) ?_
  have hPc := hP.sub (ws' := [(sl, .inr (0, [.int smd, .ref ser, .int (nI N)])), (ser, .inl (cO, 10, .inr (.inr (.inr (.inr sf)))))]) [1, 2] rfl
  have hDc := hD.sub (ws' := [(sl, .inr (0, [.int smd, .ref ser, .int (nI N)])), (ser, .inl (cO, 10, .inr (.inr (.inr (.inr sf)))))]) [1, 2] (by decide) rfl
  have hFc := va_free (wc := [(sl, .inr (0, [.int smd, .ref ser, .int (nI N)])), (ser, .inl (cO, 10, .inr (.inr (.inr (.inr sf)))))]) hD hS hA [1, 2] rfl
  refine g_Vr (As := [.int (nI J)]) (rest := [.ref ch]) CF (c_Jx4a65c_get_915e3 l D cI cJ cO df H.size sl smd ser N sf J (SA J) hJ (by omega) (hsf J hJ)) (cwV 1 hts gX6_chain_Jx4a65c_get_915e3 rfl rfl rfl (by decide +kernel) ⟨Nat.le_of_ble_eq_true rfl, Nat.le_of_ble_eq_true rfl⟩) (va_recv hK hP (ci := 0) (q0 := 1) rfl rfl) hPc hK hDc hV hH hS hFc rfl hl.1 rfl (Nat.le_of_ble_eq_true rfl) dX6_chain_20 ⟨Nat.le_of_ble_eq_true rfl, Nat.le_of_ble_eq_true rfl⟩ (fun w1 H1 locs1 hq hP1 hD1 hk hS hz => ?_)
  obtain ⟨w1, a1⟩ := w1
  obtain ⟨ew1, hr_20⟩ := hq
  dsimp only at ew1 hP1 hD1 hr_20
  subst ew1
  have hP := g_keepR hP hD [1, 2] rfl hk hP1
  clear hPc hDc hFc hP1 hD1 hk hz
  generalize H1 = H at hP hS ⊢
  have hP : va_P D ccl (([(t0, .inr (7, [.ref sl, .ref ch, .ref oh, .ref xh, .ref rh, .ref sh])), (sl, .inr (0, [.int smd, .ref ser, .int (nI N)])), (ser, .inl (cO, 10, .inr (.inr (.inr (.inr sf))))), (ch, .inr (1, [.ref lh])), (lh, .inr (0, [.int md, .ref er, .int (nI C)])), (er, .inl (cO, 10, .inr (.inr (.inr (.inr fr)))))] : va_W) ++ scL (scJ cI SA SB mc ms mw) (List.range N)) H := hP
  have hD : va_D A (([(t0, .inr (7, [.ref sl, .ref ch, .ref oh, .ref xh, .ref rh, .ref sh])), (sl, .inr (0, [.int smd, .ref ser, .int (nI N)])), (ser, .inl (cO, 10, .inr (.inr (.inr (.inr sf))))), (ch, .inr (1, [.ref lh])), (lh, .inr (0, [.int md, .ref er, .int (nI C)])), (er, .inl (cO, 10, .inr (.inr (.inr (.inr fr)))))] : va_W) ++ scL (scJ cI SA SB mc ms mw) (List.range N)) := hD
  have hr_20 := hr_20.symm
  subst hr_20
  refine va_castS hx hb hown hclassLink_RX6_49 (gS4 hK) ((inT_scL (rgm hJ)).recv (X := [(t0, .inr (7, [.ref sl, .ref ch, .ref oh, .ref xh, .ref rh, .ref sh])), (sl, .inr (0, [.int smd, .ref ser, .int (nI N)])), (ser, .inl (cO, 10, .inr (.inr (.inr (.inr sf))))), (ch, .inr (1, [.ref lh])), (lh, .inr (0, [.int md, .ref er, .int (nI C)])), (er, .inl (cO, 10, .inr (.inr (.inr (.inr fr)))))]) hK hP) dX6_chain_23 ?_
  have hPc := hP.part (X := [(t0, .inr (7, [.ref sl, .ref ch, .ref oh, .ref xh, .ref rh, .ref sh])), (sl, .inr (0, [.int smd, .ref ser, .int (nI N)])), (ser, .inl (cO, 10, .inr (.inr (.inr (.inr sf))))), (ch, .inr (1, [.ref lh])), (lh, .inr (0, [.int md, .ref er, .int (nI C)])), (er, .inl (cO, 10, .inr (.inr (.inr (.inr fr)))))]) (cx := [(ch, .inr (1, [.ref lh])), (lh, .inr (0, [.int md, .ref er, .int (nI C)])), (er, .inl (cO, 10, .inr (.inr (.inr (.inr fr)))))]) [3, 4, 5] rfl
  have hDc := hD.part (X := [(t0, .inr (7, [.ref sl, .ref ch, .ref oh, .ref xh, .ref rh, .ref sh])), (sl, .inr (0, [.int smd, .ref ser, .int (nI N)])), (ser, .inl (cO, 10, .inr (.inr (.inr (.inr sf))))), (ch, .inr (1, [.ref lh])), (lh, .inr (0, [.int md, .ref er, .int (nI C)])), (er, .inl (cO, 10, .inr (.inr (.inr (.inr fr)))))]) (cx := [(ch, .inr (1, [.ref lh])), (lh, .inr (0, [.int md, .ref er, .int (nI C)])), (er, .inl (cO, 10, .inr (.inr (.inr (.inr fr)))))]) [3, 4, 5] (by decide) rfl
  have hFc := va_freeP (X := [(t0, .inr (7, [.ref sl, .ref ch, .ref oh, .ref xh, .ref rh, .ref sh])), (sl, .inr (0, [.int smd, .ref ser, .int (nI N)])), (ser, .inl (cO, 10, .inr (.inr (.inr (.inr sf))))), (ch, .inr (1, [.ref lh])), (lh, .inr (0, [.int md, .ref er, .int (nI C)])), (er, .inl (cO, 10, .inr (.inr (.inr (.inr fr)))))]) (cx := [(ch, .inr (1, [.ref lh])), (lh, .inr (0, [.int md, .ref er, .int (nI C)])), (er, .inl (cO, 10, .inr (.inr (.inr (.inr fr)))))]) hD hS hA [3, 4, 5] rfl
  refine g_Vi (As := [.ref (SA J)]) (rest := []) CF (c_X0_toggle l D cI cJ cO df H.size ch lh er md C fr mo SA SB mc ms mw N J hC hN hfr hO hiM hJ) (cwV 1 hts gX6_chain_X0_toggle rfl rfl rfl (by decide +kernel) ⟨Nat.le_of_ble_eq_true rfl, Nat.le_of_ble_eq_true rfl⟩) (va_recv hK hP (ci := 1) (q0 := 3) rfl rfl) hPc hK hDc hV hH hS hFc rfl hl.1 rfl (Nat.le_of_ble_eq_true rfl) dX6_chain_26 ⟨Nat.le_of_ble_eq_true rfl, Nat.le_of_ble_eq_true rfl⟩ (fun r_26 w1 H1 locs1 hq hP1 hD1 hk hS hz => ?_)
  obtain ⟨md1_1, C1_2, fr1_3, rfl, hq_26⟩ := hq
  obtain ⟨hP, hD⟩ := g_joinP (X := [(t0, .inr (7, [.ref sl, .ref ch, .ref oh, .ref xh, .ref rh, .ref sh])), (sl, .inr (0, [.int smd, .ref ser, .int (nI N)])), (ser, .inl (cO, 10, .inr (.inr (.inr (.inr sf))))), (ch, .inr (1, [.ref lh])), (lh, .inr (0, [.int md, .ref er, .int (nI C)])), (er, .inl (cO, 10, .inr (.inr (.inr (.inr fr)))))]) (cx := [(ch, .inr (1, [.ref lh])), (lh, .inr (0, [.int md, .ref er, .int (nI C)])), (er, .inl (cO, 10, .inr (.inr (.inr (.inr fr)))))]) (rx := [(ch, .inr (1, [.ref lh])), (lh, .inr (0, [.int md1_1, .ref er, .int (nI C1_2)])), (er, .inl (cO, 10, .inr (.inr (.inr (.inr fr1_3)))))]) (X' := [(t0, .inr (7, [.ref sl, .ref ch, .ref oh, .ref xh, .ref rh, .ref sh])), (sl, .inr (0, [.int smd, .ref ser, .int (nI N)])), (ser, .inl (cO, 10, .inr (.inr (.inr (.inr sf))))), (ch, .inr (1, [.ref lh])), (lh, .inr (0, [.int md1_1, .ref er, .int (nI C1_2)])), (er, .inl (cO, 10, .inr (.inr (.inr (.inr fr1_3)))))]) hP hD hk hFc hP1 hD1 [3, 4, 5] [0, 1, 2] [0, 1, 2, 3, 4, 5] rfl rfl (by decide) (by decide) (by decide) rfl
  clear hPc hDc hFc hP1 hD1 hk hz
  generalize H1 = H at hP hS ⊢
  have hP : va_P D ccl (([(t0, .inr (7, [.ref sl, .ref ch, .ref oh, .ref xh, .ref rh, .ref sh])), (sl, .inr (0, [.int smd, .ref ser, .int (nI N)])), (ser, .inl (cO, 10, .inr (.inr (.inr (.inr sf))))), (ch, .inr (1, [.ref lh])), (lh, .inr (0, [.int md1_1, .ref er, .int (nI C1_2)])), (er, .inl (cO, 10, .inr (.inr (.inr (.inr fr1_3)))))] : va_W) ++ scL (scJ cI SA SB mc ms mw) (List.range N)) H := hP
  have hD : va_D A (([(t0, .inr (7, [.ref sl, .ref ch, .ref oh, .ref xh, .ref rh, .ref sh])), (sl, .inr (0, [.int smd, .ref ser, .int (nI N)])), (ser, .inl (cO, 10, .inr (.inr (.inr (.inr sf))))), (ch, .inr (1, [.ref lh])), (lh, .inr (0, [.int md1_1, .ref er, .int (nI C1_2)])), (er, .inl (cO, 10, .inr (.inr (.inr (.inr fr1_3)))))] : va_W) ++ scL (scJ cI SA SB mc ms mw) (List.range N)) := hD
  refine vx_ret ?_
  refine g_iret (v := r_26) hx hb hr hlk hP hK hD hS (Nat.le_of_ble_eq_true rfl) (Nat.le_of_ble_eq_true rfl) dX6_chain_29 ?_
  have e1 : gN (nI J) = J := gN_nI (by omega)
  exact ⟨_, _, _, rfl, fun h => by rw [e1]; exact hq_26.1 h, hq_26.2.1, hq_26.2.2, gGoOk hq_8 (by decide) (by decide)⟩

set_option maxHeartbeats 4000000 in
set_option maxRecDepth 100000 in
theorem c_X6_chain_e (l : Launch) (hfl : l.stackTraces = false) (D : va_G) (cI cJ cO : ClassId) (df sz : Nat) (t0 : Nat) (sl : Nat) (ch : Nat) (oh : Nat) (xh : Nat) (rh : Nat) (sh : Nat) (smd : Int32) (ser : Nat) (sf : Nat → Option Nat) (lh : Nat) (md : Int32) (SA : Nat → Nat) (SB : Nat → Nat) (mc : Nat → Int32) (ms : Nat → Int32) (mw : Nat → Int32) (N : Nat) (j : Int32) (hN : N ≤ 8) (hsf : ∀ k, k < N → sf k = some (SA k)) : MxI l yX6_chain wsX6_chain ({ frames := 7, cells := 2, slots := 16, locals := 139 } : Room) D (gTY cI cJ cO) df (([(t0, .inr (7, [.ref sl, .ref ch, .ref oh, .ref xh, .ref rh, .ref sh])), (sl, .inr (0, [.int smd, .ref ser, .int (nI N)])), (ser, .inl (cO, 10, .inr (.inr (.inr (.inr sf))))), (ch, .inr (1, [.ref lh])), (lh, .inr (0, [.int md, .ref df, .int 0]))] : va_W) ++ scL (scJ cI SA SB mc ms mw) (List.range N)) sz [.ref t0, .int j] (fun (u : String × va_W) => u.2 = ([(t0, .inr (7, [.ref sl, .ref ch, .ref oh, .ref xh, .ref rh, .ref sh])), (sl, .inr (0, [.int smd, .ref ser, .int (nI N)])), (ser, .inl (cO, 10, .inr (.inr (.inr (.inr sf))))), (ch, .inr (1, [.ref lh])), (lh, .inr (0, [.int md, .ref df, .int 0]))] : va_W) ++ scL (scJ cI SA SB mc ms mw) (List.range N) ∧ ¬ gGo (isSec N j) 1 1 = 0 ∧ u.1 = xN gIOB gIOB (gGo (isSec N j) 1 1)) (fun (r : Int32) (wZ : va_W) => ∃ (q1 : Nat), wZ = ([(t0, .inr (7, [.ref sl, .ref ch, .ref oh, .ref xh, .ref rh, .ref sh])), (sl, .inr (0, [.int smd, .ref ser, .int (nI N)])), (ser, .inl (cO, 10, .inr (.inr (.inr (.inr sf))))), (ch, .inr (1, [.ref lh])), (lh, .inr (0, [.int (md + 1), .ref q1, .int (nI 1)])), (q1, .inl (cO, 10, .inr (.inr (.inr (.inr (va_up (fun _ => none) 0 (some (SA (gN j)))))))))] : va_W) ++ scL (scJ cI SA SB mc ms mw) (List.range N) ∧ r = 1 ∧ gGo (isSec N j) 1 1 = 0) := by
  refine gx_of (cc := cX6_chain) (nL := 2) (ret := (some .int)) (D := D) (TY := (gTY cI cJ cO)) (df := df) (Qc := fun A => va_Qi (fun (r : Int32) (wZ : va_W) => ∃ (q1 : Nat), wZ = ([(t0, .inr (7, [.ref sl, .ref ch, .ref oh, .ref xh, .ref rh, .ref sh])), (sl, .inr (0, [.int smd, .ref ser, .int (nI N)])), (ser, .inl (cO, 10, .inr (.inr (.inr (.inr sf))))), (ch, .inr (1, [.ref lh])), (lh, .inr (0, [.int (md + 1), .ref q1, .int (nI 1)])), (q1, .inl (cO, 10, .inr (.inr (.inr (.inr (va_up (fun _ => none) 0 (some (SA (gN j)))))))))] : va_W) ++ scL (scJ cI SA SB mc ms mw) (List.range N) ∧ r = 1 ∧ gGo (isSec N j) 1 1 = 0) (gB D (gTY cI cJ cO) A) A) (XC := fun A => vx_X (fun (u : String × va_W) => u.2 = ([(t0, .inr (7, [.ref sl, .ref ch, .ref oh, .ref xh, .ref rh, .ref sh])), (sl, .inr (0, [.int smd, .ref ser, .int (nI N)])), (ser, .inl (cO, 10, .inr (.inr (.inr (.inr sf))))), (ch, .inr (1, [.ref lh])), (lh, .inr (0, [.int md, .ref df, .int 0]))] : va_W) ++ scL (scJ cI SA SB mc ms mw) (List.range N) ∧ ¬ gGo (isSec N j) 1 1 = 0 ∧ u.1 = xN gIOB gIOB (gGo (isSec N j) 1 1)) (gBx D (gTY cI cJ cO) A) A) (by decide +kernel) rfl (Nat.le_of_ble_eq_true rfl) ?_
  intro p e s m below meth c ls A hsz C0 hin hl
  obtain ⟨CF, hr, hlk, hA, hS, hP, hK, hD, hV, hH⟩ := C0
  have CF : CallFix p m c cX6_chain 2 s _ wsX6_chain RX6 := CF
  obtain ⟨hx, hb, hml, hown, hts⟩ := id CF
  subst hsz
  have hfieldLink_RX6_10 : (Cond.fieldLink RX6 10 "TapLoom" "sections" "Ljava/util/ArrayList;").before _ s = true := hts _ (List.mem_of_getElem? (i := 1) rfl)
  have hmethodLink_RX6_55 : (Cond.methodLink RX6 55 yJx4a65c_size_8abf5).before _ s = true := hts _ (List.mem_of_getElem? (i := 4) rfl)
  have hmethodLink_RX6_73 : (Cond.methodLink RX6 73 yX6_requirePlace).before _ s = true := hts _ (List.mem_of_getElem? (i := 10) rfl)
  have hfieldLink_RX6_19 : (Cond.fieldLink RX6 19 "TapLoom" "chained" "LTapLoom$Chain;").before _ s = true := hts _ (List.mem_of_getElem? (i := 2) rfl)
  have hmethodLink_RX6_76 : (Cond.methodLink RX6 76 yJx4a65c_get_915e3).before _ s = true := hts _ (List.mem_of_getElem? (i := 16) rfl)
  have hclassLink_RX6_49 : (Cond.classLink RX6 49 "TapLoom$Section").before _ s = true := hts _ (List.mem_of_getElem? (i := 3) rfl)
  have hmethodLink_RX6_84 : (Cond.methodLink RX6 84 yX0_toggle).before _ s = true := hts _ (List.mem_of_getElem? (i := 33) rfl)
  have inX6 : ∀ w ∈ u_ws RX6 TX6 6, w ∈ wsX6_chain := fun w h => (List.mem_cons_of_mem _ (List.mem_append_left _ (List.mem_append_left _ (List.mem_append_left _ (List.mem_append_right _ h)))))
  have hP : va_P D ccl (([(t0, .inr (7, [.ref sl, .ref ch, .ref oh, .ref xh, .ref rh, .ref sh])), (sl, .inr (0, [.int smd, .ref ser, .int (nI N)])), (ser, .inl (cO, 10, .inr (.inr (.inr (.inr sf))))), (ch, .inr (1, [.ref lh])), (lh, .inr (0, [.int md, .ref df, .int 0]))] : va_W) ++ scL (scJ cI SA SB mc ms mw) (List.range N)) s.heap := hP
  have hl : lv_has ls 2 [(0, .ref t0), (1, .int j)] := hl
  refine lv_iload_n hx hb dX6_chain_0 rfl (lv_at hl 1 rfl) ?_
  refine lv_aload_n hx hb dX6_chain_1 rfl (lv_at hl 0 rfl) ?_
  refine va_get (D := D) (ci := 7) (v := .ref sl) (C := RX6) (T := TX6) (N := 6) hx hb hts inX6 hown hK hP 0 rfl rfl 0 (by decide) hfieldLink_RX6_10 (fun _ h9 => h9) rfl dX6_chain_2 ?_
  have hPc := hP.sub (ws' := [(sl, .inr (0, [.int smd, .ref ser, .int (nI N)]))]) [1] rfl
  have hDc := hD.sub (ws' := [(sl, .inr (0, [.int smd, .ref ser, .int (nI N)]))]) [1] (by decide) rfl
  have hFc := va_free (wc := [(sl, .inr (0, [.int smd, .ref ser, .int (nI N)]))]) hD hS hA [1] rfl
  refine g_Vi (As := []) (rest := [.int j]) CF (c_Jx4a65c_size_8abf5 l D cI cJ cO df s.heap.size sl smd ser (nI N) ) (cwV 0 hts gX6_chain_Jx4a65c_size_8abf5 rfl rfl rfl (by decide +kernel) ⟨Nat.le_of_ble_eq_true rfl, Nat.le_of_ble_eq_true rfl⟩) (va_recv hK hP (ci := 0) (q0 := 1) rfl rfl) hPc hK hDc hV hH hS hFc rfl hl.1 rfl (Nat.le_of_ble_eq_true rfl) dX6_chain_5 ⟨Nat.le_of_ble_eq_true rfl, Nat.le_of_ble_eq_true rfl⟩ (fun r_5 w1 H1 locs1 hq hP1 hD1 hk hS hz => ?_)
  obtain ⟨rfl, hr_5⟩ := hq
  have hP := g_keepR hP hD [1] rfl hk hP1
  clear hPc hDc hFc hP1 hD1 hk hz
  generalize H1 = H at hP hS ⊢
  have hP : va_P D ccl (([(t0, .inr (7, [.ref sl, .ref ch, .ref oh, .ref xh, .ref rh, .ref sh])), (sl, .inr (0, [.int smd, .ref ser, .int (nI N)])), (ser, .inl (cO, 10, .inr (.inr (.inr (.inr sf))))), (ch, .inr (1, [.ref lh])), (lh, .inr (0, [.int md, .ref df, .int 0]))] : va_W) ++ scL (scJ cI SA SB mc ms mw) (List.range N)) H := hP
  have hD : va_D A (([(t0, .inr (7, [.ref sl, .ref ch, .ref oh, .ref xh, .ref rh, .ref sh])), (sl, .inr (0, [.int smd, .ref ser, .int (nI N)])), (ser, .inl (cO, 10, .inr (.inr (.inr (.inr sf))))), (ch, .inr (1, [.ref lh])), (lh, .inr (0, [.int md, .ref df, .int 0]))] : va_W) ++ scL (scJ cI SA SB mc ms mw) (List.range N)) := hD
  subst hr_5
  have hPc : va_P D ccl [] H := fun k q h => by simp at h
  have hDc : va_D A [] := ⟨fun i j p q h => by simp at h, fun k q h => by simp at h⟩
  have hFc := va_free (wc := []) hD hS hA [] rfl
  refine gx_Sv (As := [.int j, .int (nI N)]) (rest := []) CF (c_X6_requirePlace l hfl D cI cJ cO df H.size j N ) (va_cwS 2 hts gX6_chain_X6_requirePlace rfl rfl rfl (by decide +kernel) ⟨Nat.le_of_ble_eq_true rfl, Nat.le_of_ble_eq_true rfl⟩)  hPc hK hDc hV hH hS hFc rfl hl.1 rfl (Nat.le_of_ble_eq_true rfl) dX6_chain_8 ⟨Nat.le_of_ble_eq_true rfl, Nat.le_of_ble_eq_true rfl⟩ (fun E9 ce q9 w1 H1 locs1 hq hP1 hD1 hk hS hz hc1 hc2 hc3 => ?_) (fun w1 H1 locs1 hq hP1 hD1 hk hS hz => ?_)
  · obtain ⟨ew1, hq⟩ := hq
    dsimp only at ew1 hq
    subst ew1
    have hP := g_keep0 hP hk
    refine vx_widen (k := 2) (n := 16) (Nat.le_of_ble_eq_true rfl) (Nat.le_of_ble_eq_true rfl) ?_
    refine vx_out (fun z hz9 => absurd hz9 (hin z)) hlk hc1 hc2 hc3 (fun t ht hvm => ⟨(E9, (([(t0, .inr (7, [.ref sl, .ref ch, .ref oh, .ref xh, .ref rh, .ref sh])), (sl, .inr (0, [.int smd, .ref ser, .int (nI N)])), (ser, .inl (cO, 10, .inr (.inr (.inr (.inr sf))))), (ch, .inr (1, [.ref lh])), (lh, .inr (0, [.int md, .ref df, .int 0]))] : va_W) ++ scL (scJ cI SA SB mc ms mw) (List.range N))), ⟨rfl, px1 hq.2 hq.1⟩, ⟨rfl, by rw [ht]; exact hP, va_K.moved hvm hK, hD⟩, hS.F ht⟩) hS.2.2 (Nat.le_refl _) (Nat.le_refl _)
  obtain ⟨rfl, hq_8⟩ := hq
  have hP := g_keep0 hP hk
  clear hPc hDc hFc hP1 hD1 hk hz
  generalize H1 = H at hP hS ⊢
  have hP : va_P D ccl (([(t0, .inr (7, [.ref sl, .ref ch, .ref oh, .ref xh, .ref rh, .ref sh])), (sl, .inr (0, [.int smd, .ref ser, .int (nI N)])), (ser, .inl (cO, 10, .inr (.inr (.inr (.inr sf))))), (ch, .inr (1, [.ref lh])), (lh, .inr (0, [.int md, .ref df, .int 0]))] : va_W) ++ scL (scJ cI SA SB mc ms mw) (List.range N)) H := hP
  have hD : va_D A (([(t0, .inr (7, [.ref sl, .ref ch, .ref oh, .ref xh, .ref rh, .ref sh])), (sl, .inr (0, [.int smd, .ref ser, .int (nI N)])), (ser, .inl (cO, 10, .inr (.inr (.inr (.inr sf))))), (ch, .inr (1, [.ref lh])), (lh, .inr (0, [.int md, .ref df, .int 0]))] : va_W) ++ scL (scJ cI SA SB mc ms mw) (List.range N)) := hD
  obtain ⟨J, hJ, rfl⟩ := isSec_get hN hq_8
  refine lv_aload_n hx hb dX6_chain_11 rfl (lv_at hl 0 rfl) ?_
  refine va_get (D := D) (ci := 7) (v := .ref ch) (C := RX6) (T := TX6) (N := 6) hx hb hts inX6 hown hK hP 0 rfl rfl 1 (by decide) hfieldLink_RX6_19 (fun _ h9 => h9) rfl dX6_chain_12 ?_
  refine lv_aload_n hx hb dX6_chain_15 rfl (lv_at hl 0 rfl) ?_
  refine va_get (D := D) (ci := 7) (v := .ref sl) (C := RX6) (T := TX6) (N := 6) hx hb hts inX6 hown hK hP 0 rfl rfl 0 (by decide) hfieldLink_RX6_10 (fun _ h9 => h9) rfl dX6_chain_16 ?_
  refine lv_iload_n hx hb dX6_chain_19 rfl (lv_at hl 1 rfl) ?_
  have hPc := hP.sub (ws' := [(sl, .inr (0, [.int smd, .ref ser, .int (nI N)])), (ser, .inl (cO, 10, .inr (.inr (.inr (.inr sf)))))]) [1, 2] rfl
  have hDc := hD.sub (ws' := [(sl, .inr (0, [.int smd, .ref ser, .int (nI N)])), (ser, .inl (cO, 10, .inr (.inr (.inr (.inr sf)))))]) [1, 2] (by decide) rfl
  have hFc := va_free (wc := [(sl, .inr (0, [.int smd, .ref ser, .int (nI N)])), (ser, .inl (cO, 10, .inr (.inr (.inr (.inr sf)))))]) hD hS hA [1, 2] rfl
  refine g_Vr (As := [.int (nI J)]) (rest := [.ref ch]) CF (c_Jx4a65c_get_915e3 l D cI cJ cO df H.size sl smd ser N sf J (SA J) hJ (by omega) (hsf J hJ)) (cwV 1 hts gX6_chain_Jx4a65c_get_915e3 rfl rfl rfl (by decide +kernel) ⟨Nat.le_of_ble_eq_true rfl, Nat.le_of_ble_eq_true rfl⟩) (va_recv hK hP (ci := 0) (q0 := 1) rfl rfl) hPc hK hDc hV hH hS hFc rfl hl.1 rfl (Nat.le_of_ble_eq_true rfl) dX6_chain_20 ⟨Nat.le_of_ble_eq_true rfl, Nat.le_of_ble_eq_true rfl⟩ (fun w1 H1 locs1 hq hP1 hD1 hk hS hz => ?_)
  obtain ⟨w1, a1⟩ := w1
  obtain ⟨ew1, hr_20⟩ := hq
  dsimp only at ew1 hP1 hD1 hr_20
  subst ew1
  have hP := g_keepR hP hD [1, 2] rfl hk hP1
  clear hPc hDc hFc hP1 hD1 hk hz
  generalize H1 = H at hP hS ⊢
  have hP : va_P D ccl (([(t0, .inr (7, [.ref sl, .ref ch, .ref oh, .ref xh, .ref rh, .ref sh])), (sl, .inr (0, [.int smd, .ref ser, .int (nI N)])), (ser, .inl (cO, 10, .inr (.inr (.inr (.inr sf))))), (ch, .inr (1, [.ref lh])), (lh, .inr (0, [.int md, .ref df, .int 0]))] : va_W) ++ scL (scJ cI SA SB mc ms mw) (List.range N)) H := hP
  have hD : va_D A (([(t0, .inr (7, [.ref sl, .ref ch, .ref oh, .ref xh, .ref rh, .ref sh])), (sl, .inr (0, [.int smd, .ref ser, .int (nI N)])), (ser, .inl (cO, 10, .inr (.inr (.inr (.inr sf))))), (ch, .inr (1, [.ref lh])), (lh, .inr (0, [.int md, .ref df, .int 0]))] : va_W) ++ scL (scJ cI SA SB mc ms mw) (List.range N)) := hD
  have hr_20 := hr_20.symm
  subst hr_20
  refine va_castS hx hb hown hclassLink_RX6_49 (gS4 hK) ((inT_scL (rgm hJ)).recv (X := [(t0, .inr (7, [.ref sl, .ref ch, .ref oh, .ref xh, .ref rh, .ref sh])), (sl, .inr (0, [.int smd, .ref ser, .int (nI N)])), (ser, .inl (cO, 10, .inr (.inr (.inr (.inr sf))))), (ch, .inr (1, [.ref lh])), (lh, .inr (0, [.int md, .ref df, .int 0]))]) hK hP) dX6_chain_23 ?_
  have hPc := hP.part (X := [(t0, .inr (7, [.ref sl, .ref ch, .ref oh, .ref xh, .ref rh, .ref sh])), (sl, .inr (0, [.int smd, .ref ser, .int (nI N)])), (ser, .inl (cO, 10, .inr (.inr (.inr (.inr sf))))), (ch, .inr (1, [.ref lh])), (lh, .inr (0, [.int md, .ref df, .int 0]))]) (cx := [(ch, .inr (1, [.ref lh])), (lh, .inr (0, [.int md, .ref df, .int 0]))]) [3, 4] rfl
  have hDc := hD.part (X := [(t0, .inr (7, [.ref sl, .ref ch, .ref oh, .ref xh, .ref rh, .ref sh])), (sl, .inr (0, [.int smd, .ref ser, .int (nI N)])), (ser, .inl (cO, 10, .inr (.inr (.inr (.inr sf))))), (ch, .inr (1, [.ref lh])), (lh, .inr (0, [.int md, .ref df, .int 0]))]) (cx := [(ch, .inr (1, [.ref lh])), (lh, .inr (0, [.int md, .ref df, .int 0]))]) [3, 4] (by decide) rfl
  have hFc := va_freeP (X := [(t0, .inr (7, [.ref sl, .ref ch, .ref oh, .ref xh, .ref rh, .ref sh])), (sl, .inr (0, [.int smd, .ref ser, .int (nI N)])), (ser, .inl (cO, 10, .inr (.inr (.inr (.inr sf))))), (ch, .inr (1, [.ref lh])), (lh, .inr (0, [.int md, .ref df, .int 0]))]) (cx := [(ch, .inr (1, [.ref lh])), (lh, .inr (0, [.int md, .ref df, .int 0]))]) hD hS hA [3, 4] rfl
  refine g_Vi (As := [.ref (SA J)]) (rest := []) CF (c_X0_toggle_e l D cI cJ cO df H.size ch lh md SA SB mc ms mw N J hN hJ) (cwV 1 hts gX6_chain_X0_toggle rfl rfl rfl (by decide +kernel) ⟨Nat.le_of_ble_eq_true rfl, Nat.le_of_ble_eq_true rfl⟩) (va_recv hK hP (ci := 1) (q0 := 3) rfl rfl) hPc hK hDc hV hH hS hFc rfl hl.1 rfl (Nat.le_of_ble_eq_true rfl) dX6_chain_26 ⟨Nat.le_of_ble_eq_true rfl, Nat.le_of_ble_eq_true rfl⟩ (fun r_26 w1 H1 locs1 hq hP1 hD1 hk hS hz => ?_)
  obtain ⟨q1, rfl, hr_26⟩ := hq
  obtain ⟨hP, hD⟩ := g_joinP (X := [(t0, .inr (7, [.ref sl, .ref ch, .ref oh, .ref xh, .ref rh, .ref sh])), (sl, .inr (0, [.int smd, .ref ser, .int (nI N)])), (ser, .inl (cO, 10, .inr (.inr (.inr (.inr sf))))), (ch, .inr (1, [.ref lh])), (lh, .inr (0, [.int md, .ref df, .int 0]))]) (cx := [(ch, .inr (1, [.ref lh])), (lh, .inr (0, [.int md, .ref df, .int 0]))]) (rx := [(ch, .inr (1, [.ref lh])), (lh, .inr (0, [.int (md + 1), .ref q1, .int (nI 1)])), (q1, .inl (cO, 10, .inr (.inr (.inr (.inr (va_up (fun _ => none) 0 (some (SA J))))))))]) (X' := [(t0, .inr (7, [.ref sl, .ref ch, .ref oh, .ref xh, .ref rh, .ref sh])), (sl, .inr (0, [.int smd, .ref ser, .int (nI N)])), (ser, .inl (cO, 10, .inr (.inr (.inr (.inr sf))))), (ch, .inr (1, [.ref lh])), (lh, .inr (0, [.int (md + 1), .ref q1, .int (nI 1)])), (q1, .inl (cO, 10, .inr (.inr (.inr (.inr (va_up (fun _ => none) 0 (some (SA J))))))))]) hP hD hk hFc hP1 hD1 [3, 4] [0, 1, 2] [0, 1, 2, 3, 4, 5] rfl rfl (by decide) (by decide) (by decide) rfl
  clear hPc hDc hFc hP1 hD1 hk hz
  generalize H1 = H at hP hS ⊢
  have hP : va_P D ccl (([(t0, .inr (7, [.ref sl, .ref ch, .ref oh, .ref xh, .ref rh, .ref sh])), (sl, .inr (0, [.int smd, .ref ser, .int (nI N)])), (ser, .inl (cO, 10, .inr (.inr (.inr (.inr sf))))), (ch, .inr (1, [.ref lh])), (lh, .inr (0, [.int (md + 1), .ref q1, .int (nI 1)])), (q1, .inl (cO, 10, .inr (.inr (.inr (.inr (va_up (fun _ => none) 0 (some (SA J))))))))] : va_W) ++ scL (scJ cI SA SB mc ms mw) (List.range N)) H := hP
  have hD : va_D A (([(t0, .inr (7, [.ref sl, .ref ch, .ref oh, .ref xh, .ref rh, .ref sh])), (sl, .inr (0, [.int smd, .ref ser, .int (nI N)])), (ser, .inl (cO, 10, .inr (.inr (.inr (.inr sf))))), (ch, .inr (1, [.ref lh])), (lh, .inr (0, [.int (md + 1), .ref q1, .int (nI 1)])), (q1, .inl (cO, 10, .inr (.inr (.inr (.inr (va_up (fun _ => none) 0 (some (SA J))))))))] : va_W) ++ scL (scJ cI SA SB mc ms mw) (List.range N)) := hD
  subst hr_26
  refine vx_ret ?_
  refine g_iret (v := 1) hx hb hr hlk hP hK hD hS (Nat.le_of_ble_eq_true rfl) (Nat.le_of_ble_eq_true rfl) dX6_chain_29 ?_
  have e1 : gN (nI J) = J := gN_nI (by omega)
  exact ⟨_, by rw [e1], rfl, gGoOk hq_8 (by decide) (by decide)⟩

set_option maxHeartbeats 4000000 in
set_option maxRecDepth 100000 in
theorem c_X6_set_x (l : Launch) (hfl : l.stackTraces = false) (D : va_G) (cI cJ cO : ClassId) (df sz : Nat) (t0 : Nat) (sl : Nat) (ch : Nat) (oh : Nat) (xh : Nat) (rh : Nat) (sh : Nat) (smd : Int32) (j : Int32) (wh : Int32) (v : Int32)  : MxI l yX6_set wsX6_set ({ frames := 7, cells := 1, slots := 6, locals := 111 } : Room) D (gTY cI cJ cO) df [(t0, .inr (7, [.ref sl, .ref ch, .ref oh, .ref xh, .ref rh, .ref sh])), (sl, .inr (0, [.int smd, .ref df, .int 0]))] sz [.ref t0, .int j, .int wh, .int v] (fun (u : String × va_W) => u.2 = [(t0, .inr (7, [.ref sl, .ref ch, .ref oh, .ref xh, .ref rh, .ref sh])), (sl, .inr (0, [.int smd, .ref df, .int 0]))] ∧ ¬ gGo (isSec 0 j) (if isIn wh 0 4 = 0 then 0 else isIn v (-127) 127) 1 = 0 ∧ u.1 = xN gIOB gIAE (gGo (isSec 0 j) (if isIn wh 0 4 = 0 then 0 else isIn v (-127) 127) 1)) (fun (r : Int32) (wZ : va_W) => wZ = [(t0, .inr (7, [.ref sl, .ref ch, .ref oh, .ref xh, .ref rh, .ref sh])), (sl, .inr (0, [.int smd, .ref df, .int 0]))] ∧ False) := by
  refine gx_of (cc := cX6_set) (nL := 4) (ret := (some .int)) (D := D) (TY := (gTY cI cJ cO)) (df := df) (Qc := fun A => va_Qi (fun (r : Int32) (wZ : va_W) => wZ = [(t0, .inr (7, [.ref sl, .ref ch, .ref oh, .ref xh, .ref rh, .ref sh])), (sl, .inr (0, [.int smd, .ref df, .int 0]))] ∧ False) (gB D (gTY cI cJ cO) A) A) (XC := fun A => vx_X (fun (u : String × va_W) => u.2 = [(t0, .inr (7, [.ref sl, .ref ch, .ref oh, .ref xh, .ref rh, .ref sh])), (sl, .inr (0, [.int smd, .ref df, .int 0]))] ∧ ¬ gGo (isSec 0 j) (if isIn wh 0 4 = 0 then 0 else isIn v (-127) 127) 1 = 0 ∧ u.1 = xN gIOB gIAE (gGo (isSec 0 j) (if isIn wh 0 4 = 0 then 0 else isIn v (-127) 127) 1)) (gBx D (gTY cI cJ cO) A) A) (by decide +kernel) rfl (Nat.le_of_ble_eq_true rfl) ?_
  intro p e s m below meth c ls A hsz C0 hin hl
  obtain ⟨CF, hr, hlk, hA, hS, hP, hK, hD, hV, hH⟩ := C0
  have CF : CallFix p m c cX6_set 4 s _ wsX6_set RX6 := CF
  obtain ⟨hx, hb, hml, hown, hts⟩ := id CF
  subst hsz
  have hfieldLink_RX6_10 : (Cond.fieldLink RX6 10 "TapLoom" "sections" "Ljava/util/ArrayList;").before _ s = true := hts _ (List.mem_of_getElem? (i := 1) rfl)
  have hmethodLink_RX6_55 : (Cond.methodLink RX6 55 yJx4a65c_size_8abf5).before _ s = true := hts _ (List.mem_of_getElem? (i := 3) rfl)
  have hmethodLink_RX6_73 : (Cond.methodLink RX6 73 yX6_requirePlace).before _ s = true := hts _ (List.mem_of_getElem? (i := 9) rfl)
  have inX6 : ∀ w ∈ u_ws RX6 TX6 6, w ∈ wsX6_set := fun w h => (List.mem_cons_of_mem _ (List.mem_append_left _ (List.mem_append_left _ (List.mem_append_left _ (List.mem_append_left _ (List.mem_append_right _ h))))))
  have hP : va_P D ccl [(t0, .inr (7, [.ref sl, .ref ch, .ref oh, .ref xh, .ref rh, .ref sh])), (sl, .inr (0, [.int smd, .ref df, .int 0]))] s.heap := hP
  have hl : lv_has ls 4 [(0, .ref t0), (1, .int j), (2, .int wh), (3, .int v)] := hl
  refine lv_iload_n hx hb dX6_set_0 rfl (lv_at hl 1 rfl) ?_
  refine lv_aload_n hx hb dX6_set_1 rfl (lv_at hl 0 rfl) ?_
  refine va_get (D := D) (ci := 7) (v := .ref sl) (C := RX6) (T := TX6) (N := 6) hx hb hts inX6 hown hK hP 0 rfl rfl 0 (by decide) hfieldLink_RX6_10 (fun _ h9 => h9) rfl dX6_set_2 ?_
  have hPc := hP.sub (ws' := [(sl, .inr (0, [.int smd, .ref df, .int 0]))]) [1] rfl
  have hDc := hD.sub (ws' := [(sl, .inr (0, [.int smd, .ref df, .int 0]))]) [1] (by decide) rfl
  have hFc := va_free (wc := [(sl, .inr (0, [.int smd, .ref df, .int 0]))]) hD hS hA [1] rfl
  refine g_Vi (As := []) (rest := [.int j]) CF (c_Jx4a65c_size_8abf5 l D cI cJ cO df s.heap.size sl smd df 0 ) (cwV 0 hts gX6_set_Jx4a65c_size_8abf5 rfl rfl rfl (by decide +kernel) ⟨Nat.le_of_ble_eq_true rfl, Nat.le_of_ble_eq_true rfl⟩) (va_recv hK hP (ci := 0) (q0 := 1) rfl rfl) hPc hK hDc hV hH hS hFc rfl hl.1 rfl (Nat.le_of_ble_eq_true rfl) dX6_set_5 ⟨Nat.le_of_ble_eq_true rfl, Nat.le_of_ble_eq_true rfl⟩ (fun r_5 w1 H1 locs1 hq hP1 hD1 hk hS hz => ?_)
  obtain ⟨rfl, hr_5⟩ := hq
  have hP := g_keepR hP hD [1] rfl hk hP1
  clear hPc hDc hFc hP1 hD1 hk hz
  generalize H1 = H at hP hS ⊢
  have hP : va_P D ccl [(t0, .inr (7, [.ref sl, .ref ch, .ref oh, .ref xh, .ref rh, .ref sh])), (sl, .inr (0, [.int smd, .ref df, .int 0]))] H := hP
  have hD : va_D A [(t0, .inr (7, [.ref sl, .ref ch, .ref oh, .ref xh, .ref rh, .ref sh])), (sl, .inr (0, [.int smd, .ref df, .int 0]))] := hD
  subst hr_5
  have hPc : va_P D ccl [] H := fun k q h => by simp at h
  have hDc : va_D A [] := ⟨fun i j p q h => by simp at h, fun k q h => by simp at h⟩
  have hFc := va_free (wc := []) hD hS hA [] rfl
  refine gx_Sv (As := [.int j, .int 0]) (rest := []) CF (c_X6_requirePlace l hfl D cI cJ cO df H.size j 0 ) (va_cwS 2 hts gX6_set_X6_requirePlace rfl rfl rfl (by decide +kernel) ⟨Nat.le_of_ble_eq_true rfl, Nat.le_of_ble_eq_true rfl⟩)  hPc hK hDc hV hH hS hFc rfl hl.1 rfl (Nat.le_of_ble_eq_true rfl) dX6_set_8 ⟨Nat.le_of_ble_eq_true rfl, Nat.le_of_ble_eq_true rfl⟩ (fun E9 ce q9 w1 H1 locs1 hq hP1 hD1 hk hS hz hc1 hc2 hc3 => ?_) (fun w1 H1 locs1 hq hP1 hD1 hk hS hz => ?_)
  · obtain ⟨ew1, hq⟩ := hq
    dsimp only at ew1 hq
    subst ew1
    have hP := g_keep0 hP hk
    refine vx_widen (k := 1) (n := 6) (Nat.le_of_ble_eq_true rfl) (Nat.le_of_ble_eq_true rfl) ?_
    refine vx_out (fun z hz9 => absurd hz9 (hin z)) hlk hc1 hc2 hc3 (fun t ht hvm => ⟨(E9, [(t0, .inr (7, [.ref sl, .ref ch, .ref oh, .ref xh, .ref rh, .ref sh])), (sl, .inr (0, [.int smd, .ref df, .int 0]))]), ⟨rfl, px1 hq.2 hq.1⟩, ⟨rfl, by rw [ht]; exact hP, va_K.moved hvm hK, hD⟩, hS.F ht⟩) hS.2.2 (Nat.le_refl _) (Nat.le_refl _)
  obtain ⟨rfl, hq_8⟩ := hq
  have hP := g_keep0 hP hk
  clear hPc hDc hFc hP1 hD1 hk hz
  generalize H1 = H at hP hS ⊢
  have hP : va_P D ccl [(t0, .inr (7, [.ref sl, .ref ch, .ref oh, .ref xh, .ref rh, .ref sh])), (sl, .inr (0, [.int smd, .ref df, .int 0]))] H := hP
  have hD : va_D A [(t0, .inr (7, [.ref sl, .ref ch, .ref oh, .ref xh, .ref rh, .ref sh])), (sl, .inr (0, [.int smd, .ref df, .int 0]))] := hD
  exact absurd (isSec0 _) hq_8

set_option maxHeartbeats 4000000 in
set_option maxRecDepth 100000 in
theorem c_X6_chain_x (l : Launch) (hfl : l.stackTraces = false) (D : va_G) (cI cJ cO : ClassId) (df sz : Nat) (t0 : Nat) (sl : Nat) (ch : Nat) (oh : Nat) (xh : Nat) (rh : Nat) (sh : Nat) (smd : Int32) (j : Int32)  : MxI l yX6_chain wsX6_chain ({ frames := 7, cells := 1, slots := 6, locals := 111 } : Room) D (gTY cI cJ cO) df [(t0, .inr (7, [.ref sl, .ref ch, .ref oh, .ref xh, .ref rh, .ref sh])), (sl, .inr (0, [.int smd, .ref df, .int 0]))] sz [.ref t0, .int j] (fun (u : String × va_W) => u.2 = [(t0, .inr (7, [.ref sl, .ref ch, .ref oh, .ref xh, .ref rh, .ref sh])), (sl, .inr (0, [.int smd, .ref df, .int 0]))] ∧ ¬ gGo (isSec 0 j) 1 1 = 0 ∧ u.1 = xN gIOB gIOB (gGo (isSec 0 j) 1 1)) (fun (r : Int32) (wZ : va_W) => wZ = [(t0, .inr (7, [.ref sl, .ref ch, .ref oh, .ref xh, .ref rh, .ref sh])), (sl, .inr (0, [.int smd, .ref df, .int 0]))] ∧ False) := by
  refine gx_of (cc := cX6_chain) (nL := 2) (ret := (some .int)) (D := D) (TY := (gTY cI cJ cO)) (df := df) (Qc := fun A => va_Qi (fun (r : Int32) (wZ : va_W) => wZ = [(t0, .inr (7, [.ref sl, .ref ch, .ref oh, .ref xh, .ref rh, .ref sh])), (sl, .inr (0, [.int smd, .ref df, .int 0]))] ∧ False) (gB D (gTY cI cJ cO) A) A) (XC := fun A => vx_X (fun (u : String × va_W) => u.2 = [(t0, .inr (7, [.ref sl, .ref ch, .ref oh, .ref xh, .ref rh, .ref sh])), (sl, .inr (0, [.int smd, .ref df, .int 0]))] ∧ ¬ gGo (isSec 0 j) 1 1 = 0 ∧ u.1 = xN gIOB gIOB (gGo (isSec 0 j) 1 1)) (gBx D (gTY cI cJ cO) A) A) (by decide +kernel) rfl (Nat.le_of_ble_eq_true rfl) ?_
  intro p e s m below meth c ls A hsz C0 hin hl
  obtain ⟨CF, hr, hlk, hA, hS, hP, hK, hD, hV, hH⟩ := C0
  have CF : CallFix p m c cX6_chain 2 s _ wsX6_chain RX6 := CF
  obtain ⟨hx, hb, hml, hown, hts⟩ := id CF
  subst hsz
  have hfieldLink_RX6_10 : (Cond.fieldLink RX6 10 "TapLoom" "sections" "Ljava/util/ArrayList;").before _ s = true := hts _ (List.mem_of_getElem? (i := 1) rfl)
  have hmethodLink_RX6_55 : (Cond.methodLink RX6 55 yJx4a65c_size_8abf5).before _ s = true := hts _ (List.mem_of_getElem? (i := 4) rfl)
  have hmethodLink_RX6_73 : (Cond.methodLink RX6 73 yX6_requirePlace).before _ s = true := hts _ (List.mem_of_getElem? (i := 10) rfl)
  have inX6 : ∀ w ∈ u_ws RX6 TX6 6, w ∈ wsX6_chain := fun w h => (List.mem_cons_of_mem _ (List.mem_append_left _ (List.mem_append_left _ (List.mem_append_left _ (List.mem_append_right _ h)))))
  have hP : va_P D ccl [(t0, .inr (7, [.ref sl, .ref ch, .ref oh, .ref xh, .ref rh, .ref sh])), (sl, .inr (0, [.int smd, .ref df, .int 0]))] s.heap := hP
  have hl : lv_has ls 2 [(0, .ref t0), (1, .int j)] := hl
  refine lv_iload_n hx hb dX6_chain_0 rfl (lv_at hl 1 rfl) ?_
  refine lv_aload_n hx hb dX6_chain_1 rfl (lv_at hl 0 rfl) ?_
  refine va_get (D := D) (ci := 7) (v := .ref sl) (C := RX6) (T := TX6) (N := 6) hx hb hts inX6 hown hK hP 0 rfl rfl 0 (by decide) hfieldLink_RX6_10 (fun _ h9 => h9) rfl dX6_chain_2 ?_
  have hPc := hP.sub (ws' := [(sl, .inr (0, [.int smd, .ref df, .int 0]))]) [1] rfl
  have hDc := hD.sub (ws' := [(sl, .inr (0, [.int smd, .ref df, .int 0]))]) [1] (by decide) rfl
  have hFc := va_free (wc := [(sl, .inr (0, [.int smd, .ref df, .int 0]))]) hD hS hA [1] rfl
  refine g_Vi (As := []) (rest := [.int j]) CF (c_Jx4a65c_size_8abf5 l D cI cJ cO df s.heap.size sl smd df 0 ) (cwV 0 hts gX6_chain_Jx4a65c_size_8abf5 rfl rfl rfl (by decide +kernel) ⟨Nat.le_of_ble_eq_true rfl, Nat.le_of_ble_eq_true rfl⟩) (va_recv hK hP (ci := 0) (q0 := 1) rfl rfl) hPc hK hDc hV hH hS hFc rfl hl.1 rfl (Nat.le_of_ble_eq_true rfl) dX6_chain_5 ⟨Nat.le_of_ble_eq_true rfl, Nat.le_of_ble_eq_true rfl⟩ (fun r_5 w1 H1 locs1 hq hP1 hD1 hk hS hz => ?_)
  obtain ⟨rfl, hr_5⟩ := hq
  have hP := g_keepR hP hD [1] rfl hk hP1
  clear hPc hDc hFc hP1 hD1 hk hz
  generalize H1 = H at hP hS ⊢
  have hP : va_P D ccl [(t0, .inr (7, [.ref sl, .ref ch, .ref oh, .ref xh, .ref rh, .ref sh])), (sl, .inr (0, [.int smd, .ref df, .int 0]))] H := hP
  have hD : va_D A [(t0, .inr (7, [.ref sl, .ref ch, .ref oh, .ref xh, .ref rh, .ref sh])), (sl, .inr (0, [.int smd, .ref df, .int 0]))] := hD
  subst hr_5
  have hPc : va_P D ccl [] H := fun k q h => by simp at h
  have hDc : va_D A [] := ⟨fun i j p q h => by simp at h, fun k q h => by simp at h⟩
  have hFc := va_free (wc := []) hD hS hA [] rfl
  refine gx_Sv (As := [.int j, .int 0]) (rest := []) CF (c_X6_requirePlace l hfl D cI cJ cO df H.size j 0 ) (va_cwS 2 hts gX6_chain_X6_requirePlace rfl rfl rfl (by decide +kernel) ⟨Nat.le_of_ble_eq_true rfl, Nat.le_of_ble_eq_true rfl⟩)  hPc hK hDc hV hH hS hFc rfl hl.1 rfl (Nat.le_of_ble_eq_true rfl) dX6_chain_8 ⟨Nat.le_of_ble_eq_true rfl, Nat.le_of_ble_eq_true rfl⟩ (fun E9 ce q9 w1 H1 locs1 hq hP1 hD1 hk hS hz hc1 hc2 hc3 => ?_) (fun w1 H1 locs1 hq hP1 hD1 hk hS hz => ?_)
  · obtain ⟨ew1, hq⟩ := hq
    dsimp only at ew1 hq
    subst ew1
    have hP := g_keep0 hP hk
    refine vx_widen (k := 1) (n := 6) (Nat.le_of_ble_eq_true rfl) (Nat.le_of_ble_eq_true rfl) ?_
    refine vx_out (fun z hz9 => absurd hz9 (hin z)) hlk hc1 hc2 hc3 (fun t ht hvm => ⟨(E9, [(t0, .inr (7, [.ref sl, .ref ch, .ref oh, .ref xh, .ref rh, .ref sh])), (sl, .inr (0, [.int smd, .ref df, .int 0]))]), ⟨rfl, px1 hq.2 hq.1⟩, ⟨rfl, by rw [ht]; exact hP, va_K.moved hvm hK, hD⟩, hS.F ht⟩) hS.2.2 (Nat.le_refl _) (Nat.le_refl _)
  obtain ⟨rfl, hq_8⟩ := hq
  have hP := g_keep0 hP hk
  clear hPc hDc hFc hP1 hD1 hk hz
  generalize H1 = H at hP hS ⊢
  have hP : va_P D ccl [(t0, .inr (7, [.ref sl, .ref ch, .ref oh, .ref xh, .ref rh, .ref sh])), (sl, .inr (0, [.int smd, .ref df, .int 0]))] H := hP
  have hD : va_D A [(t0, .inr (7, [.ref sl, .ref ch, .ref oh, .ref xh, .ref rh, .ref sh])), (sl, .inr (0, [.int smd, .ref df, .int 0]))] := hD
  exact absurd (isSec0 _) hq_8

set_option maxHeartbeats 4000000 in
set_option maxRecDepth 100000 in
theorem c_X6_of_x (l : Launch) (hfl : l.stackTraces = false) (D : va_G) (cI cJ cO : ClassId) (df sz : Nat) (t0 : Nat) (sl : Nat) (ch : Nat) (oh : Nat) (xh : Nat) (rh : Nat) (sh : Nat) (smd : Int32) (j : Int32) (wh : Int32)  : MxI l yX6_of wsX6_of ({ frames := 7, cells := 1, slots := 6, locals := 111 } : Room) D (gTY cI cJ cO) df [(t0, .inr (7, [.ref sl, .ref ch, .ref oh, .ref xh, .ref rh, .ref sh])), (sl, .inr (0, [.int smd, .ref df, .int 0]))] sz [.ref t0, .int j, .int wh] (fun (u : String × va_W) => u.2 = [(t0, .inr (7, [.ref sl, .ref ch, .ref oh, .ref xh, .ref rh, .ref sh])), (sl, .inr (0, [.int smd, .ref df, .int 0]))] ∧ ¬ gGo (isSec 0 j) (isIn wh 0 9) 1 = 0 ∧ u.1 = xN gIOB gIAE (gGo (isSec 0 j) (isIn wh 0 9) 1)) (fun (r : Int32) (wZ : va_W) => wZ = [(t0, .inr (7, [.ref sl, .ref ch, .ref oh, .ref xh, .ref rh, .ref sh])), (sl, .inr (0, [.int smd, .ref df, .int 0]))] ∧ False) := by
  refine gx_of (cc := cX6_of) (nL := 4) (ret := (some .int)) (D := D) (TY := (gTY cI cJ cO)) (df := df) (Qc := fun A => va_Qi (fun (r : Int32) (wZ : va_W) => wZ = [(t0, .inr (7, [.ref sl, .ref ch, .ref oh, .ref xh, .ref rh, .ref sh])), (sl, .inr (0, [.int smd, .ref df, .int 0]))] ∧ False) (gB D (gTY cI cJ cO) A) A) (XC := fun A => vx_X (fun (u : String × va_W) => u.2 = [(t0, .inr (7, [.ref sl, .ref ch, .ref oh, .ref xh, .ref rh, .ref sh])), (sl, .inr (0, [.int smd, .ref df, .int 0]))] ∧ ¬ gGo (isSec 0 j) (isIn wh 0 9) 1 = 0 ∧ u.1 = xN gIOB gIAE (gGo (isSec 0 j) (isIn wh 0 9) 1)) (gBx D (gTY cI cJ cO) A) A) (by decide +kernel) rfl (Nat.le_of_ble_eq_true rfl) ?_
  intro p e s m below meth c ls A hsz C0 hin hl
  obtain ⟨CF, hr, hlk, hA, hS, hP, hK, hD, hV, hH⟩ := C0
  have CF : CallFix p m c cX6_of 4 s _ wsX6_of RX6 := CF
  obtain ⟨hx, hb, hml, hown, hts⟩ := id CF
  subst hsz
  have hfieldLink_RX6_10 : (Cond.fieldLink RX6 10 "TapLoom" "sections" "Ljava/util/ArrayList;").before _ s = true := hts _ (List.mem_of_getElem? (i := 1) rfl)
  have hmethodLink_RX6_55 : (Cond.methodLink RX6 55 yJx4a65c_size_8abf5).before _ s = true := hts _ (List.mem_of_getElem? (i := 7) rfl)
  have hmethodLink_RX6_73 : (Cond.methodLink RX6 73 yX6_requirePlace).before _ s = true := hts _ (List.mem_of_getElem? (i := 13) rfl)
  have inX6 : ∀ w ∈ u_ws RX6 TX6 6, w ∈ wsX6_of := fun w h => (List.mem_cons_of_mem _ (List.mem_append_left _ (List.mem_append_left _ (List.mem_append_left _ (List.mem_append_left _ (List.mem_append_left _ (List.mem_append_right _ h)))))))
  have hP : va_P D ccl [(t0, .inr (7, [.ref sl, .ref ch, .ref oh, .ref xh, .ref rh, .ref sh])), (sl, .inr (0, [.int smd, .ref df, .int 0]))] s.heap := hP
  have hl : lv_has ls 4 [(0, .ref t0), (1, .int j), (2, .int wh)] := hl
  refine lv_iload_n hx hb dX6_of_0 rfl (lv_at hl 1 rfl) ?_
  refine lv_aload_n hx hb dX6_of_1 rfl (lv_at hl 0 rfl) ?_
  refine va_get (D := D) (ci := 7) (v := .ref sl) (C := RX6) (T := TX6) (N := 6) hx hb hts inX6 hown hK hP 0 rfl rfl 0 (by decide) hfieldLink_RX6_10 (fun _ h9 => h9) rfl dX6_of_2 ?_
  have hPc := hP.sub (ws' := [(sl, .inr (0, [.int smd, .ref df, .int 0]))]) [1] rfl
  have hDc := hD.sub (ws' := [(sl, .inr (0, [.int smd, .ref df, .int 0]))]) [1] (by decide) rfl
  have hFc := va_free (wc := [(sl, .inr (0, [.int smd, .ref df, .int 0]))]) hD hS hA [1] rfl
  refine g_Vi (As := []) (rest := [.int j]) CF (c_Jx4a65c_size_8abf5 l D cI cJ cO df s.heap.size sl smd df 0 ) (cwV 0 hts gX6_of_Jx4a65c_size_8abf5 rfl rfl rfl (by decide +kernel) ⟨Nat.le_of_ble_eq_true rfl, Nat.le_of_ble_eq_true rfl⟩) (va_recv hK hP (ci := 0) (q0 := 1) rfl rfl) hPc hK hDc hV hH hS hFc rfl hl.1 rfl (Nat.le_of_ble_eq_true rfl) dX6_of_5 ⟨Nat.le_of_ble_eq_true rfl, Nat.le_of_ble_eq_true rfl⟩ (fun r_5 w1 H1 locs1 hq hP1 hD1 hk hS hz => ?_)
  obtain ⟨rfl, hr_5⟩ := hq
  have hP := g_keepR hP hD [1] rfl hk hP1
  clear hPc hDc hFc hP1 hD1 hk hz
  generalize H1 = H at hP hS ⊢
  have hP : va_P D ccl [(t0, .inr (7, [.ref sl, .ref ch, .ref oh, .ref xh, .ref rh, .ref sh])), (sl, .inr (0, [.int smd, .ref df, .int 0]))] H := hP
  have hD : va_D A [(t0, .inr (7, [.ref sl, .ref ch, .ref oh, .ref xh, .ref rh, .ref sh])), (sl, .inr (0, [.int smd, .ref df, .int 0]))] := hD
  subst hr_5
  have hPc : va_P D ccl [] H := fun k q h => by simp at h
  have hDc : va_D A [] := ⟨fun i j p q h => by simp at h, fun k q h => by simp at h⟩
  have hFc := va_free (wc := []) hD hS hA [] rfl
  refine gx_Sv (As := [.int j, .int 0]) (rest := []) CF (c_X6_requirePlace l hfl D cI cJ cO df H.size j 0 ) (va_cwS 2 hts gX6_of_X6_requirePlace rfl rfl rfl (by decide +kernel) ⟨Nat.le_of_ble_eq_true rfl, Nat.le_of_ble_eq_true rfl⟩)  hPc hK hDc hV hH hS hFc rfl hl.1 rfl (Nat.le_of_ble_eq_true rfl) dX6_of_8 ⟨Nat.le_of_ble_eq_true rfl, Nat.le_of_ble_eq_true rfl⟩ (fun E9 ce q9 w1 H1 locs1 hq hP1 hD1 hk hS hz hc1 hc2 hc3 => ?_) (fun w1 H1 locs1 hq hP1 hD1 hk hS hz => ?_)
  · obtain ⟨ew1, hq⟩ := hq
    dsimp only at ew1 hq
    subst ew1
    have hP := g_keep0 hP hk
    refine vx_widen (k := 1) (n := 6) (Nat.le_of_ble_eq_true rfl) (Nat.le_of_ble_eq_true rfl) ?_
    refine vx_out (fun z hz9 => absurd hz9 (hin z)) hlk hc1 hc2 hc3 (fun t ht hvm => ⟨(E9, [(t0, .inr (7, [.ref sl, .ref ch, .ref oh, .ref xh, .ref rh, .ref sh])), (sl, .inr (0, [.int smd, .ref df, .int 0]))]), ⟨rfl, px1 hq.2 hq.1⟩, ⟨rfl, by rw [ht]; exact hP, va_K.moved hvm hK, hD⟩, hS.F ht⟩) hS.2.2 (Nat.le_refl _) (Nat.le_refl _)
  obtain ⟨rfl, hq_8⟩ := hq
  have hP := g_keep0 hP hk
  clear hPc hDc hFc hP1 hD1 hk hz
  generalize H1 = H at hP hS ⊢
  have hP : va_P D ccl [(t0, .inr (7, [.ref sl, .ref ch, .ref oh, .ref xh, .ref rh, .ref sh])), (sl, .inr (0, [.int smd, .ref df, .int 0]))] H := hP
  have hD : va_D A [(t0, .inr (7, [.ref sl, .ref ch, .ref oh, .ref xh, .ref rh, .ref sh])), (sl, .inr (0, [.int smd, .ref df, .int 0]))] := hD
  exact absurd (isSec0 _) hq_8

set_option maxHeartbeats 4000000 in
set_option maxRecDepth 100000 in
theorem c_X6_cycles_x (l : Launch) (hfl : l.stackTraces = false) (D : va_G) (cI cJ cO : ClassId) (df sz : Nat) (t0 : Nat) (sl : Nat) (ch : Nat) (oh : Nat) (xh : Nat) (rh : Nat) (sh : Nat) (smd : Int32) (j : Int32) (rr : Int32) (wh : Int32)  : MxI l yX6_cycles wsX6_cycles ({ frames := 7, cells := 1, slots := 6, locals := 111 } : Room) D (gTY cI cJ cO) df [(t0, .inr (7, [.ref sl, .ref ch, .ref oh, .ref xh, .ref rh, .ref sh])), (sl, .inr (0, [.int smd, .ref df, .int 0]))] sz [.ref t0, .int j, .int rr, .int wh] (fun (u : String × va_W) => u.2 = [(t0, .inr (7, [.ref sl, .ref ch, .ref oh, .ref xh, .ref rh, .ref sh])), (sl, .inr (0, [.int smd, .ref df, .int 0]))] ∧ ¬ gGo (isSec 0 j) (if isIn rr 1 12 = 0 then 0 else isIn wh 0 3) 1 = 0 ∧ u.1 = xN gIOB gIAE (gGo (isSec 0 j) (if isIn rr 1 12 = 0 then 0 else isIn wh 0 3) 1)) (fun (r : Int32) (wZ : va_W) => wZ = [(t0, .inr (7, [.ref sl, .ref ch, .ref oh, .ref xh, .ref rh, .ref sh])), (sl, .inr (0, [.int smd, .ref df, .int 0]))] ∧ False) := by
  refine gx_of (cc := cX6_cycles) (nL := 4) (ret := (some .int)) (D := D) (TY := (gTY cI cJ cO)) (df := df) (Qc := fun A => va_Qi (fun (r : Int32) (wZ : va_W) => wZ = [(t0, .inr (7, [.ref sl, .ref ch, .ref oh, .ref xh, .ref rh, .ref sh])), (sl, .inr (0, [.int smd, .ref df, .int 0]))] ∧ False) (gB D (gTY cI cJ cO) A) A) (XC := fun A => vx_X (fun (u : String × va_W) => u.2 = [(t0, .inr (7, [.ref sl, .ref ch, .ref oh, .ref xh, .ref rh, .ref sh])), (sl, .inr (0, [.int smd, .ref df, .int 0]))] ∧ ¬ gGo (isSec 0 j) (if isIn rr 1 12 = 0 then 0 else isIn wh 0 3) 1 = 0 ∧ u.1 = xN gIOB gIAE (gGo (isSec 0 j) (if isIn rr 1 12 = 0 then 0 else isIn wh 0 3) 1)) (gBx D (gTY cI cJ cO) A) A) (by decide +kernel) rfl (Nat.le_of_ble_eq_true rfl) ?_
  intro p e s m below meth c ls A hsz C0 hin hl
  obtain ⟨CF, hr, hlk, hA, hS, hP, hK, hD, hV, hH⟩ := C0
  have CF : CallFix p m c cX6_cycles 4 s _ wsX6_cycles RX6 := CF
  obtain ⟨hx, hb, hml, hown, hts⟩ := id CF
  subst hsz
  have hfieldLink_RX6_10 : (Cond.fieldLink RX6 10 "TapLoom" "sections" "Ljava/util/ArrayList;").before _ s = true := hts _ (List.mem_of_getElem? (i := 1) rfl)
  have hmethodLink_RX6_55 : (Cond.methodLink RX6 55 yJx4a65c_size_8abf5).before _ s = true := hts _ (List.mem_of_getElem? (i := 4) rfl)
  have hmethodLink_RX6_73 : (Cond.methodLink RX6 73 yX6_requirePlace).before _ s = true := hts _ (List.mem_of_getElem? (i := 10) rfl)
  have inX6 : ∀ w ∈ u_ws RX6 TX6 6, w ∈ wsX6_cycles := fun w h => (List.mem_cons_of_mem _ (List.mem_append_left _ (List.mem_append_left _ (List.mem_append_left _ (List.mem_append_left _ (List.mem_append_left _ (List.mem_append_right _ h)))))))
  have hP : va_P D ccl [(t0, .inr (7, [.ref sl, .ref ch, .ref oh, .ref xh, .ref rh, .ref sh])), (sl, .inr (0, [.int smd, .ref df, .int 0]))] s.heap := hP
  have hl : lv_has ls 4 [(0, .ref t0), (1, .int j), (2, .int rr), (3, .int wh)] := hl
  refine lv_iload_n hx hb dX6_cycles_0 rfl (lv_at hl 1 rfl) ?_
  refine lv_aload_n hx hb dX6_cycles_1 rfl (lv_at hl 0 rfl) ?_
  refine va_get (D := D) (ci := 7) (v := .ref sl) (C := RX6) (T := TX6) (N := 6) hx hb hts inX6 hown hK hP 0 rfl rfl 0 (by decide) hfieldLink_RX6_10 (fun _ h9 => h9) rfl dX6_cycles_2 ?_
  have hPc := hP.sub (ws' := [(sl, .inr (0, [.int smd, .ref df, .int 0]))]) [1] rfl
  have hDc := hD.sub (ws' := [(sl, .inr (0, [.int smd, .ref df, .int 0]))]) [1] (by decide) rfl
  have hFc := va_free (wc := [(sl, .inr (0, [.int smd, .ref df, .int 0]))]) hD hS hA [1] rfl
  refine g_Vi (As := []) (rest := [.int j]) CF (c_Jx4a65c_size_8abf5 l D cI cJ cO df s.heap.size sl smd df 0 ) (cwV 0 hts gX6_cycles_Jx4a65c_size_8abf5 rfl rfl rfl (by decide +kernel) ⟨Nat.le_of_ble_eq_true rfl, Nat.le_of_ble_eq_true rfl⟩) (va_recv hK hP (ci := 0) (q0 := 1) rfl rfl) hPc hK hDc hV hH hS hFc rfl hl.1 rfl (Nat.le_of_ble_eq_true rfl) dX6_cycles_5 ⟨Nat.le_of_ble_eq_true rfl, Nat.le_of_ble_eq_true rfl⟩ (fun r_5 w1 H1 locs1 hq hP1 hD1 hk hS hz => ?_)
  obtain ⟨rfl, hr_5⟩ := hq
  have hP := g_keepR hP hD [1] rfl hk hP1
  clear hPc hDc hFc hP1 hD1 hk hz
  generalize H1 = H at hP hS ⊢
  have hP : va_P D ccl [(t0, .inr (7, [.ref sl, .ref ch, .ref oh, .ref xh, .ref rh, .ref sh])), (sl, .inr (0, [.int smd, .ref df, .int 0]))] H := hP
  have hD : va_D A [(t0, .inr (7, [.ref sl, .ref ch, .ref oh, .ref xh, .ref rh, .ref sh])), (sl, .inr (0, [.int smd, .ref df, .int 0]))] := hD
  subst hr_5
  have hPc : va_P D ccl [] H := fun k q h => by simp at h
  have hDc : va_D A [] := ⟨fun i j p q h => by simp at h, fun k q h => by simp at h⟩
  have hFc := va_free (wc := []) hD hS hA [] rfl
  refine gx_Sv (As := [.int j, .int 0]) (rest := []) CF (c_X6_requirePlace l hfl D cI cJ cO df H.size j 0 ) (va_cwS 2 hts gX6_cycles_X6_requirePlace rfl rfl rfl (by decide +kernel) ⟨Nat.le_of_ble_eq_true rfl, Nat.le_of_ble_eq_true rfl⟩)  hPc hK hDc hV hH hS hFc rfl hl.1 rfl (Nat.le_of_ble_eq_true rfl) dX6_cycles_8 ⟨Nat.le_of_ble_eq_true rfl, Nat.le_of_ble_eq_true rfl⟩ (fun E9 ce q9 w1 H1 locs1 hq hP1 hD1 hk hS hz hc1 hc2 hc3 => ?_) (fun w1 H1 locs1 hq hP1 hD1 hk hS hz => ?_)
  · obtain ⟨ew1, hq⟩ := hq
    dsimp only at ew1 hq
    subst ew1
    have hP := g_keep0 hP hk
    refine vx_widen (k := 1) (n := 6) (Nat.le_of_ble_eq_true rfl) (Nat.le_of_ble_eq_true rfl) ?_
    refine vx_out (fun z hz9 => absurd hz9 (hin z)) hlk hc1 hc2 hc3 (fun t ht hvm => ⟨(E9, [(t0, .inr (7, [.ref sl, .ref ch, .ref oh, .ref xh, .ref rh, .ref sh])), (sl, .inr (0, [.int smd, .ref df, .int 0]))]), ⟨rfl, px1 hq.2 hq.1⟩, ⟨rfl, by rw [ht]; exact hP, va_K.moved hvm hK, hD⟩, hS.F ht⟩) hS.2.2 (Nat.le_refl _) (Nat.le_refl _)
  obtain ⟨rfl, hq_8⟩ := hq
  have hP := g_keep0 hP hk
  clear hPc hDc hFc hP1 hD1 hk hz
  generalize H1 = H at hP hS ⊢
  have hP : va_P D ccl [(t0, .inr (7, [.ref sl, .ref ch, .ref oh, .ref xh, .ref rh, .ref sh])), (sl, .inr (0, [.int smd, .ref df, .int 0]))] H := hP
  have hD : va_D A [(t0, .inr (7, [.ref sl, .ref ch, .ref oh, .ref xh, .ref rh, .ref sh])), (sl, .inr (0, [.int smd, .ref df, .int 0]))] := hD
  exact absurd (isSec0 _) hq_8

set_option maxHeartbeats 4000000 in
set_option maxRecDepth 100000 in
theorem c_X6_arrange (l : Launch) (D : va_G) (cI cJ cO : ClassId) (df sz : Nat) (t0 : Nat) (sl : Nat) (ch : Nat) (oh : Nat) (xh : Nat) (rh : Nat) (sh : Nat) (lh : Nat) (er : Nat) (md : Int32) (C : Nat) (fr : Nat → Option Nat) (mo : Nat → Int32) (SA : Nat → Nat) (SB : Nat → Nat) (mc : Nat → Int32) (ms : Nat → Int32) (mw : Nat → Int32) (N : Nat) (hC : C ≤ 8) (hN : N ≤ 8) (hfr : ∀ k, k < C → fr k = some (SA (gN (mo k)))) (hO : ∀ i, i < C → gN (mo i) < N ∧ mo i = nI (gN (mo i))) (hiM : ∀ i j, i < C → j < C → gN (mo i) = gN (mo j) → i = j) (hc : isC mc) (hC0 : 0 < C) : MetI l yX6_arrange wsX6_arrange ({ frames := 6, cells := 2, slots := 13, locals := 142 } : Room) D (gTY cI cJ cO) df (([(t0, .inr (7, [.ref sl, .ref ch, .ref oh, .ref xh, .ref rh, .ref sh])), (ch, .inr (1, [.ref lh])), (lh, .inr (0, [.int md, .ref er, .int (nI C)])), (er, .inl (cO, 10, .inr (.inr (.inr (.inr fr)))))] : va_W) ++ scL (scJ cI SA SB mc ms mw) (List.range N)) sz [.ref t0] (fun (r : Int32) (wZ : va_W) => ∃ (l2 : Nat), ∃ (q2 : Nat), ∃ (m2 : Int32), ∃ (f2 : Nat → Option Nat), wZ = ([(t0, .inr (7, [.ref sl, .ref ch, .ref oh, .ref xh, .ref rh, .ref sh])), (ch, .inr (1, [.ref l2])), (l2, .inr (0, [.int m2, .ref q2, .int (nI C)])), (q2, .inl (cO, 10, .inr (.inr (.inr (.inr f2)))))] : va_W) ++ scL (scJ cI SA SB mc ms mw) (List.range N) ∧ r = nI (arN mc mo C C) ∧ (∀ k, k < C → f2 k = some (SA (gN (arO mc mo C C k))) ∧ ∃ j, j < C ∧ arO mc mo C C k = mo j) ∧ (∀ i j, i < C → j < C → gN (arO mc mo C C i) = gN (arO mc mo C C j) → i = j)) := by
  refine g_of (cc := cX6_arrange) (nL := 1) (ret := (some .int)) (D := D) (TY := (gTY cI cJ cO)) (df := df) (Qc := fun A => va_Qi (fun (r : Int32) (wZ : va_W) => ∃ (l2 : Nat), ∃ (q2 : Nat), ∃ (m2 : Int32), ∃ (f2 : Nat → Option Nat), wZ = ([(t0, .inr (7, [.ref sl, .ref ch, .ref oh, .ref xh, .ref rh, .ref sh])), (ch, .inr (1, [.ref l2])), (l2, .inr (0, [.int m2, .ref q2, .int (nI C)])), (q2, .inl (cO, 10, .inr (.inr (.inr (.inr f2)))))] : va_W) ++ scL (scJ cI SA SB mc ms mw) (List.range N) ∧ r = nI (arN mc mo C C) ∧ (∀ k, k < C → f2 k = some (SA (gN (arO mc mo C C k))) ∧ ∃ j, j < C ∧ arO mc mo C C k = mo j) ∧ (∀ i j, i < C → j < C → gN (arO mc mo C C i) = gN (arO mc mo C C j) → i = j)) (gB D (gTY cI cJ cO) A) A) (by decide +kernel) rfl (Nat.le_of_ble_eq_true rfl) ?_
  intro p e s m below meth c ls A hsz C0 hin hl
  obtain ⟨CF, hr, hlk, hA, hS, hP, hK, hD, hV, hH⟩ := C0
  have CF : CallFix p m c cX6_arrange 1 s _ wsX6_arrange RX6 := CF
  obtain ⟨hx, hb, hml, hown, hts⟩ := id CF
  subst hsz
  have hfieldLink_RX6_19 : (Cond.fieldLink RX6 19 "TapLoom" "chained" "LTapLoom$Chain;").before _ s = true := hts _ (List.mem_of_getElem? (i := 1) rfl)
  have hmethodLink_RX6_88 : (Cond.methodLink RX6 88 yX0_putInOrder).before _ s = true := hts _ (List.mem_of_getElem? (i := 2) rfl)
  have inX6 : ∀ w ∈ u_ws RX6 TX6 6, w ∈ wsX6_arrange := fun w h => (List.mem_cons_of_mem _ (List.mem_append_left _ (List.mem_append_left _ (List.mem_append_left _ (List.mem_append_right _ h)))))
  have hP : va_P D ccl (([(t0, .inr (7, [.ref sl, .ref ch, .ref oh, .ref xh, .ref rh, .ref sh])), (ch, .inr (1, [.ref lh])), (lh, .inr (0, [.int md, .ref er, .int (nI C)])), (er, .inl (cO, 10, .inr (.inr (.inr (.inr fr)))))] : va_W) ++ scL (scJ cI SA SB mc ms mw) (List.range N)) s.heap := hP
  have hl : lv_has ls 1 [(0, .ref t0)] := hl
  refine lv_aload_n hx hb dX6_arrange_0 rfl (lv_at hl 0 rfl) ?_
  refine va_get (D := D) (ci := 7) (v := .ref ch) (C := RX6) (T := TX6) (N := 6) hx hb hts inX6 hown hK hP 0 rfl rfl 1 (by decide) hfieldLink_RX6_19 (fun _ h9 => h9) rfl dX6_arrange_1 ?_
  have hPc := hP.part (X := [(t0, .inr (7, [.ref sl, .ref ch, .ref oh, .ref xh, .ref rh, .ref sh])), (ch, .inr (1, [.ref lh])), (lh, .inr (0, [.int md, .ref er, .int (nI C)])), (er, .inl (cO, 10, .inr (.inr (.inr (.inr fr)))))]) (cx := [(ch, .inr (1, [.ref lh])), (lh, .inr (0, [.int md, .ref er, .int (nI C)])), (er, .inl (cO, 10, .inr (.inr (.inr (.inr fr)))))]) [1, 2, 3] rfl
  have hDc := hD.part (X := [(t0, .inr (7, [.ref sl, .ref ch, .ref oh, .ref xh, .ref rh, .ref sh])), (ch, .inr (1, [.ref lh])), (lh, .inr (0, [.int md, .ref er, .int (nI C)])), (er, .inl (cO, 10, .inr (.inr (.inr (.inr fr)))))]) (cx := [(ch, .inr (1, [.ref lh])), (lh, .inr (0, [.int md, .ref er, .int (nI C)])), (er, .inl (cO, 10, .inr (.inr (.inr (.inr fr)))))]) [1, 2, 3] (by decide) rfl
  have hFc := va_freeP (X := [(t0, .inr (7, [.ref sl, .ref ch, .ref oh, .ref xh, .ref rh, .ref sh])), (ch, .inr (1, [.ref lh])), (lh, .inr (0, [.int md, .ref er, .int (nI C)])), (er, .inl (cO, 10, .inr (.inr (.inr (.inr fr)))))]) (cx := [(ch, .inr (1, [.ref lh])), (lh, .inr (0, [.int md, .ref er, .int (nI C)])), (er, .inl (cO, 10, .inr (.inr (.inr (.inr fr)))))]) hD hS hA [1, 2, 3] rfl
  refine g_Vi (As := []) (rest := []) CF (c_X0_putInOrder l D cI cJ cO df s.heap.size ch lh er md C fr mo SA SB mc ms mw N hC hN hfr hO hiM hc hC0) (cwV 0 hts gX6_arrange_X0_putInOrder rfl rfl rfl (by decide +kernel) ⟨Nat.le_of_ble_eq_true rfl, Nat.le_of_ble_eq_true rfl⟩) (va_recv hK hP (ci := 1) (q0 := 1) rfl rfl) hPc hK hDc hV hH hS hFc rfl hl.1 rfl (Nat.le_of_ble_eq_true rfl) dX6_arrange_4 ⟨Nat.le_of_ble_eq_true rfl, Nat.le_of_ble_eq_true rfl⟩ (fun r_4 w1 H1 locs1 hq hP1 hD1 hk hS hz => ?_)
  obtain ⟨l2, q2, m2, f2, rfl, hq_4⟩ := hq
  obtain ⟨hP, hD⟩ := g_joinP (X := [(t0, .inr (7, [.ref sl, .ref ch, .ref oh, .ref xh, .ref rh, .ref sh])), (ch, .inr (1, [.ref lh])), (lh, .inr (0, [.int md, .ref er, .int (nI C)])), (er, .inl (cO, 10, .inr (.inr (.inr (.inr fr)))))]) (cx := [(ch, .inr (1, [.ref lh])), (lh, .inr (0, [.int md, .ref er, .int (nI C)])), (er, .inl (cO, 10, .inr (.inr (.inr (.inr fr)))))]) (rx := [(ch, .inr (1, [.ref l2])), (l2, .inr (0, [.int m2, .ref q2, .int (nI C)])), (q2, .inl (cO, 10, .inr (.inr (.inr (.inr f2)))))]) (X' := [(t0, .inr (7, [.ref sl, .ref ch, .ref oh, .ref xh, .ref rh, .ref sh])), (ch, .inr (1, [.ref l2])), (l2, .inr (0, [.int m2, .ref q2, .int (nI C)])), (q2, .inl (cO, 10, .inr (.inr (.inr (.inr f2)))))]) hP hD hk hFc hP1 hD1 [1, 2, 3] [0] [0, 1, 2, 3] rfl rfl (by decide) (by decide) (by decide) rfl
  clear hPc hDc hFc hP1 hD1 hk hz
  generalize H1 = H at hP hS ⊢
  have hP : va_P D ccl (([(t0, .inr (7, [.ref sl, .ref ch, .ref oh, .ref xh, .ref rh, .ref sh])), (ch, .inr (1, [.ref l2])), (l2, .inr (0, [.int m2, .ref q2, .int (nI C)])), (q2, .inl (cO, 10, .inr (.inr (.inr (.inr f2)))))] : va_W) ++ scL (scJ cI SA SB mc ms mw) (List.range N)) H := hP
  have hD : va_D A (([(t0, .inr (7, [.ref sl, .ref ch, .ref oh, .ref xh, .ref rh, .ref sh])), (ch, .inr (1, [.ref l2])), (l2, .inr (0, [.int m2, .ref q2, .int (nI C)])), (q2, .inl (cO, 10, .inr (.inr (.inr (.inr f2)))))] : va_W) ++ scL (scJ cI SA SB mc ms mw) (List.range N)) := hD
  refine g_iret (v := r_4) hx hb hr hlk hP hK hD hS (Nat.le_of_ble_eq_true rfl) (Nat.le_of_ble_eq_true rfl) dX6_arrange_7 ?_
  exact ⟨_, _, _, _, rfl, hq_4⟩

set_option maxHeartbeats 4000000 in
set_option maxRecDepth 100000 in
theorem c_X6_arrange_z (l : Launch) (D : va_G) (cI cJ cO : ClassId) (df sz : Nat) (t0 : Nat) (sl : Nat) (ch : Nat) (oh : Nat) (xh : Nat) (rh : Nat) (sh : Nat) (lh : Nat) (md : Int32) (er : Nat) (fr : Nat → Option Nat)  : MetI l yX6_arrange wsX6_arrange ({ frames := 5, cells := 1, slots := 3, locals := 113 } : Room) D (gTY cI cJ cO) df [(t0, .inr (7, [.ref sl, .ref ch, .ref oh, .ref xh, .ref rh, .ref sh])), (ch, .inr (1, [.ref lh])), (lh, .inr (0, [.int md, .ref er, .int (nI 0)])), (er, .inl (cO, 10, .inr (.inr (.inr (.inr fr)))))] sz [.ref t0] (fun (r : Int32) (wZ : va_W) => ∃ (l2 : Nat), wZ = [(t0, .inr (7, [.ref sl, .ref ch, .ref oh, .ref xh, .ref rh, .ref sh])), (ch, .inr (1, [.ref l2])), (l2, .inr (0, [.int 0, .ref df, .int 0]))] ∧ r = 0) := by
  refine g_of (cc := cX6_arrange) (nL := 1) (ret := (some .int)) (D := D) (TY := (gTY cI cJ cO)) (df := df) (Qc := fun A => va_Qi (fun (r : Int32) (wZ : va_W) => ∃ (l2 : Nat), wZ = [(t0, .inr (7, [.ref sl, .ref ch, .ref oh, .ref xh, .ref rh, .ref sh])), (ch, .inr (1, [.ref l2])), (l2, .inr (0, [.int 0, .ref df, .int 0]))] ∧ r = 0) (gB D (gTY cI cJ cO) A) A) (by decide +kernel) rfl (Nat.le_of_ble_eq_true rfl) ?_
  intro p e s m below meth c ls A hsz C0 hin hl
  obtain ⟨CF, hr, hlk, hA, hS, hP, hK, hD, hV, hH⟩ := C0
  have CF : CallFix p m c cX6_arrange 1 s _ wsX6_arrange RX6 := CF
  obtain ⟨hx, hb, hml, hown, hts⟩ := id CF
  subst hsz
  have hfieldLink_RX6_19 : (Cond.fieldLink RX6 19 "TapLoom" "chained" "LTapLoom$Chain;").before _ s = true := hts _ (List.mem_of_getElem? (i := 1) rfl)
  have hmethodLink_RX6_88 : (Cond.methodLink RX6 88 yX0_putInOrder).before _ s = true := hts _ (List.mem_of_getElem? (i := 2) rfl)
  have inX6 : ∀ w ∈ u_ws RX6 TX6 6, w ∈ wsX6_arrange := fun w h => (List.mem_cons_of_mem _ (List.mem_append_left _ (List.mem_append_left _ (List.mem_append_left _ (List.mem_append_right _ h)))))
  have hP : va_P D ccl [(t0, .inr (7, [.ref sl, .ref ch, .ref oh, .ref xh, .ref rh, .ref sh])), (ch, .inr (1, [.ref lh])), (lh, .inr (0, [.int md, .ref er, .int (nI 0)])), (er, .inl (cO, 10, .inr (.inr (.inr (.inr fr)))))] s.heap := hP
  have hl : lv_has ls 1 [(0, .ref t0)] := hl
  refine lv_aload_n hx hb dX6_arrange_0 rfl (lv_at hl 0 rfl) ?_
  refine va_get (D := D) (ci := 7) (v := .ref ch) (C := RX6) (T := TX6) (N := 6) hx hb hts inX6 hown hK hP 0 rfl rfl 1 (by decide) hfieldLink_RX6_19 (fun _ h9 => h9) rfl dX6_arrange_1 ?_
  have hPc := hP.sub (ws' := [(ch, .inr (1, [.ref lh])), (lh, .inr (0, [.int md, .ref er, .int (nI 0)])), (er, .inl (cO, 10, .inr (.inr (.inr (.inr fr)))))]) [1, 2, 3] rfl
  have hDc := hD.sub (ws' := [(ch, .inr (1, [.ref lh])), (lh, .inr (0, [.int md, .ref er, .int (nI 0)])), (er, .inl (cO, 10, .inr (.inr (.inr (.inr fr)))))]) [1, 2, 3] (by decide) rfl
  have hFc := va_free (wc := [(ch, .inr (1, [.ref lh])), (lh, .inr (0, [.int md, .ref er, .int (nI 0)])), (er, .inl (cO, 10, .inr (.inr (.inr (.inr fr)))))]) hD hS hA [1, 2, 3] rfl
  refine g_Vi (As := []) (rest := []) CF (c_X0_putInOrder_z l D cI cJ cO df s.heap.size ch lh md er fr ) (cwV 0 hts gX6_arrange_X0_putInOrder rfl rfl rfl (by decide +kernel) ⟨Nat.le_of_ble_eq_true rfl, Nat.le_of_ble_eq_true rfl⟩) (va_recv hK hP (ci := 1) (q0 := 1) rfl rfl) hPc hK hDc hV hH hS hFc rfl hl.1 rfl (Nat.le_of_ble_eq_true rfl) dX6_arrange_4 ⟨Nat.le_of_ble_eq_true rfl, Nat.le_of_ble_eq_true rfl⟩ (fun r_4 w1 H1 locs1 hq hP1 hD1 hk hS hz => ?_)
  obtain ⟨l2, rfl, hr_4⟩ := hq
  obtain ⟨hP, hD⟩ := g_join (ws' := [(t0, .inr (7, [.ref sl, .ref ch, .ref oh, .ref xh, .ref rh, .ref sh])), (ch, .inr (1, [.ref l2])), (l2, .inr (0, [.int 0, .ref df, .int 0]))]) hP hD hk hFc hP1 hD1 [1, 2, 3] [0] [0, 1, 2] rfl rfl (by decide) (by decide) (by decide) rfl
  clear hPc hDc hFc hP1 hD1 hk hz
  generalize H1 = H at hP hS ⊢
  have hP : va_P D ccl [(t0, .inr (7, [.ref sl, .ref ch, .ref oh, .ref xh, .ref rh, .ref sh])), (ch, .inr (1, [.ref l2])), (l2, .inr (0, [.int 0, .ref df, .int 0]))] H := hP
  have hD : va_D A [(t0, .inr (7, [.ref sl, .ref ch, .ref oh, .ref xh, .ref rh, .ref sh])), (ch, .inr (1, [.ref l2])), (l2, .inr (0, [.int 0, .ref df, .int 0]))] := hD
  subst hr_4
  refine g_iret (v := 0) hx hb hr hlk hP hK hD hS (Nat.le_of_ble_eq_true rfl) (Nat.le_of_ble_eq_true rfl) dX6_arrange_7 ?_
  exact ⟨_, rfl, rfl⟩

set_option maxHeartbeats 4000000 in
set_option maxRecDepth 100000 in
theorem c_X6_arrange_e (l : Launch) (D : va_G) (cI cJ cO : ClassId) (df sz : Nat) (t0 : Nat) (sl : Nat) (ch : Nat) (oh : Nat) (xh : Nat) (rh : Nat) (sh : Nat) (lh : Nat) (md : Int32)  : MetI l yX6_arrange wsX6_arrange ({ frames := 5, cells := 1, slots := 3, locals := 113 } : Room) D (gTY cI cJ cO) df [(t0, .inr (7, [.ref sl, .ref ch, .ref oh, .ref xh, .ref rh, .ref sh])), (ch, .inr (1, [.ref lh])), (lh, .inr (0, [.int md, .ref df, .int 0]))] sz [.ref t0] (fun (r : Int32) (wZ : va_W) => ∃ (l2 : Nat), wZ = [(t0, .inr (7, [.ref sl, .ref ch, .ref oh, .ref xh, .ref rh, .ref sh])), (ch, .inr (1, [.ref l2])), (l2, .inr (0, [.int 0, .ref df, .int 0]))] ∧ r = 0) := by
  refine g_of (cc := cX6_arrange) (nL := 1) (ret := (some .int)) (D := D) (TY := (gTY cI cJ cO)) (df := df) (Qc := fun A => va_Qi (fun (r : Int32) (wZ : va_W) => ∃ (l2 : Nat), wZ = [(t0, .inr (7, [.ref sl, .ref ch, .ref oh, .ref xh, .ref rh, .ref sh])), (ch, .inr (1, [.ref l2])), (l2, .inr (0, [.int 0, .ref df, .int 0]))] ∧ r = 0) (gB D (gTY cI cJ cO) A) A) (by decide +kernel) rfl (Nat.le_of_ble_eq_true rfl) ?_
  intro p e s m below meth c ls A hsz C0 hin hl
  obtain ⟨CF, hr, hlk, hA, hS, hP, hK, hD, hV, hH⟩ := C0
  have CF : CallFix p m c cX6_arrange 1 s _ wsX6_arrange RX6 := CF
  obtain ⟨hx, hb, hml, hown, hts⟩ := id CF
  subst hsz
  have hfieldLink_RX6_19 : (Cond.fieldLink RX6 19 "TapLoom" "chained" "LTapLoom$Chain;").before _ s = true := hts _ (List.mem_of_getElem? (i := 1) rfl)
  have hmethodLink_RX6_88 : (Cond.methodLink RX6 88 yX0_putInOrder).before _ s = true := hts _ (List.mem_of_getElem? (i := 2) rfl)
  have inX6 : ∀ w ∈ u_ws RX6 TX6 6, w ∈ wsX6_arrange := fun w h => (List.mem_cons_of_mem _ (List.mem_append_left _ (List.mem_append_left _ (List.mem_append_left _ (List.mem_append_right _ h)))))
  have hP : va_P D ccl [(t0, .inr (7, [.ref sl, .ref ch, .ref oh, .ref xh, .ref rh, .ref sh])), (ch, .inr (1, [.ref lh])), (lh, .inr (0, [.int md, .ref df, .int 0]))] s.heap := hP
  have hl : lv_has ls 1 [(0, .ref t0)] := hl
  refine lv_aload_n hx hb dX6_arrange_0 rfl (lv_at hl 0 rfl) ?_
  refine va_get (D := D) (ci := 7) (v := .ref ch) (C := RX6) (T := TX6) (N := 6) hx hb hts inX6 hown hK hP 0 rfl rfl 1 (by decide) hfieldLink_RX6_19 (fun _ h9 => h9) rfl dX6_arrange_1 ?_
  have hPc := hP.sub (ws' := [(ch, .inr (1, [.ref lh])), (lh, .inr (0, [.int md, .ref df, .int 0]))]) [1, 2] rfl
  have hDc := hD.sub (ws' := [(ch, .inr (1, [.ref lh])), (lh, .inr (0, [.int md, .ref df, .int 0]))]) [1, 2] (by decide) rfl
  have hFc := va_free (wc := [(ch, .inr (1, [.ref lh])), (lh, .inr (0, [.int md, .ref df, .int 0]))]) hD hS hA [1, 2] rfl
  refine g_Vi (As := []) (rest := []) CF (c_X0_putInOrder_e l D cI cJ cO df s.heap.size ch lh md ) (cwV 0 hts gX6_arrange_X0_putInOrder rfl rfl rfl (by decide +kernel) ⟨Nat.le_of_ble_eq_true rfl, Nat.le_of_ble_eq_true rfl⟩) (va_recv hK hP (ci := 1) (q0 := 1) rfl rfl) hPc hK hDc hV hH hS hFc rfl hl.1 rfl (Nat.le_of_ble_eq_true rfl) dX6_arrange_4 ⟨Nat.le_of_ble_eq_true rfl, Nat.le_of_ble_eq_true rfl⟩ (fun r_4 w1 H1 locs1 hq hP1 hD1 hk hS hz => ?_)
  obtain ⟨l2, rfl, hr_4⟩ := hq
  obtain ⟨hP, hD⟩ := g_join (ws' := [(t0, .inr (7, [.ref sl, .ref ch, .ref oh, .ref xh, .ref rh, .ref sh])), (ch, .inr (1, [.ref l2])), (l2, .inr (0, [.int 0, .ref df, .int 0]))]) hP hD hk hFc hP1 hD1 [1, 2] [0] [0, 1, 2] rfl rfl (by decide) (by decide) (by decide) rfl
  clear hPc hDc hFc hP1 hD1 hk hz
  generalize H1 = H at hP hS ⊢
  have hP : va_P D ccl [(t0, .inr (7, [.ref sl, .ref ch, .ref oh, .ref xh, .ref rh, .ref sh])), (ch, .inr (1, [.ref l2])), (l2, .inr (0, [.int 0, .ref df, .int 0]))] H := hP
  have hD : va_D A [(t0, .inr (7, [.ref sl, .ref ch, .ref oh, .ref xh, .ref rh, .ref sh])), (ch, .inr (1, [.ref l2])), (l2, .inr (0, [.int 0, .ref df, .int 0]))] := hD
  subst hr_4
  refine g_iret (v := 0) hx hb hr hlk hP hK hD hS (Nat.le_of_ble_eq_true rfl) (Nat.le_of_ble_eq_true rfl) dX6_arrange_7 ?_
  exact ⟨_, rfl, rfl⟩

set_option maxHeartbeats 4000000 in
set_option maxRecDepth 100000 in
theorem c_X6_run (l : Launch) (hfl : l.stackTraces = false) (D : va_G) (cI cJ cO : ClassId) (df sz : Nat) (t0 : Nat) (sl : Nat) (ch : Nat) (oh : Nat) (xh : Nat) (rh : Nat) (sh : Nat) (lh : Nat) (er : Nat) (md : Int32) (C : Nat) (fr : Nat → Option Nat) (ob : Nat) (K : Nat) (mu : Nat → Int32) (mo : Nat → Int32) (SA : Nat → Nat) (SB : Nat → Nat) (mc : Nat → Int32) (ms : Nat → Int32) (mw : Nat → Int32) (N : Nat) (x : Int32) (hC : C ≤ 8) (hN : N ≤ 8) (hfr : ∀ k, k < C → fr k = some (SA (gN (mo k)))) (hO : ∀ i, i < C → gN (mo i) < N ∧ mo i = nI (gN (mo i))) (hc : isC mc) (hw : ∀ j, j < 8 → isW (mw j)) (hs : isS ms) (hK6 : K ≤ 16) : MxI l yX6_run wsX6_run ({ frames := 7, cells := 1, slots := 6, locals := 113 } : Room) D (gTY cI cJ cO) df (([(t0, .inr (7, [.ref sl, .ref ch, .ref oh, .ref xh, .ref rh, .ref sh])), (ch, .inr (1, [.ref lh])), (lh, .inr (0, [.int md, .ref er, .int (nI C)])), (er, .inl (cO, 10, .inr (.inr (.inr (.inr fr))))), (oh, .inr (4, [.ref ob, .int (nI K)])), (ob, .inl (cI, 16, .inl mu))] : va_W) ++ scL (scJ cI SA SB mc ms mw) (List.range N)) sz [.ref t0, .int x] (fun (u : String × va_W) => u.2 = ([(t0, .inr (7, [.ref sl, .ref ch, .ref oh, .ref xh, .ref rh, .ref sh])), (ch, .inr (1, [.ref lh])), (lh, .inr (0, [.int md, .ref er, .int (nI C)])), (er, .inl (cO, 10, .inr (.inr (.inr (.inr fr))))), (oh, .inr (4, [.ref ob, .int (nI K)])), (ob, .inl (cI, 16, .inl mu))] : va_W) ++ scL (scJ cI SA SB mc ms mw) (List.range N) ∧ ¬ gGo (isIn x (-32767) 32767) 1 1 = 0 ∧ u.1 = xN gIAE gIAE (gGo (isIn x (-32767) 32767) 1 1)) (fun (r : Int32) (wZ : va_W) => wZ = ([(t0, .inr (7, [.ref sl, .ref ch, .ref oh, .ref xh, .ref rh, .ref sh])), (ch, .inr (1, [.ref lh])), (lh, .inr (0, [.int md, .ref er, .int (nI C)])), (er, .inl (cO, 10, .inr (.inr (.inr (.inr fr))))), (oh, .inr (4, [.ref ob, .int (nI (if K < 16 then K + 1 else K))])), (ob, .inl (cI, 16, .inl (shiftIn 16 mu ((rnM mc mw mo ms x C).2))))] : va_W) ++ scL (scJ cI SA SB mc ((rnM mc mw mo ms x C).1) mw) (List.range N) ∧ r = (rnM mc mw mo ms x C).2 ∧ gGo (isIn x (-32767) 32767) 1 1 = 0) := by
  refine gx_of (cc := cX6_run) (nL := 3) (ret := (some .int)) (D := D) (TY := (gTY cI cJ cO)) (df := df) (Qc := fun A => va_Qi (fun (r : Int32) (wZ : va_W) => wZ = ([(t0, .inr (7, [.ref sl, .ref ch, .ref oh, .ref xh, .ref rh, .ref sh])), (ch, .inr (1, [.ref lh])), (lh, .inr (0, [.int md, .ref er, .int (nI C)])), (er, .inl (cO, 10, .inr (.inr (.inr (.inr fr))))), (oh, .inr (4, [.ref ob, .int (nI (if K < 16 then K + 1 else K))])), (ob, .inl (cI, 16, .inl (shiftIn 16 mu ((rnM mc mw mo ms x C).2))))] : va_W) ++ scL (scJ cI SA SB mc ((rnM mc mw mo ms x C).1) mw) (List.range N) ∧ r = (rnM mc mw mo ms x C).2 ∧ gGo (isIn x (-32767) 32767) 1 1 = 0) (gB D (gTY cI cJ cO) A) A) (XC := fun A => vx_X (fun (u : String × va_W) => u.2 = ([(t0, .inr (7, [.ref sl, .ref ch, .ref oh, .ref xh, .ref rh, .ref sh])), (ch, .inr (1, [.ref lh])), (lh, .inr (0, [.int md, .ref er, .int (nI C)])), (er, .inl (cO, 10, .inr (.inr (.inr (.inr fr))))), (oh, .inr (4, [.ref ob, .int (nI K)])), (ob, .inl (cI, 16, .inl mu))] : va_W) ++ scL (scJ cI SA SB mc ms mw) (List.range N) ∧ ¬ gGo (isIn x (-32767) 32767) 1 1 = 0 ∧ u.1 = xN gIAE gIAE (gGo (isIn x (-32767) 32767) 1 1)) (gBx D (gTY cI cJ cO) A) A) (by decide +kernel) rfl (Nat.le_of_ble_eq_true rfl) ?_
  intro p e s m below meth c ls A hsz C0 hin hl
  obtain ⟨CF, hr, hlk, hA, hS, hP, hK, hD, hV, hH⟩ := C0
  have CF : CallFix p m c cX6_run 3 s _ wsX6_run RX6 := CF
  obtain ⟨hx, hb, hml, hown, hts⟩ := id CF
  subst hsz
  have hmethodLink_RX6_51 : (Cond.methodLink RX6 51 yX6_requireWithin).before _ s = true := hts _ (List.mem_of_getElem? (i := 3) rfl)
  have hfieldLink_RX6_19 : (Cond.fieldLink RX6 19 "TapLoom" "chained" "LTapLoom$Chain;").before _ s = true := hts _ (List.mem_of_getElem? (i := 1) rfl)
  have hmethodLink_RX6_91 : (Cond.methodLink RX6 91 yX0_letThrough).before _ s = true := hts _ (List.mem_of_getElem? (i := 9) rfl)
  have hfieldLink_RX6_28 : (Cond.fieldLink RX6 28 "TapLoom" "outputs" "LTapLoom$Latest;").before _ s = true := hts _ (List.mem_of_getElem? (i := 2) rfl)
  have hmethodLink_RX6_95 : (Cond.methodLink RX6 95 yX3_add).before _ s = true := hts _ (List.mem_of_getElem? (i := 69) rfl)
  have inX6 : ∀ w ∈ u_ws RX6 TX6 6, w ∈ wsX6_run := fun w h => (List.mem_cons_of_mem _ (List.mem_append_left _ (List.mem_append_left _ (List.mem_append_left _ (List.mem_append_left _ (List.mem_append_left _ (List.mem_append_right _ h)))))))
  have hP : va_P D ccl (([(t0, .inr (7, [.ref sl, .ref ch, .ref oh, .ref xh, .ref rh, .ref sh])), (ch, .inr (1, [.ref lh])), (lh, .inr (0, [.int md, .ref er, .int (nI C)])), (er, .inl (cO, 10, .inr (.inr (.inr (.inr fr))))), (oh, .inr (4, [.ref ob, .int (nI K)])), (ob, .inl (cI, 16, .inl mu))] : va_W) ++ scL (scJ cI SA SB mc ms mw) (List.range N)) s.heap := hP
  have hl : lv_has ls 3 [(0, .ref t0), (1, .int x)] := hl
  refine lv_iload_n hx hb dX6_run_0 rfl (lv_at hl 1 rfl) ?_
  refine lv_sipush (v := (-32767)) hx hb dX6_run_1 (by decide) ?_
  refine lv_sipush (v := 32767) hx hb dX6_run_4 (by decide) ?_
  have hPc : va_P D ccl [] s.heap := fun k q h => by simp at h
  have hDc : va_D A [] := ⟨fun i j p q h => by simp at h, fun k q h => by simp at h⟩
  have hFc := va_free (wc := []) hD hS hA [] rfl
  refine gx_Sv (As := [.int x, .int (-32767), .int 32767]) (rest := []) CF (c_X6_requireWithin l hfl D cI cJ cO df s.heap.size x (-32767) 32767 ) (va_cwS 3 hts gX6_run_X6_requireWithin rfl rfl rfl (by decide +kernel) ⟨Nat.le_of_ble_eq_true rfl, Nat.le_of_ble_eq_true rfl⟩)  hPc hK hDc hV hH hS hFc rfl hl.1 rfl (Nat.le_of_ble_eq_true rfl) dX6_run_7 ⟨Nat.le_of_ble_eq_true rfl, Nat.le_of_ble_eq_true rfl⟩ (fun E9 ce q9 w1 H1 locs1 hq hP1 hD1 hk hS hz hc1 hc2 hc3 => ?_) (fun w1 H1 locs1 hq hP1 hD1 hk hS hz => ?_)
  · obtain ⟨ew1, hq⟩ := hq
    dsimp only at ew1 hq
    subst ew1
    have hP := g_keep0 hP hk
    refine vx_widen (k := 1) (n := 6) (Nat.le_of_ble_eq_true rfl) (Nat.le_of_ble_eq_true rfl) ?_
    refine vx_out (fun z hz9 => absurd hz9 (hin z)) hlk hc1 hc2 hc3 (fun t ht hvm => ⟨(E9, (([(t0, .inr (7, [.ref sl, .ref ch, .ref oh, .ref xh, .ref rh, .ref sh])), (ch, .inr (1, [.ref lh])), (lh, .inr (0, [.int md, .ref er, .int (nI C)])), (er, .inl (cO, 10, .inr (.inr (.inr (.inr fr))))), (oh, .inr (4, [.ref ob, .int (nI K)])), (ob, .inl (cI, 16, .inl mu))] : va_W) ++ scL (scJ cI SA SB mc ms mw) (List.range N))), ⟨rfl, px1 hq.2 hq.1⟩, ⟨rfl, by rw [ht]; exact hP, va_K.moved hvm hK, hD⟩, hS.F ht⟩) hS.2.2 (Nat.le_refl _) (Nat.le_refl _)
  obtain ⟨rfl, hq_7⟩ := hq
  have hP := g_keep0 hP hk
  clear hPc hDc hFc hP1 hD1 hk hz
  generalize H1 = H at hP hS ⊢
  have hP : va_P D ccl (([(t0, .inr (7, [.ref sl, .ref ch, .ref oh, .ref xh, .ref rh, .ref sh])), (ch, .inr (1, [.ref lh])), (lh, .inr (0, [.int md, .ref er, .int (nI C)])), (er, .inl (cO, 10, .inr (.inr (.inr (.inr fr))))), (oh, .inr (4, [.ref ob, .int (nI K)])), (ob, .inl (cI, 16, .inl mu))] : va_W) ++ scL (scJ cI SA SB mc ms mw) (List.range N)) H := hP
  have hD : va_D A (([(t0, .inr (7, [.ref sl, .ref ch, .ref oh, .ref xh, .ref rh, .ref sh])), (ch, .inr (1, [.ref lh])), (lh, .inr (0, [.int md, .ref er, .int (nI C)])), (er, .inl (cO, 10, .inr (.inr (.inr (.inr fr))))), (oh, .inr (4, [.ref ob, .int (nI K)])), (ob, .inl (cI, 16, .inl mu))] : va_W) ++ scL (scJ cI SA SB mc ms mw) (List.range N)) := hD
  refine lv_aload_n hx hb dX6_run_10 rfl (lv_at hl 0 rfl) ?_
  refine va_get (D := D) (ci := 7) (v := .ref ch) (C := RX6) (T := TX6) (N := 6) hx hb hts inX6 hown hK hP 0 rfl rfl 1 (by decide) hfieldLink_RX6_19 (fun _ h9 => h9) rfl dX6_run_11 ?_
  refine lv_iload_n hx hb dX6_run_14 rfl (lv_at hl 1 rfl) ?_
  have hPc := hP.part (X := [(t0, .inr (7, [.ref sl, .ref ch, .ref oh, .ref xh, .ref rh, .ref sh])), (ch, .inr (1, [.ref lh])), (lh, .inr (0, [.int md, .ref er, .int (nI C)])), (er, .inl (cO, 10, .inr (.inr (.inr (.inr fr))))), (oh, .inr (4, [.ref ob, .int (nI K)])), (ob, .inl (cI, 16, .inl mu))]) (cx := [(ch, .inr (1, [.ref lh])), (lh, .inr (0, [.int md, .ref er, .int (nI C)])), (er, .inl (cO, 10, .inr (.inr (.inr (.inr fr)))))]) [1, 2, 3] rfl
  have hDc := hD.part (X := [(t0, .inr (7, [.ref sl, .ref ch, .ref oh, .ref xh, .ref rh, .ref sh])), (ch, .inr (1, [.ref lh])), (lh, .inr (0, [.int md, .ref er, .int (nI C)])), (er, .inl (cO, 10, .inr (.inr (.inr (.inr fr))))), (oh, .inr (4, [.ref ob, .int (nI K)])), (ob, .inl (cI, 16, .inl mu))]) (cx := [(ch, .inr (1, [.ref lh])), (lh, .inr (0, [.int md, .ref er, .int (nI C)])), (er, .inl (cO, 10, .inr (.inr (.inr (.inr fr)))))]) [1, 2, 3] (by decide) rfl
  have hFc := va_freeP (X := [(t0, .inr (7, [.ref sl, .ref ch, .ref oh, .ref xh, .ref rh, .ref sh])), (ch, .inr (1, [.ref lh])), (lh, .inr (0, [.int md, .ref er, .int (nI C)])), (er, .inl (cO, 10, .inr (.inr (.inr (.inr fr))))), (oh, .inr (4, [.ref ob, .int (nI K)])), (ob, .inl (cI, 16, .inl mu))]) (cx := [(ch, .inr (1, [.ref lh])), (lh, .inr (0, [.int md, .ref er, .int (nI C)])), (er, .inl (cO, 10, .inr (.inr (.inr (.inr fr)))))]) hD hS hA [1, 2, 3] rfl
  refine g_Vi (As := [.int x]) (rest := []) CF (c_X0_letThrough l D cI cJ cO df H.size ch lh er md C fr mo SA SB mc ms mw N x hC hN hfr hO hc hw hs (isIn_sig hq_7)) (cwV 1 hts gX6_run_X0_letThrough rfl rfl rfl (by decide +kernel) ⟨Nat.le_of_ble_eq_true rfl, Nat.le_of_ble_eq_true rfl⟩) (va_recv hK hP (ci := 1) (q0 := 1) rfl rfl) hPc hK hDc hV hH hS hFc rfl hl.1 rfl (Nat.le_of_ble_eq_true rfl) dX6_run_15 ⟨Nat.le_of_ble_eq_true rfl, Nat.le_of_ble_eq_true rfl⟩ (fun r_15 w1 H1 locs1 hq hP1 hD1 hk hS hz => ?_)
  obtain ⟨rfl, hr_15⟩ := hq
  obtain ⟨hP, hD⟩ := g_joinP (X := [(t0, .inr (7, [.ref sl, .ref ch, .ref oh, .ref xh, .ref rh, .ref sh])), (ch, .inr (1, [.ref lh])), (lh, .inr (0, [.int md, .ref er, .int (nI C)])), (er, .inl (cO, 10, .inr (.inr (.inr (.inr fr))))), (oh, .inr (4, [.ref ob, .int (nI K)])), (ob, .inl (cI, 16, .inl mu))]) (cx := [(ch, .inr (1, [.ref lh])), (lh, .inr (0, [.int md, .ref er, .int (nI C)])), (er, .inl (cO, 10, .inr (.inr (.inr (.inr fr)))))]) (rx := [(ch, .inr (1, [.ref lh])), (lh, .inr (0, [.int md, .ref er, .int (nI C)])), (er, .inl (cO, 10, .inr (.inr (.inr (.inr fr)))))]) (X' := [(t0, .inr (7, [.ref sl, .ref ch, .ref oh, .ref xh, .ref rh, .ref sh])), (ch, .inr (1, [.ref lh])), (lh, .inr (0, [.int md, .ref er, .int (nI C)])), (er, .inl (cO, 10, .inr (.inr (.inr (.inr fr))))), (oh, .inr (4, [.ref ob, .int (nI K)])), (ob, .inl (cI, 16, .inl mu))]) hP hD hk hFc hP1 hD1 [1, 2, 3] [0, 4, 5] [0, 3, 4, 5, 1, 2] rfl rfl (by decide) (by decide) (by decide) rfl
  clear hPc hDc hFc hP1 hD1 hk hz
  generalize H1 = H at hP hS ⊢
  have hP : va_P D ccl (([(t0, .inr (7, [.ref sl, .ref ch, .ref oh, .ref xh, .ref rh, .ref sh])), (ch, .inr (1, [.ref lh])), (lh, .inr (0, [.int md, .ref er, .int (nI C)])), (er, .inl (cO, 10, .inr (.inr (.inr (.inr fr))))), (oh, .inr (4, [.ref ob, .int (nI K)])), (ob, .inl (cI, 16, .inl mu))] : va_W) ++ scL (scJ cI SA SB mc ((rnM mc mw mo ms x C).1) mw) (List.range N)) H := hP
  have hD : va_D A (([(t0, .inr (7, [.ref sl, .ref ch, .ref oh, .ref xh, .ref rh, .ref sh])), (ch, .inr (1, [.ref lh])), (lh, .inr (0, [.int md, .ref er, .int (nI C)])), (er, .inl (cO, 10, .inr (.inr (.inr (.inr fr))))), (oh, .inr (4, [.ref ob, .int (nI K)])), (ob, .inl (cI, 16, .inl mu))] : va_W) ++ scL (scJ cI SA SB mc ((rnM mc mw mo ms x C).1) mw) (List.range N)) := hD
  subst hr_15
  refine lv_istore_n (lv' := [(2, .int ((rnM mc mw mo ms x C).2)), (0, .ref t0), (1, .int x)]) hx hb dX6_run_18 rfl hl (by decide) rfl (fun ls hl => ?_)
  refine lv_aload_n hx hb dX6_run_19 rfl (lv_at hl 1 rfl) ?_
  refine va_get (D := D) (ci := 7) (v := .ref oh) (C := RX6) (T := TX6) (N := 6) hx hb hts inX6 hown hK hP 0 rfl rfl 2 (by decide) hfieldLink_RX6_28 (fun _ h9 => h9) rfl dX6_run_20 ?_
  refine lv_iload_n hx hb dX6_run_23 rfl (lv_at hl 0 rfl) ?_
  have hPc := hP.sub (ws' := [(oh, .inr (4, [.ref ob, .int (nI K)])), (ob, .inl (cI, 16, .inl mu))]) [4, 5] rfl
  have hDc := hD.sub (ws' := [(oh, .inr (4, [.ref ob, .int (nI K)])), (ob, .inl (cI, 16, .inl mu))]) [4, 5] (by decide) rfl
  have hFc := va_free (wc := [(oh, .inr (4, [.ref ob, .int (nI K)])), (ob, .inl (cI, 16, .inl mu))]) hD hS hA [4, 5] rfl
  refine g_Vv (As := [.int ((rnM mc mw mo ms x C).2)]) (rest := []) CF (c_X3_add l D cI cJ cO df H.size oh ob 16 K mu ((rnM mc mw mo ms x C).2) (⟨by decide, by decide⟩) hK6) (cwV 1 hts gX6_run_X3_add rfl rfl rfl (by decide +kernel) ⟨Nat.le_of_ble_eq_true rfl, Nat.le_of_ble_eq_true rfl⟩) (va_recv hK hP (ci := 4) (q0 := 4) rfl rfl) hPc hK hDc hV hH hS hFc rfl hl.1 rfl (Nat.le_of_ble_eq_true rfl) dX6_run_24 ⟨Nat.le_of_ble_eq_true rfl, Nat.le_of_ble_eq_true rfl⟩ (fun w1 H1 locs1 hq hP1 hD1 hk hS hz => ?_)
  obtain rfl := hq
  obtain ⟨hP, hD⟩ := g_joinQ (X := [(t0, .inr (7, [.ref sl, .ref ch, .ref oh, .ref xh, .ref rh, .ref sh])), (ch, .inr (1, [.ref lh])), (lh, .inr (0, [.int md, .ref er, .int (nI C)])), (er, .inl (cO, 10, .inr (.inr (.inr (.inr fr))))), (oh, .inr (4, [.ref ob, .int (nI K)])), (ob, .inl (cI, 16, .inl mu))]) (X' := [(t0, .inr (7, [.ref sl, .ref ch, .ref oh, .ref xh, .ref rh, .ref sh])), (ch, .inr (1, [.ref lh])), (lh, .inr (0, [.int md, .ref er, .int (nI C)])), (er, .inl (cO, 10, .inr (.inr (.inr (.inr fr))))), (oh, .inr (4, [.ref ob, .int (nI (if K < 16 then K + 1 else K))])), (ob, .inl (cI, 16, .inl (shiftIn 16 mu ((rnM mc mw mo ms x C).2))))]) hP hD hk hFc hP1 hD1 [4, 5] [0, 1, 2, 3] [0, 1, 2, 3, 4, 5] rfl rfl (by decide) (by decide) (by decide) rfl
  clear hPc hDc hFc hP1 hD1 hk hz
  generalize H1 = H at hP hS ⊢
  have hP : va_P D ccl (([(t0, .inr (7, [.ref sl, .ref ch, .ref oh, .ref xh, .ref rh, .ref sh])), (ch, .inr (1, [.ref lh])), (lh, .inr (0, [.int md, .ref er, .int (nI C)])), (er, .inl (cO, 10, .inr (.inr (.inr (.inr fr))))), (oh, .inr (4, [.ref ob, .int (nI (if K < 16 then K + 1 else K))])), (ob, .inl (cI, 16, .inl (shiftIn 16 mu ((rnM mc mw mo ms x C).2))))] : va_W) ++ scL (scJ cI SA SB mc ((rnM mc mw mo ms x C).1) mw) (List.range N)) H := hP
  have hD : va_D A (([(t0, .inr (7, [.ref sl, .ref ch, .ref oh, .ref xh, .ref rh, .ref sh])), (ch, .inr (1, [.ref lh])), (lh, .inr (0, [.int md, .ref er, .int (nI C)])), (er, .inl (cO, 10, .inr (.inr (.inr (.inr fr))))), (oh, .inr (4, [.ref ob, .int (nI (if K < 16 then K + 1 else K))])), (ob, .inl (cI, 16, .inl (shiftIn 16 mu ((rnM mc mw mo ms x C).2))))] : va_W) ++ scL (scJ cI SA SB mc ((rnM mc mw mo ms x C).1) mw) (List.range N)) := hD
  refine lv_iload_n hx hb dX6_run_27 rfl (lv_at hl 0 rfl) ?_
  refine vx_ret ?_
  refine g_iret (v := (rnM mc mw mo ms x C).2) hx hb hr hlk hP hK hD hS (Nat.le_of_ble_eq_true rfl) (Nat.le_of_ble_eq_true rfl) dX6_run_28 ?_
  exact ⟨rfl, rfl, gGoOk hq_7 (by decide) (by decide)⟩

set_option maxHeartbeats 4000000 in
set_option maxRecDepth 100000 in
theorem c_X6_run_e (l : Launch) (hfl : l.stackTraces = false) (D : va_G) (cI cJ cO : ClassId) (df sz : Nat) (t0 : Nat) (sl : Nat) (ch : Nat) (oh : Nat) (xh : Nat) (rh : Nat) (sh : Nat) (lh : Nat) (md : Int32) (ob : Nat) (K : Nat) (mu : Nat → Int32) (x : Int32) (hK6 : K ≤ 16) : MxI l yX6_run wsX6_run ({ frames := 7, cells := 1, slots := 6, locals := 112 } : Room) D (gTY cI cJ cO) df [(t0, .inr (7, [.ref sl, .ref ch, .ref oh, .ref xh, .ref rh, .ref sh])), (ch, .inr (1, [.ref lh])), (lh, .inr (0, [.int md, .ref df, .int 0])), (oh, .inr (4, [.ref ob, .int (nI K)])), (ob, .inl (cI, 16, .inl mu))] sz [.ref t0, .int x] (fun (u : String × va_W) => u.2 = [(t0, .inr (7, [.ref sl, .ref ch, .ref oh, .ref xh, .ref rh, .ref sh])), (ch, .inr (1, [.ref lh])), (lh, .inr (0, [.int md, .ref df, .int 0])), (oh, .inr (4, [.ref ob, .int (nI K)])), (ob, .inl (cI, 16, .inl mu))] ∧ ¬ gGo (isIn x (-32767) 32767) 1 1 = 0 ∧ u.1 = xN gIAE gIAE (gGo (isIn x (-32767) 32767) 1 1)) (fun (r : Int32) (wZ : va_W) => wZ = [(t0, .inr (7, [.ref sl, .ref ch, .ref oh, .ref xh, .ref rh, .ref sh])), (ch, .inr (1, [.ref lh])), (lh, .inr (0, [.int md, .ref df, .int 0])), (oh, .inr (4, [.ref ob, .int (nI (if K < 16 then K + 1 else K))])), (ob, .inl (cI, 16, .inl (shiftIn 16 mu x)))] ∧ r = x ∧ gGo (isIn x (-32767) 32767) 1 1 = 0) := by
  refine gx_of (cc := cX6_run) (nL := 3) (ret := (some .int)) (D := D) (TY := (gTY cI cJ cO)) (df := df) (Qc := fun A => va_Qi (fun (r : Int32) (wZ : va_W) => wZ = [(t0, .inr (7, [.ref sl, .ref ch, .ref oh, .ref xh, .ref rh, .ref sh])), (ch, .inr (1, [.ref lh])), (lh, .inr (0, [.int md, .ref df, .int 0])), (oh, .inr (4, [.ref ob, .int (nI (if K < 16 then K + 1 else K))])), (ob, .inl (cI, 16, .inl (shiftIn 16 mu x)))] ∧ r = x ∧ gGo (isIn x (-32767) 32767) 1 1 = 0) (gB D (gTY cI cJ cO) A) A) (XC := fun A => vx_X (fun (u : String × va_W) => u.2 = [(t0, .inr (7, [.ref sl, .ref ch, .ref oh, .ref xh, .ref rh, .ref sh])), (ch, .inr (1, [.ref lh])), (lh, .inr (0, [.int md, .ref df, .int 0])), (oh, .inr (4, [.ref ob, .int (nI K)])), (ob, .inl (cI, 16, .inl mu))] ∧ ¬ gGo (isIn x (-32767) 32767) 1 1 = 0 ∧ u.1 = xN gIAE gIAE (gGo (isIn x (-32767) 32767) 1 1)) (gBx D (gTY cI cJ cO) A) A) (by decide +kernel) rfl (Nat.le_of_ble_eq_true rfl) ?_
  intro p e s m below meth c ls A hsz C0 hin hl
  obtain ⟨CF, hr, hlk, hA, hS, hP, hK, hD, hV, hH⟩ := C0
  have CF : CallFix p m c cX6_run 3 s _ wsX6_run RX6 := CF
  obtain ⟨hx, hb, hml, hown, hts⟩ := id CF
  subst hsz
  have hmethodLink_RX6_51 : (Cond.methodLink RX6 51 yX6_requireWithin).before _ s = true := hts _ (List.mem_of_getElem? (i := 3) rfl)
  have hfieldLink_RX6_19 : (Cond.fieldLink RX6 19 "TapLoom" "chained" "LTapLoom$Chain;").before _ s = true := hts _ (List.mem_of_getElem? (i := 1) rfl)
  have hmethodLink_RX6_91 : (Cond.methodLink RX6 91 yX0_letThrough).before _ s = true := hts _ (List.mem_of_getElem? (i := 9) rfl)
  have hfieldLink_RX6_28 : (Cond.fieldLink RX6 28 "TapLoom" "outputs" "LTapLoom$Latest;").before _ s = true := hts _ (List.mem_of_getElem? (i := 2) rfl)
  have hmethodLink_RX6_95 : (Cond.methodLink RX6 95 yX3_add).before _ s = true := hts _ (List.mem_of_getElem? (i := 69) rfl)
  have inX6 : ∀ w ∈ u_ws RX6 TX6 6, w ∈ wsX6_run := fun w h => (List.mem_cons_of_mem _ (List.mem_append_left _ (List.mem_append_left _ (List.mem_append_left _ (List.mem_append_left _ (List.mem_append_left _ (List.mem_append_right _ h)))))))
  have hP : va_P D ccl [(t0, .inr (7, [.ref sl, .ref ch, .ref oh, .ref xh, .ref rh, .ref sh])), (ch, .inr (1, [.ref lh])), (lh, .inr (0, [.int md, .ref df, .int 0])), (oh, .inr (4, [.ref ob, .int (nI K)])), (ob, .inl (cI, 16, .inl mu))] s.heap := hP
  have hl : lv_has ls 3 [(0, .ref t0), (1, .int x)] := hl
  refine lv_iload_n hx hb dX6_run_0 rfl (lv_at hl 1 rfl) ?_
  refine lv_sipush (v := (-32767)) hx hb dX6_run_1 (by decide) ?_
  refine lv_sipush (v := 32767) hx hb dX6_run_4 (by decide) ?_
  have hPc : va_P D ccl [] s.heap := fun k q h => by simp at h
  have hDc : va_D A [] := ⟨fun i j p q h => by simp at h, fun k q h => by simp at h⟩
  have hFc := va_free (wc := []) hD hS hA [] rfl
  refine gx_Sv (As := [.int x, .int (-32767), .int 32767]) (rest := []) CF (c_X6_requireWithin l hfl D cI cJ cO df s.heap.size x (-32767) 32767 ) (va_cwS 3 hts gX6_run_X6_requireWithin rfl rfl rfl (by decide +kernel) ⟨Nat.le_of_ble_eq_true rfl, Nat.le_of_ble_eq_true rfl⟩)  hPc hK hDc hV hH hS hFc rfl hl.1 rfl (Nat.le_of_ble_eq_true rfl) dX6_run_7 ⟨Nat.le_of_ble_eq_true rfl, Nat.le_of_ble_eq_true rfl⟩ (fun E9 ce q9 w1 H1 locs1 hq hP1 hD1 hk hS hz hc1 hc2 hc3 => ?_) (fun w1 H1 locs1 hq hP1 hD1 hk hS hz => ?_)
  · obtain ⟨ew1, hq⟩ := hq
    dsimp only at ew1 hq
    subst ew1
    have hP := g_keep0 hP hk
    refine vx_widen (k := 1) (n := 6) (Nat.le_of_ble_eq_true rfl) (Nat.le_of_ble_eq_true rfl) ?_
    refine vx_out (fun z hz9 => absurd hz9 (hin z)) hlk hc1 hc2 hc3 (fun t ht hvm => ⟨(E9, [(t0, .inr (7, [.ref sl, .ref ch, .ref oh, .ref xh, .ref rh, .ref sh])), (ch, .inr (1, [.ref lh])), (lh, .inr (0, [.int md, .ref df, .int 0])), (oh, .inr (4, [.ref ob, .int (nI K)])), (ob, .inl (cI, 16, .inl mu))]), ⟨rfl, px1 hq.2 hq.1⟩, ⟨rfl, by rw [ht]; exact hP, va_K.moved hvm hK, hD⟩, hS.F ht⟩) hS.2.2 (Nat.le_refl _) (Nat.le_refl _)
  obtain ⟨rfl, hq_7⟩ := hq
  have hP := g_keep0 hP hk
  clear hPc hDc hFc hP1 hD1 hk hz
  generalize H1 = H at hP hS ⊢
  have hP : va_P D ccl [(t0, .inr (7, [.ref sl, .ref ch, .ref oh, .ref xh, .ref rh, .ref sh])), (ch, .inr (1, [.ref lh])), (lh, .inr (0, [.int md, .ref df, .int 0])), (oh, .inr (4, [.ref ob, .int (nI K)])), (ob, .inl (cI, 16, .inl mu))] H := hP
  have hD : va_D A [(t0, .inr (7, [.ref sl, .ref ch, .ref oh, .ref xh, .ref rh, .ref sh])), (ch, .inr (1, [.ref lh])), (lh, .inr (0, [.int md, .ref df, .int 0])), (oh, .inr (4, [.ref ob, .int (nI K)])), (ob, .inl (cI, 16, .inl mu))] := hD
  refine lv_aload_n hx hb dX6_run_10 rfl (lv_at hl 0 rfl) ?_
  refine va_get (D := D) (ci := 7) (v := .ref ch) (C := RX6) (T := TX6) (N := 6) hx hb hts inX6 hown hK hP 0 rfl rfl 1 (by decide) hfieldLink_RX6_19 (fun _ h9 => h9) rfl dX6_run_11 ?_
  refine lv_iload_n hx hb dX6_run_14 rfl (lv_at hl 1 rfl) ?_
  have hPc := hP.sub (ws' := [(ch, .inr (1, [.ref lh])), (lh, .inr (0, [.int md, .ref df, .int 0]))]) [1, 2] rfl
  have hDc := hD.sub (ws' := [(ch, .inr (1, [.ref lh])), (lh, .inr (0, [.int md, .ref df, .int 0]))]) [1, 2] (by decide) rfl
  have hFc := va_free (wc := [(ch, .inr (1, [.ref lh])), (lh, .inr (0, [.int md, .ref df, .int 0]))]) hD hS hA [1, 2] rfl
  refine g_Vi (As := [.int x]) (rest := []) CF (c_X0_letThrough_e l D cI cJ cO df H.size ch lh md x ) (cwV 1 hts gX6_run_X0_letThrough rfl rfl rfl (by decide +kernel) ⟨Nat.le_of_ble_eq_true rfl, Nat.le_of_ble_eq_true rfl⟩) (va_recv hK hP (ci := 1) (q0 := 1) rfl rfl) hPc hK hDc hV hH hS hFc rfl hl.1 rfl (Nat.le_of_ble_eq_true rfl) dX6_run_15 ⟨Nat.le_of_ble_eq_true rfl, Nat.le_of_ble_eq_true rfl⟩ (fun r_15 w1 H1 locs1 hq hP1 hD1 hk hS hz => ?_)
  obtain ⟨rfl, hr_15⟩ := hq
  have hP := g_keepR hP hD [1, 2] rfl hk hP1
  clear hPc hDc hFc hP1 hD1 hk hz
  generalize H1 = H at hP hS ⊢
  have hP : va_P D ccl [(t0, .inr (7, [.ref sl, .ref ch, .ref oh, .ref xh, .ref rh, .ref sh])), (ch, .inr (1, [.ref lh])), (lh, .inr (0, [.int md, .ref df, .int 0])), (oh, .inr (4, [.ref ob, .int (nI K)])), (ob, .inl (cI, 16, .inl mu))] H := hP
  have hD : va_D A [(t0, .inr (7, [.ref sl, .ref ch, .ref oh, .ref xh, .ref rh, .ref sh])), (ch, .inr (1, [.ref lh])), (lh, .inr (0, [.int md, .ref df, .int 0])), (oh, .inr (4, [.ref ob, .int (nI K)])), (ob, .inl (cI, 16, .inl mu))] := hD
  refine lv_istore_n (lv' := [(2, .int r_15), (0, .ref t0), (1, .int x)]) hx hb dX6_run_18 rfl hl (by decide) rfl (fun ls hl => ?_)
  refine lv_aload_n hx hb dX6_run_19 rfl (lv_at hl 1 rfl) ?_
  refine va_get (D := D) (ci := 7) (v := .ref oh) (C := RX6) (T := TX6) (N := 6) hx hb hts inX6 hown hK hP 0 rfl rfl 2 (by decide) hfieldLink_RX6_28 (fun _ h9 => h9) rfl dX6_run_20 ?_
  refine lv_iload_n hx hb dX6_run_23 rfl (lv_at hl 0 rfl) ?_
  have hPc := hP.sub (ws' := [(oh, .inr (4, [.ref ob, .int (nI K)])), (ob, .inl (cI, 16, .inl mu))]) [3, 4] rfl
  have hDc := hD.sub (ws' := [(oh, .inr (4, [.ref ob, .int (nI K)])), (ob, .inl (cI, 16, .inl mu))]) [3, 4] (by decide) rfl
  have hFc := va_free (wc := [(oh, .inr (4, [.ref ob, .int (nI K)])), (ob, .inl (cI, 16, .inl mu))]) hD hS hA [3, 4] rfl
  refine g_Vv (As := [.int r_15]) (rest := []) CF (c_X3_add l D cI cJ cO df H.size oh ob 16 K mu r_15 (⟨by decide, by decide⟩) hK6) (cwV 1 hts gX6_run_X3_add rfl rfl rfl (by decide +kernel) ⟨Nat.le_of_ble_eq_true rfl, Nat.le_of_ble_eq_true rfl⟩) (va_recv hK hP (ci := 4) (q0 := 3) rfl rfl) hPc hK hDc hV hH hS hFc rfl hl.1 rfl (Nat.le_of_ble_eq_true rfl) dX6_run_24 ⟨Nat.le_of_ble_eq_true rfl, Nat.le_of_ble_eq_true rfl⟩ (fun w1 H1 locs1 hq hP1 hD1 hk hS hz => ?_)
  obtain rfl := hq
  obtain ⟨hP, hD⟩ := g_join (ws' := [(t0, .inr (7, [.ref sl, .ref ch, .ref oh, .ref xh, .ref rh, .ref sh])), (ch, .inr (1, [.ref lh])), (lh, .inr (0, [.int md, .ref df, .int 0])), (oh, .inr (4, [.ref ob, .int (nI (if K < 16 then K + 1 else K))])), (ob, .inl (cI, 16, .inl (shiftIn 16 mu r_15)))]) hP hD hk hFc hP1 hD1 [3, 4] [0, 1, 2] [0, 1, 2, 3, 4] rfl rfl (by decide) (by decide) (by decide) rfl
  clear hPc hDc hFc hP1 hD1 hk hz
  generalize H1 = H at hP hS ⊢
  have hP : va_P D ccl [(t0, .inr (7, [.ref sl, .ref ch, .ref oh, .ref xh, .ref rh, .ref sh])), (ch, .inr (1, [.ref lh])), (lh, .inr (0, [.int md, .ref df, .int 0])), (oh, .inr (4, [.ref ob, .int (nI (if K < 16 then K + 1 else K))])), (ob, .inl (cI, 16, .inl (shiftIn 16 mu r_15)))] H := hP
  have hD : va_D A [(t0, .inr (7, [.ref sl, .ref ch, .ref oh, .ref xh, .ref rh, .ref sh])), (ch, .inr (1, [.ref lh])), (lh, .inr (0, [.int md, .ref df, .int 0])), (oh, .inr (4, [.ref ob, .int (nI (if K < 16 then K + 1 else K))])), (ob, .inl (cI, 16, .inl (shiftIn 16 mu r_15)))] := hD
  refine lv_iload_n hx hb dX6_run_27 rfl (lv_at hl 0 rfl) ?_
  refine vx_ret ?_
  refine g_iret (v := r_15) hx hb hr hlk hP hK hD hS (Nat.le_of_ble_eq_true rfl) (Nat.le_of_ble_eq_true rfl) dX6_run_28 ?_
  exact ⟨by rw [hr_15], hr_15, gGoOk hq_7 (by decide) (by decide)⟩

set_option maxHeartbeats 4000000 in
set_option maxRecDepth 100000 in
theorem c_X6_rest (l : Launch) (D : va_G) (cI cJ cO : ClassId) (df sz : Nat) (t0 : Nat) (sl : Nat) (ch : Nat) (oh : Nat) (xh : Nat) (rh : Nat) (sh : Nat) (smd : Int32) (ser : Nat) (sf : Nat → Option Nat) (ob : Nat) (K : Nat) (mu : Nat → Int32) (SA : Nat → Nat) (SB : Nat → Nat) (mc : Nat → Int32) (ms : Nat → Int32) (mw : Nat → Int32) (N : Nat) (hN : N ≤ 8) (hsf : ∀ k, k < N → sf k = some (SA k)) : MetI l yX6_rest wsX6_rest ({ frames := 3, cells := 0, slots := 0, locals := 64 } : Room) D (gTY cI cJ cO) df (([(t0, .inr (7, [.ref sl, .ref ch, .ref oh, .ref xh, .ref rh, .ref sh])), (sl, .inr (0, [.int smd, .ref ser, .int (nI N)])), (ser, .inl (cO, 10, .inr (.inr (.inr (.inr sf))))), (oh, .inr (4, [.ref ob, .int (nI K)])), (ob, .inl (cI, 16, .inl mu))] : va_W) ++ scL (scJ cI SA SB mc ms mw) (List.range N)) sz [.ref t0] (fun (r : Int32) (wZ : va_W) => wZ = ([(t0, .inr (7, [.ref sl, .ref ch, .ref oh, .ref xh, .ref rh, .ref sh])), (sl, .inr (0, [.int smd, .ref ser, .int (nI N)])), (ser, .inl (cO, 10, .inr (.inr (.inr (.inr sf))))), (oh, .inr (4, [.ref ob, .int (nI 0)])), (ob, .inl (cI, 16, .inl mu))] : va_W) ++ scL (scJ cI SA SB mc (zeroTo ms (4 * N)) mw) (List.range N) ∧ r = nI K) := by
  refine g_of (cc := cX6_rest) (nL := 2) (ret := (some .int)) (D := D) (TY := (gTY cI cJ cO)) (df := df) (Qc := fun A => va_Qi (fun (r : Int32) (wZ : va_W) => wZ = ([(t0, .inr (7, [.ref sl, .ref ch, .ref oh, .ref xh, .ref rh, .ref sh])), (sl, .inr (0, [.int smd, .ref ser, .int (nI N)])), (ser, .inl (cO, 10, .inr (.inr (.inr (.inr sf))))), (oh, .inr (4, [.ref ob, .int (nI 0)])), (ob, .inl (cI, 16, .inl mu))] : va_W) ++ scL (scJ cI SA SB mc (zeroTo ms (4 * N)) mw) (List.range N) ∧ r = nI K) (gB D (gTY cI cJ cO) A) A) (by decide +kernel) rfl (Nat.le_of_ble_eq_true rfl) ?_
  intro p e s m below meth c ls A hsz C0 hin hl
  obtain ⟨CF, hr, hlk, hA, hS, hP, hK, hD, hV, hH⟩ := C0
  have CF : CallFix p m c cX6_rest 2 s _ wsX6_rest RX6 := CF
  obtain ⟨hx, hb, hml, hown, hts⟩ := id CF
  subst hsz
  have hfieldLink_RX6_10 : (Cond.fieldLink RX6 10 "TapLoom" "sections" "Ljava/util/ArrayList;").before _ s = true := hts _ (List.mem_of_getElem? (i := 1) rfl)
  have hmethodLink_RX6_55 : (Cond.methodLink RX6 55 yJx4a65c_size_8abf5).before _ s = true := hts _ (List.mem_of_getElem? (i := 4) rfl)
  have hfieldLink_RX6_28 : (Cond.fieldLink RX6 28 "TapLoom" "outputs" "LTapLoom$Latest;").before _ s = true := hts _ (List.mem_of_getElem? (i := 3) rfl)
  have hmethodLink_RX6_100 : (Cond.methodLink RX6 100 yX3_count).before _ s = true := hts _ (List.mem_of_getElem? (i := 36) rfl)
  have hmethodLink_RX6_103 : (Cond.methodLink RX6 103 yX3_forget).before _ s = true := hts _ (List.mem_of_getElem? (i := 42) rfl)
  have hmethodLink_RX6_76 : (Cond.methodLink RX6 76 yJx4a65c_get_915e3).before _ s = true := hts _ (List.mem_of_getElem? (i := 10) rfl)
  have hclassLink_RX6_49 : (Cond.classLink RX6 49 "TapLoom$Section").before _ s = true := hts _ (List.mem_of_getElem? (i := 2) rfl)
  have hmethodLink_RX6_97 : (Cond.methodLink RX6 97 yX4_calm).before _ s = true := hts _ (List.mem_of_getElem? (i := 27) rfl)
  have inX6 : ∀ w ∈ u_ws RX6 TX6 6, w ∈ wsX6_rest := fun w h => (List.mem_cons_of_mem _ (List.mem_append_left _ (List.mem_append_left _ (List.mem_append_left _ (List.mem_append_right _ h)))))
  have hP : va_P D ccl (([(t0, .inr (7, [.ref sl, .ref ch, .ref oh, .ref xh, .ref rh, .ref sh])), (sl, .inr (0, [.int smd, .ref ser, .int (nI N)])), (ser, .inl (cO, 10, .inr (.inr (.inr (.inr sf))))), (oh, .inr (4, [.ref ob, .int (nI K)])), (ob, .inl (cI, 16, .inl mu))] : va_W) ++ scL (scJ cI SA SB mc ms mw) (List.range N)) s.heap := hP
  have hl : lv_has ls 2 [(0, .ref t0)] := hl
  refine lv_iconst (v := 0) hx hb dX6_rest_0 (by decide) ?_
  refine lv_istore_n (lv' := [(1, .int 0), (0, .ref t0)]) hx hb dX6_rest_1 rfl hl (by decide) rfl (fun ls hl => ?_)
  rw [show ms = (zeroTo ms (4 * 0)) from zeroTo_0] at hP hD
  refine W.widen (k := 0) (n := 0) (Nat.le_refl _) (Nat.le_refl _) ?_
  refine g_while (σ := Nat) (st := []) (nL := 2) (fun k => ([(t0, .inr (7, [.ref sl, .ref ch, .ref oh, .ref xh, .ref rh, .ref sh])), (sl, .inr (0, [.int smd, .ref ser, .int (nI N)])), (ser, .inl (cO, 10, .inr (.inr (.inr (.inr sf))))), (oh, .inr (4, [.ref ob, .int (nI K)])), (ob, .inl (cI, 16, .inl mu))] : va_W) ++ scL (scJ cI SA SB mc (zeroTo ms (4 * k)) mw) (List.range N))
    (fun k => [(0, .ref t0), (1, .int (nI k))])
    (fun k => k ≤ N)
    (fun k => N - k) (fun k => 0) (fun k => 0)
    ?_ 0 (Nat.zero_le N) hP hD hS (lv_sub hl [1, 0] rfl)
  intro k hI H locs ls hP hD hS hl ih
  have hI : k ≤ N := hI
  have hP : va_P D ccl (([(t0, .inr (7, [.ref sl, .ref ch, .ref oh, .ref xh, .ref rh, .ref sh])), (sl, .inr (0, [.int smd, .ref ser, .int (nI N)])), (ser, .inl (cO, 10, .inr (.inr (.inr (.inr sf))))), (oh, .inr (4, [.ref ob, .int (nI K)])), (ob, .inl (cI, 16, .inl mu))] : va_W) ++ scL (scJ cI SA SB mc (zeroTo ms (4 * k)) mw) (List.range N)) H := hP
  have hD : va_D A (([(t0, .inr (7, [.ref sl, .ref ch, .ref oh, .ref xh, .ref rh, .ref sh])), (sl, .inr (0, [.int smd, .ref ser, .int (nI N)])), (ser, .inl (cO, 10, .inr (.inr (.inr (.inr sf))))), (oh, .inr (4, [.ref ob, .int (nI K)])), (ob, .inl (cI, 16, .inl mu))] : va_W) ++ scL (scJ cI SA SB mc (zeroTo ms (4 * k)) mw) (List.range N)) := hD
  have hl : lv_has ls 2 [(0, .ref t0), (1, .int (nI k))] := hl
  change W p l e _ s m _ below meth c H locs 0 0 _ (F0 m 2 ls [])
  have ih_2 := ih
  clear ih
  refine lv_iload_n hx hb dX6_rest_2 rfl (lv_at hl 1 rfl) ?_
  refine lv_aload_n hx hb dX6_rest_3 rfl (lv_at hl 0 rfl) ?_
  refine va_get (D := D) (ci := 7) (v := .ref sl) (C := RX6) (T := TX6) (N := 6) hx hb hts inX6 hown hK hP 0 rfl rfl 0 (by decide) hfieldLink_RX6_10 (fun _ h9 => h9) rfl dX6_rest_4 ?_
  have hPc := hP.sub (ws' := [(sl, .inr (0, [.int smd, .ref ser, .int (nI N)]))]) [1] rfl
  have hDc := hD.sub (ws' := [(sl, .inr (0, [.int smd, .ref ser, .int (nI N)]))]) [1] (by decide) rfl
  have hFc := va_free (wc := [(sl, .inr (0, [.int smd, .ref ser, .int (nI N)]))]) hD hS hA [1] rfl
  refine g_Vi (As := []) (rest := [.int (nI k)]) CF (c_Jx4a65c_size_8abf5 l D cI cJ cO df H.size sl smd ser (nI N) ) (cwV 0 hts gX6_rest_Jx4a65c_size_8abf5 rfl rfl rfl (by decide +kernel) ⟨Nat.le_of_ble_eq_true rfl, Nat.le_of_ble_eq_true rfl⟩) (va_recv hK hP (ci := 0) (q0 := 1) rfl rfl) hPc hK hDc hV hH hS hFc rfl hl.1 rfl (Nat.le_of_ble_eq_true rfl) dX6_rest_7 ⟨Nat.le_of_ble_eq_true rfl, Nat.le_of_ble_eq_true rfl⟩ (fun r_7 w1 H1 locs1 hq hP1 hD1 hk hS hz => ?_)
  obtain ⟨rfl, hr_7⟩ := hq
  have hP := g_keepR hP hD [1] rfl hk hP1
  clear hPc hDc hFc hP1 hD1 hk hz
  generalize H1 = H at hP hS ⊢
  have hP : va_P D ccl (([(t0, .inr (7, [.ref sl, .ref ch, .ref oh, .ref xh, .ref rh, .ref sh])), (sl, .inr (0, [.int smd, .ref ser, .int (nI N)])), (ser, .inl (cO, 10, .inr (.inr (.inr (.inr sf))))), (oh, .inr (4, [.ref ob, .int (nI K)])), (ob, .inl (cI, 16, .inl mu))] : va_W) ++ scL (scJ cI SA SB mc (zeroTo ms (4 * k)) mw) (List.range N)) H := hP
  have hD : va_D A (([(t0, .inr (7, [.ref sl, .ref ch, .ref oh, .ref xh, .ref rh, .ref sh])), (sl, .inr (0, [.int smd, .ref ser, .int (nI N)])), (ser, .inl (cO, 10, .inr (.inr (.inr (.inr sf))))), (oh, .inr (4, [.ref ob, .int (nI K)])), (ob, .inl (cI, 16, .inl mu))] : va_W) ++ scL (scJ cI SA SB mc (zeroTo ms (4 * k)) mw) (List.range N)) := hD
  subst hr_7
  refine lv_icmp_ge (tgt := 33) hx hb dX6_rest_10 (by decide) (fun c_10 => ?_) (fun c_10 => ?_)
  · have c_10 : N ≤ k := g_le (a := N) (b := k) c_10 (by omega) (by omega)
    obtain rfl : N = k := by omega
    refine lv_aload_n hx hb dX6_rest_33 rfl (lv_at hl 0 rfl) ?_
    refine va_get (D := D) (ci := 7) (v := .ref oh) (C := RX6) (T := TX6) (N := 6) hx hb hts inX6 hown hK hP 0 rfl rfl 2 (by decide) hfieldLink_RX6_28 (fun _ h9 => h9) rfl dX6_rest_34 ?_
    have hPc := hP.sub (ws' := [(oh, .inr (4, [.ref ob, .int (nI K)])), (ob, .inl (cI, 16, .inl mu))]) [3, 4] rfl
    have hDc := hD.sub (ws' := [(oh, .inr (4, [.ref ob, .int (nI K)])), (ob, .inl (cI, 16, .inl mu))]) [3, 4] (by decide) rfl
    have hFc := va_free (wc := [(oh, .inr (4, [.ref ob, .int (nI K)])), (ob, .inl (cI, 16, .inl mu))]) hD hS hA [3, 4] rfl
    refine g_Vi (As := []) (rest := []) CF (c_X3_count l D cI cJ cO df H.size oh ob 16 K mu ) (cwV 0 hts gX6_rest_X3_count rfl rfl rfl (by decide +kernel) ⟨Nat.le_of_ble_eq_true rfl, Nat.le_of_ble_eq_true rfl⟩) (va_recv hK hP (ci := 4) (q0 := 3) rfl rfl) hPc hK hDc hV hH hS hFc rfl hl.1 rfl (Nat.le_of_ble_eq_true rfl) dX6_rest_37 ⟨Nat.le_of_ble_eq_true rfl, Nat.le_of_ble_eq_true rfl⟩ (fun r_37 w1 H1 locs1 hq hP1 hD1 hk hS hz => ?_)
    obtain ⟨rfl, hr_37⟩ := hq
    have hP := g_keepR hP hD [3, 4] rfl hk hP1
    clear hPc hDc hFc hP1 hD1 hk hz
    generalize H1 = H at hP hS ⊢
    have hP : va_P D ccl (([(t0, .inr (7, [.ref sl, .ref ch, .ref oh, .ref xh, .ref rh, .ref sh])), (sl, .inr (0, [.int smd, .ref ser, .int (nI N)])), (ser, .inl (cO, 10, .inr (.inr (.inr (.inr sf))))), (oh, .inr (4, [.ref ob, .int (nI K)])), (ob, .inl (cI, 16, .inl mu))] : va_W) ++ scL (scJ cI SA SB mc (zeroTo ms (4 * N)) mw) (List.range N)) H := hP
    have hD : va_D A (([(t0, .inr (7, [.ref sl, .ref ch, .ref oh, .ref xh, .ref rh, .ref sh])), (sl, .inr (0, [.int smd, .ref ser, .int (nI N)])), (ser, .inl (cO, 10, .inr (.inr (.inr (.inr sf))))), (oh, .inr (4, [.ref ob, .int (nI K)])), (ob, .inl (cI, 16, .inl mu))] : va_W) ++ scL (scJ cI SA SB mc (zeroTo ms (4 * N)) mw) (List.range N)) := hD
    subst hr_37
    refine lv_istore_n (lv' := [(1, .int (nI K)), (0, .ref t0)]) hx hb dX6_rest_40 rfl hl (by decide) rfl (fun ls hl => ?_)
    refine lv_aload_n hx hb dX6_rest_41 rfl (lv_at hl 1 rfl) ?_
    refine va_get (D := D) (ci := 7) (v := .ref oh) (C := RX6) (T := TX6) (N := 6) hx hb hts inX6 hown hK hP 0 rfl rfl 2 (by decide) hfieldLink_RX6_28 (fun _ h9 => h9) rfl dX6_rest_42 ?_
    have hPc := hP.sub (ws' := [(oh, .inr (4, [.ref ob, .int (nI K)])), (ob, .inl (cI, 16, .inl mu))]) [3, 4] rfl
    have hDc := hD.sub (ws' := [(oh, .inr (4, [.ref ob, .int (nI K)])), (ob, .inl (cI, 16, .inl mu))]) [3, 4] (by decide) rfl
    have hFc := va_free (wc := [(oh, .inr (4, [.ref ob, .int (nI K)])), (ob, .inl (cI, 16, .inl mu))]) hD hS hA [3, 4] rfl
    refine g_Vv (As := []) (rest := []) CF (c_X3_forget l D cI cJ cO df H.size oh ob 16 K mu ) (cwV 0 hts gX6_rest_X3_forget rfl rfl rfl (by decide +kernel) ⟨Nat.le_of_ble_eq_true rfl, Nat.le_of_ble_eq_true rfl⟩) (va_recv hK hP (ci := 4) (q0 := 3) rfl rfl) hPc hK hDc hV hH hS hFc rfl hl.1 rfl (Nat.le_of_ble_eq_true rfl) dX6_rest_45 ⟨Nat.le_of_ble_eq_true rfl, Nat.le_of_ble_eq_true rfl⟩ (fun w1 H1 locs1 hq hP1 hD1 hk hS hz => ?_)
    obtain rfl := hq
    obtain ⟨hP, hD⟩ := g_joinQ (X := [(t0, .inr (7, [.ref sl, .ref ch, .ref oh, .ref xh, .ref rh, .ref sh])), (sl, .inr (0, [.int smd, .ref ser, .int (nI N)])), (ser, .inl (cO, 10, .inr (.inr (.inr (.inr sf))))), (oh, .inr (4, [.ref ob, .int (nI K)])), (ob, .inl (cI, 16, .inl mu))]) (X' := [(t0, .inr (7, [.ref sl, .ref ch, .ref oh, .ref xh, .ref rh, .ref sh])), (sl, .inr (0, [.int smd, .ref ser, .int (nI N)])), (ser, .inl (cO, 10, .inr (.inr (.inr (.inr sf))))), (oh, .inr (4, [.ref ob, .int (nI 0)])), (ob, .inl (cI, 16, .inl mu))]) hP hD hk hFc hP1 hD1 [3, 4] [0, 1, 2] [0, 1, 2, 3, 4] rfl rfl (by decide) (by decide) (by decide) rfl
    clear hPc hDc hFc hP1 hD1 hk hz
    generalize H1 = H at hP hS ⊢
    have hP : va_P D ccl (([(t0, .inr (7, [.ref sl, .ref ch, .ref oh, .ref xh, .ref rh, .ref sh])), (sl, .inr (0, [.int smd, .ref ser, .int (nI N)])), (ser, .inl (cO, 10, .inr (.inr (.inr (.inr sf))))), (oh, .inr (4, [.ref ob, .int (nI 0)])), (ob, .inl (cI, 16, .inl mu))] : va_W) ++ scL (scJ cI SA SB mc (zeroTo ms (4 * N)) mw) (List.range N)) H := hP
    have hD : va_D A (([(t0, .inr (7, [.ref sl, .ref ch, .ref oh, .ref xh, .ref rh, .ref sh])), (sl, .inr (0, [.int smd, .ref ser, .int (nI N)])), (ser, .inl (cO, 10, .inr (.inr (.inr (.inr sf))))), (oh, .inr (4, [.ref ob, .int (nI 0)])), (ob, .inl (cI, 16, .inl mu))] : va_W) ++ scL (scJ cI SA SB mc (zeroTo ms (4 * N)) mw) (List.range N)) := hD
    refine lv_iload_n hx hb dX6_rest_48 rfl (lv_at hl 0 rfl) ?_
    refine g_iret (v := nI K) hx hb hr hlk hP hK hD hS (Nat.le_of_ble_eq_true rfl) (Nat.le_of_ble_eq_true rfl) dX6_rest_49 ?_
    exact ⟨rfl, (by first | rfl | (simp [c_10]; done))⟩
  · have c_10 : k < N := g_nle (a := N) (b := k) c_10 (by omega) (by omega)
    refine lv_aload_n hx hb dX6_rest_13 rfl (lv_at hl 0 rfl) ?_
    refine va_get (D := D) (ci := 7) (v := .ref sl) (C := RX6) (T := TX6) (N := 6) hx hb hts inX6 hown hK hP 0 rfl rfl 0 (by decide) hfieldLink_RX6_10 (fun _ h9 => h9) rfl dX6_rest_14 ?_
    refine lv_iload_n hx hb dX6_rest_17 rfl (lv_at hl 1 rfl) ?_
    have hPc := hP.sub (ws' := [(sl, .inr (0, [.int smd, .ref ser, .int (nI N)])), (ser, .inl (cO, 10, .inr (.inr (.inr (.inr sf)))))]) [1, 2] rfl
    have hDc := hD.sub (ws' := [(sl, .inr (0, [.int smd, .ref ser, .int (nI N)])), (ser, .inl (cO, 10, .inr (.inr (.inr (.inr sf)))))]) [1, 2] (by decide) rfl
    have hFc := va_free (wc := [(sl, .inr (0, [.int smd, .ref ser, .int (nI N)])), (ser, .inl (cO, 10, .inr (.inr (.inr (.inr sf)))))]) hD hS hA [1, 2] rfl
    refine g_Vr (As := [.int (nI k)]) (rest := []) CF (c_Jx4a65c_get_915e3 l D cI cJ cO df H.size sl smd ser N sf k (SA k) c_10 (by omega) (hsf k c_10)) (cwV 1 hts gX6_rest_Jx4a65c_get_915e3 rfl rfl rfl (by decide +kernel) ⟨Nat.le_of_ble_eq_true rfl, Nat.le_of_ble_eq_true rfl⟩) (va_recv hK hP (ci := 0) (q0 := 1) rfl rfl) hPc hK hDc hV hH hS hFc rfl hl.1 rfl (Nat.le_of_ble_eq_true rfl) dX6_rest_18 ⟨Nat.le_of_ble_eq_true rfl, Nat.le_of_ble_eq_true rfl⟩ (fun w1 H1 locs1 hq hP1 hD1 hk hS hz => ?_)
    obtain ⟨w1, a1⟩ := w1
    obtain ⟨ew1, hr_18⟩ := hq
    dsimp only at ew1 hP1 hD1 hr_18
    subst ew1
    have hP := g_keepR hP hD [1, 2] rfl hk hP1
    clear hPc hDc hFc hP1 hD1 hk hz
    generalize H1 = H at hP hS ⊢
    have hP : va_P D ccl (([(t0, .inr (7, [.ref sl, .ref ch, .ref oh, .ref xh, .ref rh, .ref sh])), (sl, .inr (0, [.int smd, .ref ser, .int (nI N)])), (ser, .inl (cO, 10, .inr (.inr (.inr (.inr sf))))), (oh, .inr (4, [.ref ob, .int (nI K)])), (ob, .inl (cI, 16, .inl mu))] : va_W) ++ scL (scJ cI SA SB mc (zeroTo ms (4 * k)) mw) (List.range N)) H := hP
    have hD : va_D A (([(t0, .inr (7, [.ref sl, .ref ch, .ref oh, .ref xh, .ref rh, .ref sh])), (sl, .inr (0, [.int smd, .ref ser, .int (nI N)])), (ser, .inl (cO, 10, .inr (.inr (.inr (.inr sf))))), (oh, .inr (4, [.ref ob, .int (nI K)])), (ob, .inl (cI, 16, .inl mu))] : va_W) ++ scL (scJ cI SA SB mc (zeroTo ms (4 * k)) mw) (List.range N)) := hD
    have hr_18 := hr_18.symm
    subst hr_18
    refine va_castS hx hb hown hclassLink_RX6_49 (gS4 hK) ((inT_scL (rgm c_10)).recv (X := [(t0, .inr (7, [.ref sl, .ref ch, .ref oh, .ref xh, .ref rh, .ref sh])), (sl, .inr (0, [.int smd, .ref ser, .int (nI N)])), (ser, .inl (cO, 10, .inr (.inr (.inr (.inr sf))))), (oh, .inr (4, [.ref ob, .int (nI K)])), (ob, .inl (cI, 16, .inl mu))]) hK hP) dX6_rest_21 ?_
    obtain ⟨hP, hD⟩ := sc_open (X := [(t0, .inr (7, [.ref sl, .ref ch, .ref oh, .ref xh, .ref rh, .ref sh])), (sl, .inr (0, [.int smd, .ref ser, .int (nI N)])), (ser, .inl (cO, 10, .inr (.inr (.inr (.inr sf))))), (oh, .inr (4, [.ref ob, .int (nI K)])), (ob, .inl (cI, 16, .inl mu))]) k hP hD (rgm c_10)
    have hP : va_P D ccl (([(t0, .inr (7, [.ref sl, .ref ch, .ref oh, .ref xh, .ref rh, .ref sh])), (sl, .inr (0, [.int smd, .ref ser, .int (nI N)])), (ser, .inl (cO, 10, .inr (.inr (.inr (.inr sf))))), (oh, .inr (4, [.ref ob, .int (nI K)])), (ob, .inl (cI, 16, .inl mu)), (SA k, .inr (5, [.int (nI k), .int (mw k), .ref (SB k), .int ((zeroTo ms (4 * k)) (4 * k)), .int ((zeroTo ms (4 * k)) (4 * k + 1)), .int ((zeroTo ms (4 * k)) (4 * k + 2)), .int ((zeroTo ms (4 * k)) (4 * k + 3))])), (SB k, .inl (cI, 5, .inl (fun z9 => if z9 < 5 then mc (5 * k + z9) else 0)))] : va_W) ++ scL (scJ cI SA SB mc (zeroTo ms (4 * k)) mw) ((List.range N).erase k)) H := hP
    have hD : va_D A (([(t0, .inr (7, [.ref sl, .ref ch, .ref oh, .ref xh, .ref rh, .ref sh])), (sl, .inr (0, [.int smd, .ref ser, .int (nI N)])), (ser, .inl (cO, 10, .inr (.inr (.inr (.inr sf))))), (oh, .inr (4, [.ref ob, .int (nI K)])), (ob, .inl (cI, 16, .inl mu)), (SA k, .inr (5, [.int (nI k), .int (mw k), .ref (SB k), .int ((zeroTo ms (4 * k)) (4 * k)), .int ((zeroTo ms (4 * k)) (4 * k + 1)), .int ((zeroTo ms (4 * k)) (4 * k + 2)), .int ((zeroTo ms (4 * k)) (4 * k + 3))])), (SB k, .inl (cI, 5, .inl (fun z9 => if z9 < 5 then mc (5 * k + z9) else 0)))] : va_W) ++ scL (scJ cI SA SB mc (zeroTo ms (4 * k)) mw) ((List.range N).erase k)) := hD
    have hPc := hP.sub (ws' := [((SA k), .inr (5, [.int (nI k), .int (mw k), .ref (SB k), .int ((zeroTo ms (4 * k)) (4 * k)), .int ((zeroTo ms (4 * k)) (4 * k + 1)), .int ((zeroTo ms (4 * k)) (4 * k + 2)), .int ((zeroTo ms (4 * k)) (4 * k + 3))])), ((SB k), .inl (cI, 5, .inl (fun z9 => if z9 < 5 then mc (5 * k + z9) else 0)))]) [5, 6] rfl
    have hDc := hD.sub (ws' := [((SA k), .inr (5, [.int (nI k), .int (mw k), .ref (SB k), .int ((zeroTo ms (4 * k)) (4 * k)), .int ((zeroTo ms (4 * k)) (4 * k + 1)), .int ((zeroTo ms (4 * k)) (4 * k + 2)), .int ((zeroTo ms (4 * k)) (4 * k + 3))])), ((SB k), .inl (cI, 5, .inl (fun z9 => if z9 < 5 then mc (5 * k + z9) else 0)))]) [5, 6] (by decide) rfl
    have hFc := va_free (wc := [((SA k), .inr (5, [.int (nI k), .int (mw k), .ref (SB k), .int ((zeroTo ms (4 * k)) (4 * k)), .int ((zeroTo ms (4 * k)) (4 * k + 1)), .int ((zeroTo ms (4 * k)) (4 * k + 2)), .int ((zeroTo ms (4 * k)) (4 * k + 3))])), ((SB k), .inl (cI, 5, .inl (fun z9 => if z9 < 5 then mc (5 * k + z9) else 0)))]) hD hS hA [5, 6] rfl
    refine g_Vv (As := []) (rest := []) CF (c_X4_calm l D cI cJ cO df H.size (SA k) (SB k) (nI k) (mw k) ((zeroTo ms (4 * k)) (4 * k)) ((zeroTo ms (4 * k)) (4 * k + 1)) ((zeroTo ms (4 * k)) (4 * k + 2)) ((zeroTo ms (4 * k)) (4 * k + 3)) (fun z9 => if z9 < 5 then mc (5 * k + z9) else 0) ) (cwV 0 hts gX6_rest_X4_calm rfl rfl rfl (by decide +kernel) ⟨Nat.le_of_ble_eq_true rfl, Nat.le_of_ble_eq_true rfl⟩) (va_recv hK hP (ci := 5) (q0 := 5) rfl rfl) hPc hK hDc hV hH hS hFc rfl hl.1 rfl (Nat.le_of_ble_eq_true rfl) dX6_rest_24 ⟨Nat.le_of_ble_eq_true rfl, Nat.le_of_ble_eq_true rfl⟩ (fun w1 H1 locs1 hq hP1 hD1 hk hS hz => ?_)
    obtain rfl := hq
    obtain ⟨hP, hD⟩ := g_joinQ (X := [(t0, .inr (7, [.ref sl, .ref ch, .ref oh, .ref xh, .ref rh, .ref sh])), (sl, .inr (0, [.int smd, .ref ser, .int (nI N)])), (ser, .inl (cO, 10, .inr (.inr (.inr (.inr sf))))), (oh, .inr (4, [.ref ob, .int (nI K)])), (ob, .inl (cI, 16, .inl mu)), (SA k, .inr (5, [.int (nI k), .int (mw k), .ref (SB k), .int ((zeroTo ms (4 * k)) (4 * k)), .int ((zeroTo ms (4 * k)) (4 * k + 1)), .int ((zeroTo ms (4 * k)) (4 * k + 2)), .int ((zeroTo ms (4 * k)) (4 * k + 3))])), (SB k, .inl (cI, 5, .inl (fun z9 => if z9 < 5 then mc (5 * k + z9) else 0)))]) (X' := [(t0, .inr (7, [.ref sl, .ref ch, .ref oh, .ref xh, .ref rh, .ref sh])), (sl, .inr (0, [.int smd, .ref ser, .int (nI N)])), (ser, .inl (cO, 10, .inr (.inr (.inr (.inr sf))))), (oh, .inr (4, [.ref ob, .int (nI K)])), (ob, .inl (cI, 16, .inl mu)), ((SA k), .inr (5, [.int (nI k), .int (mw k), .ref (SB k), .int 0, .int 0, .int 0, .int 0])), ((SB k), .inl (cI, 5, .inl (fun z9 => if z9 < 5 then mc (5 * k + z9) else 0)))]) hP hD hk hFc hP1 hD1 [5, 6] [0, 1, 2, 3, 4] [0, 1, 2, 3, 4, 5, 6] rfl rfl (by decide) (by decide) (by decide) rfl
    clear hPc hDc hFc hP1 hD1 hk hz
    generalize H1 = H at hP hS ⊢
    have hP : va_P D ccl (([(t0, .inr (7, [.ref sl, .ref ch, .ref oh, .ref xh, .ref rh, .ref sh])), (sl, .inr (0, [.int smd, .ref ser, .int (nI N)])), (ser, .inl (cO, 10, .inr (.inr (.inr (.inr sf))))), (oh, .inr (4, [.ref ob, .int (nI K)])), (ob, .inl (cI, 16, .inl mu)), ((SA k), .inr (5, [.int (nI k), .int (mw k), .ref (SB k), .int 0, .int 0, .int 0, .int 0])), ((SB k), .inl (cI, 5, .inl (fun z9 => if z9 < 5 then mc (5 * k + z9) else 0)))] : va_W) ++ scL (scJ cI SA SB mc (zeroTo ms (4 * k)) mw) ((List.range N).erase k)) H := hP
    have hD : va_D A (([(t0, .inr (7, [.ref sl, .ref ch, .ref oh, .ref xh, .ref rh, .ref sh])), (sl, .inr (0, [.int smd, .ref ser, .int (nI N)])), (ser, .inl (cO, 10, .inr (.inr (.inr (.inr sf))))), (oh, .inr (4, [.ref ob, .int (nI K)])), (ob, .inl (cI, 16, .inl mu)), ((SA k), .inr (5, [.int (nI k), .int (mw k), .ref (SB k), .int 0, .int 0, .int 0, .int 0])), ((SB k), .inl (cI, 5, .inl (fun z9 => if z9 < 5 then mc (5 * k + z9) else 0)))] : va_W) ++ scL (scJ cI SA SB mc (zeroTo ms (4 * k)) mw) ((List.range N).erase k)) := hD
    obtain ⟨hP, hD⟩ := sc_close (X := [(t0, .inr (7, [.ref sl, .ref ch, .ref oh, .ref xh, .ref rh, .ref sh])), (sl, .inr (0, [.int smd, .ref ser, .int (nI N)])), (ser, .inl (cO, 10, .inr (.inr (.inr (.inr sf))))), (oh, .inr (4, [.ref ob, .int (nI K)])), (ob, .inl (cI, 16, .inl mu))]) (c2 := [((SA k), .inr (5, [.int (nI k), .int (mw k), .ref (SB k), .int 0, .int 0, .int 0, .int 0])), ((SB k), .inl (cI, 5, .inl (fun z9 => if z9 < 5 then mc (5 * k + z9) else 0)))]) (S := (scJ cI SA SB mc (zeroTo ms (4 * k)) mw)) (S' := (scJ cI SA SB mc (zeroTo ms (4 * (k + 1))) mw)) (js := (List.range N)) k hP hD (rgm c_10) rgn scJ_zero (fun i _ h9 => scJ_zeroo h9)
    have hP : va_P D ccl (([(t0, .inr (7, [.ref sl, .ref ch, .ref oh, .ref xh, .ref rh, .ref sh])), (sl, .inr (0, [.int smd, .ref ser, .int (nI N)])), (ser, .inl (cO, 10, .inr (.inr (.inr (.inr sf))))), (oh, .inr (4, [.ref ob, .int (nI K)])), (ob, .inl (cI, 16, .inl mu))] : va_W) ++ scL (scJ cI SA SB mc (zeroTo ms (4 * (k + 1))) mw) (List.range N)) H := hP
    have hD : va_D A (([(t0, .inr (7, [.ref sl, .ref ch, .ref oh, .ref xh, .ref rh, .ref sh])), (sl, .inr (0, [.int smd, .ref ser, .int (nI N)])), (ser, .inl (cO, 10, .inr (.inr (.inr (.inr sf))))), (oh, .inr (4, [.ref ob, .int (nI K)])), (ob, .inl (cI, 16, .inl mu))] : va_W) ++ scL (scJ cI SA SB mc (zeroTo ms (4 * (k + 1))) mw) (List.range N)) := hD
    refine lv_iinc (v := nI (k + 1)) (lv' := [(1, .int (nI (k + 1))), (0, .ref t0)]) hx hb dX6_rest_27 hl (k := 1) rfl (by exact nI_1 _) (by decide) rfl (fun ls hl => ?_)
    refine lv_goto (tgt := 2) hx hb dX6_rest_30 (by decide) ?_
    refine W.widen (k := 0) (n := 0) (Nat.le_refl _) (Nat.le_refl _) ?_
    exact ih_2 (k + 1) _ _ _ (show (k + 1) ≤ N from (by exact c_10)) (show N - (k + 1) < N - k by omega) hP hD hS (lv_sub hl [1, 0] rfl)

set_option maxHeartbeats 4000000 in
set_option maxRecDepth 100000 in
theorem c_X6_rest_e (l : Launch) (D : va_G) (cI cJ cO : ClassId) (df sz : Nat) (t0 : Nat) (sl : Nat) (ch : Nat) (oh : Nat) (xh : Nat) (rh : Nat) (sh : Nat) (smd : Int32) (ob : Nat) (K : Nat) (mu : Nat → Int32)  : MetI l yX6_rest wsX6_rest ({ frames := 1, cells := 0, slots := 0, locals := 20 } : Room) D (gTY cI cJ cO) df [(t0, .inr (7, [.ref sl, .ref ch, .ref oh, .ref xh, .ref rh, .ref sh])), (sl, .inr (0, [.int smd, .ref df, .int 0])), (oh, .inr (4, [.ref ob, .int (nI K)])), (ob, .inl (cI, 16, .inl mu))] sz [.ref t0] (fun (r : Int32) (wZ : va_W) => wZ = [(t0, .inr (7, [.ref sl, .ref ch, .ref oh, .ref xh, .ref rh, .ref sh])), (sl, .inr (0, [.int smd, .ref df, .int 0])), (oh, .inr (4, [.ref ob, .int (nI 0)])), (ob, .inl (cI, 16, .inl mu))] ∧ r = nI K) := by
  refine g_of (cc := cX6_rest) (nL := 2) (ret := (some .int)) (D := D) (TY := (gTY cI cJ cO)) (df := df) (Qc := fun A => va_Qi (fun (r : Int32) (wZ : va_W) => wZ = [(t0, .inr (7, [.ref sl, .ref ch, .ref oh, .ref xh, .ref rh, .ref sh])), (sl, .inr (0, [.int smd, .ref df, .int 0])), (oh, .inr (4, [.ref ob, .int (nI 0)])), (ob, .inl (cI, 16, .inl mu))] ∧ r = nI K) (gB D (gTY cI cJ cO) A) A) (by decide +kernel) rfl (Nat.le_of_ble_eq_true rfl) ?_
  intro p e s m below meth c ls A hsz C0 hin hl
  obtain ⟨CF, hr, hlk, hA, hS, hP, hK, hD, hV, hH⟩ := C0
  have CF : CallFix p m c cX6_rest 2 s _ wsX6_rest RX6 := CF
  obtain ⟨hx, hb, hml, hown, hts⟩ := id CF
  subst hsz
  have hfieldLink_RX6_10 : (Cond.fieldLink RX6 10 "TapLoom" "sections" "Ljava/util/ArrayList;").before _ s = true := hts _ (List.mem_of_getElem? (i := 1) rfl)
  have hmethodLink_RX6_55 : (Cond.methodLink RX6 55 yJx4a65c_size_8abf5).before _ s = true := hts _ (List.mem_of_getElem? (i := 4) rfl)
  have hfieldLink_RX6_28 : (Cond.fieldLink RX6 28 "TapLoom" "outputs" "LTapLoom$Latest;").before _ s = true := hts _ (List.mem_of_getElem? (i := 3) rfl)
  have hmethodLink_RX6_100 : (Cond.methodLink RX6 100 yX3_count).before _ s = true := hts _ (List.mem_of_getElem? (i := 36) rfl)
  have hmethodLink_RX6_103 : (Cond.methodLink RX6 103 yX3_forget).before _ s = true := hts _ (List.mem_of_getElem? (i := 42) rfl)
  have inX6 : ∀ w ∈ u_ws RX6 TX6 6, w ∈ wsX6_rest := fun w h => (List.mem_cons_of_mem _ (List.mem_append_left _ (List.mem_append_left _ (List.mem_append_left _ (List.mem_append_right _ h)))))
  have hP : va_P D ccl [(t0, .inr (7, [.ref sl, .ref ch, .ref oh, .ref xh, .ref rh, .ref sh])), (sl, .inr (0, [.int smd, .ref df, .int 0])), (oh, .inr (4, [.ref ob, .int (nI K)])), (ob, .inl (cI, 16, .inl mu))] s.heap := hP
  have hl : lv_has ls 2 [(0, .ref t0)] := hl
  refine lv_iconst (v := 0) hx hb dX6_rest_0 (by decide) ?_
  refine lv_istore_n (lv' := [(1, .int 0), (0, .ref t0)]) hx hb dX6_rest_1 rfl hl (by decide) rfl (fun ls hl => ?_)
  refine lv_iload_n hx hb dX6_rest_2 rfl (lv_at hl 0 rfl) ?_
  refine lv_aload_n hx hb dX6_rest_3 rfl (lv_at hl 1 rfl) ?_
  refine va_get (D := D) (ci := 7) (v := .ref sl) (C := RX6) (T := TX6) (N := 6) hx hb hts inX6 hown hK hP 0 rfl rfl 0 (by decide) hfieldLink_RX6_10 (fun _ h9 => h9) rfl dX6_rest_4 ?_
  have hPc := hP.sub (ws' := [(sl, .inr (0, [.int smd, .ref df, .int 0]))]) [1] rfl
  have hDc := hD.sub (ws' := [(sl, .inr (0, [.int smd, .ref df, .int 0]))]) [1] (by decide) rfl
  have hFc := va_free (wc := [(sl, .inr (0, [.int smd, .ref df, .int 0]))]) hD hS hA [1] rfl
  refine g_Vi (As := []) (rest := [.int 0]) CF (c_Jx4a65c_size_8abf5 l D cI cJ cO df s.heap.size sl smd df 0 ) (cwV 0 hts gX6_rest_Jx4a65c_size_8abf5 rfl rfl rfl (by decide +kernel) ⟨Nat.le_of_ble_eq_true rfl, Nat.le_of_ble_eq_true rfl⟩) (va_recv hK hP (ci := 0) (q0 := 1) rfl rfl) hPc hK hDc hV hH hS hFc rfl hl.1 rfl (Nat.le_of_ble_eq_true rfl) dX6_rest_7 ⟨Nat.le_of_ble_eq_true rfl, Nat.le_of_ble_eq_true rfl⟩ (fun r_7 w1 H1 locs1 hq hP1 hD1 hk hS hz => ?_)
  obtain ⟨rfl, hr_7⟩ := hq
  have hP := g_keepR hP hD [1] rfl hk hP1
  clear hPc hDc hFc hP1 hD1 hk hz
  generalize H1 = H at hP hS ⊢
  have hP : va_P D ccl [(t0, .inr (7, [.ref sl, .ref ch, .ref oh, .ref xh, .ref rh, .ref sh])), (sl, .inr (0, [.int smd, .ref df, .int 0])), (oh, .inr (4, [.ref ob, .int (nI K)])), (ob, .inl (cI, 16, .inl mu))] H := hP
  have hD : va_D A [(t0, .inr (7, [.ref sl, .ref ch, .ref oh, .ref xh, .ref rh, .ref sh])), (sl, .inr (0, [.int smd, .ref df, .int 0])), (oh, .inr (4, [.ref ob, .int (nI K)])), (ob, .inl (cI, 16, .inl mu))] := hD
  subst hr_7
  refine lv_icmp_ge (tgt := 33) hx hb dX6_rest_10 (by decide) (fun c_10 => ?_) (fun c_10 => ?_)
  · refine lv_aload_n hx hb dX6_rest_33 rfl (lv_at hl 1 rfl) ?_
    refine va_get (D := D) (ci := 7) (v := .ref oh) (C := RX6) (T := TX6) (N := 6) hx hb hts inX6 hown hK hP 0 rfl rfl 2 (by decide) hfieldLink_RX6_28 (fun _ h9 => h9) rfl dX6_rest_34 ?_
    have hPc := hP.sub (ws' := [(oh, .inr (4, [.ref ob, .int (nI K)])), (ob, .inl (cI, 16, .inl mu))]) [2, 3] rfl
    have hDc := hD.sub (ws' := [(oh, .inr (4, [.ref ob, .int (nI K)])), (ob, .inl (cI, 16, .inl mu))]) [2, 3] (by decide) rfl
    have hFc := va_free (wc := [(oh, .inr (4, [.ref ob, .int (nI K)])), (ob, .inl (cI, 16, .inl mu))]) hD hS hA [2, 3] rfl
    refine g_Vi (As := []) (rest := []) CF (c_X3_count l D cI cJ cO df H.size oh ob 16 K mu ) (cwV 0 hts gX6_rest_X3_count rfl rfl rfl (by decide +kernel) ⟨Nat.le_of_ble_eq_true rfl, Nat.le_of_ble_eq_true rfl⟩) (va_recv hK hP (ci := 4) (q0 := 2) rfl rfl) hPc hK hDc hV hH hS hFc rfl hl.1 rfl (Nat.le_of_ble_eq_true rfl) dX6_rest_37 ⟨Nat.le_of_ble_eq_true rfl, Nat.le_of_ble_eq_true rfl⟩ (fun r_37 w1 H1 locs1 hq hP1 hD1 hk hS hz => ?_)
    obtain ⟨rfl, hr_37⟩ := hq
    have hP := g_keepR hP hD [2, 3] rfl hk hP1
    clear hPc hDc hFc hP1 hD1 hk hz
    generalize H1 = H at hP hS ⊢
    have hP : va_P D ccl [(t0, .inr (7, [.ref sl, .ref ch, .ref oh, .ref xh, .ref rh, .ref sh])), (sl, .inr (0, [.int smd, .ref df, .int 0])), (oh, .inr (4, [.ref ob, .int (nI K)])), (ob, .inl (cI, 16, .inl mu))] H := hP
    have hD : va_D A [(t0, .inr (7, [.ref sl, .ref ch, .ref oh, .ref xh, .ref rh, .ref sh])), (sl, .inr (0, [.int smd, .ref df, .int 0])), (oh, .inr (4, [.ref ob, .int (nI K)])), (ob, .inl (cI, 16, .inl mu))] := hD
    subst hr_37
    refine lv_istore_n (lv' := [(1, .int (nI K)), (0, .ref t0)]) hx hb dX6_rest_40 rfl hl (by decide) rfl (fun ls hl => ?_)
    refine lv_aload_n hx hb dX6_rest_41 rfl (lv_at hl 1 rfl) ?_
    refine va_get (D := D) (ci := 7) (v := .ref oh) (C := RX6) (T := TX6) (N := 6) hx hb hts inX6 hown hK hP 0 rfl rfl 2 (by decide) hfieldLink_RX6_28 (fun _ h9 => h9) rfl dX6_rest_42 ?_
    have hPc := hP.sub (ws' := [(oh, .inr (4, [.ref ob, .int (nI K)])), (ob, .inl (cI, 16, .inl mu))]) [2, 3] rfl
    have hDc := hD.sub (ws' := [(oh, .inr (4, [.ref ob, .int (nI K)])), (ob, .inl (cI, 16, .inl mu))]) [2, 3] (by decide) rfl
    have hFc := va_free (wc := [(oh, .inr (4, [.ref ob, .int (nI K)])), (ob, .inl (cI, 16, .inl mu))]) hD hS hA [2, 3] rfl
    refine g_Vv (As := []) (rest := []) CF (c_X3_forget l D cI cJ cO df H.size oh ob 16 K mu ) (cwV 0 hts gX6_rest_X3_forget rfl rfl rfl (by decide +kernel) ⟨Nat.le_of_ble_eq_true rfl, Nat.le_of_ble_eq_true rfl⟩) (va_recv hK hP (ci := 4) (q0 := 2) rfl rfl) hPc hK hDc hV hH hS hFc rfl hl.1 rfl (Nat.le_of_ble_eq_true rfl) dX6_rest_45 ⟨Nat.le_of_ble_eq_true rfl, Nat.le_of_ble_eq_true rfl⟩ (fun w1 H1 locs1 hq hP1 hD1 hk hS hz => ?_)
    obtain rfl := hq
    obtain ⟨hP, hD⟩ := g_join (ws' := [(t0, .inr (7, [.ref sl, .ref ch, .ref oh, .ref xh, .ref rh, .ref sh])), (sl, .inr (0, [.int smd, .ref df, .int 0])), (oh, .inr (4, [.ref ob, .int (nI 0)])), (ob, .inl (cI, 16, .inl mu))]) hP hD hk hFc hP1 hD1 [2, 3] [0, 1] [0, 1, 2, 3] rfl rfl (by decide) (by decide) (by decide) rfl
    clear hPc hDc hFc hP1 hD1 hk hz
    generalize H1 = H at hP hS ⊢
    have hP : va_P D ccl [(t0, .inr (7, [.ref sl, .ref ch, .ref oh, .ref xh, .ref rh, .ref sh])), (sl, .inr (0, [.int smd, .ref df, .int 0])), (oh, .inr (4, [.ref ob, .int (nI 0)])), (ob, .inl (cI, 16, .inl mu))] H := hP
    have hD : va_D A [(t0, .inr (7, [.ref sl, .ref ch, .ref oh, .ref xh, .ref rh, .ref sh])), (sl, .inr (0, [.int smd, .ref df, .int 0])), (oh, .inr (4, [.ref ob, .int (nI 0)])), (ob, .inl (cI, 16, .inl mu))] := hD
    refine lv_iload_n hx hb dX6_rest_48 rfl (lv_at hl 0 rfl) ?_
    refine g_iret (v := nI K) hx hb hr hlk hP hK hD hS (Nat.le_of_ble_eq_true rfl) (Nat.le_of_ble_eq_true rfl) dX6_rest_49 ?_
    exact ⟨rfl, rfl⟩
  · exact absurd c_10 (by decide)
