set_option maxHeartbeats 4000000 in
set_option maxRecDepth 100000 in
theorem c_L_areCycles (l : Launch) (hfl : l.stackTraces = false) (D : va_G) (cI cJ cO : ClassId) (df sz : Nat) (t0 : Nat) (w : va_W) (kc : Nat) (fc : Nat → Int32) (N : Nat) (mc : Nat → Int32) (ms : Nat → Int32) (mw : Nat → Int32) (C : Nat) (mo : Nat → Int32) (K : Nat) (mu : Nat → Int32) (Y : Nat) (rw0 : Nat → Int32) (tf : Nat → Int32) (qf : Nat → Int32) (mp : Nat → Int32) (J : Nat) (R0 : Nat) (w0 : Nat) (hCL : CLS cI cJ cO df t0 w N mc ms mw C mo K mu Y rw0 tf qf) (hW : WF N mc ms mw C mo K Y rw0 mp tf qf) (hN4 : N ≤ 4) (hR : RC fc mc ms mw N) (hJN : J < N) (hR1 : 1 ≤ R0) (hR2 : R0 ≤ 2) (hw3 : w0 ≤ 3) : MetI l yL_areCycles wsL_areCycles ({ frames := 13, cells := 7, slots := 65, locals := 423 } : Room) D (gTY cI cJ cO) df (([(kc, .inl (cI, 40, .inl fc))] : va_W) ++ w) sz [.ref t0, .ref kc, .int (nI J), .int (nI R0), .int (nI w0)] (fun (r : Int32) (wZ : va_W) => ∃ (w1 : va_W), wZ = ([(kc, .inl (cI, 40, .inl fc))] : va_W) ++ w1 ∧ r = 1 ∧ CLS cI cJ cO df t0 w1 N mc ms mw C mo K mu Y rw0 tf qf) := by
  refine g_of (cc := cL_areCycles) (nL := 18) (ret := (some .boolean)) (D := D) (TY := (gTY cI cJ cO)) (df := df) (Qc := fun A => va_Qi (fun (r : Int32) (wZ : va_W) => ∃ (w1 : va_W), wZ = ([(kc, .inl (cI, 40, .inl fc))] : va_W) ++ w1 ∧ r = 1 ∧ CLS cI cJ cO df t0 w1 N mc ms mw C mo K mu Y rw0 tf qf) (gB D (gTY cI cJ cO) A) A) (by decide +kernel) rfl (Nat.le_of_ble_eq_true rfl) ?_
  intro p e s m below meth c ls A hsz C0 hin hl
  obtain ⟨CF, hr, hlk, hA, hS, hP, hK, hD, hV, hH⟩ := C0
  have CF : CallFix p m c cL_areCycles 18 s _ wsL_areCycles RL := CF
  obtain ⟨hx, hb, hml, hown, hts⟩ := id CF
  subst hsz
  have hArrI : (Cond.arrayClass .int).before _ s = true := hts _ (List.mem_of_getElem? (i := 1) rfl)
  have hmethodLink_RL_53 : (Cond.methodLink RL 53 yX6_cycles).before _ s = true := hts _ (List.mem_of_getElem? (i := 13) rfl)
  have hmethodLink_RL_49 : (Cond.methodLink RL 49 yL_cycle).before _ s = true := hts _ (List.mem_of_getElem? (i := 3) rfl)
  have hconstant_RL_52 : (Cond.constant RL 52 (500500)).before _ s = true := hts _ (List.mem_of_getElem? (i := 2) rfl)
  have hmethodLink_RL_15 : (Cond.methodLink RL 15 yL_abs).before _ s = true := hts _ (List.mem_of_getElem? (i := 10) rfl)
  have hmethodLink_RL_46 : (Cond.methodLink RL 46 yL_next).before _ s = true := hts _ (List.mem_of_getElem? (i := 7) rfl)
  have hP : va_P D ccl (([(kc, .inl (cI, 40, .inl fc))] : va_W) ++ w) s.heap := hP
  have hl : lv_has ls 18 [(0, .ref t0), (1, .ref kc), (2, .int (nI J)), (3, .int (nI R0)), (4, .int (nI w0))] := hl
  obtain ⟨hN8, hC8, hmz, hsz9, hc, hs, hw, hO, hiM, hK6, hY, hrw, hm8, hp, ht, hq⟩ := id hW
  have hJ4 : J < 4 := by omega
  have hDD : ((2 * R0) + 1) * ((2 * R0) + 1) ≤ 25 := by rcases (show R0 = 1 ∨ R0 = 2 by omega) with rfl | rfl <;> decide
  have hX : ∀ q t, q < 40401 → nxO mc mw J q = some t → t < 40401 := fun q t h1 h2 => nxO_lt h1 h2
  have hstill := nxO_still mc mw J
  refine lv_bipush (v := 25) hx hb dL_areCycles_0 (by decide) ?_
  refine g_newaI (N := 25) hx hb hArrI hK hP hD hS hA (by decide) (by decide) (Nat.le_of_ble_eq_true rfl) (Nat.le_of_ble_eq_true rfl) (Nat.le_of_ble_eq_true rfl) dL_areCycles_2 (fun sn H hP hD hS => ?_)
  have hP := hP.perm9 (tl_perm (X := [(kc, .inl (cI, 40, .inl fc))]) (c := [(sn, .inl (cI, 25, .inl (fun _ => 0)))]))
  have hD := hD.perm9 (tl_perm (X := [(kc, .inl (cI, 40, .inl fc))]) (c := [(sn, .inl (cI, 25, .inl (fun _ => 0)))]))
  have hP : va_P D ccl (([(kc, .inl (cI, 40, .inl fc)), (sn, .inl (cI, 25, .inl (fun _ => 0)))] : va_W) ++ w) H := hP
  have hD : va_D A (([(kc, .inl (cI, 40, .inl fc)), (sn, .inl (cI, 25, .inl (fun _ => 0)))] : va_W) ++ w) := hD
  refine lv_astore (lv' := [(5, .ref sn), (0, .ref t0), (1, .ref kc), (2, .int (nI J)), (3, .int (nI R0)), (4, .int (nI w0))]) hx hb dL_areCycles_4 hl (by decide) rfl (fun ls hl => ?_)
  refine lv_iconst (v := 0) hx hb dL_areCycles_6 (by decide) ?_
  refine lv_istore (lv' := [(6, .int 0), (5, .ref sn), (0, .ref t0), (1, .ref kc), (2, .int (nI J)), (3, .int (nI R0)), (4, .int (nI w0))]) hx hb dL_areCycles_7 hl (by decide) rfl (fun ls hl => ?_)
  refine lv_iconst (v := 0) hx hb dL_areCycles_9 (by decide) ?_
  refine lv_istore (lv' := [(7, .int 0), (6, .int 0), (5, .ref sn), (0, .ref t0), (1, .ref kc), (2, .int (nI J)), (3, .int (nI R0)), (4, .int (nI w0))]) hx hb dL_areCycles_10 hl (by decide) rfl (fun ls hl => ?_)
  refine lv_iconst (v := 0) hx hb dL_areCycles_12 (by decide) ?_
  refine lv_istore (lv' := [(8, .int 0), (7, .int 0), (6, .int 0), (5, .ref sn), (0, .ref t0), (1, .ref kc), (2, .int (nI J)), (3, .int (nI R0)), (4, .int (nI w0))]) hx hb dL_areCycles_13 hl (by decide) rfl (fun ls hl => ?_)
  refine lv_iconst (v := 0) hx hb dL_areCycles_15 (by decide) ?_
  refine lv_istore (lv' := [(9, .int 0), (8, .int 0), (7, .int 0), (6, .int 0), (5, .ref sn), (0, .ref t0), (1, .ref kc), (2, .int (nI J)), (3, .int (nI R0)), (4, .int (nI w0))]) hx hb dL_areCycles_16 hl (by decide) rfl (fun ls hl => ?_)
  refine lv_iconst (v := 0) hx hb dL_areCycles_18 (by decide) ?_
  refine lv_istore (lv' := [(10, .int 0), (9, .int 0), (8, .int 0), (7, .int 0), (6, .int 0), (5, .ref sn), (0, .ref t0), (1, .ref kc), (2, .int (nI J)), (3, .int (nI R0)), (4, .int (nI w0))]) hx hb dL_areCycles_19 hl (by decide) rfl (fun ls hl => ?_)
  refine W.widen (k := 1) (n := 25) (Nat.le_refl _) (Nat.le_refl _) ?_
  refine g_while (σ := Nat × (Nat → Int32) × Nat × Nat × Nat × Nat) (st := []) (nL := 18) (fun z => match z with | (i, sf, n1, e1, l1, g1) => ([(kc, .inl (cI, 40, .inl fc)), (sn, .inl (cI, 25, .inl sf))] : va_W) ++ w)
    (fun z => match z with | (i, sf, n1, e1, l1, g1) => [(0, .ref t0), (1, .ref kc), (2, .int (nI J)), (3, .int (nI R0)), (4, .int (nI w0)), (5, .ref sn), (6, .int (nI n1)), (7, .int (nI e1)), (8, .int (nI l1)), (9, .int (nI g1)), (10, .int (nI i))])
    (fun z => match z with | (i, sf, n1, e1, l1, g1) => i ≤ ((2 * R0) + 1) * ((2 * R0) + 1) ∧ n1 ≤ i ∧ e1 ≤ i ∧ l1 ≤ 40401 ∧ g1 ≤ 100 ∧ (∀ k, k < n1 → ∃ z9, z9 < 40401 ∧ sf k = nI (lE z9)) ∧ lwI (nxO mc mw J) R0 (i) (n1) (e1) (l1) (g1) (sf))
    (fun z => match z with | (i, sf, n1, e1, l1, g1) => ((2 * R0) + 1) * ((2 * R0) + 1) - i) (fun z => match z with | (i, sf, n1, e1, l1, g1) => 1) (fun z => match z with | (i, sf, n1, e1, l1, g1) => 25)
    ?_ (0, (fun _ => 0), 0, 0, 0, 0) ⟨Nat.zero_le _, Nat.zero_le _, Nat.zero_le _, Nat.zero_le _, Nat.zero_le _, fun k hk => absurd hk (Nat.not_lt_zero k), lwI_0⟩ hP hD hS (lv_sub hl [6, 7, 8, 9, 10, 5, 4, 3, 2, 1, 0] rfl)
  rintro ⟨i, sf, n1, e1, l1, g1⟩ hI H locs ls hP hD hS hl ih
  have hI : i ≤ ((2 * R0) + 1) * ((2 * R0) + 1) ∧ n1 ≤ i ∧ e1 ≤ i ∧ l1 ≤ 40401 ∧ g1 ≤ 100 ∧ (∀ k, k < n1 → ∃ z9, z9 < 40401 ∧ sf k = nI (lE z9)) ∧ lwI (nxO mc mw J) R0 (i) (n1) (e1) (l1) (g1) (sf) := hI
  have hP : va_P D ccl (([(kc, .inl (cI, 40, .inl fc)), (sn, .inl (cI, 25, .inl sf))] : va_W) ++ w) H := hP
  have hD : va_D A (([(kc, .inl (cI, 40, .inl fc)), (sn, .inl (cI, 25, .inl sf))] : va_W) ++ w) := hD
  have hl : lv_has ls 18 [(0, .ref t0), (1, .ref kc), (2, .int (nI J)), (3, .int (nI R0)), (4, .int (nI w0)), (5, .ref sn), (6, .int (nI n1)), (7, .int (nI e1)), (8, .int (nI l1)), (9, .int (nI g1)), (10, .int (nI i))] := hl
  change W p l e _ s m _ below meth c H locs 1 25 _ (F0 m 21 ls [])
  have ih_21 := ih
  clear ih
  obtain ⟨hi, hn1, he1, hl1, hg1, hsf, hlw⟩ := hI
  refine lv_iload hx hb dL_areCycles_21 (lv_at hl 10 rfl) ?_
  refine lv_iconst (v := 2) hx hb dL_areCycles_23 (by decide) ?_
  refine lv_iload_n hx hb dL_areCycles_24 rfl (lv_at hl 3 rfl) ?_
  refine lv_imul hx hb dL_areCycles_25 ?_
  refine lv_topi (fun f ef => ?_)
  obtain rfl : f = nI (2 * R0) := ef.trans (pk_mul _ _)
  refine lv_iconst (v := 1) hx hb dL_areCycles_26 (by decide) ?_
  refine lv_iadd hx hb dL_areCycles_27 ?_
  refine lv_topi (fun f ef => ?_)
  obtain rfl : f = nI ((2 * R0) + 1) := ef.trans (nI_add _ _)
  refine lv_iconst (v := 2) hx hb dL_areCycles_28 (by decide) ?_
  refine lv_iload_n hx hb dL_areCycles_29 rfl (lv_at hl 3 rfl) ?_
  refine lv_imul hx hb dL_areCycles_30 ?_
  refine lv_topi (fun f ef => ?_)
  obtain rfl : f = nI (2 * R0) := ef.trans (pk_mul _ _)
  refine lv_iconst (v := 1) hx hb dL_areCycles_31 (by decide) ?_
  refine lv_iadd hx hb dL_areCycles_32 ?_
  refine lv_topi (fun f ef => ?_)
  obtain rfl : f = nI ((2 * R0) + 1) := ef.trans (nI_add _ _)
  refine lv_imul hx hb dL_areCycles_33 ?_
  refine lv_topi (fun f ef => ?_)
  obtain rfl : f = nI (((2 * R0) + 1) * ((2 * R0) + 1)) := ef.trans (pk_mul _ _)
  refine lv_icmp_ge (tgt := 271) hx hb dL_areCycles_34 (by decide) (fun c_34 => ?_) (fun c_34 => ?_)
  · have c_34 : ((2 * R0) + 1) * ((2 * R0) + 1) ≤ i := g_le (a := ((2 * R0) + 1) * ((2 * R0) + 1)) (b := i) c_34 (by omega) (by omega)
    have hiD : i = ((2 * R0) + 1) * ((2 * R0) + 1) := by omega
    refine lv_aload_n hx hb dL_areCycles_271 rfl (lv_at hl 0 rfl) ?_
    refine lv_iload_n hx hb dL_areCycles_272 rfl (lv_at hl 2 rfl) ?_
    refine lv_iload_n hx hb dL_areCycles_273 rfl (lv_at hl 3 rfl) ?_
    refine lv_iload hx hb dL_areCycles_274 (lv_at hl 4 rfl) ?_
    have hPc := hP.part (X := [(kc, .inl (cI, 40, .inl fc)), (sn, .inl (cI, 25, .inl sf))]) (cx := []) [] rfl
    have hDc := hD.part (X := [(kc, .inl (cI, 40, .inl fc)), (sn, .inl (cI, 25, .inl sf))]) (cx := []) [] (by decide) rfl
    have hFc := va_freeP (X := [(kc, .inl (cI, 40, .inl fc)), (sn, .inl (cI, 25, .inl sf))]) (cx := []) hD hS hA [] rfl
    refine g_Vi (As := [.int (nI J), .int (nI R0), .int (nI w0)]) (rest := []) CF (c3_X6_cycles l hfl D cI cJ cO df H.size t0 w N mc ms mw C mo K mu Y rw0 tf qf mp (nI J) (nI R0) (nI w0) hCL hW (k_two (k_sec hJN hN8) (k_iif (k_in2 (L := 1) (n := 12) hR1 (by omega) (by decide)) (k_in (n := 3) hw3 (by decide))))) (cwV 3 hts gL_areCycles_X6_cycles rfl rfl rfl (by decide +kernel) ⟨Nat.le_of_ble_eq_true rfl, Nat.le_of_ble_eq_true rfl⟩) (cls_recv (X := [(kc, .inl (cI, 40, .inl fc)), (sn, .inl (cI, 25, .inl sf))]) hCL hK hP) hPc hK hDc hV hH hS hFc rfl hl.1 rfl (Nat.le_of_ble_eq_true rfl) dL_areCycles_276 ⟨Nat.le_of_ble_eq_true rfl, Nat.le_of_ble_eq_true rfl⟩ (fun r_276 w1 H1 locs1 hq hP1 hD1 hk hS hz => ?_)
    obtain ⟨w2, ew_276, hq_276⟩ := hq
    rw [ew_276] at hP1 hD1
    obtain ⟨hP, hD⟩ := g_joinP (X := [(kc, .inl (cI, 40, .inl fc)), (sn, .inl (cI, 25, .inl sf))]) (cx := []) (rx := []) (X' := [(kc, .inl (cI, 40, .inl fc)), (sn, .inl (cI, 25, .inl sf))]) hP hD hk hFc hP1 hD1 [] [0, 1] [0, 1] rfl rfl (by decide) (by decide) (by decide) rfl
    clear hPc hDc hFc hP1 hD1 hk hz
    generalize H1 = H at hP hS ⊢
    have hP : va_P D ccl (([(kc, .inl (cI, 40, .inl fc)), (sn, .inl (cI, 25, .inl sf))] : va_W) ++ w2) H := hP
    have hD : va_D A (([(kc, .inl (cI, 40, .inl fc)), (sn, .inl (cI, 25, .inl sf))] : va_W) ++ w2) := hD
    obtain ⟨hCL, hq_276⟩ := hq_276
    rw [gN_nI (by omega), gN_nI (by omega), gN_nI (by omega)] at hq_276
    obtain ⟨A9, c9, l9, g9, e9, hcr9, er276⟩ := hq_276
    subst er276
    rw [← stl_end hR1 hR2] at hcr9
    obtain ⟨rfl, rfl, rfl, rfl, -⟩ := hlw A9 c9 l9 g9 e9 (by rw [hiD]; exact hcr9)
    refine lv_iload hx hb dL_areCycles_279 (lv_at hl 4 rfl) ?_
    refine g_phii (ls := ls) (J := 313) (st1 := [.int (nI (pick w0 n1 l1 g1 e1))]) (REL := fun v9 => v9 = nI (pick w0 n1 l1 g1 e1)) (fun v9 hb_313 => ?_) (fun hJ_313 => ?_)
    · subst hb_313
      refine lv_icmp_ne (tgt := 320) hx hb dL_areCycles_313 (by decide) (fun c_313 => ?_) (fun c_313 => ?_)
      · exact absurd rfl c_313
      · refine lv_iconst (v := 1) hx hb dL_areCycles_316 (by decide) ?_
        refine lv_goto (tgt := 321) hx hb dL_areCycles_317 (by decide) ?_
        have hP := hP.part (X := [(kc, .inl (cI, 40, .inl fc)), (sn, .inl (cI, 25, .inl sf))]) (cx := [(kc, .inl (cI, 40, .inl fc))]) [0] rfl
        have hD := hD.part (X := [(kc, .inl (cI, 40, .inl fc)), (sn, .inl (cI, 25, .inl sf))]) (cx := [(kc, .inl (cI, 40, .inl fc))]) [0] (by decide) rfl
        have hP : va_P D ccl (([(kc, .inl (cI, 40, .inl fc))] : va_W) ++ w2) H := hP
        have hD : va_D A (([(kc, .inl (cI, 40, .inl fc))] : va_W) ++ w2) := hD
        refine g_zret (v := 1) hx hb hr hlk hP hK hD hS (Nat.le_of_ble_eq_true rfl) (Nat.le_of_ble_eq_true rfl) dL_areCycles_321 (by decide +kernel) ?_
        exact ⟨_, rfl, rfl, hCL⟩
    · refine lv_if_ne (tgt := 289) hx hb dL_areCycles_281 (by decide) (fun c_281 => ?_) (fun c_281 => ?_)
      · have c_281 : w0 ≠ 0 := g_ne (a := w0) (b := 0) c_281 (by omega) (by omega)
        refine lv_iload hx hb dL_areCycles_289 (lv_at hl 4 rfl) ?_
        refine lv_iconst (v := 1) hx hb dL_areCycles_291 (by decide) ?_
        refine lv_icmp_ne (tgt := 300) hx hb dL_areCycles_292 (by decide) (fun c_292 => ?_) (fun c_292 => ?_)
        · have c_292 : w0 ≠ 1 := g_ne (a := w0) (b := 1) c_292 (by omega) (by omega)
          refine lv_iload hx hb dL_areCycles_300 (lv_at hl 4 rfl) ?_
          refine lv_iconst (v := 2) hx hb dL_areCycles_302 (by decide) ?_
          refine lv_icmp_ne (tgt := 311) hx hb dL_areCycles_303 (by decide) (fun c_303 => ?_) (fun c_303 => ?_)
          · have c_303 : w0 ≠ 2 := g_ne (a := w0) (b := 2) c_303 (by omega) (by omega)
            refine lv_iload hx hb dL_areCycles_311 (lv_at hl 7 rfl) ?_
            exact hJ_313 _ (by unfold pick; (repeat (first | rw [if_pos (by omega)] | rw [if_neg (by omega)])))
          · have c_303 : w0 = 2 := g_eq (a := w0) (b := 2) c_303 (by omega) (by omega)
            refine lv_iload hx hb dL_areCycles_306 (lv_at hl 9 rfl) ?_
            refine lv_goto (tgt := 313) hx hb dL_areCycles_308 (by decide) ?_
            exact hJ_313 _ (by unfold pick; (repeat (first | rw [if_pos (by omega)] | rw [if_neg (by omega)])))
        · have c_292 : w0 = 1 := g_eq (a := w0) (b := 1) c_292 (by omega) (by omega)
          refine lv_iload hx hb dL_areCycles_295 (lv_at hl 8 rfl) ?_
          refine lv_goto (tgt := 313) hx hb dL_areCycles_297 (by decide) ?_
          exact hJ_313 _ (by unfold pick; (repeat (first | rw [if_pos (by omega)] | rw [if_neg (by omega)])))
      · have c_281 : w0 = 0 := g_eq (a := w0) (b := 0) c_281 (by omega) (by omega)
        refine lv_iload hx hb dL_areCycles_284 (lv_at hl 6 rfl) ?_
        refine lv_goto (tgt := 313) hx hb dL_areCycles_286 (by decide) ?_
        exact hJ_313 _ (by unfold pick; (repeat (first | rw [if_pos (by omega)] | rw [if_neg (by omega)])))
  · have c_34 : i < ((2 * R0) + 1) * ((2 * R0) + 1) := g_nle (a := ((2 * R0) + 1) * ((2 * R0) + 1)) (b := i) c_34 (by omega) (by omega)
    have hu9 : i / ((2 * R0) + 1) ≤ 2 * R0 := Nat.le_of_lt_succ (Nat.div_lt_of_lt_mul c_34)
    have hv9 : i % ((2 * R0) + 1) ≤ 2 * R0 := Nat.le_of_lt_succ (Nat.mod_lt i (show 0 < ((2 * R0) + 1) by omega))
    have hs4 : sI R0 (i / ((2 * R0) + 1)) (i % ((2 * R0) + 1)) < 40401 := sI_lt (by omega) hu9 hv9
    refine lv_sipush (v := 1000) hx hb dL_areCycles_37 (by decide) ?_
    refine lv_iload hx hb dL_areCycles_40 (lv_at hl 10 rfl) ?_
    refine lv_iconst (v := 2) hx hb dL_areCycles_42 (by decide) ?_
    refine lv_iload_n hx hb dL_areCycles_43 rfl (lv_at hl 3 rfl) ?_
    refine lv_imul hx hb dL_areCycles_44 ?_
    refine lv_topi (fun f ef => ?_)
    obtain rfl : f = nI (2 * R0) := ef.trans (pk_mul _ _)
    refine lv_iconst (v := 1) hx hb dL_areCycles_45 (by decide) ?_
    refine lv_iadd hx hb dL_areCycles_46 ?_
    refine lv_topi (fun f ef => ?_)
    obtain rfl : f = nI ((2 * R0) + 1) := ef.trans (nI_add _ _)
    refine lv_idiv hx hb dL_areCycles_47 (nI_ne0 (by omega) (by omega)) ?_
    refine lv_topi (fun f ef => ?_)
    obtain rfl : f = nI (i / ((2 * R0) + 1)) := ef.trans (pk_div (a := i) (d := (2 * R0) + 1) (by omega) (by omega) (by omega))
    refine lv_iload_n hx hb dL_areCycles_48 rfl (lv_at hl 3 rfl) ?_
    refine lv_isub hx hb dL_areCycles_49 ?_
    refine lv_sipush (v := 500) hx hb dL_areCycles_50 (by decide) ?_
    refine lv_iadd hx hb dL_areCycles_53 ?_
    refine lv_topi (fun f ef => ?_)
    obtain rfl : f = nI (i / ((2 * R0) + 1) + (500 - R0)) := ef.trans (off_500 (by omega) (by omega))
    refine lv_imul hx hb dL_areCycles_54 ?_
    refine lv_topi (fun f ef => ?_)
    obtain rfl : f = nI (1000 * (i / ((2 * R0) + 1) + (500 - R0))) := ef.trans (pk_mul _ _)
    refine lv_iload hx hb dL_areCycles_55 (lv_at hl 10 rfl) ?_
    refine lv_iconst (v := 2) hx hb dL_areCycles_57 (by decide) ?_
    refine lv_iload_n hx hb dL_areCycles_58 rfl (lv_at hl 3 rfl) ?_
    refine lv_imul hx hb dL_areCycles_59 ?_
    refine lv_topi (fun f ef => ?_)
    obtain rfl : f = nI (2 * R0) := ef.trans (pk_mul _ _)
    refine lv_iconst (v := 1) hx hb dL_areCycles_60 (by decide) ?_
    refine lv_iadd hx hb dL_areCycles_61 ?_
    refine lv_topi (fun f ef => ?_)
    obtain rfl : f = nI ((2 * R0) + 1) := ef.trans (nI_add _ _)
    refine lv_irem hx hb dL_areCycles_62 (nI_ne0 (by omega) (by omega)) ?_
    refine lv_topi (fun f ef => ?_)
    obtain rfl : f = nI (i % ((2 * R0) + 1)) := ef.trans (pk_rem (a := i) (d := (2 * R0) + 1) (by omega) (by omega) (by omega))
    refine lv_iadd hx hb dL_areCycles_63 ?_
    refine lv_topi (fun f ef => ?_)
    obtain rfl : f = nI ((1000 * (i / ((2 * R0) + 1) + (500 - R0))) + (i % ((2 * R0) + 1))) := ef.trans (nI_add _ _)
    refine lv_iload_n hx hb dL_areCycles_64 rfl (lv_at hl 3 rfl) ?_
    refine lv_isub hx hb dL_areCycles_65 ?_
    refine lv_sipush (v := 500) hx hb dL_areCycles_66 (by decide) ?_
    refine lv_iadd hx hb dL_areCycles_69 ?_
    refine lv_topi (fun f ef => ?_)
    obtain rfl : f = nI (lE (sI R0 (i / ((2 * R0) + 1)) (i % ((2 * R0) + 1)))) := ef.trans (lE_sI (by omega) hu9 hv9)
    refine lv_istore (lv' := [(11, .int (nI (lE (sI R0 (i / ((2 * R0) + 1)) (i % ((2 * R0) + 1)))))), (0, .ref t0), (1, .ref kc), (2, .int (nI J)), (3, .int (nI R0)), (4, .int (nI w0)), (5, .ref sn), (6, .int (nI n1)), (7, .int (nI e1)), (8, .int (nI l1)), (9, .int (nI g1)), (10, .int (nI i))]) hx hb dL_areCycles_70 hl (by decide) rfl (fun ls hl => ?_)
    refine lv_aload_n hx hb dL_areCycles_72 rfl (lv_at hl 2 rfl) ?_
    refine lv_bipush (v := 10) hx hb dL_areCycles_73 (by decide) ?_
    refine lv_iload_n hx hb dL_areCycles_75 rfl (lv_at hl 3 rfl) ?_
    refine lv_imul hx hb dL_areCycles_76 ?_
    refine lv_topi (fun f ef => ?_)
    obtain rfl : f = nI (10 * J) := ef.trans (pk_mul _ _)
    refine lv_iload hx hb dL_areCycles_77 (lv_at hl 0 rfl) ?_
    have hPc := hP.sub (ws' := [(kc, .inl (cI, 40, .inl fc))]) [0] rfl
    have hDc := hD.sub (ws' := [(kc, .inl (cI, 40, .inl fc))]) [0] (by decide) rfl
    have hFc := va_free (wc := [(kc, .inl (cI, 40, .inl fc))]) hD hS hA [0] rfl
    refine g_Si (As := [.ref kc, .int (nI (10 * J)), .int (nI (lE (sI R0 (i / ((2 * R0) + 1)) (i % ((2 * R0) + 1)))))]) (rest := []) CF (c_L_cycle l D cI cJ cO df H.size kc fc mc ms mw N J (sI R0 (i / ((2 * R0) + 1)) (i % ((2 * R0) + 1))) hR hJ4 hJN hc hw hs4) (va_cwS 3 hts gL_areCycles_L_cycle rfl rfl rfl (by decide +kernel) ⟨Nat.le_of_ble_eq_true rfl, Nat.le_of_ble_eq_true rfl⟩)  hPc hK hDc hV hH hS hFc rfl hl.1 rfl (Nat.le_of_ble_eq_true rfl) dL_areCycles_79 ⟨Nat.le_of_ble_eq_true rfl, Nat.le_of_ble_eq_true rfl⟩ (fun r_79 w1 H1 locs1 hq hP1 hD1 hk hS hz => ?_)
    obtain ⟨rfl, hq_79⟩ := hq
    have hP := g_keepR hP hD [0] rfl hk hP1
    clear hPc hDc hFc hP1 hD1 hk hz
    generalize H1 = H at hP hS ⊢
    have hP : va_P D ccl (([(kc, .inl (cI, 40, .inl fc)), (sn, .inl (cI, 25, .inl sf))] : va_W) ++ w) H := hP
    have hD : va_D A (([(kc, .inl (cI, 40, .inl fc)), (sn, .inl (cI, 25, .inl sf))] : va_W) ++ w) := hD
    by_cases hlv : r_79 = -1
    · have hlvS : lvS (nxO mc mw J) (sI R0 (i / ((2 * R0) + 1)) (i % ((2 * R0) + 1))) := by
        rcases hq_79 with h9 | ⟨L, _, h8, h9⟩
        · exact h9.1
        · have h7 := lE_le h8
          exact (nI_ne_m1 (by omega) (h9.symm.trans hlv)).elim
      refine lv_topi (fun f ef => ?_)
      obtain rfl : f = (-1) := ef.trans (hlv)
      refine lv_istore (lv' := [(12, .int (-1)), (11, .int (nI (lE (sI R0 (i / ((2 * R0) + 1)) (i % ((2 * R0) + 1)))))), (0, .ref t0), (1, .ref kc), (2, .int (nI J)), (3, .int (nI R0)), (4, .int (nI w0)), (5, .ref sn), (6, .int (nI n1)), (7, .int (nI e1)), (8, .int (nI l1)), (9, .int (nI g1)), (10, .int (nI i))]) hx hb dL_areCycles_82 hl (by decide) rfl (fun ls hl => ?_)
      refine lv_iload hx hb dL_areCycles_84 (lv_at hl 9 rfl) ?_
      refine lv_iload hx hb dL_areCycles_86 (lv_at hl 0 rfl) ?_
      refine lv_if_ge (tgt := 95) hx hb dL_areCycles_88 (by decide) (fun c_88 => ?_) (fun c_88 => ?_)
      · exact absurd c_88 (by decide)
      · refine lv_iconst (v := 1) hx hb dL_areCycles_91 (by decide) ?_
        refine lv_goto (tgt := 96) hx hb dL_areCycles_92 (by decide) ?_
        refine lv_iadd hx hb dL_areCycles_96 ?_
        refine lv_topi (fun f ef => ?_)
        obtain rfl : f = nI (e1 + 1) := ef.trans (nI_add _ _)
        refine lv_istore (lv' := [(7, .int (nI (e1 + 1))), (12, .int (-1)), (11, .int (nI (lE (sI R0 (i / ((2 * R0) + 1)) (i % ((2 * R0) + 1)))))), (0, .ref t0), (1, .ref kc), (2, .int (nI J)), (3, .int (nI R0)), (4, .int (nI w0)), (5, .ref sn), (6, .int (nI n1)), (8, .int (nI l1)), (9, .int (nI g1)), (10, .int (nI i))]) hx hb dL_areCycles_97 hl (by decide) rfl (fun ls hl => ?_)
        refine lv_iload hx hb dL_areCycles_99 (lv_at hl 1 rfl) ?_
        refine lv_if_lt (tgt := 111) hx hb dL_areCycles_101 (by decide) (fun c_101 => ?_) (fun c_101 => ?_)
        · refine lv_iconst (v := 1) hx hb dL_areCycles_111 (by decide) ?_
          refine lv_goto (tgt := 116) hx hb dL_areCycles_112 (by decide) ?_
          refine lv_istore (lv' := [(13, .int 1), (7, .int (nI (e1 + 1))), (12, .int (-1)), (11, .int (nI (lE (sI R0 (i / ((2 * R0) + 1)) (i % ((2 * R0) + 1)))))), (0, .ref t0), (1, .ref kc), (2, .int (nI J)), (3, .int (nI R0)), (4, .int (nI w0)), (5, .ref sn), (6, .int (nI n1)), (8, .int (nI l1)), (9, .int (nI g1)), (10, .int (nI i))]) hx hb dL_areCycles_116 hl (by decide) rfl (fun ls hl => ?_)
          refine lv_iconst (v := 0) hx hb dL_areCycles_118 (by decide) ?_
          refine lv_istore (lv' := [(14, .int 0), (13, .int 1), (7, .int (nI (e1 + 1))), (12, .int (-1)), (11, .int (nI (lE (sI R0 (i / ((2 * R0) + 1)) (i % ((2 * R0) + 1)))))), (0, .ref t0), (1, .ref kc), (2, .int (nI J)), (3, .int (nI R0)), (4, .int (nI w0)), (5, .ref sn), (6, .int (nI n1)), (8, .int (nI l1)), (9, .int (nI g1)), (10, .int (nI i))]) hx hb dL_areCycles_119 hl (by decide) rfl (fun ls hl => ?_)
          refine W.widen (k := 1) (n := 25) (Nat.le_refl _) (Nat.le_refl _) ?_
          refine g_while (σ := Nat) (st := []) (nL := 18) (fun t => ([(kc, .inl (cI, 40, .inl fc)), (sn, .inl (cI, 25, .inl sf))] : va_W) ++ w)
            (fun t => [(7, .int (nI (e1 + 1))), (0, .ref t0), (1, .ref kc), (2, .int (nI J)), (3, .int (nI R0)), (4, .int (nI w0)), (5, .ref sn), (6, .int (nI n1)), (8, .int (nI l1)), (9, .int (nI g1)), (10, .int (nI i)), (12, .int (-1)), (13, .int 1), (14, .int (nI t))])
            (fun t => t ≤ n1)
            (fun t => n1 - t) (fun t => 1) (fun t => 25)
            ?_ 0 (Nat.zero_le _) hP hD hS (lv_sub hl [2, 5, 6, 7, 8, 9, 10, 11, 12, 13, 14, 3, 1, 0] rfl)
          intro t hI H locs ls hP hD hS hl ih
          have hI : t ≤ n1 := hI
          have hP : va_P D ccl (([(kc, .inl (cI, 40, .inl fc)), (sn, .inl (cI, 25, .inl sf))] : va_W) ++ w) H := hP
          have hD : va_D A (([(kc, .inl (cI, 40, .inl fc)), (sn, .inl (cI, 25, .inl sf))] : va_W) ++ w) := hD
          have hl : lv_has ls 18 [(7, .int (nI (e1 + 1))), (0, .ref t0), (1, .ref kc), (2, .int (nI J)), (3, .int (nI R0)), (4, .int (nI w0)), (5, .ref sn), (6, .int (nI n1)), (8, .int (nI l1)), (9, .int (nI g1)), (10, .int (nI i)), (12, .int (-1)), (13, .int 1), (14, .int (nI t))] := hl
          change W p l e _ s m _ below meth c H locs 1 25 _ (F0 m 121 ls [])
          have ih_121 := ih
          clear ih
          refine lv_iload hx hb dL_areCycles_121 (lv_at hl 13 rfl) ?_
          refine lv_iload hx hb dL_areCycles_123 (lv_at hl 7 rfl) ?_
          refine lv_icmp_ge (tgt := 156) hx hb dL_areCycles_125 (by decide) (fun c_125 => ?_) (fun c_125 => ?_)
          · have c_125 : n1 ≤ t := g_le (a := n1) (b := t) c_125 (by omega) (by omega)
            obtain rfl : n1 = t := by omega
            refine lv_iload hx hb dL_areCycles_156 (lv_at hl 12 rfl) ?_
            refine lv_if_ne (tgt := 265) hx hb dL_areCycles_158 (by decide) (fun c_158 => ?_) (fun c_158 => ?_)
            · refine lv_iinc (v := nI (i + 1)) (lv' := [(10, .int (nI (i + 1))), (7, .int (nI (e1 + 1))), (0, .ref t0), (1, .ref kc), (2, .int (nI J)), (3, .int (nI R0)), (4, .int (nI w0)), (5, .ref sn), (6, .int (nI n1)), (8, .int (nI l1)), (9, .int (nI g1)), (12, .int (-1)), (13, .int 1), (14, .int (nI n1))]) hx hb dL_areCycles_265 hl (k := 10) rfl (by exact nI_1 _) (by decide) rfl (fun ls hl => ?_)
              refine lv_goto (tgt := 21) hx hb dL_areCycles_268 (by decide) ?_
              refine W.widen (k := 1) (n := 25) (Nat.le_refl _) (Nat.le_refl _) ?_
              exact ih_21 (i + 1, sf, n1, (e1 + 1), l1, g1) _ _ _ (show (i + 1) ≤ ((2 * R0) + 1) * ((2 * R0) + 1) ∧ n1 ≤ (i + 1) ∧ (e1 + 1) ≤ (i + 1) ∧ l1 ≤ 40401 ∧ g1 ≤ 100 ∧ (∀ k, k < n1 → ∃ z9, z9 < 40401 ∧ sf k = nI (lE z9)) ∧ lwI (nxO mc mw J) R0 ((i + 1)) (n1) ((e1 + 1)) (l1) (g1) (sf) from (by exact ⟨by omega, by omega, by omega, hl1, hg1, hsf, lwI_lv hstill hlw hlvS⟩)) (show ((2 * R0) + 1) * ((2 * R0) + 1) - (i + 1) < ((2 * R0) + 1) * ((2 * R0) + 1) - i by omega) hP hD hS (lv_sub hl [2, 3, 4, 5, 6, 7, 8, 1, 9, 10, 0] rfl)
            · exact absurd c_158 (by decide)
          · have c_125 : t < n1 := g_nle (a := n1) (b := t) c_125 (by omega) (by omega)
            refine lv_iload hx hb dL_areCycles_128 (lv_at hl 12 rfl) ?_
            refine lv_if_ne (tgt := 143) hx hb dL_areCycles_130 (by decide) (fun c_130 => ?_) (fun c_130 => ?_)
            · refine lv_iconst (v := 1) hx hb dL_areCycles_143 (by decide) ?_
              refine lv_goto (tgt := 148) hx hb dL_areCycles_144 (by decide) ?_
              refine lv_istore (lv' := [(13, .int 1), (7, .int (nI (e1 + 1))), (0, .ref t0), (1, .ref kc), (2, .int (nI J)), (3, .int (nI R0)), (4, .int (nI w0)), (5, .ref sn), (6, .int (nI n1)), (8, .int (nI l1)), (9, .int (nI g1)), (10, .int (nI i)), (12, .int (-1)), (14, .int (nI t))]) hx hb dL_areCycles_148 hl (by decide) rfl (fun ls hl => ?_)
              refine lv_iinc (v := nI (t + 1)) (lv' := [(14, .int (nI (t + 1))), (13, .int 1), (7, .int (nI (e1 + 1))), (0, .ref t0), (1, .ref kc), (2, .int (nI J)), (3, .int (nI R0)), (4, .int (nI w0)), (5, .ref sn), (6, .int (nI n1)), (8, .int (nI l1)), (9, .int (nI g1)), (10, .int (nI i)), (12, .int (-1))]) hx hb dL_areCycles_150 hl (k := 13) rfl (by exact nI_1 _) (by decide) rfl (fun ls hl => ?_)
              refine lv_goto (tgt := 121) hx hb dL_areCycles_153 (by decide) ?_
              refine W.widen (k := 1) (n := 25) (Nat.le_refl _) (Nat.le_refl _) ?_
              exact ih_121 (t + 1) _ _ _ (show (t + 1) ≤ n1 from (by exact c_125)) (show n1 - (t + 1) < n1 - t by omega) hP hD hS (lv_sub hl [2, 3, 4, 5, 6, 7, 8, 9, 10, 11, 12, 13, 1, 0] rfl)
            · exact absurd c_130 (by decide)
        · exact absurd c_101 (by decide)
    · obtain ⟨L, hcL, hL4, erL⟩ := hq_79.resolve_left (fun h9 => hlv h9.2)
      have hle := lE_le hL4
      obtain ⟨pr, hpm9⟩ : ∃ pr, perM (nxO mc mw J) L pr := by obtain ⟨pr, h0, h1⟩ := hcL.2.1; exact perM_ex pr h0 h1
      have hp9 := perM_le hX hL4 hpm9
      refine lv_topi (fun f ef => ?_)
      obtain rfl : f = nI (lE L) := ef.trans (erL)
      refine lv_istore (lv' := [(12, .int (nI (lE L))), (11, .int (nI (lE (sI R0 (i / ((2 * R0) + 1)) (i % ((2 * R0) + 1)))))), (0, .ref t0), (1, .ref kc), (2, .int (nI J)), (3, .int (nI R0)), (4, .int (nI w0)), (5, .ref sn), (6, .int (nI n1)), (7, .int (nI e1)), (8, .int (nI l1)), (9, .int (nI g1)), (10, .int (nI i))]) hx hb dL_areCycles_82 hl (by decide) rfl (fun ls hl => ?_)
      refine lv_iload hx hb dL_areCycles_84 (lv_at hl 9 rfl) ?_
      refine lv_iload hx hb dL_areCycles_86 (lv_at hl 0 rfl) ?_
      refine lv_if_ge (tgt := 95) hx hb dL_areCycles_88 (by decide) (fun c_88 => ?_) (fun c_88 => ?_)
      · have c_88 : 0 ≤ lE L := g_le (a := 0) (b := lE L) c_88 (by omega) (by omega)
        refine lv_iconst (v := 0) hx hb dL_areCycles_95 (by decide) ?_
        refine lv_iadd hx hb dL_areCycles_96 ?_
        refine lv_topi (fun f ef => ?_)
        obtain rfl : f = nI (e1 + 0) := ef.trans (nI_add _ _)
        refine lv_istore (lv' := [(7, .int (nI (e1 + 0))), (12, .int (nI (lE L))), (11, .int (nI (lE (sI R0 (i / ((2 * R0) + 1)) (i % ((2 * R0) + 1)))))), (0, .ref t0), (1, .ref kc), (2, .int (nI J)), (3, .int (nI R0)), (4, .int (nI w0)), (5, .ref sn), (6, .int (nI n1)), (8, .int (nI l1)), (9, .int (nI g1)), (10, .int (nI i))]) hx hb dL_areCycles_97 hl (by decide) rfl (fun ls hl => ?_)
        refine lv_iload hx hb dL_areCycles_99 (lv_at hl 1 rfl) ?_
        refine lv_if_lt (tgt := 111) hx hb dL_areCycles_101 (by decide) (fun c_101 => ?_) (fun c_101 => ?_)
        · have c_101 : lE L < 0 := g_lt (a := lE L) (b := 0) c_101 (by omega) (by omega)
          omega
        · have c_101 : 0 ≤ lE L := g_nlt (a := lE L) (b := 0) c_101 (by omega) (by omega)
          refine lv_iload hx hb dL_areCycles_104 (lv_at hl 1 rfl) ?_
          refine lv_ldc (v := 500500) hx hb hown hconstant_RL_52 dL_areCycles_106 ?_
          refine lv_icmp_ne (tgt := 115) hx hb dL_areCycles_108 (by decide) (fun c_108 => ?_) (fun c_108 => ?_)
          · have c_108 : lE L ≠ 500500 := g_ne (a := lE L) (b := 500500) c_108 (by omega) (by omega)
            refine lv_iconst (v := 0) hx hb dL_areCycles_115 (by decide) ?_
            refine lv_istore (lv' := [(13, .int 0), (7, .int (nI (e1 + 0))), (12, .int (nI (lE L))), (11, .int (nI (lE (sI R0 (i / ((2 * R0) + 1)) (i % ((2 * R0) + 1)))))), (0, .ref t0), (1, .ref kc), (2, .int (nI J)), (3, .int (nI R0)), (4, .int (nI w0)), (5, .ref sn), (6, .int (nI n1)), (8, .int (nI l1)), (9, .int (nI g1)), (10, .int (nI i))]) hx hb dL_areCycles_116 hl (by decide) rfl (fun ls hl => ?_)
            refine lv_iconst (v := 0) hx hb dL_areCycles_118 (by decide) ?_
            refine lv_istore (lv' := [(14, .int 0), (13, .int 0), (7, .int (nI (e1 + 0))), (12, .int (nI (lE L))), (11, .int (nI (lE (sI R0 (i / ((2 * R0) + 1)) (i % ((2 * R0) + 1)))))), (0, .ref t0), (1, .ref kc), (2, .int (nI J)), (3, .int (nI R0)), (4, .int (nI w0)), (5, .ref sn), (6, .int (nI n1)), (8, .int (nI l1)), (9, .int (nI g1)), (10, .int (nI i))]) hx hb dL_areCycles_119 hl (by decide) rfl (fun ls hl => ?_)
            refine W.widen (k := 1) (n := 25) (Nat.le_refl _) (Nat.le_refl _) ?_
            refine g_while (σ := Nat) (st := []) (nL := 18) (fun t => ([(kc, .inl (cI, 40, .inl fc)), (sn, .inl (cI, 25, .inl sf))] : va_W) ++ w)
              (fun t => [(7, .int (nI (e1 + 0))), (0, .ref t0), (1, .ref kc), (2, .int (nI J)), (3, .int (nI R0)), (4, .int (nI w0)), (5, .ref sn), (6, .int (nI n1)), (8, .int (nI l1)), (9, .int (nI g1)), (10, .int (nI i)), (12, .int (nI (lE L))), (13, .int (hsn sf (nI (lE L)) t)), (14, .int (nI t))])
              (fun t => t ≤ n1)
              (fun t => n1 - t) (fun t => 1) (fun t => 25)
              ?_ 0 (Nat.zero_le _) hP hD hS (lv_sub hl [2, 5, 6, 7, 8, 9, 10, 11, 12, 13, 14, 3, 1, 0] rfl)
            intro t hI H locs ls hP hD hS hl ih
            have hI : t ≤ n1 := hI
            have hP : va_P D ccl (([(kc, .inl (cI, 40, .inl fc)), (sn, .inl (cI, 25, .inl sf))] : va_W) ++ w) H := hP
            have hD : va_D A (([(kc, .inl (cI, 40, .inl fc)), (sn, .inl (cI, 25, .inl sf))] : va_W) ++ w) := hD
            have hl : lv_has ls 18 [(7, .int (nI (e1 + 0))), (0, .ref t0), (1, .ref kc), (2, .int (nI J)), (3, .int (nI R0)), (4, .int (nI w0)), (5, .ref sn), (6, .int (nI n1)), (8, .int (nI l1)), (9, .int (nI g1)), (10, .int (nI i)), (12, .int (nI (lE L))), (13, .int (hsn sf (nI (lE L)) t)), (14, .int (nI t))] := hl
            change W p l e _ s m _ below meth c H locs 1 25 _ (F0 m 121 ls [])
            have ih_121 := ih
            clear ih
            refine lv_iload hx hb dL_areCycles_121 (lv_at hl 13 rfl) ?_
            refine lv_iload hx hb dL_areCycles_123 (lv_at hl 7 rfl) ?_
            refine lv_icmp_ge (tgt := 156) hx hb dL_areCycles_125 (by decide) (fun c_125 => ?_) (fun c_125 => ?_)
            · have c_125 : n1 ≤ t := g_le (a := n1) (b := t) c_125 (by omega) (by omega)
              obtain rfl : n1 = t := by omega
              refine lv_iload hx hb dL_areCycles_156 (lv_at hl 12 rfl) ?_
              refine lv_if_ne (tgt := 265) hx hb dL_areCycles_158 (by decide) (fun c_158 => ?_) (fun c_158 => ?_)
              · refine lv_iinc (v := nI (i + 1)) (lv' := [(10, .int (nI (i + 1))), (7, .int (nI (e1 + 0))), (0, .ref t0), (1, .ref kc), (2, .int (nI J)), (3, .int (nI R0)), (4, .int (nI w0)), (5, .ref sn), (6, .int (nI n1)), (8, .int (nI l1)), (9, .int (nI g1)), (12, .int (nI (lE L))), (13, .int (hsn sf (nI (lE L)) n1)), (14, .int (nI n1))]) hx hb dL_areCycles_265 hl (k := 10) rfl (by exact nI_1 _) (by decide) rfl (fun ls hl => ?_)
                refine lv_goto (tgt := 21) hx hb dL_areCycles_268 (by decide) ?_
                refine W.widen (k := 1) (n := 25) (Nat.le_refl _) (Nat.le_refl _) ?_
                exact ih_21 (i + 1, sf, n1, (e1 + 0), l1, g1) _ _ _ (show (i + 1) ≤ ((2 * R0) + 1) * ((2 * R0) + 1) ∧ n1 ≤ (i + 1) ∧ (e1 + 0) ≤ (i + 1) ∧ l1 ≤ 40401 ∧ g1 ≤ 100 ∧ (∀ k, k < n1 → ∃ z9, z9 < 40401 ∧ sf k = nI (lE z9)) ∧ lwI (nxO mc mw J) R0 ((i + 1)) (n1) ((e1 + 0)) (l1) (g1) (sf) from (by exact ⟨by omega, by omega, by omega, hl1, hg1, hsf, lwI_old hstill hlw hcL (Or.inr ⟨hL4, hsn_iff.mp c_158⟩)⟩)) (show ((2 * R0) + 1) * ((2 * R0) + 1) - (i + 1) < ((2 * R0) + 1) * ((2 * R0) + 1) - i by omega) hP hD hS (lv_sub hl [2, 3, 4, 5, 6, 7, 8, 1, 9, 10, 0] rfl)
              · have hno9 : ¬ ∃ k, k < n1 ∧ sf k = nI (lE L) := fun h9 => absurd c_158 (hsn_iff.mpr h9)
                have hLs : L ≠ 20200 := fun h9 => c_108 (lE_still.mpr h9)
                refine lv_aload hx hb dL_areCycles_161 (lv_at hl 6 rfl) ?_
                refine lv_iload hx hb dL_areCycles_163 (lv_at hl 7 rfl) ?_
                refine lv_iload hx hb dL_areCycles_165 (lv_at hl 11 rfl) ?_
                refine va_iast hx hb hK hP hD hS 1 0 rfl rfl (vp_in_nI (by omega) (by omega)) dL_areCycles_167 (fun H locs hP hD hS => ?_)
                rw [show (nI n1).toNatClampNeg = n1 from (nI_clamp (by omega))] at hP hD
                have hP : va_P D ccl (([(kc, .inl (cI, 40, .inl fc)), (sn, .inl (cI, 25, .inl (upd sf n1 (nI (lE L)))))] : va_W) ++ w) H := hP
                have hD : va_D A (([(kc, .inl (cI, 40, .inl fc)), (sn, .inl (cI, 25, .inl (upd sf n1 (nI (lE L)))))] : va_W) ++ w) := hD
                refine lv_iinc (v := nI (n1 + 1)) (lv' := [(6, .int (nI (n1 + 1))), (7, .int (nI (e1 + 0))), (0, .ref t0), (1, .ref kc), (2, .int (nI J)), (3, .int (nI R0)), (4, .int (nI w0)), (5, .ref sn), (8, .int (nI l1)), (9, .int (nI g1)), (10, .int (nI i)), (12, .int (nI (lE L))), (13, .int (hsn sf (nI (lE L)) n1)), (14, .int (nI n1))]) hx hb dL_areCycles_168 hl (k := 7) rfl (by exact nI_1 _) (by decide) rfl (fun ls hl => ?_)
                refine lv_iconst (v := 0) hx hb dL_areCycles_171 (by decide) ?_
                refine lv_istore (lv' := [(14, .int 0), (6, .int (nI (n1 + 1))), (7, .int (nI (e1 + 0))), (0, .ref t0), (1, .ref kc), (2, .int (nI J)), (3, .int (nI R0)), (4, .int (nI w0)), (5, .ref sn), (8, .int (nI l1)), (9, .int (nI g1)), (10, .int (nI i)), (12, .int (nI (lE L))), (13, .int (hsn sf (nI (lE L)) n1))]) hx hb dL_areCycles_172 hl (by decide) rfl (fun ls hl => ?_)
                refine lv_iload hx hb dL_areCycles_174 (lv_at hl 12 rfl) ?_
                refine lv_istore (lv' := [(15, .int (nI (lE L))), (14, .int 0), (6, .int (nI (n1 + 1))), (7, .int (nI (e1 + 0))), (0, .ref t0), (1, .ref kc), (2, .int (nI J)), (3, .int (nI R0)), (4, .int (nI w0)), (5, .ref sn), (8, .int (nI l1)), (9, .int (nI g1)), (10, .int (nI i)), (12, .int (nI (lE L))), (13, .int (hsn sf (nI (lE L)) n1))]) hx hb dL_areCycles_176 hl (by decide) rfl (fun ls hl => ?_)
                refine lv_iconst (v := 1) hx hb dL_areCycles_178 (by decide) ?_
                refine lv_topi (fun f ef => ?_)
                obtain rfl : f = nFl (0 = 0 ∨ tv (nxO mc mw J) L (0) ≠ L) := ef.trans ((if_pos (Or.inl rfl)).symm)
                refine lv_istore (lv' := [(16, .int (nFl (0 = 0 ∨ tv (nxO mc mw J) L (0) ≠ L))), (15, .int (nI (lE L))), (14, .int 0), (6, .int (nI (n1 + 1))), (7, .int (nI (e1 + 0))), (0, .ref t0), (1, .ref kc), (2, .int (nI J)), (3, .int (nI R0)), (4, .int (nI w0)), (5, .ref sn), (8, .int (nI l1)), (9, .int (nI g1)), (10, .int (nI i)), (12, .int (nI (lE L))), (13, .int (hsn sf (nI (lE L)) n1))]) hx hb dL_areCycles_179 hl (by decide) rfl (fun ls hl => ?_)
                refine W.widen (k := 1) (n := 25) (Nat.le_refl _) (Nat.le_refl _) ?_
                refine g_while (σ := Nat) (st := []) (nL := 18) (fun m9 => ([(kc, .inl (cI, 40, .inl fc)), (sn, .inl (cI, 25, .inl (upd sf n1 (nI (lE L)))))] : va_W) ++ w)
                  (fun m9 => [(6, .int (nI (n1 + 1))), (7, .int (nI (e1 + 0))), (0, .ref t0), (1, .ref kc), (2, .int (nI J)), (3, .int (nI R0)), (4, .int (nI w0)), (5, .ref sn), (8, .int (nI l1)), (9, .int (nI (gmx (nxO mc mw J) L g1 0 m9))), (10, .int (nI i)), (12, .int (nI (lE L))), (14, .int (nI m9)), (15, .int (nI (lE (tv (nxO mc mw J) L (m9))))), (16, .int (nFl (m9 = 0 ∨ tv (nxO mc mw J) L (m9) ≠ L)))])
                  (fun m9 => m9 ≤ pr ∧ ∀ k, 0 < k → k < m9 → tv (nxO mc mw J) L (k) ≠ L)
                  (fun m9 => pr - m9) (fun m9 => 1) (fun m9 => 25)
                  ?_ 0 ⟨Nat.zero_le _, fun k h1 h2 => absurd h2 (Nat.not_lt_zero k)⟩ hP hD hS (lv_sub hl [3, 4, 5, 6, 7, 8, 9, 10, 11, 12, 13, 14, 2, 1, 0] rfl)
                intro m9 hI H locs ls hP hD hS hl ih
                have hI : m9 ≤ pr ∧ ∀ k, 0 < k → k < m9 → tv (nxO mc mw J) L (k) ≠ L := hI
                have hP : va_P D ccl (([(kc, .inl (cI, 40, .inl fc)), (sn, .inl (cI, 25, .inl (upd sf n1 (nI (lE L)))))] : va_W) ++ w) H := hP
                have hD : va_D A (([(kc, .inl (cI, 40, .inl fc)), (sn, .inl (cI, 25, .inl (upd sf n1 (nI (lE L)))))] : va_W) ++ w) := hD
                have hl : lv_has ls 18 [(6, .int (nI (n1 + 1))), (7, .int (nI (e1 + 0))), (0, .ref t0), (1, .ref kc), (2, .int (nI J)), (3, .int (nI R0)), (4, .int (nI w0)), (5, .ref sn), (8, .int (nI l1)), (9, .int (nI (gmx (nxO mc mw J) L g1 0 m9))), (10, .int (nI i)), (12, .int (nI (lE L))), (14, .int (nI m9)), (15, .int (nI (lE (tv (nxO mc mw J) L (m9))))), (16, .int (nFl (m9 = 0 ∨ tv (nxO mc mw J) L (m9) ≠ L)))] := hl
                change W p l e _ s m _ below meth c H locs 1 25 _ (F0 m 181 ls [])
                have ih_181 := ih
                clear ih
                obtain ⟨hm9, hnk⟩ := hI
                obtain ⟨y, hy⟩ := per_some hpm9.1 hpm9.2.1 m9
                obtain ⟨z, hz⟩ := per_some hpm9.1 hpm9.2.1 (m9 + 1)
                have ey := tv_of hy
                have ez := tv_of hz
                have hy4 := tr_lt hX hL4 m9 y hy
                have hz4 := tr_lt hX hL4 (m9 + 1) z hz
                have htv : tv (nxO mc mw J) L (m9) < 40401 := by rw [ey]; exact hy4
                have htl := lE_le htv
                have hzl := lE_le hz4
                have hgm : gmx (nxO mc mw J) L g1 0 m9 ≤ 100 := gmx_le_iff.mpr ⟨hg1, fun j9 _ => ayq_le (by obtain ⟨x9, hx9⟩ := per_some hpm9.1 hpm9.2.1 (0 + j9); rw [tv_of hx9]; have := tr_lt hX hL4 _ x9 hx9; omega)⟩
                have hay := ayq_le (q := tv (nxO mc mw J) L (m9) / 201) (by omega)
                refine lv_iload hx hb dL_areCycles_181 (lv_at hl 14 rfl) ?_
                refine lv_if_eq (tgt := 249) hx hb dL_areCycles_183 (by decide) (fun c_183 => ?_) (fun c_183 => ?_)
                · have c_183 := nFl_0 c_183
                  have hm0 : m9 ≠ 0 := fun h9 => c_183 (Or.inl h9)
                  have hyL : y = L := Classical.byContradiction fun h9 => c_183 (Or.inr (by rw [ey]; exact h9))
                  have hpm : perM (nxO mc mw J) L m9 := ⟨by omega, by rw [hy, hyL], fun k h1 h2 h3 => hnk k h1 h2 (tv_of h3)⟩
                  refine lv_iload hx hb dL_areCycles_249 (lv_at hl 12 rfl) ?_
                  refine lv_iload hx hb dL_areCycles_251 (lv_at hl 8 rfl) ?_
                  have hml := perM_le hX hL4 hpm
                  refine g_phii (ls := ls) (J := 263) (st1 := []) (REL := fun v9 => v9 = nI (max l1 m9)) (fun v9 hb_263 => ?_) (fun hJ_263 => ?_)
                  · subst hb_263
                    refine lv_istore (lv' := [(8, .int (nI (max l1 m9))), (6, .int (nI (n1 + 1))), (7, .int (nI (e1 + 0))), (0, .ref t0), (1, .ref kc), (2, .int (nI J)), (3, .int (nI R0)), (4, .int (nI w0)), (5, .ref sn), (9, .int (nI (gmx (nxO mc mw J) L g1 0 m9))), (10, .int (nI i)), (12, .int (nI (lE L))), (14, .int (nI m9)), (15, .int (nI (lE (tv (nxO mc mw J) L (m9))))), (16, .int (nFl (m9 = 0 ∨ tv (nxO mc mw J) L (m9) ≠ L)))]) hx hb dL_areCycles_263 hl (by decide) rfl (fun ls hl => ?_)
                    refine lv_iinc (v := nI (i + 1)) (lv' := [(10, .int (nI (i + 1))), (8, .int (nI (max l1 m9))), (6, .int (nI (n1 + 1))), (7, .int (nI (e1 + 0))), (0, .ref t0), (1, .ref kc), (2, .int (nI J)), (3, .int (nI R0)), (4, .int (nI w0)), (5, .ref sn), (9, .int (nI (gmx (nxO mc mw J) L g1 0 m9))), (12, .int (nI (lE L))), (14, .int (nI m9)), (15, .int (nI (lE (tv (nxO mc mw J) L (m9))))), (16, .int (nFl (m9 = 0 ∨ tv (nxO mc mw J) L (m9) ≠ L)))]) hx hb dL_areCycles_265 hl (k := 10) rfl (by exact nI_1 _) (by decide) rfl (fun ls hl => ?_)
                    refine lv_goto (tgt := 21) hx hb dL_areCycles_268 (by decide) ?_
                    refine W.widen (k := 1) (n := 25) (Nat.le_refl _) (Nat.le_refl _) ?_
                    exact ih_21 (i + 1, (upd sf n1 (nI (lE L))), (n1 + 1), (e1 + 0), (max l1 m9), (gmx (nxO mc mw J) L g1 0 m9)) _ _ _ (show (i + 1) ≤ ((2 * R0) + 1) * ((2 * R0) + 1) ∧ (n1 + 1) ≤ (i + 1) ∧ (e1 + 0) ≤ (i + 1) ∧ (max l1 m9) ≤ 40401 ∧ (gmx (nxO mc mw J) L g1 0 m9) ≤ 100 ∧ (∀ k, k < (n1 + 1) → ∃ z9, z9 < 40401 ∧ (upd sf n1 (nI (lE L))) k = nI (lE z9)) ∧ lwI (nxO mc mw J) R0 ((i + 1)) ((n1 + 1)) ((e1 + 0)) ((max l1 m9)) ((gmx (nxO mc mw J) L g1 0 m9)) ((upd sf n1 (nI (lE L)))) from (by exact ⟨by omega, by omega, by omega, by omega, hgm, fun k9 hk9 => by by_cases h9 : k9 = n1; subst h9; exact ⟨L, hL4, if_pos rfl⟩; obtain ⟨z9, h7, h8⟩ := hsf k9 (by omega); exact ⟨z9, h7, (if_neg h9).trans h8⟩, lwI_new hstill hlw hcL hL4 hLs hno9 hpm⟩)) (show ((2 * R0) + 1) * ((2 * R0) + 1) - (i + 1) < ((2 * R0) + 1) * ((2 * R0) + 1) - i by omega) hP hD hS (lv_sub hl [4, 5, 6, 7, 8, 9, 2, 3, 1, 10, 0] rfl)
                  · refine lv_icmp_le (tgt := 261) hx hb dL_areCycles_253 (by decide) (fun c_253 => ?_) (fun c_253 => ?_)
                    · have c_253 : m9 ≤ l1 := g_le (a := m9) (b := l1) c_253 (by omega) (by omega)
                      refine lv_iload hx hb dL_areCycles_261 (lv_at hl 8 rfl) ?_
                      exact hJ_263 _ (congrArg nI (by omega))
                    · have c_253 : l1 < m9 := g_nle (a := m9) (b := l1) c_253 (by omega) (by omega)
                      refine lv_iload hx hb dL_areCycles_256 (lv_at hl 12 rfl) ?_
                      refine lv_goto (tgt := 263) hx hb dL_areCycles_258 (by decide) ?_
                      exact hJ_263 _ (congrArg nI (by omega))
                · have c_183 := nFl_1 c_183
                  have hmp : m9 < pr := by
                    rcases Nat.lt_or_ge m9 pr with h9 | h9
                    · exact h9
                    · have h8 : m9 = pr := by omega
                      rcases c_183 with h7 | h7
                      · have := hpm9.1; omega
                      · exact (h7 (by rw [h8]; exact tv_of hpm9.2.1)).elim
                  refine lv_iload hx hb dL_areCycles_186 (lv_at hl 13 rfl) ?_
                  refine lv_sipush (v := 1000) hx hb dL_areCycles_188 (by decide) ?_
                  refine lv_idiv hx hb dL_areCycles_191 (by decide) ?_
                  refine lv_topi (fun f ef => ?_)
                  obtain rfl : f = nI (tv (nxO mc mw J) L (m9) / 201 + 400) := ef.trans ((pk_div (a := lE (tv (nxO mc mw J) L (m9))) (d := 1000) (by omega) (by omega) (by omega)).trans (congrArg nI lE_div))
                  refine lv_sipush (v := 500) hx hb dL_areCycles_192 (by decide) ?_
                  refine lv_isub hx hb dL_areCycles_195 ?_
                  refine lv_topi (fun f ef => ?_)
                  obtain rfl : f = nI (tv (nxO mc mw J) L (m9) / 201) - 100 := ef.trans (off4 (by omega))
                  have hPc : va_P D ccl [] H := fun k q h => by simp at h
                  have hDc : va_D A [] := ⟨fun i j p q h => by simp at h, fun k q h => by simp at h⟩
                  have hFc := va_free (wc := []) hD hS hA [] rfl
                  refine g_Si (As := [.int (nI (tv (nxO mc mw J) L (m9) / 201) - 100)]) (rest := []) CF (c_L_abs l D cI cJ cO df H.size (nI (tv (nxO mc mw J) L (m9) / 201) - 100) ) (va_cwS 1 hts gL_areCycles_L_abs rfl rfl rfl (by decide +kernel) ⟨Nat.le_of_ble_eq_true rfl, Nat.le_of_ble_eq_true rfl⟩)  hPc hK hDc hV hH hS hFc rfl hl.1 rfl (Nat.le_of_ble_eq_true rfl) dL_areCycles_196 ⟨Nat.le_of_ble_eq_true rfl, Nat.le_of_ble_eq_true rfl⟩ (fun r_196 w1 H1 locs1 hq hP1 hD1 hk hS hz => ?_)
                  obtain ⟨rfl, hr_196⟩ := hq
                  have hP := g_keep0 hP hk
                  clear hPc hDc hFc hP1 hD1 hk hz
                  generalize H1 = H at hP hS ⊢
                  have hP : va_P D ccl (([(kc, .inl (cI, 40, .inl fc)), (sn, .inl (cI, 25, .inl (upd sf n1 (nI (lE L)))))] : va_W) ++ w) H := hP
                  have hD : va_D A (([(kc, .inl (cI, 40, .inl fc)), (sn, .inl (cI, 25, .inl (upd sf n1 (nI (lE L)))))] : va_W) ++ w) := hD
                  subst hr_196
                  refine lv_topi (fun f ef => ?_)
                  obtain rfl : f = nI (ayq (tv (nxO mc mw J) L (m9) / 201)) := ef.trans (mSize_100 (by omega))
                  refine lv_istore (lv' := [(17, .int (nI (ayq (tv (nxO mc mw J) L (m9) / 201)))), (6, .int (nI (n1 + 1))), (7, .int (nI (e1 + 0))), (0, .ref t0), (1, .ref kc), (2, .int (nI J)), (3, .int (nI R0)), (4, .int (nI w0)), (5, .ref sn), (8, .int (nI l1)), (9, .int (nI (gmx (nxO mc mw J) L g1 0 m9))), (10, .int (nI i)), (12, .int (nI (lE L))), (14, .int (nI m9)), (15, .int (nI (lE (tv (nxO mc mw J) L (m9))))), (16, .int (nFl (m9 = 0 ∨ tv (nxO mc mw J) L (m9) ≠ L)))]) hx hb dL_areCycles_199 hl (by decide) rfl (fun ls hl => ?_)
                  refine lv_iload hx hb dL_areCycles_201 (lv_at hl 0 rfl) ?_
                  refine lv_iload hx hb dL_areCycles_203 (lv_at hl 10 rfl) ?_
                  refine g_phii (ls := ls) (J := 215) (st1 := []) (REL := fun v9 => v9 = nI (gmx (nxO mc mw J) L g1 0 (m9 + 1))) (fun v9 hb_215 => ?_) (fun hJ_215 => ?_)
                  · subst hb_215
                    refine lv_istore (lv' := [(9, .int (nI (gmx (nxO mc mw J) L g1 0 (m9 + 1)))), (17, .int (nI (ayq (tv (nxO mc mw J) L (m9) / 201)))), (6, .int (nI (n1 + 1))), (7, .int (nI (e1 + 0))), (0, .ref t0), (1, .ref kc), (2, .int (nI J)), (3, .int (nI R0)), (4, .int (nI w0)), (5, .ref sn), (8, .int (nI l1)), (10, .int (nI i)), (12, .int (nI (lE L))), (14, .int (nI m9)), (15, .int (nI (lE (tv (nxO mc mw J) L (m9))))), (16, .int (nFl (m9 = 0 ∨ tv (nxO mc mw J) L (m9) ≠ L)))]) hx hb dL_areCycles_215 hl (by decide) rfl (fun ls hl => ?_)
                    refine lv_iinc (v := nI (m9 + 1)) (lv' := [(14, .int (nI (m9 + 1))), (9, .int (nI (gmx (nxO mc mw J) L g1 0 (m9 + 1)))), (17, .int (nI (ayq (tv (nxO mc mw J) L (m9) / 201)))), (6, .int (nI (n1 + 1))), (7, .int (nI (e1 + 0))), (0, .ref t0), (1, .ref kc), (2, .int (nI J)), (3, .int (nI R0)), (4, .int (nI w0)), (5, .ref sn), (8, .int (nI l1)), (10, .int (nI i)), (12, .int (nI (lE L))), (15, .int (nI (lE (tv (nxO mc mw J) L (m9))))), (16, .int (nFl (m9 = 0 ∨ tv (nxO mc mw J) L (m9) ≠ L)))]) hx hb dL_areCycles_217 hl (k := 13) rfl (by exact nI_1 _) (by decide) rfl (fun ls hl => ?_)
                    refine lv_aload_n hx hb dL_areCycles_220 rfl (lv_at hl 6 rfl) ?_
                    refine lv_bipush (v := 10) hx hb dL_areCycles_221 (by decide) ?_
                    refine lv_iload_n hx hb dL_areCycles_223 rfl (lv_at hl 7 rfl) ?_
                    refine lv_imul hx hb dL_areCycles_224 ?_
                    refine lv_topi (fun f ef => ?_)
                    obtain rfl : f = nI (10 * J) := ef.trans (pk_mul _ _)
                    refine lv_iload hx hb dL_areCycles_225 (lv_at hl 14 rfl) ?_
                    have hPc := hP.sub (ws' := [(kc, .inl (cI, 40, .inl fc))]) [0] rfl
                    have hDc := hD.sub (ws' := [(kc, .inl (cI, 40, .inl fc))]) [0] (by decide) rfl
                    have hFc := va_free (wc := [(kc, .inl (cI, 40, .inl fc))]) hD hS hA [0] rfl
                    refine g_Si (As := [.ref kc, .int (nI (10 * J)), .int (nI (lE (tv (nxO mc mw J) L (m9))))]) (rest := []) CF (c_L_next l D cI cJ cO df H.size kc fc mc ms mw N J (tv (nxO mc mw J) L (m9)) hR hJ4 hJN hc hw htv) (va_cwS 3 hts gL_areCycles_L_next rfl rfl rfl (by decide +kernel) ⟨Nat.le_of_ble_eq_true rfl, Nat.le_of_ble_eq_true rfl⟩)  hPc hK hDc hV hH hS hFc rfl hl.1 rfl (Nat.le_of_ble_eq_true rfl) dL_areCycles_227 ⟨Nat.le_of_ble_eq_true rfl, Nat.le_of_ble_eq_true rfl⟩ (fun r_227 w1 H1 locs1 hq hP1 hD1 hk hS hz => ?_)
                    obtain ⟨rfl, hr_227⟩ := hq
                    have hP := g_keepR hP hD [0] rfl hk hP1
                    clear hPc hDc hFc hP1 hD1 hk hz
                    generalize H1 = H at hP hS ⊢
                    have hP : va_P D ccl (([(kc, .inl (cI, 40, .inl fc)), (sn, .inl (cI, 25, .inl (upd sf n1 (nI (lE L)))))] : va_W) ++ w) H := hP
                    have hD : va_D A (([(kc, .inl (cI, 40, .inl fc)), (sn, .inl (cI, 25, .inl (upd sf n1 (nI (lE L)))))] : va_W) ++ w) := hD
                    subst hr_227
                    refine lv_topi (fun f ef => ?_)
                    obtain rfl : f = nI (lE (tv (nxO mc mw J) L (m9 + 1))) := ef.trans (by rw [ey, ← tr_s hy, hz, ez]; rfl)
                    refine lv_istore (lv' := [(15, .int (nI (lE (tv (nxO mc mw J) L (m9 + 1))))), (14, .int (nI (m9 + 1))), (9, .int (nI (gmx (nxO mc mw J) L g1 0 (m9 + 1)))), (17, .int (nI (ayq (tv (nxO mc mw J) L (m9) / 201)))), (6, .int (nI (n1 + 1))), (7, .int (nI (e1 + 0))), (0, .ref t0), (1, .ref kc), (2, .int (nI J)), (3, .int (nI R0)), (4, .int (nI w0)), (5, .ref sn), (8, .int (nI l1)), (10, .int (nI i)), (12, .int (nI (lE L))), (16, .int (nFl (m9 = 0 ∨ tv (nxO mc mw J) L (m9) ≠ L)))]) hx hb dL_areCycles_230 hl (by decide) rfl (fun ls hl => ?_)
                    have hzl2 : lE (tv (nxO mc mw J) L (m9 + 1)) ≤ 600600 := by rw [ez]; exact hzl
                    refine lv_iload hx hb dL_areCycles_232 (lv_at hl 0 rfl) ?_
                    refine lv_iload hx hb dL_areCycles_234 (lv_at hl 14 rfl) ?_
                    refine g_phii (ls := ls) (J := 244) (st1 := []) (REL := fun v9 => v9 = nFl (m9 + 1 = 0 ∨ tv (nxO mc mw J) L (m9 + 1) ≠ L)) (fun v9 hb_244 => ?_) (fun hJ_244 => ?_)
                    · subst hb_244
                      refine lv_istore (lv' := [(16, .int (nFl (m9 + 1 = 0 ∨ tv (nxO mc mw J) L (m9 + 1) ≠ L))), (15, .int (nI (lE (tv (nxO mc mw J) L (m9 + 1))))), (14, .int (nI (m9 + 1))), (9, .int (nI (gmx (nxO mc mw J) L g1 0 (m9 + 1)))), (17, .int (nI (ayq (tv (nxO mc mw J) L (m9) / 201)))), (6, .int (nI (n1 + 1))), (7, .int (nI (e1 + 0))), (0, .ref t0), (1, .ref kc), (2, .int (nI J)), (3, .int (nI R0)), (4, .int (nI w0)), (5, .ref sn), (8, .int (nI l1)), (10, .int (nI i)), (12, .int (nI (lE L)))]) hx hb dL_areCycles_244 hl (by decide) rfl (fun ls hl => ?_)
                      refine lv_goto (tgt := 181) hx hb dL_areCycles_246 (by decide) ?_
                      refine W.widen (k := 1) (n := 25) (Nat.le_refl _) (Nat.le_refl _) ?_
                      exact ih_181 (m9 + 1) _ _ _ (show (m9 + 1) ≤ pr ∧ ∀ k, 0 < k → k < (m9 + 1) → tv (nxO mc mw J) L (k) ≠ L from (by exact ⟨by omega, fun k h1 h2 => by by_cases h9 : k = m9; subst h9; rcases c_183 with h8 | h8; omega; exact h8; exact hnk k h1 (by omega)⟩)) (show pr - (m9 + 1) < pr - m9 by omega) hP hD hS (lv_sub hl [5, 6, 7, 8, 9, 10, 11, 12, 13, 3, 14, 15, 2, 1, 0] rfl)
                    · refine lv_icmp_eq (tgt := 243) hx hb dL_areCycles_236 (by decide) (fun c_236 => ?_) (fun c_236 => ?_)
                      · have c_236 : lE (tv (nxO mc mw J) L (m9 + 1)) = lE L := g_eq (a := lE (tv (nxO mc mw J) L (m9 + 1))) (b := lE L) c_236 (by omega) (by omega)
                        refine lv_iconst (v := 0) hx hb dL_areCycles_243 (by decide) ?_
                        exact hJ_244 _ (if_neg (fun h9 => h9.elim (fun h8 => by omega) (fun h8 => h8 (lE_inj c_236)))).symm
                      · have c_236 : lE (tv (nxO mc mw J) L (m9 + 1)) ≠ lE L := g_ne (a := lE (tv (nxO mc mw J) L (m9 + 1))) (b := lE L) c_236 (by omega) (by omega)
                        refine lv_iconst (v := 1) hx hb dL_areCycles_239 (by decide) ?_
                        refine lv_goto (tgt := 244) hx hb dL_areCycles_240 (by decide) ?_
                        exact hJ_244 _ (if_pos (Or.inr (fun h9 => c_236 (by rw [h9])))).symm
                  · refine lv_icmp_le (tgt := 213) hx hb dL_areCycles_205 (by decide) (fun c_205 => ?_) (fun c_205 => ?_)
                    · have c_205 : ayq (tv (nxO mc mw J) L (m9) / 201) ≤ gmx (nxO mc mw J) L g1 0 m9 := g_le (a := ayq (tv (nxO mc mw J) L (m9) / 201)) (b := gmx (nxO mc mw J) L g1 0 m9) c_205 (by omega) (by omega)
                      refine lv_iload hx hb dL_areCycles_213 (lv_at hl 10 rfl) ?_
                      exact hJ_215 _ (congrArg nI (by rw [gmx_s, Nat.zero_add]; omega))
                    · have c_205 : gmx (nxO mc mw J) L g1 0 m9 < ayq (tv (nxO mc mw J) L (m9) / 201) := g_nle (a := ayq (tv (nxO mc mw J) L (m9) / 201)) (b := gmx (nxO mc mw J) L g1 0 m9) c_205 (by omega) (by omega)
                      refine lv_iload hx hb dL_areCycles_208 (lv_at hl 0 rfl) ?_
                      refine lv_goto (tgt := 215) hx hb dL_areCycles_210 (by decide) ?_
                      exact hJ_215 _ (congrArg nI (by rw [gmx_s, Nat.zero_add]; omega))
            · have c_125 : t < n1 := g_nle (a := n1) (b := t) c_125 (by omega) (by omega)
              refine lv_iload hx hb dL_areCycles_128 (lv_at hl 12 rfl) ?_
              refine g_phii (ls := ls) (J := 148) (st1 := []) (REL := fun v9 => v9 = hsn sf (nI (lE L)) (t + 1)) (fun v9 hb_148 => ?_) (fun hJ_148 => ?_)
              · subst hb_148
                refine lv_istore (lv' := [(13, .int (hsn sf (nI (lE L)) (t + 1))), (7, .int (nI (e1 + 0))), (0, .ref t0), (1, .ref kc), (2, .int (nI J)), (3, .int (nI R0)), (4, .int (nI w0)), (5, .ref sn), (6, .int (nI n1)), (8, .int (nI l1)), (9, .int (nI g1)), (10, .int (nI i)), (12, .int (nI (lE L))), (14, .int (nI t))]) hx hb dL_areCycles_148 hl (by decide) rfl (fun ls hl => ?_)
                refine lv_iinc (v := nI (t + 1)) (lv' := [(14, .int (nI (t + 1))), (13, .int (hsn sf (nI (lE L)) (t + 1))), (7, .int (nI (e1 + 0))), (0, .ref t0), (1, .ref kc), (2, .int (nI J)), (3, .int (nI R0)), (4, .int (nI w0)), (5, .ref sn), (6, .int (nI n1)), (8, .int (nI l1)), (9, .int (nI g1)), (10, .int (nI i)), (12, .int (nI (lE L)))]) hx hb dL_areCycles_150 hl (k := 13) rfl (by exact nI_1 _) (by decide) rfl (fun ls hl => ?_)
                refine lv_goto (tgt := 121) hx hb dL_areCycles_153 (by decide) ?_
                refine W.widen (k := 1) (n := 25) (Nat.le_refl _) (Nat.le_refl _) ?_
                exact ih_121 (t + 1) _ _ _ (show (t + 1) ≤ n1 from (by exact c_125)) (show n1 - (t + 1) < n1 - t by omega) hP hD hS (lv_sub hl [2, 3, 4, 5, 6, 7, 8, 9, 10, 11, 12, 13, 1, 0] rfl)
              · refine lv_if_ne (tgt := 143) hx hb dL_areCycles_130 (by decide) (fun c_130 => ?_) (fun c_130 => ?_)
                · refine lv_iconst (v := 1) hx hb dL_areCycles_143 (by decide) ?_
                  refine lv_goto (tgt := 148) hx hb dL_areCycles_144 (by decide) ?_
                  exact hJ_148 _ (by rw [hsn_s]; first | (rw [if_neg c_130]; done) | (rw [if_pos c_130, if_pos c_140]; done) | (rw [if_pos c_130, if_neg c_140]; done))
                · refine lv_aload hx hb dL_areCycles_133 (lv_at hl 6 rfl) ?_
                  refine lv_iload hx hb dL_areCycles_135 (lv_at hl 13 rfl) ?_
                  refine va_iald hx hb hK hP 1 0 rfl rfl (vp_in_nI (by omega) (by omega)) dL_areCycles_137 ?_
                  refine lv_topi (fun f ef => ?_)
                  obtain rfl : f = sf t := ef.trans (congrArg sf (nI_clamp (n := t) (by omega)))
                  refine lv_iload hx hb dL_areCycles_138 (lv_at hl 11 rfl) ?_
                  refine lv_icmp_ne (tgt := 147) hx hb dL_areCycles_140 (by decide) (fun c_140 => ?_) (fun c_140 => ?_)
                  · refine lv_iconst (v := 0) hx hb dL_areCycles_147 (by decide) ?_
                    exact hJ_148 _ (by rw [hsn_s]; first | (rw [if_neg c_130]; done) | (rw [if_pos c_130, if_pos c_140]; done) | (rw [if_pos c_130, if_neg c_140]; done))
                  · refine lv_iconst (v := 1) hx hb dL_areCycles_143 (by decide) ?_
                    refine lv_goto (tgt := 148) hx hb dL_areCycles_144 (by decide) ?_
                    exact hJ_148 _ (by rw [hsn_s]; first | (rw [if_neg c_130]; done) | (rw [if_pos c_130, if_pos c_140]; done) | (rw [if_pos c_130, if_neg c_140]; done))
          · have c_108 : lE L = 500500 := g_eq (a := lE L) (b := 500500) c_108 (by omega) (by omega)
            refine lv_iconst (v := 1) hx hb dL_areCycles_111 (by decide) ?_
            refine lv_goto (tgt := 116) hx hb dL_areCycles_112 (by decide) ?_
            refine lv_istore (lv' := [(13, .int 1), (7, .int (nI (e1 + 0))), (12, .int (nI (lE L))), (11, .int (nI (lE (sI R0 (i / ((2 * R0) + 1)) (i % ((2 * R0) + 1)))))), (0, .ref t0), (1, .ref kc), (2, .int (nI J)), (3, .int (nI R0)), (4, .int (nI w0)), (5, .ref sn), (6, .int (nI n1)), (8, .int (nI l1)), (9, .int (nI g1)), (10, .int (nI i))]) hx hb dL_areCycles_116 hl (by decide) rfl (fun ls hl => ?_)
            refine lv_iconst (v := 0) hx hb dL_areCycles_118 (by decide) ?_
            refine lv_istore (lv' := [(14, .int 0), (13, .int 1), (7, .int (nI (e1 + 0))), (12, .int (nI (lE L))), (11, .int (nI (lE (sI R0 (i / ((2 * R0) + 1)) (i % ((2 * R0) + 1)))))), (0, .ref t0), (1, .ref kc), (2, .int (nI J)), (3, .int (nI R0)), (4, .int (nI w0)), (5, .ref sn), (6, .int (nI n1)), (8, .int (nI l1)), (9, .int (nI g1)), (10, .int (nI i))]) hx hb dL_areCycles_119 hl (by decide) rfl (fun ls hl => ?_)
            refine W.widen (k := 1) (n := 25) (Nat.le_refl _) (Nat.le_refl _) ?_
            refine g_while (σ := Nat) (st := []) (nL := 18) (fun t => ([(kc, .inl (cI, 40, .inl fc)), (sn, .inl (cI, 25, .inl sf))] : va_W) ++ w)
              (fun t => [(7, .int (nI (e1 + 0))), (0, .ref t0), (1, .ref kc), (2, .int (nI J)), (3, .int (nI R0)), (4, .int (nI w0)), (5, .ref sn), (6, .int (nI n1)), (8, .int (nI l1)), (9, .int (nI g1)), (10, .int (nI i)), (12, .int (nI (lE L))), (13, .int 1), (14, .int (nI t))])
              (fun t => t ≤ n1)
              (fun t => n1 - t) (fun t => 1) (fun t => 25)
              ?_ 0 (Nat.zero_le _) hP hD hS (lv_sub hl [2, 5, 6, 7, 8, 9, 10, 11, 12, 13, 14, 3, 1, 0] rfl)
            intro t hI H locs ls hP hD hS hl ih
            have hI : t ≤ n1 := hI
            have hP : va_P D ccl (([(kc, .inl (cI, 40, .inl fc)), (sn, .inl (cI, 25, .inl sf))] : va_W) ++ w) H := hP
            have hD : va_D A (([(kc, .inl (cI, 40, .inl fc)), (sn, .inl (cI, 25, .inl sf))] : va_W) ++ w) := hD
            have hl : lv_has ls 18 [(7, .int (nI (e1 + 0))), (0, .ref t0), (1, .ref kc), (2, .int (nI J)), (3, .int (nI R0)), (4, .int (nI w0)), (5, .ref sn), (6, .int (nI n1)), (8, .int (nI l1)), (9, .int (nI g1)), (10, .int (nI i)), (12, .int (nI (lE L))), (13, .int 1), (14, .int (nI t))] := hl
            change W p l e _ s m _ below meth c H locs 1 25 _ (F0 m 121 ls [])
            have ih_121 := ih
            clear ih
            refine lv_iload hx hb dL_areCycles_121 (lv_at hl 13 rfl) ?_
            refine lv_iload hx hb dL_areCycles_123 (lv_at hl 7 rfl) ?_
            refine lv_icmp_ge (tgt := 156) hx hb dL_areCycles_125 (by decide) (fun c_125 => ?_) (fun c_125 => ?_)
            · have c_125 : n1 ≤ t := g_le (a := n1) (b := t) c_125 (by omega) (by omega)
              obtain rfl : n1 = t := by omega
              refine lv_iload hx hb dL_areCycles_156 (lv_at hl 12 rfl) ?_
              refine lv_if_ne (tgt := 265) hx hb dL_areCycles_158 (by decide) (fun c_158 => ?_) (fun c_158 => ?_)
              · refine lv_iinc (v := nI (i + 1)) (lv' := [(10, .int (nI (i + 1))), (7, .int (nI (e1 + 0))), (0, .ref t0), (1, .ref kc), (2, .int (nI J)), (3, .int (nI R0)), (4, .int (nI w0)), (5, .ref sn), (6, .int (nI n1)), (8, .int (nI l1)), (9, .int (nI g1)), (12, .int (nI (lE L))), (13, .int 1), (14, .int (nI n1))]) hx hb dL_areCycles_265 hl (k := 10) rfl (by exact nI_1 _) (by decide) rfl (fun ls hl => ?_)
                refine lv_goto (tgt := 21) hx hb dL_areCycles_268 (by decide) ?_
                refine W.widen (k := 1) (n := 25) (Nat.le_refl _) (Nat.le_refl _) ?_
                exact ih_21 (i + 1, sf, n1, (e1 + 0), l1, g1) _ _ _ (show (i + 1) ≤ ((2 * R0) + 1) * ((2 * R0) + 1) ∧ n1 ≤ (i + 1) ∧ (e1 + 0) ≤ (i + 1) ∧ l1 ≤ 40401 ∧ g1 ≤ 100 ∧ (∀ k, k < n1 → ∃ z9, z9 < 40401 ∧ sf k = nI (lE z9)) ∧ lwI (nxO mc mw J) R0 ((i + 1)) (n1) ((e1 + 0)) (l1) (g1) (sf) from (by exact ⟨by omega, by omega, by omega, hl1, hg1, hsf, lwI_old hstill hlw hcL (Or.inl (lE_still.mp c_108))⟩)) (show ((2 * R0) + 1) * ((2 * R0) + 1) - (i + 1) < ((2 * R0) + 1) * ((2 * R0) + 1) - i by omega) hP hD hS (lv_sub hl [2, 3, 4, 5, 6, 7, 8, 1, 9, 10, 0] rfl)
              · exact absurd c_158 (by decide)
            · have c_125 : t < n1 := g_nle (a := n1) (b := t) c_125 (by omega) (by omega)
              refine lv_iload hx hb dL_areCycles_128 (lv_at hl 12 rfl) ?_
              refine lv_if_ne (tgt := 143) hx hb dL_areCycles_130 (by decide) (fun c_130 => ?_) (fun c_130 => ?_)
              · refine lv_iconst (v := 1) hx hb dL_areCycles_143 (by decide) ?_
                refine lv_goto (tgt := 148) hx hb dL_areCycles_144 (by decide) ?_
                refine lv_istore (lv' := [(13, .int 1), (7, .int (nI (e1 + 0))), (0, .ref t0), (1, .ref kc), (2, .int (nI J)), (3, .int (nI R0)), (4, .int (nI w0)), (5, .ref sn), (6, .int (nI n1)), (8, .int (nI l1)), (9, .int (nI g1)), (10, .int (nI i)), (12, .int (nI (lE L))), (14, .int (nI t))]) hx hb dL_areCycles_148 hl (by decide) rfl (fun ls hl => ?_)
                refine lv_iinc (v := nI (t + 1)) (lv' := [(14, .int (nI (t + 1))), (13, .int 1), (7, .int (nI (e1 + 0))), (0, .ref t0), (1, .ref kc), (2, .int (nI J)), (3, .int (nI R0)), (4, .int (nI w0)), (5, .ref sn), (6, .int (nI n1)), (8, .int (nI l1)), (9, .int (nI g1)), (10, .int (nI i)), (12, .int (nI (lE L)))]) hx hb dL_areCycles_150 hl (k := 13) rfl (by exact nI_1 _) (by decide) rfl (fun ls hl => ?_)
                refine lv_goto (tgt := 121) hx hb dL_areCycles_153 (by decide) ?_
                refine W.widen (k := 1) (n := 25) (Nat.le_refl _) (Nat.le_refl _) ?_
                exact ih_121 (t + 1) _ _ _ (show (t + 1) ≤ n1 from (by exact c_125)) (show n1 - (t + 1) < n1 - t by omega) hP hD hS (lv_sub hl [2, 3, 4, 5, 6, 7, 8, 9, 10, 11, 12, 13, 1, 0] rfl)
              · exact absurd c_130 (by decide)
      · have c_88 : lE L < 0 := g_nle (a := 0) (b := lE L) c_88 (by omega) (by omega)
        omega

set_option maxHeartbeats 4000000 in
set_option maxRecDepth 100000 in
theorem c_L_isSame (l : Launch) (hfl : l.stackTraces = false) (D : va_G) (cI cJ cO : ClassId) (df sz : Nat) (t0 : Nat) (w : va_W) (kc : Nat) (kq : Nat) (ku : Nat) (kt : Nat) (kp : Nat) (km : Nat) (fc : Nat → Int32) (N : Nat) (mc : Nat → Int32) (ms : Nat → Int32) (mw : Nat → Int32) (C : Nat) (mo : Nat → Int32) (K : Nat) (mu : Nat → Int32) (Y : Nat) (rw0 : Nat → Int32) (tf : Nat → Int32) (qf : Nat → Int32) (mp : Nat → Int32) (Z : Nat) (hCL : CLS cI cJ cO df t0 w N mc ms mw C mo K mu Y rw0 tf qf) (hW : WF N mc ms mw C mo K Y rw0 mp tf qf) (hN4 : N ≤ 4) (hR : RC fc mc ms mw N) (hZ : Z < 1000000000) : MetI l yL_isSame wsL_isSame ({ frames := 13, cells := 150, slots := 1000, locals := 423 } : Room) D (gTY cI cJ cO) df (([(kc, .inl (cI, 40, .inl fc)), (kq, .inl (cI, 4, .inl mo)), (ku, .inl (cI, 16, .inl mu)), (kt, .inl (cI, 32, .inl tf)), (kp, .inl (cI, 64, .inl mp)), (km, .inl (cI, 4, .inl (mF N C K Y)))] : va_W) ++ w) sz [.ref t0, .ref kc, .ref kq, .ref ku, .ref kt, .ref kp, .ref km, .int (nI Z)] (fun (r : Int32) (wZ : va_W) => ∃ (w1 : va_W), wZ = ([(kc, .inl (cI, 40, .inl fc)), (kq, .inl (cI, 4, .inl mo)), (ku, .inl (cI, 16, .inl mu)), (kt, .inl (cI, 32, .inl tf)), (kp, .inl (cI, 64, .inl mp)), (km, .inl (cI, 4, .inl (mF N C K Y)))] : va_W) ++ w1 ∧ r = 1 ∧ CLS cI cJ cO df t0 w1 N mc ms mw C mo K mu Y rw0 tf qf) := by
  refine g_of (cc := cL_isSame) (nL := 12) (ret := (some .boolean)) (D := D) (TY := (gTY cI cJ cO)) (df := df) (Qc := fun A => va_Qi (fun (r : Int32) (wZ : va_W) => ∃ (w1 : va_W), wZ = ([(kc, .inl (cI, 40, .inl fc)), (kq, .inl (cI, 4, .inl mo)), (ku, .inl (cI, 16, .inl mu)), (kt, .inl (cI, 32, .inl tf)), (kp, .inl (cI, 64, .inl mp)), (km, .inl (cI, 4, .inl (mF N C K Y)))] : va_W) ++ w1 ∧ r = 1 ∧ CLS cI cJ cO df t0 w1 N mc ms mw C mo K mu Y rw0 tf qf) (gB D (gTY cI cJ cO) A) A) (by decide +kernel) rfl (Nat.le_of_ble_eq_true rfl) ?_
  intro p e s m below meth c ls A hsz C0 hin hl
  obtain ⟨CF, hr, hlk, hA, hS, hP, hK, hD, hV, hH⟩ := C0
  have CF : CallFix p m c cL_isSame 12 s _ wsL_isSame RL := CF
  obtain ⟨hx, hb, hml, hown, hts⟩ := id CF
  subst hsz
  have hmethodLink_RL_68 : (Cond.methodLink RL 68 yX6_output).before _ s = true := hts _ (List.mem_of_getElem? (i := 1) rfl)
  have hmethodLink_RL_70 : (Cond.methodLink RL 70 yX6_tapOf).before _ s = true := hts _ (List.mem_of_getElem? (i := 19) rfl)
  have hmethodLink_RL_73 : (Cond.methodLink RL 73 yX6_sifted).before _ s = true := hts _ (List.mem_of_getElem? (i := 33) rfl)
  have hmethodLink_RL_76 : (Cond.methodLink RL 76 yL_sifted).before _ s = true := hts _ (List.mem_of_getElem? (i := 51) rfl)
  have hmethodLink_RL_79 : (Cond.methodLink RL 79 yX6_answer).before _ s = true := hts _ (List.mem_of_getElem? (i := 55) rfl)
  have hmethodLink_RL_64 : (Cond.methodLink RL 64 yL_answer).before _ s = true := hts _ (List.mem_of_getElem? (i := 68) rfl)
  have hmethodLink_RL_81 : (Cond.methodLink RL 81 yX6_answerAnew).before _ s = true := hts _ (List.mem_of_getElem? (i := 74) rfl)
  have hmethodLink_RL_84 : (Cond.methodLink RL 84 yX6_of).before _ s = true := hts _ (List.mem_of_getElem? (i := 82) rfl)
  have hmethodLink_RL_25 : (Cond.methodLink RL 25 yL_isStable).before _ s = true := hts _ (List.mem_of_getElem? (i := 142) rfl)
  have hP : va_P D ccl (([(kc, .inl (cI, 40, .inl fc)), (kq, .inl (cI, 4, .inl mo)), (ku, .inl (cI, 16, .inl mu)), (kt, .inl (cI, 32, .inl tf)), (kp, .inl (cI, 64, .inl mp)), (km, .inl (cI, 4, .inl (mF N C K Y)))] : va_W) ++ w) s.heap := hP
  have hl : lv_has ls 12 [(0, .ref t0), (1, .ref kc), (2, .ref kq), (3, .ref ku), (4, .ref kt), (5, .ref kp), (6, .ref km), (7, .int (nI Z))] := hl
  obtain ⟨hN8, hC8, hmz, hsz9, hc, hs, hw, hO, hiM, hK6, hY, hrw, hm8, hp, ht, hq⟩ := id hW
  have hCN := wf_CN hW
  refine lv_aload_n hx hb dL_isSame_0 rfl (lv_at hl 0 rfl) ?_
  refine lv_iload hx hb dL_isSame_1 (lv_at hl 7 rfl) ?_
  refine lv_bipush (v := 17) hx hb dL_isSame_3 (by decide) ?_
  refine lv_irem hx hb dL_isSame_5 (by decide) ?_
  refine lv_topi (fun f ef => ?_)
  obtain rfl : f = nI (Z % 17) := ef.trans (pk_rem (a := Z) (d := 17) (by omega) (by omega) (by omega))
  have hPc := hP.part (X := [(kc, .inl (cI, 40, .inl fc)), (kq, .inl (cI, 4, .inl mo)), (ku, .inl (cI, 16, .inl mu)), (kt, .inl (cI, 32, .inl tf)), (kp, .inl (cI, 64, .inl mp)), (km, .inl (cI, 4, .inl (mF N C K Y)))]) (cx := []) [] rfl
  have hDc := hD.part (X := [(kc, .inl (cI, 40, .inl fc)), (kq, .inl (cI, 4, .inl mo)), (ku, .inl (cI, 16, .inl mu)), (kt, .inl (cI, 32, .inl tf)), (kp, .inl (cI, 64, .inl mp)), (km, .inl (cI, 4, .inl (mF N C K Y)))]) (cx := []) [] (by decide) rfl
  have hFc := va_freeP (X := [(kc, .inl (cI, 40, .inl fc)), (kq, .inl (cI, 4, .inl mo)), (ku, .inl (cI, 16, .inl mu)), (kt, .inl (cI, 32, .inl tf)), (kp, .inl (cI, 64, .inl mp)), (km, .inl (cI, 4, .inl (mF N C K Y)))]) (cx := []) hD hS hA [] rfl
  refine g_Vi (As := [.int (nI (Z % 17))]) (rest := []) CF (c3_X6_output l hfl D cI cJ cO df s.heap.size t0 w N mc ms mw C mo K mu Y rw0 tf qf mp (nI (Z % 17)) hCL hW (k_bk (by omega))) (cwV 1 hts gL_isSame_X6_output rfl rfl rfl (by decide +kernel) ⟨Nat.le_of_ble_eq_true rfl, Nat.le_of_ble_eq_true rfl⟩) (cls_recv (X := [(kc, .inl (cI, 40, .inl fc)), (kq, .inl (cI, 4, .inl mo)), (ku, .inl (cI, 16, .inl mu)), (kt, .inl (cI, 32, .inl tf)), (kp, .inl (cI, 64, .inl mp)), (km, .inl (cI, 4, .inl (mF N C K Y)))]) hCL hK hP) hPc hK hDc hV hH hS hFc rfl hl.1 rfl (Nat.le_of_ble_eq_true rfl) dL_isSame_6 ⟨Nat.le_of_ble_eq_true rfl, Nat.le_of_ble_eq_true rfl⟩ (fun r_6 w1 H1 locs1 hq hP1 hD1 hk hS hz => ?_)
  obtain ⟨w2, ew_6, hq_6⟩ := hq
  rw [ew_6] at hP1 hD1
  obtain ⟨hP, hD⟩ := g_joinP (X := [(kc, .inl (cI, 40, .inl fc)), (kq, .inl (cI, 4, .inl mo)), (ku, .inl (cI, 16, .inl mu)), (kt, .inl (cI, 32, .inl tf)), (kp, .inl (cI, 64, .inl mp)), (km, .inl (cI, 4, .inl (mF N C K Y)))]) (cx := []) (rx := []) (X' := [(kc, .inl (cI, 40, .inl fc)), (kq, .inl (cI, 4, .inl mo)), (ku, .inl (cI, 16, .inl mu)), (kt, .inl (cI, 32, .inl tf)), (kp, .inl (cI, 64, .inl mp)), (km, .inl (cI, 4, .inl (mF N C K Y)))]) hP hD hk hFc hP1 hD1 [] [0, 1, 2, 3, 4, 5] [0, 1, 2, 3, 4, 5] rfl rfl (by decide) (by decide) (by decide) rfl
  clear hPc hDc hFc hP1 hD1 hk hz
  generalize H1 = H at hP hS ⊢
  have hP : va_P D ccl (([(kc, .inl (cI, 40, .inl fc)), (kq, .inl (cI, 4, .inl mo)), (ku, .inl (cI, 16, .inl mu)), (kt, .inl (cI, 32, .inl tf)), (kp, .inl (cI, 64, .inl mp)), (km, .inl (cI, 4, .inl (mF N C K Y)))] : va_W) ++ w2) H := hP
  have hD : va_D A (([(kc, .inl (cI, 40, .inl fc)), (kq, .inl (cI, 4, .inl mo)), (ku, .inl (cI, 16, .inl mu)), (kt, .inl (cI, 32, .inl tf)), (kp, .inl (cI, 64, .inl mp)), (km, .inl (cI, 4, .inl (mF N C K Y)))] : va_W) ++ w2) := hD
  obtain ⟨hCL, hq_6⟩ := hq_6
  have er_6 : r_6 = (if Z % 17 < K then mu (Z % 17) else 0) := by rw [gN_nI (by omega)] at hq_6; exact hq_6
  refine lv_iload hx hb dL_isSame_9 (lv_at hl 7 rfl) ?_
  refine lv_bipush (v := 17) hx hb dL_isSame_11 (by decide) ?_
  refine lv_irem hx hb dL_isSame_13 (by decide) ?_
  refine lv_topi (fun f ef => ?_)
  obtain rfl : f = nI (Z % 17) := ef.trans (pk_rem (a := Z) (d := 17) (by omega) (by omega) (by omega))
  refine lv_aload hx hb dL_isSame_14 (lv_at hl 6 rfl) ?_
  refine lv_iconst (v := 2) hx hb dL_isSame_16 (by decide) ?_
  refine va_iald hx hb hK hP 5 0 rfl rfl (by unfold vp_in; decide) dL_isSame_17 ?_
  refine lv_topi (fun f ef => ?_)
  obtain rfl : f = (mF N C K Y) 2 := ef.trans (congrArg (mF N C K Y) (show (2 : Int32).toNatClampNeg = 2 by decide))
  refine lv_topi (fun f ef => ?_)
  obtain rfl : f = nI K := ef.trans (rfl)
  refine g_phii (ls := ls) (J := 32) (st1 := [.int r_6]) (REL := fun v9 => v9 = if Z % 17 < K then mu (Z % 17) else 0) (fun v9 hb_32 => ?_) (fun hJ_32 => ?_)
  · refine lv_icmp_ne (tgt := 155) hx hb dL_isSame_32 (by decide) (fun c_32 => ?_) (fun c_32 => ?_)
    · exact absurd (er_6.trans hb_32.symm) c_32
    · refine lv_aload_n hx hb dL_isSame_35 rfl (lv_at hl 0 rfl) ?_
      refine lv_iload hx hb dL_isSame_36 (lv_at hl 7 rfl) ?_
      refine lv_bipush (v := 17) hx hb dL_isSame_38 (by decide) ?_
      refine lv_idiv hx hb dL_isSame_40 (by decide) ?_
      refine lv_topi (fun f ef => ?_)
      obtain rfl : f = nI (Z / 17) := ef.trans (pk_div (a := Z) (d := 17) (by omega) (by omega) (by omega))
      refine lv_bipush (v := 32) hx hb dL_isSame_41 (by decide) ?_
      refine lv_irem hx hb dL_isSame_43 (by decide) ?_
      refine lv_topi (fun f ef => ?_)
      obtain rfl : f = nI ((Z / 17) % 32) := ef.trans (pk_rem (a := Z / 17) (d := 32) (by omega) (by omega) (by omega))
      have hPc := hP.part (X := [(kc, .inl (cI, 40, .inl fc)), (kq, .inl (cI, 4, .inl mo)), (ku, .inl (cI, 16, .inl mu)), (kt, .inl (cI, 32, .inl tf)), (kp, .inl (cI, 64, .inl mp)), (km, .inl (cI, 4, .inl (mF N C K Y)))]) (cx := []) [] rfl
      have hDc := hD.part (X := [(kc, .inl (cI, 40, .inl fc)), (kq, .inl (cI, 4, .inl mo)), (ku, .inl (cI, 16, .inl mu)), (kt, .inl (cI, 32, .inl tf)), (kp, .inl (cI, 64, .inl mp)), (km, .inl (cI, 4, .inl (mF N C K Y)))]) (cx := []) [] (by decide) rfl
      have hFc := va_freeP (X := [(kc, .inl (cI, 40, .inl fc)), (kq, .inl (cI, 4, .inl mo)), (ku, .inl (cI, 16, .inl mu)), (kt, .inl (cI, 32, .inl tf)), (kp, .inl (cI, 64, .inl mp)), (km, .inl (cI, 4, .inl (mF N C K Y)))]) (cx := []) hD hS hA [] rfl
      refine g_Vi (As := [.int (nI ((Z / 17) % 32))]) (rest := []) CF (c3_X6_tapOf l hfl D cI cJ cO df H.size t0 w2 N mc ms mw C mo K mu Y rw0 tf qf mp (nI ((Z / 17) % 32)) hCL hW (k_one (k_in (n := 31) (by omega) (by decide)))) (cwV 1 hts gL_isSame_X6_tapOf rfl rfl rfl (by decide +kernel) ⟨Nat.le_of_ble_eq_true rfl, Nat.le_of_ble_eq_true rfl⟩) (cls_recv (X := [(kc, .inl (cI, 40, .inl fc)), (kq, .inl (cI, 4, .inl mo)), (ku, .inl (cI, 16, .inl mu)), (kt, .inl (cI, 32, .inl tf)), (kp, .inl (cI, 64, .inl mp)), (km, .inl (cI, 4, .inl (mF N C K Y)))]) hCL hK hP) hPc hK hDc hV hH hS hFc rfl hl.1 rfl (Nat.le_of_ble_eq_true rfl) dL_isSame_44 ⟨Nat.le_of_ble_eq_true rfl, Nat.le_of_ble_eq_true rfl⟩ (fun r_44 w1 H1 locs1 hq hP1 hD1 hk hS hz => ?_)
      obtain ⟨w3, ew_44, hq_44⟩ := hq
      rw [ew_44] at hP1 hD1
      obtain ⟨hP, hD⟩ := g_joinP (X := [(kc, .inl (cI, 40, .inl fc)), (kq, .inl (cI, 4, .inl mo)), (ku, .inl (cI, 16, .inl mu)), (kt, .inl (cI, 32, .inl tf)), (kp, .inl (cI, 64, .inl mp)), (km, .inl (cI, 4, .inl (mF N C K Y)))]) (cx := []) (rx := []) (X' := [(kc, .inl (cI, 40, .inl fc)), (kq, .inl (cI, 4, .inl mo)), (ku, .inl (cI, 16, .inl mu)), (kt, .inl (cI, 32, .inl tf)), (kp, .inl (cI, 64, .inl mp)), (km, .inl (cI, 4, .inl (mF N C K Y)))]) hP hD hk hFc hP1 hD1 [] [0, 1, 2, 3, 4, 5] [0, 1, 2, 3, 4, 5] rfl rfl (by decide) (by decide) (by decide) rfl
      clear hPc hDc hFc hP1 hD1 hk hz
      generalize H1 = H at hP hS ⊢
      have hP : va_P D ccl (([(kc, .inl (cI, 40, .inl fc)), (kq, .inl (cI, 4, .inl mo)), (ku, .inl (cI, 16, .inl mu)), (kt, .inl (cI, 32, .inl tf)), (kp, .inl (cI, 64, .inl mp)), (km, .inl (cI, 4, .inl (mF N C K Y)))] : va_W) ++ w3) H := hP
      have hD : va_D A (([(kc, .inl (cI, 40, .inl fc)), (kq, .inl (cI, 4, .inl mo)), (ku, .inl (cI, 16, .inl mu)), (kt, .inl (cI, 32, .inl tf)), (kp, .inl (cI, 64, .inl mp)), (km, .inl (cI, 4, .inl (mF N C K Y)))] : va_W) ++ w3) := hD
      obtain ⟨hCL, hq_44⟩ := hq_44
      have er_44 : r_44 = tf (Z / 17 % 32) := by rw [gN_nI (by omega)] at hq_44; exact hq_44
      refine lv_aload hx hb dL_isSame_47 (lv_at hl 4 rfl) ?_
      refine lv_iload hx hb dL_isSame_49 (lv_at hl 7 rfl) ?_
      refine lv_bipush (v := 17) hx hb dL_isSame_51 (by decide) ?_
      refine lv_idiv hx hb dL_isSame_53 (by decide) ?_
      refine lv_topi (fun f ef => ?_)
      obtain rfl : f = nI (Z / 17) := ef.trans (pk_div (a := Z) (d := 17) (by omega) (by omega) (by omega))
      refine lv_bipush (v := 32) hx hb dL_isSame_54 (by decide) ?_
      refine lv_irem hx hb dL_isSame_56 (by decide) ?_
      refine lv_topi (fun f ef => ?_)
      obtain rfl : f = nI ((Z / 17) % 32) := ef.trans (pk_rem (a := Z / 17) (d := 32) (by omega) (by omega) (by omega))
      refine va_iald hx hb hK hP 3 0 rfl rfl (vp_in_nI (by omega) (by omega)) dL_isSame_57 ?_
      refine lv_topi (fun f ef => ?_)
      obtain rfl : f = tf ((Z / 17) % 32) := ef.trans (congrArg tf (nI_clamp (n := (Z / 17) % 32) (by omega)))
      refine lv_icmp_ne (tgt := 155) hx hb dL_isSame_58 (by decide) (fun c_58 => ?_) (fun c_58 => ?_)
      · exact absurd er_44 c_58
      · refine lv_aload_n hx hb dL_isSame_61 rfl (lv_at hl 0 rfl) ?_
        refine lv_iload hx hb dL_isSame_62 (lv_at hl 7 rfl) ?_
        refine lv_sipush (v := 544) hx hb dL_isSame_64 (by decide) ?_
        refine lv_idiv hx hb dL_isSame_67 (by decide) ?_
        refine lv_topi (fun f ef => ?_)
        obtain rfl : f = nI (Z / 544) := ef.trans (pk_div (a := Z) (d := 544) (by omega) (by omega) (by omega))
        refine lv_bipush (v := 40) hx hb dL_isSame_68 (by decide) ?_
        refine lv_irem hx hb dL_isSame_70 (by decide) ?_
        refine lv_topi (fun f ef => ?_)
        obtain rfl : f = nI ((Z / 544) % 40) := ef.trans (pk_rem (a := Z / 544) (d := 40) (by omega) (by omega) (by omega))
        have hPc := hP.part (X := [(kc, .inl (cI, 40, .inl fc)), (kq, .inl (cI, 4, .inl mo)), (ku, .inl (cI, 16, .inl mu)), (kt, .inl (cI, 32, .inl tf)), (kp, .inl (cI, 64, .inl mp)), (km, .inl (cI, 4, .inl (mF N C K Y)))]) (cx := []) [] rfl
        have hDc := hD.part (X := [(kc, .inl (cI, 40, .inl fc)), (kq, .inl (cI, 4, .inl mo)), (ku, .inl (cI, 16, .inl mu)), (kt, .inl (cI, 32, .inl tf)), (kp, .inl (cI, 64, .inl mp)), (km, .inl (cI, 4, .inl (mF N C K Y)))]) (cx := []) [] (by decide) rfl
        have hFc := va_freeP (X := [(kc, .inl (cI, 40, .inl fc)), (kq, .inl (cI, 4, .inl mo)), (ku, .inl (cI, 16, .inl mu)), (kt, .inl (cI, 32, .inl tf)), (kp, .inl (cI, 64, .inl mp)), (km, .inl (cI, 4, .inl (mF N C K Y)))]) (cx := []) hD hS hA [] rfl
        refine g_Vi (As := [.int (nI ((Z / 544) % 40))]) (rest := []) CF (c3_X6_sifted l hfl D cI cJ cO df H.size t0 w3 N mc ms mw C mo K mu Y rw0 tf qf mp (nI ((Z / 544) % 40)) hCL hW (k_bk (by omega))) (cwV 1 hts gL_isSame_X6_sifted rfl rfl rfl (by decide +kernel) ⟨Nat.le_of_ble_eq_true rfl, Nat.le_of_ble_eq_true rfl⟩) (cls_recv (X := [(kc, .inl (cI, 40, .inl fc)), (kq, .inl (cI, 4, .inl mo)), (ku, .inl (cI, 16, .inl mu)), (kt, .inl (cI, 32, .inl tf)), (kp, .inl (cI, 64, .inl mp)), (km, .inl (cI, 4, .inl (mF N C K Y)))]) hCL hK hP) hPc hK hDc hV hH hS hFc rfl hl.1 rfl (Nat.le_of_ble_eq_true rfl) dL_isSame_71 ⟨Nat.le_of_ble_eq_true rfl, Nat.le_of_ble_eq_true rfl⟩ (fun r_71 w1 H1 locs1 hq hP1 hD1 hk hS hz => ?_)
        obtain ⟨w4, ew_71, hq_71⟩ := hq
        rw [ew_71] at hP1 hD1
        obtain ⟨hP, hD⟩ := g_joinP (X := [(kc, .inl (cI, 40, .inl fc)), (kq, .inl (cI, 4, .inl mo)), (ku, .inl (cI, 16, .inl mu)), (kt, .inl (cI, 32, .inl tf)), (kp, .inl (cI, 64, .inl mp)), (km, .inl (cI, 4, .inl (mF N C K Y)))]) (cx := []) (rx := []) (X' := [(kc, .inl (cI, 40, .inl fc)), (kq, .inl (cI, 4, .inl mo)), (ku, .inl (cI, 16, .inl mu)), (kt, .inl (cI, 32, .inl tf)), (kp, .inl (cI, 64, .inl mp)), (km, .inl (cI, 4, .inl (mF N C K Y)))]) hP hD hk hFc hP1 hD1 [] [0, 1, 2, 3, 4, 5] [0, 1, 2, 3, 4, 5] rfl rfl (by decide) (by decide) (by decide) rfl
        clear hPc hDc hFc hP1 hD1 hk hz
        generalize H1 = H at hP hS ⊢
        have hP : va_P D ccl (([(kc, .inl (cI, 40, .inl fc)), (kq, .inl (cI, 4, .inl mo)), (ku, .inl (cI, 16, .inl mu)), (kt, .inl (cI, 32, .inl tf)), (kp, .inl (cI, 64, .inl mp)), (km, .inl (cI, 4, .inl (mF N C K Y)))] : va_W) ++ w4) H := hP
        have hD : va_D A (([(kc, .inl (cI, 40, .inl fc)), (kq, .inl (cI, 4, .inl mo)), (ku, .inl (cI, 16, .inl mu)), (kt, .inl (cI, 32, .inl tf)), (kp, .inl (cI, 64, .inl mp)), (km, .inl (cI, 4, .inl (mF N C K Y)))] : va_W) ++ w4) := hD
        obtain ⟨hCL, hq_71⟩ := hq_71
        have er_71 : r_71 = (if Z / 544 % 40 < Y then nI (ssum tf mp (Z / 544 % 40) Y 32) else -1) := by rw [gN_nI (by omega)] at hq_71; exact hq_71
        refine lv_aload hx hb dL_isSame_74 (lv_at hl 4 rfl) ?_
        refine lv_aload hx hb dL_isSame_76 (lv_at hl 5 rfl) ?_
        refine lv_aload hx hb dL_isSame_78 (lv_at hl 6 rfl) ?_
        refine lv_iload hx hb dL_isSame_80 (lv_at hl 7 rfl) ?_
        refine lv_sipush (v := 544) hx hb dL_isSame_82 (by decide) ?_
        refine lv_idiv hx hb dL_isSame_85 (by decide) ?_
        refine lv_topi (fun f ef => ?_)
        obtain rfl : f = nI (Z / 544) := ef.trans (pk_div (a := Z) (d := 544) (by omega) (by omega) (by omega))
        refine lv_bipush (v := 40) hx hb dL_isSame_86 (by decide) ?_
        refine lv_irem hx hb dL_isSame_88 (by decide) ?_
        refine lv_topi (fun f ef => ?_)
        obtain rfl : f = nI ((Z / 544) % 40) := ef.trans (pk_rem (a := Z / 544) (d := 40) (by omega) (by omega) (by omega))
        have hPc := hP.sub (ws' := [(kt, .inl (cI, 32, .inl tf)), (kp, .inl (cI, 64, .inl mp)), (km, .inl (cI, 4, .inl (mF N C K Y)))]) [3, 4, 5] rfl
        have hDc := hD.sub (ws' := [(kt, .inl (cI, 32, .inl tf)), (kp, .inl (cI, 64, .inl mp)), (km, .inl (cI, 4, .inl (mF N C K Y)))]) [3, 4, 5] (by decide) rfl
        have hFc := va_free (wc := [(kt, .inl (cI, 32, .inl tf)), (kp, .inl (cI, 64, .inl mp)), (km, .inl (cI, 4, .inl (mF N C K Y)))]) hD hS hA [3, 4, 5] rfl
        refine g_Si (As := [.ref kt, .ref kp, .ref km, .int (nI ((Z / 544) % 40))]) (rest := [.int r_71]) CF (c_L_sifted l D cI cJ cO df H.size kt kp km tf mp N C K Y (Z / 544 % 40) ht hp hY (by omega)) (va_cwS 4 hts gL_isSame_L_sifted rfl rfl rfl (by decide +kernel) ⟨Nat.le_of_ble_eq_true rfl, Nat.le_of_ble_eq_true rfl⟩)  hPc hK hDc hV hH hS hFc rfl hl.1 rfl (Nat.le_of_ble_eq_true rfl) dL_isSame_89 ⟨Nat.le_of_ble_eq_true rfl, Nat.le_of_ble_eq_true rfl⟩ (fun r_89 w1 H1 locs1 hq hP1 hD1 hk hS hz => ?_)
        obtain ⟨rfl, hr_89⟩ := hq
        have hP := g_keepR hP hD [3, 4, 5] rfl hk hP1
        clear hPc hDc hFc hP1 hD1 hk hz
        generalize H1 = H at hP hS ⊢
        have hP : va_P D ccl (([(kc, .inl (cI, 40, .inl fc)), (kq, .inl (cI, 4, .inl mo)), (ku, .inl (cI, 16, .inl mu)), (kt, .inl (cI, 32, .inl tf)), (kp, .inl (cI, 64, .inl mp)), (km, .inl (cI, 4, .inl (mF N C K Y)))] : va_W) ++ w4) H := hP
        have hD : va_D A (([(kc, .inl (cI, 40, .inl fc)), (kq, .inl (cI, 4, .inl mo)), (ku, .inl (cI, 16, .inl mu)), (kt, .inl (cI, 32, .inl tf)), (kp, .inl (cI, 64, .inl mp)), (km, .inl (cI, 4, .inl (mF N C K Y)))] : va_W) ++ w4) := hD
        subst hr_89
        refine lv_icmp_ne (tgt := 155) hx hb dL_isSame_92 (by decide) (fun c_92 => ?_) (fun c_92 => ?_)
        · exact absurd er_71 c_92
        · refine lv_aload_n hx hb dL_isSame_95 rfl (lv_at hl 0 rfl) ?_
          refine lv_iload hx hb dL_isSame_96 (lv_at hl 7 rfl) ?_
          refine lv_bipush (v := 9) hx hb dL_isSame_98 (by decide) ?_
          refine lv_idiv hx hb dL_isSame_100 (by decide) ?_
          refine lv_topi (fun f ef => ?_)
          obtain rfl : f = nI (Z / 9) := ef.trans (pk_div (a := Z) (d := 9) (by omega) (by omega) (by omega))
          refine lv_bipush (v := 32) hx hb dL_isSame_101 (by decide) ?_
          refine lv_irem hx hb dL_isSame_103 (by decide) ?_
          refine lv_topi (fun f ef => ?_)
          obtain rfl : f = nI ((Z / 9) % 32) := ef.trans (pk_rem (a := Z / 9) (d := 32) (by omega) (by omega) (by omega))
          have hPc := hP.part (X := [(kc, .inl (cI, 40, .inl fc)), (kq, .inl (cI, 4, .inl mo)), (ku, .inl (cI, 16, .inl mu)), (kt, .inl (cI, 32, .inl tf)), (kp, .inl (cI, 64, .inl mp)), (km, .inl (cI, 4, .inl (mF N C K Y)))]) (cx := []) [] rfl
          have hDc := hD.part (X := [(kc, .inl (cI, 40, .inl fc)), (kq, .inl (cI, 4, .inl mo)), (ku, .inl (cI, 16, .inl mu)), (kt, .inl (cI, 32, .inl tf)), (kp, .inl (cI, 64, .inl mp)), (km, .inl (cI, 4, .inl (mF N C K Y)))]) (cx := []) [] (by decide) rfl
          have hFc := va_freeP (X := [(kc, .inl (cI, 40, .inl fc)), (kq, .inl (cI, 4, .inl mo)), (ku, .inl (cI, 16, .inl mu)), (kt, .inl (cI, 32, .inl tf)), (kp, .inl (cI, 64, .inl mp)), (km, .inl (cI, 4, .inl (mF N C K Y)))]) (cx := []) hD hS hA [] rfl
          refine g_Vi (As := [.int (nI ((Z / 9) % 32))]) (rest := []) CF (c3_X6_answer l hfl D cI cJ cO df H.size t0 w4 N mc ms mw C mo K mu Y rw0 tf qf mp (nI ((Z / 9) % 32)) hCL hW (k_one (k_in (n := 31) (by omega) (by decide)))) (cwV 1 hts gL_isSame_X6_answer rfl rfl rfl (by decide +kernel) ⟨Nat.le_of_ble_eq_true rfl, Nat.le_of_ble_eq_true rfl⟩) (cls_recv (X := [(kc, .inl (cI, 40, .inl fc)), (kq, .inl (cI, 4, .inl mo)), (ku, .inl (cI, 16, .inl mu)), (kt, .inl (cI, 32, .inl tf)), (kp, .inl (cI, 64, .inl mp)), (km, .inl (cI, 4, .inl (mF N C K Y)))]) hCL hK hP) hPc hK hDc hV hH hS hFc rfl hl.1 rfl (Nat.le_of_ble_eq_true rfl) dL_isSame_104 ⟨Nat.le_of_ble_eq_true rfl, Nat.le_of_ble_eq_true rfl⟩ (fun r_104 w1 H1 locs1 hq hP1 hD1 hk hS hz => ?_)
          obtain ⟨w5, ew_104, hq_104⟩ := hq
          rw [ew_104] at hP1 hD1
          obtain ⟨hP, hD⟩ := g_joinP (X := [(kc, .inl (cI, 40, .inl fc)), (kq, .inl (cI, 4, .inl mo)), (ku, .inl (cI, 16, .inl mu)), (kt, .inl (cI, 32, .inl tf)), (kp, .inl (cI, 64, .inl mp)), (km, .inl (cI, 4, .inl (mF N C K Y)))]) (cx := []) (rx := []) (X' := [(kc, .inl (cI, 40, .inl fc)), (kq, .inl (cI, 4, .inl mo)), (ku, .inl (cI, 16, .inl mu)), (kt, .inl (cI, 32, .inl tf)), (kp, .inl (cI, 64, .inl mp)), (km, .inl (cI, 4, .inl (mF N C K Y)))]) hP hD hk hFc hP1 hD1 [] [0, 1, 2, 3, 4, 5] [0, 1, 2, 3, 4, 5] rfl rfl (by decide) (by decide) (by decide) rfl
          clear hPc hDc hFc hP1 hD1 hk hz
          generalize H1 = H at hP hS ⊢
          have hP : va_P D ccl (([(kc, .inl (cI, 40, .inl fc)), (kq, .inl (cI, 4, .inl mo)), (ku, .inl (cI, 16, .inl mu)), (kt, .inl (cI, 32, .inl tf)), (kp, .inl (cI, 64, .inl mp)), (km, .inl (cI, 4, .inl (mF N C K Y)))] : va_W) ++ w5) H := hP
          have hD : va_D A (([(kc, .inl (cI, 40, .inl fc)), (kq, .inl (cI, 4, .inl mo)), (ku, .inl (cI, 16, .inl mu)), (kt, .inl (cI, 32, .inl tf)), (kp, .inl (cI, 64, .inl mp)), (km, .inl (cI, 4, .inl (mF N C K Y)))] : va_W) ++ w5) := hD
          obtain ⟨hCL, hq_104⟩ := hq_104
          have er_104 : r_104 = nI (asum tf (Z / 9 % 32) 32) := by rw [gN_nI (by omega)] at hq_104; exact hq_104
          refine lv_aload hx hb dL_isSame_107 (lv_at hl 4 rfl) ?_
          refine lv_iload hx hb dL_isSame_109 (lv_at hl 7 rfl) ?_
          refine lv_bipush (v := 9) hx hb dL_isSame_111 (by decide) ?_
          refine lv_idiv hx hb dL_isSame_113 (by decide) ?_
          refine lv_topi (fun f ef => ?_)
          obtain rfl : f = nI (Z / 9) := ef.trans (pk_div (a := Z) (d := 9) (by omega) (by omega) (by omega))
          refine lv_bipush (v := 32) hx hb dL_isSame_114 (by decide) ?_
          refine lv_irem hx hb dL_isSame_116 (by decide) ?_
          refine lv_topi (fun f ef => ?_)
          obtain rfl : f = nI ((Z / 9) % 32) := ef.trans (pk_rem (a := Z / 9) (d := 32) (by omega) (by omega) (by omega))
          have hPc := hP.sub (ws' := [(kt, .inl (cI, 32, .inl tf))]) [3] rfl
          have hDc := hD.sub (ws' := [(kt, .inl (cI, 32, .inl tf))]) [3] (by decide) rfl
          have hFc := va_free (wc := [(kt, .inl (cI, 32, .inl tf))]) hD hS hA [3] rfl
          refine g_Si (As := [.ref kt, .int (nI ((Z / 9) % 32))]) (rest := [.int r_104]) CF (c_L_answer l D cI cJ cO df H.size kt tf ((Z / 9) % 32) ht (by omega)) (va_cwS 2 hts gL_isSame_L_answer rfl rfl rfl (by decide +kernel) ⟨Nat.le_of_ble_eq_true rfl, Nat.le_of_ble_eq_true rfl⟩)  hPc hK hDc hV hH hS hFc rfl hl.1 rfl (Nat.le_of_ble_eq_true rfl) dL_isSame_117 ⟨Nat.le_of_ble_eq_true rfl, Nat.le_of_ble_eq_true rfl⟩ (fun r_117 w1 H1 locs1 hq hP1 hD1 hk hS hz => ?_)
          obtain ⟨rfl, hr_117⟩ := hq
          have hP := g_keepR hP hD [3] rfl hk hP1
          clear hPc hDc hFc hP1 hD1 hk hz
          generalize H1 = H at hP hS ⊢
          have hP : va_P D ccl (([(kc, .inl (cI, 40, .inl fc)), (kq, .inl (cI, 4, .inl mo)), (ku, .inl (cI, 16, .inl mu)), (kt, .inl (cI, 32, .inl tf)), (kp, .inl (cI, 64, .inl mp)), (km, .inl (cI, 4, .inl (mF N C K Y)))] : va_W) ++ w5) H := hP
          have hD : va_D A (([(kc, .inl (cI, 40, .inl fc)), (kq, .inl (cI, 4, .inl mo)), (ku, .inl (cI, 16, .inl mu)), (kt, .inl (cI, 32, .inl tf)), (kp, .inl (cI, 64, .inl mp)), (km, .inl (cI, 4, .inl (mF N C K Y)))] : va_W) ++ w5) := hD
          subst hr_117
          refine lv_icmp_ne (tgt := 155) hx hb dL_isSame_120 (by decide) (fun c_120 => ?_) (fun c_120 => ?_)
          · exact absurd er_104 c_120
          · refine lv_aload_n hx hb dL_isSame_123 rfl (lv_at hl 0 rfl) ?_
            refine lv_iload hx hb dL_isSame_124 (lv_at hl 7 rfl) ?_
            refine lv_bipush (v := 11) hx hb dL_isSame_126 (by decide) ?_
            refine lv_idiv hx hb dL_isSame_128 (by decide) ?_
            refine lv_topi (fun f ef => ?_)
            obtain rfl : f = nI (Z / 11) := ef.trans (pk_div (a := Z) (d := 11) (by omega) (by omega) (by omega))
            refine lv_bipush (v := 32) hx hb dL_isSame_129 (by decide) ?_
            refine lv_irem hx hb dL_isSame_131 (by decide) ?_
            refine lv_topi (fun f ef => ?_)
            obtain rfl : f = nI ((Z / 11) % 32) := ef.trans (pk_rem (a := Z / 11) (d := 32) (by omega) (by omega) (by omega))
            have hPc := hP.part (X := [(kc, .inl (cI, 40, .inl fc)), (kq, .inl (cI, 4, .inl mo)), (ku, .inl (cI, 16, .inl mu)), (kt, .inl (cI, 32, .inl tf)), (kp, .inl (cI, 64, .inl mp)), (km, .inl (cI, 4, .inl (mF N C K Y)))]) (cx := []) [] rfl
            have hDc := hD.part (X := [(kc, .inl (cI, 40, .inl fc)), (kq, .inl (cI, 4, .inl mo)), (ku, .inl (cI, 16, .inl mu)), (kt, .inl (cI, 32, .inl tf)), (kp, .inl (cI, 64, .inl mp)), (km, .inl (cI, 4, .inl (mF N C K Y)))]) (cx := []) [] (by decide) rfl
            have hFc := va_freeP (X := [(kc, .inl (cI, 40, .inl fc)), (kq, .inl (cI, 4, .inl mo)), (ku, .inl (cI, 16, .inl mu)), (kt, .inl (cI, 32, .inl tf)), (kp, .inl (cI, 64, .inl mp)), (km, .inl (cI, 4, .inl (mF N C K Y)))]) (cx := []) hD hS hA [] rfl
            refine g_Vi (As := [.int (nI ((Z / 11) % 32))]) (rest := []) CF (c3_X6_answerAnew l hfl D cI cJ cO df H.size t0 w5 N mc ms mw C mo K mu Y rw0 tf qf mp (nI ((Z / 11) % 32)) hCL hW (k_one (k_in (n := 31) (by omega) (by decide)))) (cwV 1 hts gL_isSame_X6_answerAnew rfl rfl rfl (by decide +kernel) ⟨Nat.le_of_ble_eq_true rfl, Nat.le_of_ble_eq_true rfl⟩) (cls_recv (X := [(kc, .inl (cI, 40, .inl fc)), (kq, .inl (cI, 4, .inl mo)), (ku, .inl (cI, 16, .inl mu)), (kt, .inl (cI, 32, .inl tf)), (kp, .inl (cI, 64, .inl mp)), (km, .inl (cI, 4, .inl (mF N C K Y)))]) hCL hK hP) hPc hK hDc hV hH hS hFc rfl hl.1 rfl (Nat.le_of_ble_eq_true rfl) dL_isSame_132 ⟨Nat.le_of_ble_eq_true rfl, Nat.le_of_ble_eq_true rfl⟩ (fun r_132 w1 H1 locs1 hq hP1 hD1 hk hS hz => ?_)
            obtain ⟨w6, ew_132, hq_132⟩ := hq
            rw [ew_132] at hP1 hD1
            obtain ⟨hP, hD⟩ := g_joinP (X := [(kc, .inl (cI, 40, .inl fc)), (kq, .inl (cI, 4, .inl mo)), (ku, .inl (cI, 16, .inl mu)), (kt, .inl (cI, 32, .inl tf)), (kp, .inl (cI, 64, .inl mp)), (km, .inl (cI, 4, .inl (mF N C K Y)))]) (cx := []) (rx := []) (X' := [(kc, .inl (cI, 40, .inl fc)), (kq, .inl (cI, 4, .inl mo)), (ku, .inl (cI, 16, .inl mu)), (kt, .inl (cI, 32, .inl tf)), (kp, .inl (cI, 64, .inl mp)), (km, .inl (cI, 4, .inl (mF N C K Y)))]) hP hD hk hFc hP1 hD1 [] [0, 1, 2, 3, 4, 5] [0, 1, 2, 3, 4, 5] rfl rfl (by decide) (by decide) (by decide) rfl
            clear hPc hDc hFc hP1 hD1 hk hz
            generalize H1 = H at hP hS ⊢
            have hP : va_P D ccl (([(kc, .inl (cI, 40, .inl fc)), (kq, .inl (cI, 4, .inl mo)), (ku, .inl (cI, 16, .inl mu)), (kt, .inl (cI, 32, .inl tf)), (kp, .inl (cI, 64, .inl mp)), (km, .inl (cI, 4, .inl (mF N C K Y)))] : va_W) ++ w6) H := hP
            have hD : va_D A (([(kc, .inl (cI, 40, .inl fc)), (kq, .inl (cI, 4, .inl mo)), (ku, .inl (cI, 16, .inl mu)), (kt, .inl (cI, 32, .inl tf)), (kp, .inl (cI, 64, .inl mp)), (km, .inl (cI, 4, .inl (mF N C K Y)))] : va_W) ++ w6) := hD
            obtain ⟨hCL, hq_132⟩ := hq_132
            have er_132 : r_132 = nI (asum tf (Z / 11 % 32) 32) := by rw [gN_nI (by omega)] at hq_132; exact hq_132
            refine lv_aload hx hb dL_isSame_135 (lv_at hl 4 rfl) ?_
            refine lv_iload hx hb dL_isSame_137 (lv_at hl 7 rfl) ?_
            refine lv_bipush (v := 11) hx hb dL_isSame_139 (by decide) ?_
            refine lv_idiv hx hb dL_isSame_141 (by decide) ?_
            refine lv_topi (fun f ef => ?_)
            obtain rfl : f = nI (Z / 11) := ef.trans (pk_div (a := Z) (d := 11) (by omega) (by omega) (by omega))
            refine lv_bipush (v := 32) hx hb dL_isSame_142 (by decide) ?_
            refine lv_irem hx hb dL_isSame_144 (by decide) ?_
            refine lv_topi (fun f ef => ?_)
            obtain rfl : f = nI ((Z / 11) % 32) := ef.trans (pk_rem (a := Z / 11) (d := 32) (by omega) (by omega) (by omega))
            have hPc := hP.sub (ws' := [(kt, .inl (cI, 32, .inl tf))]) [3] rfl
            have hDc := hD.sub (ws' := [(kt, .inl (cI, 32, .inl tf))]) [3] (by decide) rfl
            have hFc := va_free (wc := [(kt, .inl (cI, 32, .inl tf))]) hD hS hA [3] rfl
            refine g_Si (As := [.ref kt, .int (nI ((Z / 11) % 32))]) (rest := [.int r_132]) CF (c_L_answer l D cI cJ cO df H.size kt tf ((Z / 11) % 32) ht (by omega)) (va_cwS 2 hts gL_isSame_L_answer rfl rfl rfl (by decide +kernel) ⟨Nat.le_of_ble_eq_true rfl, Nat.le_of_ble_eq_true rfl⟩)  hPc hK hDc hV hH hS hFc rfl hl.1 rfl (Nat.le_of_ble_eq_true rfl) dL_isSame_145 ⟨Nat.le_of_ble_eq_true rfl, Nat.le_of_ble_eq_true rfl⟩ (fun r_145 w1 H1 locs1 hq hP1 hD1 hk hS hz => ?_)
            obtain ⟨rfl, hr_145⟩ := hq
            have hP := g_keepR hP hD [3] rfl hk hP1
            clear hPc hDc hFc hP1 hD1 hk hz
            generalize H1 = H at hP hS ⊢
            have hP : va_P D ccl (([(kc, .inl (cI, 40, .inl fc)), (kq, .inl (cI, 4, .inl mo)), (ku, .inl (cI, 16, .inl mu)), (kt, .inl (cI, 32, .inl tf)), (kp, .inl (cI, 64, .inl mp)), (km, .inl (cI, 4, .inl (mF N C K Y)))] : va_W) ++ w6) H := hP
            have hD : va_D A (([(kc, .inl (cI, 40, .inl fc)), (kq, .inl (cI, 4, .inl mo)), (ku, .inl (cI, 16, .inl mu)), (kt, .inl (cI, 32, .inl tf)), (kp, .inl (cI, 64, .inl mp)), (km, .inl (cI, 4, .inl (mF N C K Y)))] : va_W) ++ w6) := hD
            subst hr_145
            refine lv_icmp_ne (tgt := 155) hx hb dL_isSame_148 (by decide) (fun c_148 => ?_) (fun c_148 => ?_)
            · exact absurd er_132 c_148
            · refine lv_iconst (v := 1) hx hb dL_isSame_151 (by decide) ?_
              refine lv_goto (tgt := 156) hx hb dL_isSame_152 (by decide) ?_
              refine lv_istore (lv' := [(8, .int 1), (0, .ref t0), (1, .ref kc), (2, .ref kq), (3, .ref ku), (4, .ref kt), (5, .ref kp), (6, .ref km), (7, .int (nI Z))]) hx hb dL_isSame_156 hl (by decide) rfl (fun ls hl => ?_)
              refine lv_aload hx hb dL_isSame_158 (lv_at hl 7 rfl) ?_
              refine lv_iconst (v := 0) hx hb dL_isSame_160 (by decide) ?_
              refine va_iald hx hb hK hP 5 0 rfl rfl (by unfold vp_in; decide) dL_isSame_161 ?_
              refine lv_topi (fun f ef => ?_)
              obtain rfl : f = (mF N C K Y) 0 := ef.trans (congrArg (mF N C K Y) (show (0 : Int32).toNatClampNeg = 0 by decide))
              refine lv_topi (fun f ef => ?_)
              obtain rfl : f = nI N := ef.trans (rfl)
              refine lv_if_le (tgt := 377) hx hb dL_isSame_162 (by decide) (fun c_162 => ?_) (fun c_162 => ?_)
              · have c_162 : N ≤ 0 := g_le (a := N) (b := 0) c_162 (by omega) (by omega)
                refine lv_iload hx hb dL_isSame_377 (lv_at hl 0 rfl) ?_
                refine g_zret (v := 1) hx hb hr hlk hP hK hD hS (Nat.le_of_ble_eq_true rfl) (Nat.le_of_ble_eq_true rfl) dL_isSame_379 (by decide +kernel) ?_
                exact ⟨_, rfl, rfl, hCL⟩
              · have c_162 : 0 < N := g_nle (a := N) (b := 0) c_162 (by omega) (by omega)
                refine lv_iload hx hb dL_isSame_165 (lv_at hl 0 rfl) ?_
                refine lv_if_eq (tgt := 377) hx hb dL_isSame_167 (by decide) (fun c_167 => ?_) (fun c_167 => ?_)
                · exact absurd c_167 (by decide)
                · refine lv_iload hx hb dL_isSame_170 (lv_at hl 8 rfl) ?_
                  refine lv_aload hx hb dL_isSame_172 (lv_at hl 7 rfl) ?_
                  refine lv_iconst (v := 0) hx hb dL_isSame_174 (by decide) ?_
                  refine va_iald hx hb hK hP 5 0 rfl rfl (by unfold vp_in; decide) dL_isSame_175 ?_
                  refine lv_topi (fun f ef => ?_)
                  obtain rfl : f = (mF N C K Y) 0 := ef.trans (congrArg (mF N C K Y) (show (0 : Int32).toNatClampNeg = 0 by decide))
                  refine lv_topi (fun f ef => ?_)
                  obtain rfl : f = nI N := ef.trans (rfl)
                  refine lv_irem hx hb dL_isSame_176 (nI_ne0 (by omega) (by omega)) ?_
                  refine lv_topi (fun f ef => ?_)
                  obtain rfl : f = nI (Z % N) := ef.trans (pk_rem (a := Z) (d := N) (by omega) (by omega) (by omega))
                  obtain ⟨J, eJ⟩ : ∃ J, J = Z % N := ⟨_, rfl⟩
                  have hJN : J < N := by rw [eJ]; exact Nat.mod_lt _ (by omega)
                  have hJ4 : J < 4 := by omega
                  obtain ⟨ec0, ec1, ec2, ec3, ec4, es0, es1, es2, es3⟩ := rc_all hR hJ4
                  have ec5 := (hR J hJ4).2.2 hJN
                  refine lv_topi (fun f ef => ?_)
                  obtain rfl : f = nI J := ef.trans (congrArg nI eJ.symm)
                  refine lv_istore (lv' := [(9, .int (nI J)), (8, .int 1), (0, .ref t0), (1, .ref kc), (2, .ref kq), (3, .ref ku), (4, .ref kt), (5, .ref kp), (6, .ref km), (7, .int (nI Z))]) hx hb dL_isSame_177 hl (by decide) rfl (fun ls hl => ?_)
                  refine lv_iconst (v := (-1)) hx hb dL_isSame_179 (by decide) ?_
                  refine lv_istore (lv' := [(10, .int (-1)), (9, .int (nI J)), (8, .int 1), (0, .ref t0), (1, .ref kc), (2, .ref kq), (3, .ref ku), (4, .ref kt), (5, .ref kp), (6, .ref km), (7, .int (nI Z))]) hx hb dL_isSame_180 hl (by decide) rfl (fun ls hl => ?_)
                  refine lv_iconst (v := 0) hx hb dL_isSame_182 (by decide) ?_
                  refine lv_istore (lv' := [(11, .int 0), (10, .int (-1)), (9, .int (nI J)), (8, .int 1), (0, .ref t0), (1, .ref kc), (2, .ref kq), (3, .ref ku), (4, .ref kt), (5, .ref kp), (6, .ref km), (7, .int (nI Z))]) hx hb dL_isSame_183 hl (by decide) rfl (fun ls hl => ?_)
                  refine W.widen (k := 30) (n := 200) (Nat.le_refl _) (Nat.le_refl _) ?_
                  refine g_while (σ := Nat) (st := []) (nL := 12) (fun j => ([(kc, .inl (cI, 40, .inl fc)), (kq, .inl (cI, 4, .inl mo)), (ku, .inl (cI, 16, .inl mu)), (kt, .inl (cI, 32, .inl tf)), (kp, .inl (cI, 64, .inl mp)), (km, .inl (cI, 4, .inl (mF N C K Y)))] : va_W) ++ w6)
                    (fun j => [(9, .int (nI J)), (8, .int 1), (0, .ref t0), (1, .ref kc), (2, .ref kq), (3, .ref ku), (4, .ref kt), (5, .ref kp), (6, .ref km), (7, .int (nI Z)), (10, .int (lastAt mo (nI J) j)), (11, .int (nI j))])
                    (fun j => j ≤ C)
                    (fun j => C - j) (fun j => 30) (fun j => 200)
                    ?_ 0 (Nat.zero_le C) hP hD hS (lv_sub hl [2, 3, 4, 5, 6, 7, 8, 9, 10, 11, 1, 0] rfl)
                  intro j hI H locs ls hP hD hS hl ih
                  have hI : j ≤ C := hI
                  have hP : va_P D ccl (([(kc, .inl (cI, 40, .inl fc)), (kq, .inl (cI, 4, .inl mo)), (ku, .inl (cI, 16, .inl mu)), (kt, .inl (cI, 32, .inl tf)), (kp, .inl (cI, 64, .inl mp)), (km, .inl (cI, 4, .inl (mF N C K Y)))] : va_W) ++ w6) H := hP
                  have hD : va_D A (([(kc, .inl (cI, 40, .inl fc)), (kq, .inl (cI, 4, .inl mo)), (ku, .inl (cI, 16, .inl mu)), (kt, .inl (cI, 32, .inl tf)), (kp, .inl (cI, 64, .inl mp)), (km, .inl (cI, 4, .inl (mF N C K Y)))] : va_W) ++ w6) := hD
                  have hl : lv_has ls 12 [(9, .int (nI J)), (8, .int 1), (0, .ref t0), (1, .ref kc), (2, .ref kq), (3, .ref ku), (4, .ref kt), (5, .ref kp), (6, .ref km), (7, .int (nI Z)), (10, .int (lastAt mo (nI J) j)), (11, .int (nI j))] := hl
                  change W p l e _ s m _ below meth c H locs 30 200 _ (F0 m 185 ls [])
                  have ih_185 := ih
                  clear ih
                  refine lv_iload hx hb dL_isSame_185 (lv_at hl 11 rfl) ?_
                  refine lv_aload hx hb dL_isSame_187 (lv_at hl 8 rfl) ?_
                  refine lv_iconst (v := 1) hx hb dL_isSame_189 (by decide) ?_
                  refine va_iald hx hb hK hP 5 0 rfl rfl (by unfold vp_in; decide) dL_isSame_190 ?_
                  refine lv_topi (fun f ef => ?_)
                  obtain rfl : f = (mF N C K Y) 1 := ef.trans (congrArg (mF N C K Y) (show (1 : Int32).toNatClampNeg = 1 by decide))
                  refine lv_topi (fun f ef => ?_)
                  obtain rfl : f = nI C := ef.trans (rfl)
                  refine lv_icmp_ge (tgt := 218) hx hb dL_isSame_191 (by decide) (fun c_191 => ?_) (fun c_191 => ?_)
                  · have c_191 : C ≤ j := g_le (a := C) (b := j) c_191 (by omega) (by omega)
                    obtain rfl : C = j := by omega
                    refine lv_iconst (v := 0) hx hb dL_isSame_218 (by decide) ?_
                    refine lv_istore (lv' := [(11, .int 0), (9, .int (nI J)), (8, .int 1), (0, .ref t0), (1, .ref kc), (2, .ref kq), (3, .ref ku), (4, .ref kt), (5, .ref kp), (6, .ref km), (7, .int (nI Z)), (10, .int (lastAt mo (nI J) C))]) hx hb dL_isSame_219 hl (by decide) rfl (fun ls hl => ?_)
                    refine W.widen (k := 30 + 6 * 0) (n := 200 + 40 * 0) (show 30 ≤ _ by omega) (show 200 ≤ _ by omega) ?_
                    refine g_while (σ := Nat × va_W) (st := []) (nL := 12) (fun z => match z with | (j, w9) => ([(kc, .inl (cI, 40, .inl fc)), (kq, .inl (cI, 4, .inl mo)), (ku, .inl (cI, 16, .inl mu)), (kt, .inl (cI, 32, .inl tf)), (kp, .inl (cI, 64, .inl mp)), (km, .inl (cI, 4, .inl (mF N C K Y)))] : va_W) ++ w9)
                      (fun z => match z with | (j, w9) => [(9, .int (nI J)), (8, .int 1), (0, .ref t0), (1, .ref kc), (2, .ref kq), (3, .ref ku), (4, .ref kt), (5, .ref kp), (6, .ref km), (7, .int (nI Z)), (10, .int (lastAt mo (nI J) C)), (11, .int (nI j))])
                      (fun z => match z with | (j, w9) => j ≤ 5 ∧ CLS cI cJ cO df t0 w9 N mc ms mw C mo K mu Y rw0 tf qf)
                      (fun z => match z with | (j, w9) => 5 - j) (fun z => match z with | (j, w9) => 30 + 6 * j) (fun z => match z with | (j, w9) => 200 + 40 * j)
                      ?_ (0, w6) ⟨Nat.zero_le _, hCL⟩ hP hD hS (lv_sub hl [1, 2, 3, 4, 5, 6, 7, 8, 9, 10, 11, 0] rfl)
                    rintro ⟨j, w9⟩ hI H locs ls hP hD hS hl ih
                    have hI : j ≤ 5 ∧ CLS cI cJ cO df t0 w9 N mc ms mw C mo K mu Y rw0 tf qf := hI
                    have hP : va_P D ccl (([(kc, .inl (cI, 40, .inl fc)), (kq, .inl (cI, 4, .inl mo)), (ku, .inl (cI, 16, .inl mu)), (kt, .inl (cI, 32, .inl tf)), (kp, .inl (cI, 64, .inl mp)), (km, .inl (cI, 4, .inl (mF N C K Y)))] : va_W) ++ w9) H := hP
                    have hD : va_D A (([(kc, .inl (cI, 40, .inl fc)), (kq, .inl (cI, 4, .inl mo)), (ku, .inl (cI, 16, .inl mu)), (kt, .inl (cI, 32, .inl tf)), (kp, .inl (cI, 64, .inl mp)), (km, .inl (cI, 4, .inl (mF N C K Y)))] : va_W) ++ w9) := hD
                    have hl : lv_has ls 12 [(9, .int (nI J)), (8, .int 1), (0, .ref t0), (1, .ref kc), (2, .ref kq), (3, .ref ku), (4, .ref kt), (5, .ref kp), (6, .ref km), (7, .int (nI Z)), (10, .int (lastAt mo (nI J) C)), (11, .int (nI j))] := hl
                    change W p l e _ s m _ below meth c H locs (30 + 6 * j) (200 + 40 * j) _ (F0 m 221 ls [])
                    have ih_221 := ih
                    clear ih
                    clear hCL
                    obtain ⟨hj, hCL⟩ := hI
                    refine lv_iload hx hb dL_isSame_221 (lv_at hl 11 rfl) ?_
                    refine lv_iconst (v := 5) hx hb dL_isSame_223 (by decide) ?_
                    refine lv_icmp_ge (tgt := 266) hx hb dL_isSame_224 (by decide) (fun c_224 => ?_) (fun c_224 => ?_)
                    · have c_224 : 5 ≤ j := g_le (a := 5) (b := j) c_224 (by omega) (by omega)
                      obtain rfl : j = 5 := by omega
                      refine lv_iload hx hb dL_isSame_266 (lv_at hl 1 rfl) ?_
                      refine lv_if_eq (tgt := 374) hx hb dL_isSame_268 (by decide) (fun c_268 => ?_) (fun c_268 => ?_)
                      · exact absurd c_268 (by decide)
                      · refine lv_aload_n hx hb dL_isSame_271 rfl (lv_at hl 2 rfl) ?_
                        refine lv_iload hx hb dL_isSame_272 (lv_at hl 0 rfl) ?_
                        refine lv_iconst (v := 5) hx hb dL_isSame_274 (by decide) ?_
                        have hPc := hP.part (X := [(kc, .inl (cI, 40, .inl fc)), (kq, .inl (cI, 4, .inl mo)), (ku, .inl (cI, 16, .inl mu)), (kt, .inl (cI, 32, .inl tf)), (kp, .inl (cI, 64, .inl mp)), (km, .inl (cI, 4, .inl (mF N C K Y)))]) (cx := []) [] rfl
                        have hDc := hD.part (X := [(kc, .inl (cI, 40, .inl fc)), (kq, .inl (cI, 4, .inl mo)), (ku, .inl (cI, 16, .inl mu)), (kt, .inl (cI, 32, .inl tf)), (kp, .inl (cI, 64, .inl mp)), (km, .inl (cI, 4, .inl (mF N C K Y)))]) (cx := []) [] (by decide) rfl
                        have hFc := va_freeP (X := [(kc, .inl (cI, 40, .inl fc)), (kq, .inl (cI, 4, .inl mo)), (ku, .inl (cI, 16, .inl mu)), (kt, .inl (cI, 32, .inl tf)), (kp, .inl (cI, 64, .inl mp)), (km, .inl (cI, 4, .inl (mF N C K Y)))]) (cx := []) hD hS hA [] rfl
                        refine g_Vi (As := [.int (nI J), .int 5]) (rest := []) CF (c3_X6_of l hfl D cI cJ cO df H.size t0 w9 N mc ms mw C mo K mu Y rw0 tf qf mp (nI J) 5 hCL hW (k_two (k_sec hJN hN8) (k_in (V := 5) (n := 9) (by decide) (by decide)))) (cwV 2 hts gL_isSame_X6_of rfl rfl rfl (by decide +kernel) ⟨Nat.le_of_ble_eq_true rfl, Nat.le_of_ble_eq_true rfl⟩) (cls_recv (X := [(kc, .inl (cI, 40, .inl fc)), (kq, .inl (cI, 4, .inl mo)), (ku, .inl (cI, 16, .inl mu)), (kt, .inl (cI, 32, .inl tf)), (kp, .inl (cI, 64, .inl mp)), (km, .inl (cI, 4, .inl (mF N C K Y)))]) hCL hK hP) hPc hK hDc hV hH hS hFc rfl hl.1 rfl (Nat.le_of_ble_eq_true rfl) dL_isSame_275 ⟨Nat.le_of_ble_eq_true rfl, Nat.le_of_ble_eq_true rfl⟩ (fun r_275 w1 H1 locs1 hq hP1 hD1 hk hS hz => ?_)
                        obtain ⟨wa, ew_275, hq_275⟩ := hq
                        rw [ew_275] at hP1 hD1
                        obtain ⟨hP, hD⟩ := g_joinP (X := [(kc, .inl (cI, 40, .inl fc)), (kq, .inl (cI, 4, .inl mo)), (ku, .inl (cI, 16, .inl mu)), (kt, .inl (cI, 32, .inl tf)), (kp, .inl (cI, 64, .inl mp)), (km, .inl (cI, 4, .inl (mF N C K Y)))]) (cx := []) (rx := []) (X' := [(kc, .inl (cI, 40, .inl fc)), (kq, .inl (cI, 4, .inl mo)), (ku, .inl (cI, 16, .inl mu)), (kt, .inl (cI, 32, .inl tf)), (kp, .inl (cI, 64, .inl mp)), (km, .inl (cI, 4, .inl (mF N C K Y)))]) hP hD hk hFc hP1 hD1 [] [0, 1, 2, 3, 4, 5] [0, 1, 2, 3, 4, 5] rfl rfl (by decide) (by decide) (by decide) rfl
                        clear hPc hDc hFc hP1 hD1 hk hz
                        generalize H1 = H at hP hS ⊢
                        have hP : va_P D ccl (([(kc, .inl (cI, 40, .inl fc)), (kq, .inl (cI, 4, .inl mo)), (ku, .inl (cI, 16, .inl mu)), (kt, .inl (cI, 32, .inl tf)), (kp, .inl (cI, 64, .inl mp)), (km, .inl (cI, 4, .inl (mF N C K Y)))] : va_W) ++ wa) H := hP
                        have hD : va_D A (([(kc, .inl (cI, 40, .inl fc)), (kq, .inl (cI, 4, .inl mo)), (ku, .inl (cI, 16, .inl mu)), (kt, .inl (cI, 32, .inl tf)), (kp, .inl (cI, 64, .inl mp)), (km, .inl (cI, 4, .inl (mF N C K Y)))] : va_W) ++ wa) := hD
                        obtain ⟨hCL, hq_275⟩ := hq_275
                        have er_275 : r_275 = mStab mc J := by
                          have e1 : gN (nI J) = J := gN_nI (by omega)
                          have e2 : gN (nI (5)) = 5 := gN_nI (by omega)
                          have h9 := hq_275
                          rw [e1] at h9
                          rw [show gN 5 = 5 from rfl] at h9
                          (repeat (first | rw [if_pos (by omega)] at h9 | rw [if_neg (by omega)] at h9))
                          exact h9.trans rfl
                        refine lv_aload_n hx hb dL_isSame_278 rfl (lv_at hl 3 rfl) ?_
                        refine lv_iload hx hb dL_isSame_279 (lv_at hl 0 rfl) ?_
                        have hPc := hP.sub (ws' := [(kc, .inl (cI, 40, .inl fc))]) [0] rfl
                        have hDc := hD.sub (ws' := [(kc, .inl (cI, 40, .inl fc))]) [0] (by decide) rfl
                        have hFc := va_free (wc := [(kc, .inl (cI, 40, .inl fc))]) hD hS hA [0] rfl
                        refine g_Si (As := [.ref kc, .int (nI J)]) (rest := [.int r_275]) CF (c_L_isStable l D cI cJ cO df H.size kc fc mc ms mw N J hR hJ4 hc) (va_cwS 2 hts gL_isSame_L_isStable rfl rfl rfl (by decide +kernel) ⟨Nat.le_of_ble_eq_true rfl, Nat.le_of_ble_eq_true rfl⟩)  hPc hK hDc hV hH hS hFc rfl hl.1 rfl (Nat.le_of_ble_eq_true rfl) dL_isSame_281 ⟨Nat.le_of_ble_eq_true rfl, Nat.le_of_ble_eq_true rfl⟩ (fun r_281 w1 H1 locs1 hq hP1 hD1 hk hS hz => ?_)
                        obtain ⟨rfl, hr_281⟩ := hq
                        have hP := g_keepR hP hD [0] rfl hk hP1
                        clear hPc hDc hFc hP1 hD1 hk hz
                        generalize H1 = H at hP hS ⊢
                        have hP : va_P D ccl (([(kc, .inl (cI, 40, .inl fc)), (kq, .inl (cI, 4, .inl mo)), (ku, .inl (cI, 16, .inl mu)), (kt, .inl (cI, 32, .inl tf)), (kp, .inl (cI, 64, .inl mp)), (km, .inl (cI, 4, .inl (mF N C K Y)))] : va_W) ++ wa) H := hP
                        have hD : va_D A (([(kc, .inl (cI, 40, .inl fc)), (kq, .inl (cI, 4, .inl mo)), (ku, .inl (cI, 16, .inl mu)), (kt, .inl (cI, 32, .inl tf)), (kp, .inl (cI, 64, .inl mp)), (km, .inl (cI, 4, .inl (mF N C K Y)))] : va_W) ++ wa) := hD
                        subst hr_281
                        refine g_phii (ls := ls) (J := 292) (st1 := [.int r_275]) (REL := fun v9 => v9 = mStab mc J) (fun v9 hb_292 => ?_) (fun hJ_292 => ?_)
                        · refine lv_icmp_ne (tgt := 374) hx hb dL_isSame_292 (by decide) (fun c_292 => ?_) (fun c_292 => ?_)
                          · exact absurd (er_275.trans hb_292.symm) c_292
                          · refine lv_aload_n hx hb dL_isSame_295 rfl (lv_at hl 2 rfl) ?_
                            refine lv_iload hx hb dL_isSame_296 (lv_at hl 0 rfl) ?_
                            refine lv_bipush (v := 6) hx hb dL_isSame_298 (by decide) ?_
                            have hPc := hP.part (X := [(kc, .inl (cI, 40, .inl fc)), (kq, .inl (cI, 4, .inl mo)), (ku, .inl (cI, 16, .inl mu)), (kt, .inl (cI, 32, .inl tf)), (kp, .inl (cI, 64, .inl mp)), (km, .inl (cI, 4, .inl (mF N C K Y)))]) (cx := []) [] rfl
                            have hDc := hD.part (X := [(kc, .inl (cI, 40, .inl fc)), (kq, .inl (cI, 4, .inl mo)), (ku, .inl (cI, 16, .inl mu)), (kt, .inl (cI, 32, .inl tf)), (kp, .inl (cI, 64, .inl mp)), (km, .inl (cI, 4, .inl (mF N C K Y)))]) (cx := []) [] (by decide) rfl
                            have hFc := va_freeP (X := [(kc, .inl (cI, 40, .inl fc)), (kq, .inl (cI, 4, .inl mo)), (ku, .inl (cI, 16, .inl mu)), (kt, .inl (cI, 32, .inl tf)), (kp, .inl (cI, 64, .inl mp)), (km, .inl (cI, 4, .inl (mF N C K Y)))]) (cx := []) hD hS hA [] rfl
                            refine g_Vi (As := [.int (nI J), .int 6]) (rest := []) CF (c3_X6_of l hfl D cI cJ cO df H.size t0 wa N mc ms mw C mo K mu Y rw0 tf qf mp (nI J) 6 hCL hW (k_two (k_sec hJN hN8) (k_in (V := 6) (n := 9) (by decide) (by decide)))) (cwV 2 hts gL_isSame_X6_of rfl rfl rfl (by decide +kernel) ⟨Nat.le_of_ble_eq_true rfl, Nat.le_of_ble_eq_true rfl⟩) (cls_recv (X := [(kc, .inl (cI, 40, .inl fc)), (kq, .inl (cI, 4, .inl mo)), (ku, .inl (cI, 16, .inl mu)), (kt, .inl (cI, 32, .inl tf)), (kp, .inl (cI, 64, .inl mp)), (km, .inl (cI, 4, .inl (mF N C K Y)))]) hCL hK hP) hPc hK hDc hV hH hS hFc rfl hl.1 rfl (Nat.le_of_ble_eq_true rfl) dL_isSame_300 ⟨Nat.le_of_ble_eq_true rfl, Nat.le_of_ble_eq_true rfl⟩ (fun r_300 w1 H1 locs1 hq hP1 hD1 hk hS hz => ?_)
                            obtain ⟨wb, ew_300, hq_300⟩ := hq
                            rw [ew_300] at hP1 hD1
                            obtain ⟨hP, hD⟩ := g_joinP (X := [(kc, .inl (cI, 40, .inl fc)), (kq, .inl (cI, 4, .inl mo)), (ku, .inl (cI, 16, .inl mu)), (kt, .inl (cI, 32, .inl tf)), (kp, .inl (cI, 64, .inl mp)), (km, .inl (cI, 4, .inl (mF N C K Y)))]) (cx := []) (rx := []) (X' := [(kc, .inl (cI, 40, .inl fc)), (kq, .inl (cI, 4, .inl mo)), (ku, .inl (cI, 16, .inl mu)), (kt, .inl (cI, 32, .inl tf)), (kp, .inl (cI, 64, .inl mp)), (km, .inl (cI, 4, .inl (mF N C K Y)))]) hP hD hk hFc hP1 hD1 [] [0, 1, 2, 3, 4, 5] [0, 1, 2, 3, 4, 5] rfl rfl (by decide) (by decide) (by decide) rfl
                            clear hPc hDc hFc hP1 hD1 hk hz
                            generalize H1 = H at hP hS ⊢
                            have hP : va_P D ccl (([(kc, .inl (cI, 40, .inl fc)), (kq, .inl (cI, 4, .inl mo)), (ku, .inl (cI, 16, .inl mu)), (kt, .inl (cI, 32, .inl tf)), (kp, .inl (cI, 64, .inl mp)), (km, .inl (cI, 4, .inl (mF N C K Y)))] : va_W) ++ wb) H := hP
                            have hD : va_D A (([(kc, .inl (cI, 40, .inl fc)), (kq, .inl (cI, 4, .inl mo)), (ku, .inl (cI, 16, .inl mu)), (kt, .inl (cI, 32, .inl tf)), (kp, .inl (cI, 64, .inl mp)), (km, .inl (cI, 4, .inl (mF N C K Y)))] : va_W) ++ wb) := hD
                            obtain ⟨hCL, hq_300⟩ := hq_300
                            have er_300 : r_300 = lastAt mo (nI J) C := by
                              have e1 : gN (nI J) = J := gN_nI (by omega)
                              have e2 : gN (nI (6)) = 6 := gN_nI (by omega)
                              have h9 := hq_300
                              rw [e1] at h9
                              rw [show gN 6 = 6 from rfl] at h9
                              (repeat (first | rw [if_pos (by omega)] at h9 | rw [if_neg (by omega)] at h9))
                              exact h9.trans rfl
                            refine lv_iload hx hb dL_isSame_303 (lv_at hl 10 rfl) ?_
                            refine lv_icmp_ne (tgt := 374) hx hb dL_isSame_305 (by decide) (fun c_305 => ?_) (fun c_305 => ?_)
                            · exact absurd er_300 c_305
                            · refine lv_aload_n hx hb dL_isSame_308 rfl (lv_at hl 2 rfl) ?_
                              refine lv_iload hx hb dL_isSame_309 (lv_at hl 0 rfl) ?_
                              refine lv_bipush (v := 7) hx hb dL_isSame_311 (by decide) ?_
                              have hPc := hP.part (X := [(kc, .inl (cI, 40, .inl fc)), (kq, .inl (cI, 4, .inl mo)), (ku, .inl (cI, 16, .inl mu)), (kt, .inl (cI, 32, .inl tf)), (kp, .inl (cI, 64, .inl mp)), (km, .inl (cI, 4, .inl (mF N C K Y)))]) (cx := []) [] rfl
                              have hDc := hD.part (X := [(kc, .inl (cI, 40, .inl fc)), (kq, .inl (cI, 4, .inl mo)), (ku, .inl (cI, 16, .inl mu)), (kt, .inl (cI, 32, .inl tf)), (kp, .inl (cI, 64, .inl mp)), (km, .inl (cI, 4, .inl (mF N C K Y)))]) (cx := []) [] (by decide) rfl
                              have hFc := va_freeP (X := [(kc, .inl (cI, 40, .inl fc)), (kq, .inl (cI, 4, .inl mo)), (ku, .inl (cI, 16, .inl mu)), (kt, .inl (cI, 32, .inl tf)), (kp, .inl (cI, 64, .inl mp)), (km, .inl (cI, 4, .inl (mF N C K Y)))]) (cx := []) hD hS hA [] rfl
                              refine g_Vi (As := [.int (nI J), .int 7]) (rest := []) CF (c3_X6_of l hfl D cI cJ cO df H.size t0 wb N mc ms mw C mo K mu Y rw0 tf qf mp (nI J) 7 hCL hW (k_two (k_sec hJN hN8) (k_in (V := 7) (n := 9) (by decide) (by decide)))) (cwV 2 hts gL_isSame_X6_of rfl rfl rfl (by decide +kernel) ⟨Nat.le_of_ble_eq_true rfl, Nat.le_of_ble_eq_true rfl⟩) (cls_recv (X := [(kc, .inl (cI, 40, .inl fc)), (kq, .inl (cI, 4, .inl mo)), (ku, .inl (cI, 16, .inl mu)), (kt, .inl (cI, 32, .inl tf)), (kp, .inl (cI, 64, .inl mp)), (km, .inl (cI, 4, .inl (mF N C K Y)))]) hCL hK hP) hPc hK hDc hV hH hS hFc rfl hl.1 rfl (Nat.le_of_ble_eq_true rfl) dL_isSame_313 ⟨Nat.le_of_ble_eq_true rfl, Nat.le_of_ble_eq_true rfl⟩ (fun r_313 w1 H1 locs1 hq hP1 hD1 hk hS hz => ?_)
                              obtain ⟨wc, ew_313, hq_313⟩ := hq
                              rw [ew_313] at hP1 hD1
                              obtain ⟨hP, hD⟩ := g_joinP (X := [(kc, .inl (cI, 40, .inl fc)), (kq, .inl (cI, 4, .inl mo)), (ku, .inl (cI, 16, .inl mu)), (kt, .inl (cI, 32, .inl tf)), (kp, .inl (cI, 64, .inl mp)), (km, .inl (cI, 4, .inl (mF N C K Y)))]) (cx := []) (rx := []) (X' := [(kc, .inl (cI, 40, .inl fc)), (kq, .inl (cI, 4, .inl mo)), (ku, .inl (cI, 16, .inl mu)), (kt, .inl (cI, 32, .inl tf)), (kp, .inl (cI, 64, .inl mp)), (km, .inl (cI, 4, .inl (mF N C K Y)))]) hP hD hk hFc hP1 hD1 [] [0, 1, 2, 3, 4, 5] [0, 1, 2, 3, 4, 5] rfl rfl (by decide) (by decide) (by decide) rfl
                              clear hPc hDc hFc hP1 hD1 hk hz
                              generalize H1 = H at hP hS ⊢
                              have hP : va_P D ccl (([(kc, .inl (cI, 40, .inl fc)), (kq, .inl (cI, 4, .inl mo)), (ku, .inl (cI, 16, .inl mu)), (kt, .inl (cI, 32, .inl tf)), (kp, .inl (cI, 64, .inl mp)), (km, .inl (cI, 4, .inl (mF N C K Y)))] : va_W) ++ wc) H := hP
                              have hD : va_D A (([(kc, .inl (cI, 40, .inl fc)), (kq, .inl (cI, 4, .inl mo)), (ku, .inl (cI, 16, .inl mu)), (kt, .inl (cI, 32, .inl tf)), (kp, .inl (cI, 64, .inl mp)), (km, .inl (cI, 4, .inl (mF N C K Y)))] : va_W) ++ wc) := hD
                              obtain ⟨hCL, hq_313⟩ := hq_313
                              have er_313 : r_313 = ms (4 * J + 2) := by
                                have e1 : gN (nI J) = J := gN_nI (by omega)
                                have e2 : gN (nI (7)) = 7 := gN_nI (by omega)
                                have h9 := hq_313
                                rw [e1] at h9
                                rw [show gN 7 = 7 from rfl] at h9
                                (repeat (first | rw [if_pos (by omega)] at h9 | rw [if_neg (by omega)] at h9))
                                exact h9.trans (congrArg ms (by omega))
                              refine lv_aload_n hx hb dL_isSame_316 rfl (lv_at hl 3 rfl) ?_
                              refine lv_bipush (v := 10) hx hb dL_isSame_317 (by decide) ?_
                              refine lv_iload hx hb dL_isSame_319 (lv_at hl 0 rfl) ?_
                              refine lv_imul hx hb dL_isSame_321 ?_
                              refine lv_topi (fun f ef => ?_)
                              obtain rfl : f = nI (10 * J) := ef.trans (pk_mul _ _)
                              refine lv_bipush (v := 8) hx hb dL_isSame_322 (by decide) ?_
                              refine lv_iadd hx hb dL_isSame_324 ?_
                              refine lv_topi (fun f ef => ?_)
                              obtain rfl : f = nI ((10 * J) + 8) := ef.trans (nI_add _ _)
                              refine va_iald hx hb hK hP 0 0 rfl rfl (vp_in_nI (by omega) (by omega)) dL_isSame_325 ?_
                              refine lv_topi (fun f ef => ?_)
                              obtain rfl : f = fc ((10 * J) + 8) := ef.trans (congrArg fc (nI_clamp (n := (10 * J) + 8) (by omega)))
                              refine lv_topi (fun f ef => ?_)
                              obtain rfl : f = ms (4 * J + 2) := ef.trans (es2)
                              refine lv_icmp_ne (tgt := 374) hx hb dL_isSame_326 (by decide) (fun c_326 => ?_) (fun c_326 => ?_)
                              · exact absurd er_313 c_326
                              · refine lv_aload_n hx hb dL_isSame_329 rfl (lv_at hl 2 rfl) ?_
                                refine lv_iload hx hb dL_isSame_330 (lv_at hl 0 rfl) ?_
                                refine lv_bipush (v := 8) hx hb dL_isSame_332 (by decide) ?_
                                have hPc := hP.part (X := [(kc, .inl (cI, 40, .inl fc)), (kq, .inl (cI, 4, .inl mo)), (ku, .inl (cI, 16, .inl mu)), (kt, .inl (cI, 32, .inl tf)), (kp, .inl (cI, 64, .inl mp)), (km, .inl (cI, 4, .inl (mF N C K Y)))]) (cx := []) [] rfl
                                have hDc := hD.part (X := [(kc, .inl (cI, 40, .inl fc)), (kq, .inl (cI, 4, .inl mo)), (ku, .inl (cI, 16, .inl mu)), (kt, .inl (cI, 32, .inl tf)), (kp, .inl (cI, 64, .inl mp)), (km, .inl (cI, 4, .inl (mF N C K Y)))]) (cx := []) [] (by decide) rfl
                                have hFc := va_freeP (X := [(kc, .inl (cI, 40, .inl fc)), (kq, .inl (cI, 4, .inl mo)), (ku, .inl (cI, 16, .inl mu)), (kt, .inl (cI, 32, .inl tf)), (kp, .inl (cI, 64, .inl mp)), (km, .inl (cI, 4, .inl (mF N C K Y)))]) (cx := []) hD hS hA [] rfl
                                refine g_Vi (As := [.int (nI J), .int 8]) (rest := []) CF (c3_X6_of l hfl D cI cJ cO df H.size t0 wc N mc ms mw C mo K mu Y rw0 tf qf mp (nI J) 8 hCL hW (k_two (k_sec hJN hN8) (k_in (V := 8) (n := 9) (by decide) (by decide)))) (cwV 2 hts gL_isSame_X6_of rfl rfl rfl (by decide +kernel) ⟨Nat.le_of_ble_eq_true rfl, Nat.le_of_ble_eq_true rfl⟩) (cls_recv (X := [(kc, .inl (cI, 40, .inl fc)), (kq, .inl (cI, 4, .inl mo)), (ku, .inl (cI, 16, .inl mu)), (kt, .inl (cI, 32, .inl tf)), (kp, .inl (cI, 64, .inl mp)), (km, .inl (cI, 4, .inl (mF N C K Y)))]) hCL hK hP) hPc hK hDc hV hH hS hFc rfl hl.1 rfl (Nat.le_of_ble_eq_true rfl) dL_isSame_334 ⟨Nat.le_of_ble_eq_true rfl, Nat.le_of_ble_eq_true rfl⟩ (fun r_334 w1 H1 locs1 hq hP1 hD1 hk hS hz => ?_)
                                obtain ⟨wd, ew_334, hq_334⟩ := hq
                                rw [ew_334] at hP1 hD1
                                obtain ⟨hP, hD⟩ := g_joinP (X := [(kc, .inl (cI, 40, .inl fc)), (kq, .inl (cI, 4, .inl mo)), (ku, .inl (cI, 16, .inl mu)), (kt, .inl (cI, 32, .inl tf)), (kp, .inl (cI, 64, .inl mp)), (km, .inl (cI, 4, .inl (mF N C K Y)))]) (cx := []) (rx := []) (X' := [(kc, .inl (cI, 40, .inl fc)), (kq, .inl (cI, 4, .inl mo)), (ku, .inl (cI, 16, .inl mu)), (kt, .inl (cI, 32, .inl tf)), (kp, .inl (cI, 64, .inl mp)), (km, .inl (cI, 4, .inl (mF N C K Y)))]) hP hD hk hFc hP1 hD1 [] [0, 1, 2, 3, 4, 5] [0, 1, 2, 3, 4, 5] rfl rfl (by decide) (by decide) (by decide) rfl
                                clear hPc hDc hFc hP1 hD1 hk hz
                                generalize H1 = H at hP hS ⊢
                                have hP : va_P D ccl (([(kc, .inl (cI, 40, .inl fc)), (kq, .inl (cI, 4, .inl mo)), (ku, .inl (cI, 16, .inl mu)), (kt, .inl (cI, 32, .inl tf)), (kp, .inl (cI, 64, .inl mp)), (km, .inl (cI, 4, .inl (mF N C K Y)))] : va_W) ++ wd) H := hP
                                have hD : va_D A (([(kc, .inl (cI, 40, .inl fc)), (kq, .inl (cI, 4, .inl mo)), (ku, .inl (cI, 16, .inl mu)), (kt, .inl (cI, 32, .inl tf)), (kp, .inl (cI, 64, .inl mp)), (km, .inl (cI, 4, .inl (mF N C K Y)))] : va_W) ++ wd) := hD
                                obtain ⟨hCL, hq_334⟩ := hq_334
                                have er_334 : r_334 = ms (4 * J + 3) := by
                                  have e1 : gN (nI J) = J := gN_nI (by omega)
                                  have e2 : gN (nI (8)) = 8 := gN_nI (by omega)
                                  have h9 := hq_334
                                  rw [e1] at h9
                                  rw [show gN 8 = 8 from rfl] at h9
                                  (repeat (first | rw [if_pos (by omega)] at h9 | rw [if_neg (by omega)] at h9))
                                  exact h9.trans (congrArg ms (by omega))
                                refine lv_aload_n hx hb dL_isSame_337 rfl (lv_at hl 3 rfl) ?_
                                refine lv_bipush (v := 10) hx hb dL_isSame_338 (by decide) ?_
                                refine lv_iload hx hb dL_isSame_340 (lv_at hl 0 rfl) ?_
                                refine lv_imul hx hb dL_isSame_342 ?_
                                refine lv_topi (fun f ef => ?_)
                                obtain rfl : f = nI (10 * J) := ef.trans (pk_mul _ _)
                                refine lv_bipush (v := 9) hx hb dL_isSame_343 (by decide) ?_
                                refine lv_iadd hx hb dL_isSame_345 ?_
                                refine lv_topi (fun f ef => ?_)
                                obtain rfl : f = nI ((10 * J) + 9) := ef.trans (nI_add _ _)
                                refine va_iald hx hb hK hP 0 0 rfl rfl (vp_in_nI (by omega) (by omega)) dL_isSame_346 ?_
                                refine lv_topi (fun f ef => ?_)
                                obtain rfl : f = fc ((10 * J) + 9) := ef.trans (congrArg fc (nI_clamp (n := (10 * J) + 9) (by omega)))
                                refine lv_topi (fun f ef => ?_)
                                obtain rfl : f = ms (4 * J + 3) := ef.trans (es3)
                                refine lv_icmp_ne (tgt := 374) hx hb dL_isSame_347 (by decide) (fun c_347 => ?_) (fun c_347 => ?_)
                                · exact absurd er_334 c_347
                                · refine lv_aload_n hx hb dL_isSame_350 rfl (lv_at hl 2 rfl) ?_
                                  refine lv_iload hx hb dL_isSame_351 (lv_at hl 0 rfl) ?_
                                  refine lv_bipush (v := 9) hx hb dL_isSame_353 (by decide) ?_
                                  have hPc := hP.part (X := [(kc, .inl (cI, 40, .inl fc)), (kq, .inl (cI, 4, .inl mo)), (ku, .inl (cI, 16, .inl mu)), (kt, .inl (cI, 32, .inl tf)), (kp, .inl (cI, 64, .inl mp)), (km, .inl (cI, 4, .inl (mF N C K Y)))]) (cx := []) [] rfl
                                  have hDc := hD.part (X := [(kc, .inl (cI, 40, .inl fc)), (kq, .inl (cI, 4, .inl mo)), (ku, .inl (cI, 16, .inl mu)), (kt, .inl (cI, 32, .inl tf)), (kp, .inl (cI, 64, .inl mp)), (km, .inl (cI, 4, .inl (mF N C K Y)))]) (cx := []) [] (by decide) rfl
                                  have hFc := va_freeP (X := [(kc, .inl (cI, 40, .inl fc)), (kq, .inl (cI, 4, .inl mo)), (ku, .inl (cI, 16, .inl mu)), (kt, .inl (cI, 32, .inl tf)), (kp, .inl (cI, 64, .inl mp)), (km, .inl (cI, 4, .inl (mF N C K Y)))]) (cx := []) hD hS hA [] rfl
                                  refine g_Vi (As := [.int (nI J), .int 9]) (rest := []) CF (c3_X6_of l hfl D cI cJ cO df H.size t0 wd N mc ms mw C mo K mu Y rw0 tf qf mp (nI J) 9 hCL hW (k_two (k_sec hJN hN8) (k_in (V := 9) (n := 9) (by decide) (by decide)))) (cwV 2 hts gL_isSame_X6_of rfl rfl rfl (by decide +kernel) ⟨Nat.le_of_ble_eq_true rfl, Nat.le_of_ble_eq_true rfl⟩) (cls_recv (X := [(kc, .inl (cI, 40, .inl fc)), (kq, .inl (cI, 4, .inl mo)), (ku, .inl (cI, 16, .inl mu)), (kt, .inl (cI, 32, .inl tf)), (kp, .inl (cI, 64, .inl mp)), (km, .inl (cI, 4, .inl (mF N C K Y)))]) hCL hK hP) hPc hK hDc hV hH hS hFc rfl hl.1 rfl (Nat.le_of_ble_eq_true rfl) dL_isSame_355 ⟨Nat.le_of_ble_eq_true rfl, Nat.le_of_ble_eq_true rfl⟩ (fun r_355 w1 H1 locs1 hq hP1 hD1 hk hS hz => ?_)
                                  obtain ⟨we, ew_355, hq_355⟩ := hq
                                  rw [ew_355] at hP1 hD1
                                  obtain ⟨hP, hD⟩ := g_joinP (X := [(kc, .inl (cI, 40, .inl fc)), (kq, .inl (cI, 4, .inl mo)), (ku, .inl (cI, 16, .inl mu)), (kt, .inl (cI, 32, .inl tf)), (kp, .inl (cI, 64, .inl mp)), (km, .inl (cI, 4, .inl (mF N C K Y)))]) (cx := []) (rx := []) (X' := [(kc, .inl (cI, 40, .inl fc)), (kq, .inl (cI, 4, .inl mo)), (ku, .inl (cI, 16, .inl mu)), (kt, .inl (cI, 32, .inl tf)), (kp, .inl (cI, 64, .inl mp)), (km, .inl (cI, 4, .inl (mF N C K Y)))]) hP hD hk hFc hP1 hD1 [] [0, 1, 2, 3, 4, 5] [0, 1, 2, 3, 4, 5] rfl rfl (by decide) (by decide) (by decide) rfl
                                  clear hPc hDc hFc hP1 hD1 hk hz
                                  generalize H1 = H at hP hS ⊢
                                  have hP : va_P D ccl (([(kc, .inl (cI, 40, .inl fc)), (kq, .inl (cI, 4, .inl mo)), (ku, .inl (cI, 16, .inl mu)), (kt, .inl (cI, 32, .inl tf)), (kp, .inl (cI, 64, .inl mp)), (km, .inl (cI, 4, .inl (mF N C K Y)))] : va_W) ++ we) H := hP
                                  have hD : va_D A (([(kc, .inl (cI, 40, .inl fc)), (kq, .inl (cI, 4, .inl mo)), (ku, .inl (cI, 16, .inl mu)), (kt, .inl (cI, 32, .inl tf)), (kp, .inl (cI, 64, .inl mp)), (km, .inl (cI, 4, .inl (mF N C K Y)))] : va_W) ++ we) := hD
                                  obtain ⟨hCL, hq_355⟩ := hq_355
                                  have er_355 : r_355 = mw J := by
                                    have e1 : gN (nI J) = J := gN_nI (by omega)
                                    have e2 : gN (nI (9)) = 9 := gN_nI (by omega)
                                    have h9 := hq_355
                                    rw [e1] at h9
                                    rw [show gN 9 = 9 from rfl] at h9
                                    (repeat (first | rw [if_pos (by omega)] at h9 | rw [if_neg (by omega)] at h9))
                                    exact h9.trans rfl
                                  refine lv_aload_n hx hb dL_isSame_358 rfl (lv_at hl 3 rfl) ?_
                                  refine lv_bipush (v := 10) hx hb dL_isSame_359 (by decide) ?_
                                  refine lv_iload hx hb dL_isSame_361 (lv_at hl 0 rfl) ?_
                                  refine lv_imul hx hb dL_isSame_363 ?_
                                  refine lv_topi (fun f ef => ?_)
                                  obtain rfl : f = nI (10 * J) := ef.trans (pk_mul _ _)
                                  refine lv_iconst (v := 5) hx hb dL_isSame_364 (by decide) ?_
                                  refine lv_iadd hx hb dL_isSame_365 ?_
                                  refine lv_topi (fun f ef => ?_)
                                  obtain rfl : f = nI ((10 * J) + 5) := ef.trans (nI_add _ _)
                                  refine va_iald hx hb hK hP 0 0 rfl rfl (vp_in_nI (by omega) (by omega)) dL_isSame_366 ?_
                                  refine lv_topi (fun f ef => ?_)
                                  obtain rfl : f = fc ((10 * J) + 5) := ef.trans (congrArg fc (nI_clamp (n := (10 * J) + 5) (by omega)))
                                  refine lv_topi (fun f ef => ?_)
                                  obtain rfl : f = mw J := ef.trans (ec5)
                                  refine lv_icmp_ne (tgt := 374) hx hb dL_isSame_367 (by decide) (fun c_367 => ?_) (fun c_367 => ?_)
                                  · exact absurd er_355 c_367
                                  · refine lv_iconst (v := 1) hx hb dL_isSame_370 (by decide) ?_
                                    refine lv_goto (tgt := 375) hx hb dL_isSame_371 (by decide) ?_
                                    refine lv_istore (lv' := [(8, .int 1), (9, .int (nI J)), (0, .ref t0), (1, .ref kc), (2, .ref kq), (3, .ref ku), (4, .ref kt), (5, .ref kp), (6, .ref km), (7, .int (nI Z)), (10, .int (lastAt mo (nI J) C)), (11, .int (nI 5))]) hx hb dL_isSame_375 hl (by decide) rfl (fun ls hl => ?_)
                                    refine lv_iload hx hb dL_isSame_377 (lv_at hl 0 rfl) ?_
                                    refine g_zret (v := 1) hx hb hr hlk hP hK hD hS (Nat.le_of_ble_eq_true rfl) (Nat.le_of_ble_eq_true rfl) dL_isSame_379 (by decide +kernel) ?_
                                    exact ⟨_, rfl, rfl, hCL⟩
                        · refine lv_if_eq (tgt := 291) hx hb dL_isSame_284 (by decide) (fun c_284 => ?_) (fun c_284 => ?_)
                          · refine lv_iconst (v := 0) hx hb dL_isSame_291 (by decide) ?_
                            exact hJ_292 _ (by first | exact c_284.symm | exact ((mStab_01 _ _).resolve_left c_284).symm)
                          · refine lv_iconst (v := 1) hx hb dL_isSame_287 (by decide) ?_
                            refine lv_goto (tgt := 292) hx hb dL_isSame_288 (by decide) ?_
                            exact hJ_292 _ (by first | exact c_284.symm | exact ((mStab_01 _ _).resolve_left c_284).symm)
                    · have c_224 : j < 5 := g_nle (a := 5) (b := j) c_224 (by omega) (by omega)
                      refine lv_iload hx hb dL_isSame_227 (lv_at hl 1 rfl) ?_
                      refine lv_if_eq (tgt := 266) hx hb dL_isSame_229 (by decide) (fun c_229 => ?_) (fun c_229 => ?_)
                      · exact absurd c_229 (by decide)
                      · refine lv_aload_n hx hb dL_isSame_232 rfl (lv_at hl 2 rfl) ?_
                        refine lv_iload hx hb dL_isSame_233 (lv_at hl 0 rfl) ?_
                        refine lv_iload hx hb dL_isSame_235 (lv_at hl 11 rfl) ?_
                        have hPc := hP.part (X := [(kc, .inl (cI, 40, .inl fc)), (kq, .inl (cI, 4, .inl mo)), (ku, .inl (cI, 16, .inl mu)), (kt, .inl (cI, 32, .inl tf)), (kp, .inl (cI, 64, .inl mp)), (km, .inl (cI, 4, .inl (mF N C K Y)))]) (cx := []) [] rfl
                        have hDc := hD.part (X := [(kc, .inl (cI, 40, .inl fc)), (kq, .inl (cI, 4, .inl mo)), (ku, .inl (cI, 16, .inl mu)), (kt, .inl (cI, 32, .inl tf)), (kp, .inl (cI, 64, .inl mp)), (km, .inl (cI, 4, .inl (mF N C K Y)))]) (cx := []) [] (by decide) rfl
                        have hFc := va_freeP (X := [(kc, .inl (cI, 40, .inl fc)), (kq, .inl (cI, 4, .inl mo)), (ku, .inl (cI, 16, .inl mu)), (kt, .inl (cI, 32, .inl tf)), (kp, .inl (cI, 64, .inl mp)), (km, .inl (cI, 4, .inl (mF N C K Y)))]) (cx := []) hD hS hA [] rfl
                        refine g_Vi (As := [.int (nI J), .int (nI j)]) (rest := []) CF (c3_X6_of l hfl D cI cJ cO df H.size t0 w9 N mc ms mw C mo K mu Y rw0 tf qf mp (nI J) (nI j) hCL hW (k_two (k_sec hJN hN8) (k_in (n := 9) (by omega) (by decide)))) (cwV 2 hts gL_isSame_X6_of rfl rfl rfl (by decide +kernel) ⟨Nat.le_of_ble_eq_true rfl, Nat.le_of_ble_eq_true rfl⟩) (cls_recv (X := [(kc, .inl (cI, 40, .inl fc)), (kq, .inl (cI, 4, .inl mo)), (ku, .inl (cI, 16, .inl mu)), (kt, .inl (cI, 32, .inl tf)), (kp, .inl (cI, 64, .inl mp)), (km, .inl (cI, 4, .inl (mF N C K Y)))]) hCL hK hP) hPc hK hDc hV hH hS hFc rfl hl.1 rfl (Nat.le_of_ble_eq_true rfl) dL_isSame_237 ⟨show 30 + 6 * j + 6 ≤ 150 by omega, show 200 + 40 * j + 40 ≤ 1000 by omega⟩ (fun r_237 w1 H1 locs1 hq hP1 hD1 hk hS hz => ?_)
                        obtain ⟨w7, ew_237, hq_237⟩ := hq
                        rw [ew_237] at hP1 hD1
                        obtain ⟨hP, hD⟩ := g_joinP (X := [(kc, .inl (cI, 40, .inl fc)), (kq, .inl (cI, 4, .inl mo)), (ku, .inl (cI, 16, .inl mu)), (kt, .inl (cI, 32, .inl tf)), (kp, .inl (cI, 64, .inl mp)), (km, .inl (cI, 4, .inl (mF N C K Y)))]) (cx := []) (rx := []) (X' := [(kc, .inl (cI, 40, .inl fc)), (kq, .inl (cI, 4, .inl mo)), (ku, .inl (cI, 16, .inl mu)), (kt, .inl (cI, 32, .inl tf)), (kp, .inl (cI, 64, .inl mp)), (km, .inl (cI, 4, .inl (mF N C K Y)))]) hP hD hk hFc hP1 hD1 [] [0, 1, 2, 3, 4, 5] [0, 1, 2, 3, 4, 5] rfl rfl (by decide) (by decide) (by decide) rfl
                        clear hPc hDc hFc hP1 hD1 hk hz
                        generalize H1 = H at hP hS ⊢
                        have hP : va_P D ccl (([(kc, .inl (cI, 40, .inl fc)), (kq, .inl (cI, 4, .inl mo)), (ku, .inl (cI, 16, .inl mu)), (kt, .inl (cI, 32, .inl tf)), (kp, .inl (cI, 64, .inl mp)), (km, .inl (cI, 4, .inl (mF N C K Y)))] : va_W) ++ w7) H := hP
                        have hD : va_D A (([(kc, .inl (cI, 40, .inl fc)), (kq, .inl (cI, 4, .inl mo)), (ku, .inl (cI, 16, .inl mu)), (kt, .inl (cI, 32, .inl tf)), (kp, .inl (cI, 64, .inl mp)), (km, .inl (cI, 4, .inl (mF N C K Y)))] : va_W) ++ w7) := hD
                        obtain ⟨hCL, hq_237⟩ := hq_237
                        have er_237 : r_237 = mc (5 * J + j) := by
                          have e1 : gN (nI J) = J := gN_nI (by omega)
                          have e2 : gN (nI (j)) = j := gN_nI (by omega)
                          have h9 := hq_237
                          rw [e1, e2] at h9
                          (repeat (first | rw [if_pos (by omega)] at h9 | rw [if_neg (by omega)] at h9))
                          exact h9.trans rfl
                        refine lv_aload_n hx hb dL_isSame_240 rfl (lv_at hl 3 rfl) ?_
                        refine lv_bipush (v := 10) hx hb dL_isSame_241 (by decide) ?_
                        refine lv_iload hx hb dL_isSame_243 (lv_at hl 0 rfl) ?_
                        refine lv_imul hx hb dL_isSame_245 ?_
                        refine lv_topi (fun f ef => ?_)
                        obtain rfl : f = nI (10 * J) := ef.trans (pk_mul _ _)
                        refine lv_iload hx hb dL_isSame_246 (lv_at hl 11 rfl) ?_
                        refine lv_iadd hx hb dL_isSame_248 ?_
                        refine lv_topi (fun f ef => ?_)
                        obtain rfl : f = nI ((10 * J) + j) := ef.trans (nI_add _ _)
                        refine va_iald hx hb hK hP 0 0 rfl rfl (vp_in_nI (by omega) (by omega)) dL_isSame_249 ?_
                        refine lv_topi (fun f ef => ?_)
                        obtain rfl : f = fc ((10 * J) + j) := ef.trans (congrArg fc (nI_clamp (n := (10 * J) + j) (by omega)))
                        refine lv_topi (fun f ef => ?_)
                        obtain rfl : f = mc (5 * J + j) := ef.trans ((hR J hJ4).1 j c_224)
                        refine lv_icmp_ne (tgt := 257) hx hb dL_isSame_250 (by decide) (fun c_250 => ?_) (fun c_250 => ?_)
                        · exact absurd er_237 c_250
                        · refine lv_iconst (v := 1) hx hb dL_isSame_253 (by decide) ?_
                          refine lv_goto (tgt := 258) hx hb dL_isSame_254 (by decide) ?_
                          refine lv_istore (lv' := [(8, .int 1), (9, .int (nI J)), (0, .ref t0), (1, .ref kc), (2, .ref kq), (3, .ref ku), (4, .ref kt), (5, .ref kp), (6, .ref km), (7, .int (nI Z)), (10, .int (lastAt mo (nI J) C)), (11, .int (nI j))]) hx hb dL_isSame_258 hl (by decide) rfl (fun ls hl => ?_)
                          refine lv_iinc (v := nI (j + 1)) (lv' := [(11, .int (nI (j + 1))), (8, .int 1), (9, .int (nI J)), (0, .ref t0), (1, .ref kc), (2, .ref kq), (3, .ref ku), (4, .ref kt), (5, .ref kp), (6, .ref km), (7, .int (nI Z)), (10, .int (lastAt mo (nI J) C))]) hx hb dL_isSame_260 hl (k := 11) rfl (by exact nI_1 _) (by decide) rfl (fun ls hl => ?_)
                          refine lv_goto (tgt := 221) hx hb dL_isSame_263 (by decide) ?_
                          refine W.widen (k := 30 + 6 * (j + 1)) (n := 200 + 40 * (j + 1)) (show 30 + 6 * j + 6 ≤ _ by omega) (show 200 + 40 * j + 40 ≤ _ by omega) ?_
                          exact ih_221 (j + 1, w7) _ _ _ (show (j + 1) ≤ 5 ∧ CLS cI cJ cO df t0 w7 N mc ms mw C mo K mu Y rw0 tf qf from (by exact ⟨c_224, hCL⟩)) (show 5 - (j + 1) < 5 - j by omega) hP hD hS (lv_sub hl [2, 1, 3, 4, 5, 6, 7, 8, 9, 10, 11, 0] rfl)
                  · have c_191 : j < C := g_nle (a := C) (b := j) c_191 (by omega) (by omega)
                    refine lv_aload_n hx hb dL_isSame_194 rfl (lv_at hl 4 rfl) ?_
                    refine lv_iload hx hb dL_isSame_195 (lv_at hl 11 rfl) ?_
                    refine va_iald hx hb hK hP 1 0 rfl rfl (vp_in_nI (by omega) (by omega)) dL_isSame_197 ?_
                    refine lv_topi (fun f ef => ?_)
                    obtain rfl : f = mo j := ef.trans (congrArg mo (nI_clamp (n := j) (by omega)))
                    refine lv_iload hx hb dL_isSame_198 (lv_at hl 0 rfl) ?_
                    refine g_phii (ls := ls) (J := 210) (st1 := []) (REL := fun v9 => v9 = lastAt mo (nI J) (j + 1)) (fun v9 hb_210 => ?_) (fun hJ_210 => ?_)
                    · subst hb_210
                      refine lv_istore (lv' := [(10, .int (lastAt mo (nI J) (j + 1))), (9, .int (nI J)), (8, .int 1), (0, .ref t0), (1, .ref kc), (2, .ref kq), (3, .ref ku), (4, .ref kt), (5, .ref kp), (6, .ref km), (7, .int (nI Z)), (11, .int (nI j))]) hx hb dL_isSame_210 hl (by decide) rfl (fun ls hl => ?_)
                      refine lv_iinc (v := nI (j + 1)) (lv' := [(11, .int (nI (j + 1))), (10, .int (lastAt mo (nI J) (j + 1))), (9, .int (nI J)), (8, .int 1), (0, .ref t0), (1, .ref kc), (2, .ref kq), (3, .ref ku), (4, .ref kt), (5, .ref kp), (6, .ref km), (7, .int (nI Z))]) hx hb dL_isSame_212 hl (k := 11) rfl (by exact nI_1 _) (by decide) rfl (fun ls hl => ?_)
                      refine lv_goto (tgt := 185) hx hb dL_isSame_215 (by decide) ?_
                      refine W.widen (k := 30) (n := 200) (Nat.le_refl _) (Nat.le_refl _) ?_
                      exact ih_185 (j + 1) _ _ _ (show (j + 1) ≤ C from (by exact c_191)) (show C - (j + 1) < C - j by omega) hP hD hS (lv_sub hl [2, 3, 4, 5, 6, 7, 8, 9, 10, 11, 1, 0] rfl)
                    · refine lv_icmp_ne (tgt := 208) hx hb dL_isSame_200 (by decide) (fun c_200 => ?_) (fun c_200 => ?_)
                      · refine lv_iload hx hb dL_isSame_208 (lv_at hl 10 rfl) ?_
                        exact hJ_210 _ (by show _ = (if mo j = nI J then nI j else lastAt mo (nI J) j); first | rw [if_neg c_200] | rw [if_pos c_200])
                      · refine lv_iload hx hb dL_isSame_203 (lv_at hl 11 rfl) ?_
                        refine lv_goto (tgt := 210) hx hb dL_isSame_205 (by decide) ?_
                        exact hJ_210 _ (by show _ = (if mo j = nI J then nI j else lastAt mo (nI J) j); first | rw [if_neg c_200] | rw [if_pos c_200])
  · refine lv_icmp_ge (tgt := 31) hx hb dL_isSame_18 (by decide) (fun c_18 => ?_) (fun c_18 => ?_)
    · have c_18 : K ≤ Z % 17 := g_le (a := K) (b := Z % 17) c_18 (by omega) (by omega)
      refine lv_iconst (v := 0) hx hb dL_isSame_31 (by decide) ?_
      exact hJ_32 _ (by first | rw [if_pos c_18] | rw [if_neg (by omega)])
    · have c_18 : Z % 17 < K := g_nle (a := K) (b := Z % 17) c_18 (by omega) (by omega)
      refine lv_aload_n hx hb dL_isSame_21 rfl (lv_at hl 3 rfl) ?_
      refine lv_iload hx hb dL_isSame_22 (lv_at hl 7 rfl) ?_
      refine lv_bipush (v := 17) hx hb dL_isSame_24 (by decide) ?_
      refine lv_irem hx hb dL_isSame_26 (by decide) ?_
      refine lv_topi (fun f ef => ?_)
      obtain rfl : f = nI (Z % 17) := ef.trans (pk_rem (a := Z) (d := 17) (by omega) (by omega) (by omega))
      refine va_iald hx hb hK hP 2 0 rfl rfl (vp_in_nI (by omega) (by omega)) dL_isSame_27 ?_
      refine lv_topi (fun f ef => ?_)
      obtain rfl : f = mu (Z % 17) := ef.trans (congrArg mu (nI_clamp (n := Z % 17) (by omega)))
      refine lv_goto (tgt := 32) hx hb dL_isSame_28 (by decide) ?_
      exact hJ_32 _ (by first | rw [if_pos c_18] | rw [if_neg (by omega)])
