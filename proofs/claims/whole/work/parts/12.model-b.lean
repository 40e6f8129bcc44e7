set_option maxHeartbeats 4000000 in
set_option maxRecDepth 100000 in
theorem c_X7_isSection (l : Launch) (D : va_G) (cI cJ cO : ClassId) (df sz : Nat) (M : Nat → Nat) (mc : Nat → Int32) (ms : Nat → Int32) (mw : Nat → Int32) (mo : Nat → Int32) (mh : Int32) (mu : Nat → Int32) (mk : Int32) (mt : Nat → Int32) (mq : Nat → Int32) (mp : Nat → Int32) (my : Int32) (mf : Nat → Int32) (ma : Nat → Int32) (cy : Int32) (lo : Int32) (gr : Int32) (ov : Int64) (un : Int64) (la : Int32) (N : Nat) (j : Int32) (hN : N ≤ 8) : MetI l yX7_isSection wsX7_isSection ({ frames := 1, cells := 0, slots := 0, locals := 22 } : Room) D (gTY cI cJ cO) df (mW cI M mc ms mw (nI N) mo mh mu mk mt mq mp my mf ma cy lo gr ov un la) sz [.ref (M 0), .int j] (fun (r : Int32) (w : va_W) => w = mW cI M mc ms mw (nI N) mo mh mu mk mt mq mp my mf ma cy lo gr ov un la ∧ r = isSec N j) := by
  refine g_of (cc := cX7_isSection) (nL := 2) (ret := (some .boolean)) (D := D) (TY := (gTY cI cJ cO)) (df := df) (Qc := fun A => va_Qi (fun (r : Int32) (w : va_W) => w = mW cI M mc ms mw (nI N) mo mh mu mk mt mq mp my mf ma cy lo gr ov un la ∧ r = isSec N j) (gB D (gTY cI cJ cO) A) A) (by decide +kernel) rfl (Nat.le_of_ble_eq_true rfl) ?_
  intro p e s m below meth c ls A hsz C0 hin hl
  obtain ⟨CF, hr, hlk, hA, hS, hP, hK, hD, hV, hH⟩ := C0
  have CF : CallFix p m c cX7_isSection 2 s _ wsX7_isSection RX7 := CF
  obtain ⟨hx, hb, hml, hown, hts⟩ := id CF
  subst hsz
  have hfieldLink_RX7_45 : (Cond.fieldLink RX7 45 "TapLoomModel" "sections" "I").before _ s = true := hts _ (List.mem_of_getElem? (i := 1) rfl)
  have hmethodLink_RX7_48 : (Cond.methodLink RX7 48 yX7_in).before _ s = true := hts _ (List.mem_of_getElem? (i := 2) rfl)
  have inX7 : ∀ w ∈ u_ws RX7 TX7 20, w ∈ wsX7_isSection := fun w h => (List.mem_cons_of_mem _ (List.mem_append_right _ h))
  have hP : va_P D ccl (mW cI M mc ms mw (nI N) mo mh mu mk mt mq mp my mf ma cy lo gr ov un la) s.heap := hP
  have hl : lv_has ls 2 [(0, .ref (M 0)), (1, .int j)] := hl
  refine lv_iload_n hx hb dX7_isSection_0 rfl (lv_at hl 1 rfl) ?_
  refine lv_iconst (v := 0) hx hb dX7_isSection_1 (by decide) ?_
  refine lv_aload_n hx hb dX7_isSection_2 rfl (lv_at hl 0 rfl) ?_
  refine va_get (D := D) (ci := 8) (v := .int (nI N)) (C := RX7) (T := TX7) (N := 20) hx hb hts inX7 hown hK hP 0 rfl rfl 3 (by decide) hfieldLink_RX7_45 (fun _ h9 => h9) rfl dX7_isSection_3 ?_
  refine lv_iconst (v := 1) hx hb dX7_isSection_6 (by decide) ?_
  refine lv_isub hx hb dX7_isSection_7 ?_
  have hPc : va_P D ccl [] s.heap := fun k q h => by simp at h
  have hDc : va_D A [] := ⟨fun i j p q h => by simp at h, fun k q h => by simp at h⟩
  have hFc := va_free (wc := []) hD hS hA [] rfl
  refine g_Si (As := [.int j, .int 0, .int ((nI N) - 1)]) (rest := []) CF (c_X7_in l D cI cJ cO df s.heap.size j 0 ((nI N) - 1) ) (va_cwS 3 hts gX7_isSection_X7_in rfl rfl rfl (by decide +kernel) ⟨Nat.le_of_ble_eq_true rfl, Nat.le_of_ble_eq_true rfl⟩)  hPc hK hDc hV hH hS hFc rfl hl.1 rfl (Nat.le_of_ble_eq_true rfl) dX7_isSection_8 ⟨Nat.le_of_ble_eq_true rfl, Nat.le_of_ble_eq_true rfl⟩ (fun r_8 w1 H1 locs1 hq hP1 hD1 hk hS hz => ?_)
  obtain ⟨rfl, hr_8⟩ := hq
  have hP := g_keep0 hP hk
  clear hPc hDc hFc hP1 hD1 hk hz
  generalize H1 = H at hP hS ⊢
  have hP : va_P D ccl (mW cI M mc ms mw (nI N) mo mh mu mk mt mq mp my mf ma cy lo gr ov un la) H := hP
  have hD : va_D A (mW cI M mc ms mw (nI N) mo mh mu mk mt mq mp my mf ma cy lo gr ov un la) := hD
  subst hr_8
  refine g_zret (v := isIn j 0 ((nI N) - 1)) hx hb hr hlk hP hK hD hS (Nat.le_of_ble_eq_true rfl) (Nat.le_of_ble_eq_true rfl) dX7_isSection_11 (by rw [isSec_eq hN]; unfold isSec; split <;> (try split) <;> rfl) ?_
  exact ⟨rfl, isSec_eq hN j⟩

set_option maxHeartbeats 4000000 in
set_option maxRecDepth 100000 in
theorem c_X7_section (l : Launch) (D : va_G) (cI cJ cO : ClassId) (df sz : Nat) (M : Nat → Nat) (mc : Nat → Int32) (ms : Nat → Int32) (mw : Nat → Int32) (mo : Nat → Int32) (mh : Int32) (mu : Nat → Int32) (mk : Int32) (mt : Nat → Int32) (mq : Nat → Int32) (mp : Nat → Int32) (my : Int32) (mf : Nat → Int32) (ma : Nat → Int32) (cy : Int32) (lo : Int32) (gr : Int32) (ov : Int64) (un : Int64) (la : Int32) (N : Nat) (way : Int32) (hN : N ≤ 8) : MetI l yX7_section wsX7_section ({ frames := 1, cells := 0, slots := 0, locals := 23 } : Room) D (gTY cI cJ cO) df (mW cI M mc ms mw (nI N) mo mh mu mk mt mq mp my mf ma cy lo gr ov un la) sz [.ref (M 0), .int way] (fun (r : Int32) (w : va_W) => ∃ (c1 : Nat → Int32), ∃ (w1 : Nat → Int32), ∃ (n1 : Int32), w = mW cI M c1 ms w1 n1 mo mh mu mk mt mq mp my mf ma cy lo gr ov un (gGo (isIn way 0 2) (if N < 8 then 1 else 0) 1) ∧ (gGo (isIn way 0 2) (if N < 8 then 1 else 0) 1 = 0 → N < 8 ∧ c1 = upd mc (5 * N) 64 ∧ w1 = upd mw N way ∧ n1 = nI (N + 1) ∧ r = nI N) ∧ (¬ gGo (isIn way 0 2) (if N < 8 then 1 else 0) 1 = 0 → c1 = mc ∧ w1 = mw ∧ n1 = nI N)) := by
  refine g_of (cc := cX7_section) (nL := 2) (ret := (some .int)) (D := D) (TY := (gTY cI cJ cO)) (df := df) (Qc := fun A => va_Qi (fun (r : Int32) (w : va_W) => ∃ (c1 : Nat → Int32), ∃ (w1 : Nat → Int32), ∃ (n1 : Int32), w = mW cI M c1 ms w1 n1 mo mh mu mk mt mq mp my mf ma cy lo gr ov un (gGo (isIn way 0 2) (if N < 8 then 1 else 0) 1) ∧ (gGo (isIn way 0 2) (if N < 8 then 1 else 0) 1 = 0 → N < 8 ∧ c1 = upd mc (5 * N) 64 ∧ w1 = upd mw N way ∧ n1 = nI (N + 1) ∧ r = nI N) ∧ (¬ gGo (isIn way 0 2) (if N < 8 then 1 else 0) 1 = 0 → c1 = mc ∧ w1 = mw ∧ n1 = nI N)) (gB D (gTY cI cJ cO) A) A) (by decide +kernel) rfl (Nat.le_of_ble_eq_true rfl) ?_
  intro p e s m below meth c ls A hsz C0 hin hl
  obtain ⟨CF, hr, hlk, hA, hS, hP, hK, hD, hV, hH⟩ := C0
  have CF : CallFix p m c cX7_section 2 s _ wsX7_section RX7 := CF
  obtain ⟨hx, hb, hml, hown, hts⟩ := id CF
  subst hsz
  have hmethodLink_RX7_48 : (Cond.methodLink RX7 48 yX7_in).before _ s = true := hts _ (List.mem_of_getElem? (i := 4) rfl)
  have hfieldLink_RX7_45 : (Cond.fieldLink RX7 45 "TapLoomModel" "sections" "I").before _ s = true := hts _ (List.mem_of_getElem? (i := 1) rfl)
  have hmethodLink_RX7_52 : (Cond.methodLink RX7 52 yX7_goes).before _ s = true := hts _ (List.mem_of_getElem? (i := 8) rfl)
  have hfieldLink_RX7_7 : (Cond.fieldLink RX7 7 "TapLoomModel" "coefficients" "[I").before _ s = true := hts _ (List.mem_of_getElem? (i := 2) rfl)
  have hfieldLink_RX7_16 : (Cond.fieldLink RX7 16 "TapLoomModel" "ways" "[I").before _ s = true := hts _ (List.mem_of_getElem? (i := 3) rfl)
  have inX7 : ∀ w ∈ u_ws RX7 TX7 20, w ∈ wsX7_section := fun w h => (List.mem_cons_of_mem _ (List.mem_append_right _ h))
  have hP : va_P D ccl (mW cI M mc ms mw (nI N) mo mh mu mk mt mq mp my mf ma cy lo gr ov un la) s.heap := hP
  have hl : lv_has ls 2 [(0, .ref (M 0)), (1, .int way)] := hl
  refine lv_aload_n hx hb dX7_section_0 rfl (lv_at hl 0 rfl) ?_
  refine lv_iload_n hx hb dX7_section_1 rfl (lv_at hl 1 rfl) ?_
  refine lv_iconst (v := 0) hx hb dX7_section_2 (by decide) ?_
  refine lv_iconst (v := 2) hx hb dX7_section_3 (by decide) ?_
  have hPc : va_P D ccl [] s.heap := fun k q h => by simp at h
  have hDc : va_D A [] := ⟨fun i j p q h => by simp at h, fun k q h => by simp at h⟩
  have hFc := va_free (wc := []) hD hS hA [] rfl
  refine g_Si (As := [.int way, .int 0, .int 2]) (rest := [.ref (M 0)]) CF (c_X7_in l D cI cJ cO df s.heap.size way 0 2 ) (va_cwS 3 hts gX7_section_X7_in rfl rfl rfl (by decide +kernel) ⟨Nat.le_of_ble_eq_true rfl, Nat.le_of_ble_eq_true rfl⟩)  hPc hK hDc hV hH hS hFc rfl hl.1 rfl (Nat.le_of_ble_eq_true rfl) dX7_section_4 ⟨Nat.le_of_ble_eq_true rfl, Nat.le_of_ble_eq_true rfl⟩ (fun r_4 w1 H1 locs1 hq hP1 hD1 hk hS hz => ?_)
  obtain ⟨rfl, hr_4⟩ := hq
  have hP := g_keep0 hP hk
  clear hPc hDc hFc hP1 hD1 hk hz
  generalize H1 = H at hP hS ⊢
  have hP : va_P D ccl (mW cI M mc ms mw (nI N) mo mh mu mk mt mq mp my mf ma cy lo gr ov un la) H := hP
  have hD : va_D A (mW cI M mc ms mw (nI N) mo mh mu mk mt mq mp my mf ma cy lo gr ov un la) := hD
  subst hr_4
  refine lv_aload_n hx hb dX7_section_7 rfl (lv_at hl 0 rfl) ?_
  refine va_get (D := D) (ci := 8) (v := .int (nI N)) (C := RX7) (T := TX7) (N := 20) hx hb hts inX7 hown hK hP 0 rfl rfl 3 (by decide) hfieldLink_RX7_45 (fun _ h9 => h9) rfl dX7_section_8 ?_
  refine lv_bipush (v := 8) hx hb dX7_section_11 (by decide) ?_
  refine g_phii (ls := ls) (J := 21) (st1 := [.int (isIn way 0 2), .ref (M 0)]) (REL := fun b => b = if N < 8 then (1 : Int32) else 0) (fun b hb_21 => ?_) (fun hJ_21 => ?_)
  · subst hb_21
    refine lv_iconst (v := 1) hx hb dX7_section_21 (by decide) ?_
    have hPc := hP.sub (ws' := [(M 0, .inr (8, [.ref (M 1), .ref (M 2), .ref (M 3), .int (nI N), .ref (M 4), .int mh, .ref (M 5), .int mk, .ref (M 6), .ref (M 7), .ref (M 8), .int my, .ref (M 9), .ref (M 10), .int cy, .int lo, .int gr, .long ov, .long un, .int la])), (M 1, .inl (cI, 40, .inl mc)), (M 2, .inl (cI, 32, .inl ms)), (M 3, .inl (cI, 8, .inl mw)), (M 4, .inl (cI, 8, .inl mo)), (M 5, .inl (cI, 16, .inl mu)), (M 6, .inl (cI, 32, .inl mt)), (M 7, .inl (cI, 32, .inl mq)), (M 8, .inl (cI, 64, .inl mp)), (M 9, .inl (cI, 40401, .inl mf)), (M 10, .inl (cI, 40401, .inl ma))]) [0, 1, 2, 3, 4, 5, 6, 7, 8, 9, 10] rfl
    have hDc := hD.sub (ws' := [(M 0, .inr (8, [.ref (M 1), .ref (M 2), .ref (M 3), .int (nI N), .ref (M 4), .int mh, .ref (M 5), .int mk, .ref (M 6), .ref (M 7), .ref (M 8), .int my, .ref (M 9), .ref (M 10), .int cy, .int lo, .int gr, .long ov, .long un, .int la])), (M 1, .inl (cI, 40, .inl mc)), (M 2, .inl (cI, 32, .inl ms)), (M 3, .inl (cI, 8, .inl mw)), (M 4, .inl (cI, 8, .inl mo)), (M 5, .inl (cI, 16, .inl mu)), (M 6, .inl (cI, 32, .inl mt)), (M 7, .inl (cI, 32, .inl mq)), (M 8, .inl (cI, 64, .inl mp)), (M 9, .inl (cI, 40401, .inl mf)), (M 10, .inl (cI, 40401, .inl ma))]) [0, 1, 2, 3, 4, 5, 6, 7, 8, 9, 10] (by decide) rfl
    have hFc := va_free (wc := [(M 0, .inr (8, [.ref (M 1), .ref (M 2), .ref (M 3), .int (nI N), .ref (M 4), .int mh, .ref (M 5), .int mk, .ref (M 6), .ref (M 7), .ref (M 8), .int my, .ref (M 9), .ref (M 10), .int cy, .int lo, .int gr, .long ov, .long un, .int la])), (M 1, .inl (cI, 40, .inl mc)), (M 2, .inl (cI, 32, .inl ms)), (M 3, .inl (cI, 8, .inl mw)), (M 4, .inl (cI, 8, .inl mo)), (M 5, .inl (cI, 16, .inl mu)), (M 6, .inl (cI, 32, .inl mt)), (M 7, .inl (cI, 32, .inl mq)), (M 8, .inl (cI, 64, .inl mp)), (M 9, .inl (cI, 40401, .inl mf)), (M 10, .inl (cI, 40401, .inl ma))]) hD hS hA [0, 1, 2, 3, 4, 5, 6, 7, 8, 9, 10] rfl
    refine g_Vi (As := [.int (isIn way 0 2), .int (if N < 8 then (1 : Int32) else 0), .int 1]) (rest := []) CF (c_X7_goes l D cI cJ cO df H.size M mc ms mw (nI N) mo mh mu mk mt mq mp my mf ma cy lo gr ov un la (isIn way 0 2) (if N < 8 then (1 : Int32) else 0) 1 ) (cwV 3 hts gX7_section_X7_goes rfl rfl rfl (by decide +kernel) ⟨Nat.le_of_ble_eq_true rfl, Nat.le_of_ble_eq_true rfl⟩) (va_recv hK hP (ci := 8) (q0 := 0) rfl rfl) hPc hK hDc hV hH hS hFc rfl hl.1 rfl (Nat.le_of_ble_eq_true rfl) dX7_section_22 ⟨Nat.le_of_ble_eq_true rfl, Nat.le_of_ble_eq_true rfl⟩ (fun r_22 w1 H1 locs1 hq hP1 hD1 hk hS hz => ?_)
    obtain ⟨rfl, hr_22⟩ := hq
    obtain ⟨hP, hD⟩ := g_join (ws' := (mW cI M mc ms mw (nI N) mo mh mu mk mt mq mp my mf ma cy lo gr ov un (gGo (isIn way 0 2) (if N < 8 then (1 : Int32) else 0) 1))) hP hD hk hFc hP1 hD1 [0, 1, 2, 3, 4, 5, 6, 7, 8, 9, 10] [] [0, 1, 2, 3, 4, 5, 6, 7, 8, 9, 10] rfl rfl (by decide) (by decide) (by decide) rfl
    clear hPc hDc hFc hP1 hD1 hk hz
    generalize H1 = H at hP hS ⊢
    have hP : va_P D ccl (mW cI M mc ms mw (nI N) mo mh mu mk mt mq mp my mf ma cy lo gr ov un (gGo (isIn way 0 2) (if N < 8 then (1 : Int32) else 0) 1)) H := hP
    have hD : va_D A (mW cI M mc ms mw (nI N) mo mh mu mk mt mq mp my mf ma cy lo gr ov un (gGo (isIn way 0 2) (if N < 8 then (1 : Int32) else 0) 1)) := hD
    subst hr_22
    refine lv_if_ne (tgt := 30) hx hb dX7_section_25 (by decide) (fun c_25 => ?_) (fun c_25 => ?_)
    · have c_25 : gGo (isIn way 0 2) (if N < 8 then (1 : Int32) else 0) 1 = 0 := g_b1 c_25
      have hN8 : N < 8 := g_b1 (gGo_0 c_25).2.1
      refine lv_aload_n hx hb dX7_section_30 rfl (lv_at hl 0 rfl) ?_
      refine va_get (D := D) (ci := 8) (v := .ref (M 1)) (C := RX7) (T := TX7) (N := 20) hx hb hts inX7 hown hK hP 0 rfl rfl 0 (by decide) hfieldLink_RX7_7 (fun _ h9 => h9) rfl dX7_section_31 ?_
      refine lv_iconst (v := 5) hx hb dX7_section_34 (by decide) ?_
      refine lv_aload_n hx hb dX7_section_35 rfl (lv_at hl 0 rfl) ?_
      refine va_get (D := D) (ci := 8) (v := .int (nI N)) (C := RX7) (T := TX7) (N := 20) hx hb hts inX7 hown hK hP 0 rfl rfl 3 (by decide) hfieldLink_RX7_45 (fun _ h9 => h9) rfl dX7_section_36 ?_
      refine lv_imul hx hb dX7_section_39 ?_
      refine lv_topi (fun f ef => ?_)
      obtain rfl : f = nI (5 * N) := ef.trans (pk_mul _ _)
      refine lv_bipush (v := 64) hx hb dX7_section_40 (by decide) ?_
      refine va_iast hx hb hK hP hD hS 1 0 rfl rfl (vp_in_nI (by omega) (by omega)) dX7_section_42 (fun H locs hP hD hS => ?_)
      rw [show (nI (5 * N)).toNatClampNeg = 5 * N from (nI_clamp (by omega))] at hP hD
      have hP : va_P D ccl (mW cI M (upd mc (5 * N) 64) ms mw (nI N) mo mh mu mk mt mq mp my mf ma cy lo gr ov un (gGo (isIn way 0 2) (if N < 8 then (1 : Int32) else 0) 1)) H := hP
      have hD : va_D A (mW cI M (upd mc (5 * N) 64) ms mw (nI N) mo mh mu mk mt mq mp my mf ma cy lo gr ov un (gGo (isIn way 0 2) (if N < 8 then (1 : Int32) else 0) 1)) := hD
      refine lv_aload_n hx hb dX7_section_43 rfl (lv_at hl 0 rfl) ?_
      refine va_get (D := D) (ci := 8) (v := .ref (M 3)) (C := RX7) (T := TX7) (N := 20) hx hb hts inX7 hown hK hP 0 rfl rfl 2 (by decide) hfieldLink_RX7_16 (fun _ h9 => h9) rfl dX7_section_44 ?_
      refine lv_aload_n hx hb dX7_section_47 rfl (lv_at hl 0 rfl) ?_
      refine va_get (D := D) (ci := 8) (v := .int (nI N)) (C := RX7) (T := TX7) (N := 20) hx hb hts inX7 hown hK hP 0 rfl rfl 3 (by decide) hfieldLink_RX7_45 (fun _ h9 => h9) rfl dX7_section_48 ?_
      refine lv_iload_n hx hb dX7_section_51 rfl (lv_at hl 1 rfl) ?_
      refine va_iast hx hb hK hP hD hS 3 0 rfl rfl (vp_in_nI (by omega) (by omega)) dX7_section_52 (fun H locs hP hD hS => ?_)
      rw [show (nI N).toNatClampNeg = N from (nI_clamp (by omega))] at hP hD
      have hP : va_P D ccl (mW cI M (upd mc (5 * N) 64) ms (upd mw N way) (nI N) mo mh mu mk mt mq mp my mf ma cy lo gr ov un (gGo (isIn way 0 2) (if N < 8 then (1 : Int32) else 0) 1)) H := hP
      have hD : va_D A (mW cI M (upd mc (5 * N) 64) ms (upd mw N way) (nI N) mo mh mu mk mt mq mp my mf ma cy lo gr ov un (gGo (isIn way 0 2) (if N < 8 then (1 : Int32) else 0) 1)) := hD
      refine lv_aload_n hx hb dX7_section_53 rfl (lv_at hl 0 rfl) ?_
      refine lv_dup hx hb dX7_section_54 rfl ?_
      refine va_get (D := D) (ci := 8) (v := .int (nI N)) (C := RX7) (T := TX7) (N := 20) hx hb hts inX7 hown hK hP 0 rfl rfl 3 (by decide) hfieldLink_RX7_45 (fun _ h9 => h9) rfl dX7_section_55 ?_
      refine lv_iconst (v := 1) hx hb dX7_section_58 (by decide) ?_
      refine lv_iadd hx hb dX7_section_59 ?_
      refine lv_topi (fun f ef => ?_)
      obtain rfl : f = nI (N + 1) := ef.trans (nI_add _ _)
      refine va_put (D := D) (ci := 8) (v := .int (nI (N + 1))) (ty := .int) (C := RX7) (T := TX7) (N := 20) hx hb hts inX7 tyX7 tyX7_ok nmX7 hown hK hP hD hS 0 rfl rfl 3 (by decide) hfieldLink_RX7_45 (fun _ h9 => h9) rfl (by decide +kernel) rfl rfl (Nat.le_of_ble_eq_true rfl) dX7_section_60 (fun H locs hP hD hS => ?_)
      have hP : va_P D ccl (mW cI M (upd mc (5 * N) 64) ms (upd mw N way) (nI (N + 1)) mo mh mu mk mt mq mp my mf ma cy lo gr ov un (gGo (isIn way 0 2) (if N < 8 then (1 : Int32) else 0) 1)) H := hP
      have hD : va_D A (mW cI M (upd mc (5 * N) 64) ms (upd mw N way) (nI (N + 1)) mo mh mu mk mt mq mp my mf ma cy lo gr ov un (gGo (isIn way 0 2) (if N < 8 then (1 : Int32) else 0) 1)) := hD
      refine lv_aload_n hx hb dX7_section_63 rfl (lv_at hl 0 rfl) ?_
      refine va_get (D := D) (ci := 8) (v := .int (nI (N + 1))) (C := RX7) (T := TX7) (N := 20) hx hb hts inX7 hown hK hP 0 rfl rfl 3 (by decide) hfieldLink_RX7_45 (fun _ h9 => h9) rfl dX7_section_64 ?_
      refine lv_iconst (v := 1) hx hb dX7_section_67 (by decide) ?_
      refine lv_isub hx hb dX7_section_68 ?_
      refine lv_topi (fun f ef => ?_)
      obtain rfl : f = nI N := ef.trans (nI_pred N)
      refine g_iret (v := nI N) hx hb hr hlk hP hK hD hS (Nat.le_of_ble_eq_true rfl) (Nat.le_of_ble_eq_true rfl) dX7_section_69 ?_
      exact ⟨_, _, _, rfl, fun _ => ⟨hN8, rfl, rfl, rfl, rfl⟩, fun h => absurd c_25 h⟩
    · have c_25 : ¬ (gGo (isIn way 0 2) (if N < 8 then (1 : Int32) else 0) 1 = 0) := g_b0 c_25
      refine lv_iconst (v := 0) hx hb dX7_section_28 (by decide) ?_
      refine g_iret (v := 0) hx hb hr hlk hP hK hD hS (Nat.le_of_ble_eq_true rfl) (Nat.le_of_ble_eq_true rfl) dX7_section_29 ?_
      exact ⟨_, _, _, rfl, fun h => absurd h c_25, fun _ => ⟨rfl, rfl, rfl⟩⟩
  · refine lv_icmp_ge (tgt := 20) hx hb dX7_section_13 (by decide) (fun c_13 => ?_) (fun c_13 => ?_)
    · have c_13 : 8 ≤ N := g_le (a := 8) (b := N) c_13 (by omega) (by omega)
      refine lv_iconst (v := 0) hx hb dX7_section_20 (by decide) ?_
      exact hJ_21 _ (by first | rw [if_pos (by omega)] | rw [if_neg (by omega)])
    · have c_13 : N < 8 := g_nle (a := 8) (b := N) c_13 (by omega) (by omega)
      refine lv_iconst (v := 1) hx hb dX7_section_16 (by decide) ?_
      refine lv_goto (tgt := 21) hx hb dX7_section_17 (by decide) ?_
      exact hJ_21 _ (by first | rw [if_pos (by omega)] | rw [if_neg (by omega)])

set_option maxHeartbeats 4000000 in
set_option maxRecDepth 100000 in
theorem c_X7_set (l : Launch) (D : va_G) (cI cJ cO : ClassId) (df sz : Nat) (M : Nat → Nat) (mc : Nat → Int32) (ms : Nat → Int32) (mw : Nat → Int32) (mo : Nat → Int32) (mh : Int32) (mu : Nat → Int32) (mk : Int32) (mt : Nat → Int32) (mq : Nat → Int32) (mp : Nat → Int32) (my : Int32) (mf : Nat → Int32) (ma : Nat → Int32) (cy : Int32) (lo : Int32) (gr : Int32) (ov : Int64) (un : Int64) (la : Int32) (N : Nat) (j : Int32) (wh : Int32) (v : Int32) (hN : N ≤ 8) : MetI l yX7_set wsX7_set ({ frames := 2, cells := 0, slots := 0, locals := 43 } : Room) D (gTY cI cJ cO) df (mW cI M mc ms mw (nI N) mo mh mu mk mt mq mp my mf ma cy lo gr ov un la) sz [.ref (M 0), .int j, .int wh, .int v] (fun (r : Int32) (w : va_W) => ∃ (c1 : Nat → Int32), w = mW cI M c1 ms mw (nI N) mo mh mu mk mt mq mp my mf ma cy lo gr ov un (gGo (isSec N j) (if isIn wh 0 4 = 0 then 0 else isIn v (-127) 127) 1) ∧ (gGo (isSec N j) (if isIn wh 0 4 = 0 then 0 else isIn v (-127) 127) 1 = 0 → c1 = upd mc (5 * gN j + gN wh) v ∧ r = mc (5 * gN j + gN wh)) ∧ (¬ gGo (isSec N j) (if isIn wh 0 4 = 0 then 0 else isIn v (-127) 127) 1 = 0 → c1 = mc)) := by
  refine g_of (cc := cX7_set) (nL := 5) (ret := (some .int)) (D := D) (TY := (gTY cI cJ cO)) (df := df) (Qc := fun A => va_Qi (fun (r : Int32) (w : va_W) => ∃ (c1 : Nat → Int32), w = mW cI M c1 ms mw (nI N) mo mh mu mk mt mq mp my mf ma cy lo gr ov un (gGo (isSec N j) (if isIn wh 0 4 = 0 then 0 else isIn v (-127) 127) 1) ∧ (gGo (isSec N j) (if isIn wh 0 4 = 0 then 0 else isIn v (-127) 127) 1 = 0 → c1 = upd mc (5 * gN j + gN wh) v ∧ r = mc (5 * gN j + gN wh)) ∧ (¬ gGo (isSec N j) (if isIn wh 0 4 = 0 then 0 else isIn v (-127) 127) 1 = 0 → c1 = mc)) (gB D (gTY cI cJ cO) A) A) (by decide +kernel) rfl (Nat.le_of_ble_eq_true rfl) ?_
  intro p e s m below meth c ls A hsz C0 hin hl
  obtain ⟨CF, hr, hlk, hA, hS, hP, hK, hD, hV, hH⟩ := C0
  have CF : CallFix p m c cX7_set 5 s _ wsX7_set RX7 := CF
  obtain ⟨hx, hb, hml, hown, hts⟩ := id CF
  subst hsz
  have hmethodLink_RX7_56 : (Cond.methodLink RX7 56 yX7_isSection).before _ s = true := hts _ (List.mem_of_getElem? (i := 2) rfl)
  have hmethodLink_RX7_48 : (Cond.methodLink RX7 48 yX7_in).before _ s = true := hts _ (List.mem_of_getElem? (i := 8) rfl)
  have hmethodLink_RX7_52 : (Cond.methodLink RX7 52 yX7_goes).before _ s = true := hts _ (List.mem_of_getElem? (i := 11) rfl)
  have hfieldLink_RX7_7 : (Cond.fieldLink RX7 7 "TapLoomModel" "coefficients" "[I").before _ s = true := hts _ (List.mem_of_getElem? (i := 1) rfl)
  have inX7 : ∀ w ∈ u_ws RX7 TX7 20, w ∈ wsX7_set := fun w h => (List.mem_cons_of_mem _ (List.mem_append_right _ h))
  have hP : va_P D ccl (mW cI M mc ms mw (nI N) mo mh mu mk mt mq mp my mf ma cy lo gr ov un la) s.heap := hP
  have hl : lv_has ls 5 [(0, .ref (M 0)), (1, .int j), (2, .int wh), (3, .int v)] := hl
  refine lv_aload_n hx hb dX7_set_0 rfl (lv_at hl 0 rfl) ?_
  refine lv_aload_n hx hb dX7_set_1 rfl (lv_at hl 0 rfl) ?_
  refine lv_iload_n hx hb dX7_set_2 rfl (lv_at hl 1 rfl) ?_
  have hPc := hP.sub (ws' := [(M 0, .inr (8, [.ref (M 1), .ref (M 2), .ref (M 3), .int (nI N), .ref (M 4), .int mh, .ref (M 5), .int mk, .ref (M 6), .ref (M 7), .ref (M 8), .int my, .ref (M 9), .ref (M 10), .int cy, .int lo, .int gr, .long ov, .long un, .int la])), (M 1, .inl (cI, 40, .inl mc)), (M 2, .inl (cI, 32, .inl ms)), (M 3, .inl (cI, 8, .inl mw)), (M 4, .inl (cI, 8, .inl mo)), (M 5, .inl (cI, 16, .inl mu)), (M 6, .inl (cI, 32, .inl mt)), (M 7, .inl (cI, 32, .inl mq)), (M 8, .inl (cI, 64, .inl mp)), (M 9, .inl (cI, 40401, .inl mf)), (M 10, .inl (cI, 40401, .inl ma))]) [0, 1, 2, 3, 4, 5, 6, 7, 8, 9, 10] rfl
  have hDc := hD.sub (ws' := [(M 0, .inr (8, [.ref (M 1), .ref (M 2), .ref (M 3), .int (nI N), .ref (M 4), .int mh, .ref (M 5), .int mk, .ref (M 6), .ref (M 7), .ref (M 8), .int my, .ref (M 9), .ref (M 10), .int cy, .int lo, .int gr, .long ov, .long un, .int la])), (M 1, .inl (cI, 40, .inl mc)), (M 2, .inl (cI, 32, .inl ms)), (M 3, .inl (cI, 8, .inl mw)), (M 4, .inl (cI, 8, .inl mo)), (M 5, .inl (cI, 16, .inl mu)), (M 6, .inl (cI, 32, .inl mt)), (M 7, .inl (cI, 32, .inl mq)), (M 8, .inl (cI, 64, .inl mp)), (M 9, .inl (cI, 40401, .inl mf)), (M 10, .inl (cI, 40401, .inl ma))]) [0, 1, 2, 3, 4, 5, 6, 7, 8, 9, 10] (by decide) rfl
  have hFc := va_free (wc := [(M 0, .inr (8, [.ref (M 1), .ref (M 2), .ref (M 3), .int (nI N), .ref (M 4), .int mh, .ref (M 5), .int mk, .ref (M 6), .ref (M 7), .ref (M 8), .int my, .ref (M 9), .ref (M 10), .int cy, .int lo, .int gr, .long ov, .long un, .int la])), (M 1, .inl (cI, 40, .inl mc)), (M 2, .inl (cI, 32, .inl ms)), (M 3, .inl (cI, 8, .inl mw)), (M 4, .inl (cI, 8, .inl mo)), (M 5, .inl (cI, 16, .inl mu)), (M 6, .inl (cI, 32, .inl mt)), (M 7, .inl (cI, 32, .inl mq)), (M 8, .inl (cI, 64, .inl mp)), (M 9, .inl (cI, 40401, .inl mf)), (M 10, .inl (cI, 40401, .inl ma))]) hD hS hA [0, 1, 2, 3, 4, 5, 6, 7, 8, 9, 10] rfl
  refine g_Vi (As := [.int j]) (rest := [.ref (M 0)]) CF (c_X7_isSection l D cI cJ cO df s.heap.size M mc ms mw mo mh mu mk mt mq mp my mf ma cy lo gr ov un la N j (by omega)) (cwV 1 hts gX7_set_X7_isSection rfl rfl rfl (by decide +kernel) ⟨Nat.le_of_ble_eq_true rfl, Nat.le_of_ble_eq_true rfl⟩) (va_recv hK hP (ci := 8) (q0 := 0) rfl rfl) hPc hK hDc hV hH hS hFc rfl hl.1 rfl (Nat.le_of_ble_eq_true rfl) dX7_set_3 ⟨Nat.le_of_ble_eq_true rfl, Nat.le_of_ble_eq_true rfl⟩ (fun r_3 w1 H1 locs1 hq hP1 hD1 hk hS hz => ?_)
  obtain ⟨rfl, hr_3⟩ := hq
  have hP := g_keepR hP hD [0, 1, 2, 3, 4, 5, 6, 7, 8, 9, 10] rfl hk hP1
  clear hPc hDc hFc hP1 hD1 hk hz
  generalize H1 = H at hP hS ⊢
  have hP : va_P D ccl (mW cI M mc ms mw (nI N) mo mh mu mk mt mq mp my mf ma cy lo gr ov un la) H := hP
  have hD : va_D A (mW cI M mc ms mw (nI N) mo mh mu mk mt mq mp my mf ma cy lo gr ov un la) := hD
  subst hr_3
  refine lv_iload_n hx hb dX7_set_6 rfl (lv_at hl 2 rfl) ?_
  refine lv_iconst (v := 0) hx hb dX7_set_7 (by decide) ?_
  refine lv_iconst (v := 4) hx hb dX7_set_8 (by decide) ?_
  have hPc : va_P D ccl [] H := fun k q h => by simp at h
  have hDc : va_D A [] := ⟨fun i j p q h => by simp at h, fun k q h => by simp at h⟩
  have hFc := va_free (wc := []) hD hS hA [] rfl
  refine g_Si (As := [.int wh, .int 0, .int 4]) (rest := [.int (isSec N j), .ref (M 0)]) CF (c_X7_in l D cI cJ cO df H.size wh 0 4 ) (va_cwS 3 hts gX7_set_X7_in rfl rfl rfl (by decide +kernel) ⟨Nat.le_of_ble_eq_true rfl, Nat.le_of_ble_eq_true rfl⟩)  hPc hK hDc hV hH hS hFc rfl hl.1 rfl (Nat.le_of_ble_eq_true rfl) dX7_set_9 ⟨Nat.le_of_ble_eq_true rfl, Nat.le_of_ble_eq_true rfl⟩ (fun r_9 w1 H1 locs1 hq hP1 hD1 hk hS hz => ?_)
  obtain ⟨rfl, hr_9⟩ := hq
  have hP := g_keep0 hP hk
  clear hPc hDc hFc hP1 hD1 hk hz
  generalize H1 = H at hP hS ⊢
  have hP : va_P D ccl (mW cI M mc ms mw (nI N) mo mh mu mk mt mq mp my mf ma cy lo gr ov un la) H := hP
  have hD : va_D A (mW cI M mc ms mw (nI N) mo mh mu mk mt mq mp my mf ma cy lo gr ov un la) := hD
  subst hr_9
  refine g_phiHi (ls := ls) (J := 31) (st1 := [.int (isSec N j), .ref (M 0)]) (REL := fun b => b = if isIn wh 0 4 = 0 then 0 else isIn v (-127) 127) (D := D) (A := A) (H0 := s.heap) (Ws := (mW cI M mc ms mw (nI N) mo mh mu mk mt mq mp my mf ma cy lo gr ov un la)) (fun b H locs hb_31 hP hD hS => ?_) (fun hJ_31 => ?_)
  · subst hb_31
    refine lv_iconst (v := 1) hx hb dX7_set_31 (by decide) ?_
    have hPc := hP.sub (ws' := [(M 0, .inr (8, [.ref (M 1), .ref (M 2), .ref (M 3), .int (nI N), .ref (M 4), .int mh, .ref (M 5), .int mk, .ref (M 6), .ref (M 7), .ref (M 8), .int my, .ref (M 9), .ref (M 10), .int cy, .int lo, .int gr, .long ov, .long un, .int la])), (M 1, .inl (cI, 40, .inl mc)), (M 2, .inl (cI, 32, .inl ms)), (M 3, .inl (cI, 8, .inl mw)), (M 4, .inl (cI, 8, .inl mo)), (M 5, .inl (cI, 16, .inl mu)), (M 6, .inl (cI, 32, .inl mt)), (M 7, .inl (cI, 32, .inl mq)), (M 8, .inl (cI, 64, .inl mp)), (M 9, .inl (cI, 40401, .inl mf)), (M 10, .inl (cI, 40401, .inl ma))]) [0, 1, 2, 3, 4, 5, 6, 7, 8, 9, 10] rfl
    have hDc := hD.sub (ws' := [(M 0, .inr (8, [.ref (M 1), .ref (M 2), .ref (M 3), .int (nI N), .ref (M 4), .int mh, .ref (M 5), .int mk, .ref (M 6), .ref (M 7), .ref (M 8), .int my, .ref (M 9), .ref (M 10), .int cy, .int lo, .int gr, .long ov, .long un, .int la])), (M 1, .inl (cI, 40, .inl mc)), (M 2, .inl (cI, 32, .inl ms)), (M 3, .inl (cI, 8, .inl mw)), (M 4, .inl (cI, 8, .inl mo)), (M 5, .inl (cI, 16, .inl mu)), (M 6, .inl (cI, 32, .inl mt)), (M 7, .inl (cI, 32, .inl mq)), (M 8, .inl (cI, 64, .inl mp)), (M 9, .inl (cI, 40401, .inl mf)), (M 10, .inl (cI, 40401, .inl ma))]) [0, 1, 2, 3, 4, 5, 6, 7, 8, 9, 10] (by decide) rfl
    have hFc := va_free (wc := [(M 0, .inr (8, [.ref (M 1), .ref (M 2), .ref (M 3), .int (nI N), .ref (M 4), .int mh, .ref (M 5), .int mk, .ref (M 6), .ref (M 7), .ref (M 8), .int my, .ref (M 9), .ref (M 10), .int cy, .int lo, .int gr, .long ov, .long un, .int la])), (M 1, .inl (cI, 40, .inl mc)), (M 2, .inl (cI, 32, .inl ms)), (M 3, .inl (cI, 8, .inl mw)), (M 4, .inl (cI, 8, .inl mo)), (M 5, .inl (cI, 16, .inl mu)), (M 6, .inl (cI, 32, .inl mt)), (M 7, .inl (cI, 32, .inl mq)), (M 8, .inl (cI, 64, .inl mp)), (M 9, .inl (cI, 40401, .inl mf)), (M 10, .inl (cI, 40401, .inl ma))]) hD hS hA [0, 1, 2, 3, 4, 5, 6, 7, 8, 9, 10] rfl
    refine g_Vi (As := [.int (isSec N j), .int (if isIn wh 0 4 = 0 then 0 else isIn v (-127) 127), .int 1]) (rest := []) CF (c_X7_goes l D cI cJ cO df H.size M mc ms mw (nI N) mo mh mu mk mt mq mp my mf ma cy lo gr ov un la (isSec N j) (if isIn wh 0 4 = 0 then 0 else isIn v (-127) 127) 1 ) (cwV 3 hts gX7_set_X7_goes rfl rfl rfl (by decide +kernel) ⟨Nat.le_of_ble_eq_true rfl, Nat.le_of_ble_eq_true rfl⟩) (va_recv hK hP (ci := 8) (q0 := 0) rfl rfl) hPc hK hDc hV hH hS hFc rfl hl.1 rfl (Nat.le_of_ble_eq_true rfl) dX7_set_32 ⟨Nat.le_of_ble_eq_true rfl, Nat.le_of_ble_eq_true rfl⟩ (fun r_32 w1 H1 locs1 hq hP1 hD1 hk hS hz => ?_)
    obtain ⟨rfl, hr_32⟩ := hq
    obtain ⟨hP, hD⟩ := g_join (ws' := (mW cI M mc ms mw (nI N) mo mh mu mk mt mq mp my mf ma cy lo gr ov un (gGo (isSec N j) (if isIn wh 0 4 = 0 then 0 else isIn v (-127) 127) 1))) hP hD hk hFc hP1 hD1 [0, 1, 2, 3, 4, 5, 6, 7, 8, 9, 10] [] [0, 1, 2, 3, 4, 5, 6, 7, 8, 9, 10] rfl rfl (by decide) (by decide) (by decide) rfl
    clear hPc hDc hFc hP1 hD1 hk hz
    generalize H1 = H at hP hS ⊢
    have hP : va_P D ccl (mW cI M mc ms mw (nI N) mo mh mu mk mt mq mp my mf ma cy lo gr ov un (gGo (isSec N j) (if isIn wh 0 4 = 0 then 0 else isIn v (-127) 127) 1)) H := hP
    have hD : va_D A (mW cI M mc ms mw (nI N) mo mh mu mk mt mq mp my mf ma cy lo gr ov un (gGo (isSec N j) (if isIn wh 0 4 = 0 then 0 else isIn v (-127) 127) 1)) := hD
    subst hr_32
    refine lv_if_ne (tgt := 40) hx hb dX7_set_35 (by decide) (fun c_35 => ?_) (fun c_35 => ?_)
    · have c_35 : gGo (isSec N j) (if isIn wh 0 4 = 0 then 0 else isIn v (-127) 127) 1 = 0 := g_b1 c_35
      have hv0 := gGo_0 c_35
      obtain ⟨J, hJ, rfl⟩ := isSec_get hN hv0.1
      have hw0 : ¬ isIn wh 0 4 = 0 := fun h => hv0.2.1 (by rw [if_pos h])
      obtain ⟨w0, hw1, rfl⟩ := isIn_nat 4 (by decide) hw0
      refine lv_aload_n hx hb dX7_set_40 rfl (lv_at hl 0 rfl) ?_
      refine va_get (D := D) (ci := 8) (v := .ref (M 1)) (C := RX7) (T := TX7) (N := 20) hx hb hts inX7 hown hK hP 0 rfl rfl 0 (by decide) hfieldLink_RX7_7 (fun _ h9 => h9) rfl dX7_set_41 ?_
      refine lv_iconst (v := 5) hx hb dX7_set_44 (by decide) ?_
      refine lv_iload_n hx hb dX7_set_45 rfl (lv_at hl 1 rfl) ?_
      refine lv_imul hx hb dX7_set_46 ?_
      refine lv_topi (fun f ef => ?_)
      obtain rfl : f = nI (5 * J) := ef.trans (pk_mul _ _)
      refine lv_iload_n hx hb dX7_set_47 rfl (lv_at hl 2 rfl) ?_
      refine lv_iadd hx hb dX7_set_48 ?_
      refine lv_topi (fun f ef => ?_)
      obtain rfl : f = nI ((5 * J) + w0) := ef.trans (nI_add _ _)
      refine va_iald hx hb hK hP 1 0 rfl rfl (vp_in_nI (by omega) (by omega)) dX7_set_49 ?_
      refine lv_topi (fun f ef => ?_)
      obtain rfl : f = mc ((5 * J) + w0) := ef.trans (congrArg mc (nI_clamp (n := (5 * J) + w0) (by omega)))
      refine lv_istore (lv' := [(4, .int (mc ((5 * J) + w0))), (0, .ref (M 0)), (1, .int (nI J)), (2, .int (nI w0)), (3, .int v)]) hx hb dX7_set_50 hl (by decide) rfl (fun ls hl => ?_)
      refine lv_aload_n hx hb dX7_set_52 rfl (lv_at hl 1 rfl) ?_
      refine va_get (D := D) (ci := 8) (v := .ref (M 1)) (C := RX7) (T := TX7) (N := 20) hx hb hts inX7 hown hK hP 0 rfl rfl 0 (by decide) hfieldLink_RX7_7 (fun _ h9 => h9) rfl dX7_set_53 ?_
      refine lv_iconst (v := 5) hx hb dX7_set_56 (by decide) ?_
      refine lv_iload_n hx hb dX7_set_57 rfl (lv_at hl 2 rfl) ?_
      refine lv_imul hx hb dX7_set_58 ?_
      refine lv_topi (fun f ef => ?_)
      obtain rfl : f = nI (5 * J) := ef.trans (pk_mul _ _)
      refine lv_iload_n hx hb dX7_set_59 rfl (lv_at hl 3 rfl) ?_
      refine lv_iadd hx hb dX7_set_60 ?_
      refine lv_topi (fun f ef => ?_)
      obtain rfl : f = nI ((5 * J) + w0) := ef.trans (nI_add _ _)
      refine lv_iload_n hx hb dX7_set_61 rfl (lv_at hl 4 rfl) ?_
      refine va_iast hx hb hK hP hD hS 1 0 rfl rfl (vp_in_nI (by omega) (by omega)) dX7_set_62 (fun H locs hP hD hS => ?_)
      rw [show (nI ((5 * J) + w0)).toNatClampNeg = (5 * J) + w0 from (nI_clamp (by omega))] at hP hD
      have hP : va_P D ccl (mW cI M (upd mc ((5 * J) + w0) v) ms mw (nI N) mo mh mu mk mt mq mp my mf ma cy lo gr ov un (gGo (isSec N (nI J)) (if isIn (nI w0) 0 4 = 0 then 0 else isIn v (-127) 127) 1)) H := hP
      have hD : va_D A (mW cI M (upd mc ((5 * J) + w0) v) ms mw (nI N) mo mh mu mk mt mq mp my mf ma cy lo gr ov un (gGo (isSec N (nI J)) (if isIn (nI w0) 0 4 = 0 then 0 else isIn v (-127) 127) 1)) := hD
      refine lv_iload hx hb dX7_set_63 (lv_at hl 0 rfl) ?_
      refine g_iret (v := mc ((5 * J) + w0)) hx hb hr hlk hP hK hD hS (Nat.le_of_ble_eq_true rfl) (Nat.le_of_ble_eq_true rfl) dX7_set_65 ?_
      exact ⟨_, rfl, fun _ => ⟨by rw [gN_nI (by omega), gN_nI (by omega)], by rw [gN_nI (by omega), gN_nI (by omega)]⟩, fun h => absurd c_35 h⟩
    · have c_35 : ¬ (gGo (isSec N j) (if isIn wh 0 4 = 0 then 0 else isIn v (-127) 127) 1 = 0) := g_b0 c_35
      refine lv_iconst (v := 0) hx hb dX7_set_38 (by decide) ?_
      refine g_iret (v := 0) hx hb hr hlk hP hK hD hS (Nat.le_of_ble_eq_true rfl) (Nat.le_of_ble_eq_true rfl) dX7_set_39 ?_
      exact ⟨_, rfl, fun h => absurd h c_35, fun _ => rfl⟩
  · refine lv_if_eq (tgt := 30) hx hb dX7_set_12 (by decide) (fun c_12 => ?_) (fun c_12 => ?_)
    · refine lv_iconst (v := 0) hx hb dX7_set_30 (by decide) ?_
      exact hJ_31 _ _ _ (by simp [c_12]) hP hD hS
    · refine lv_iload_n hx hb dX7_set_15 rfl (lv_at hl 3 rfl) ?_
      refine lv_bipush (v := (-127)) hx hb dX7_set_16 (by decide) ?_
      refine lv_bipush (v := 127) hx hb dX7_set_18 (by decide) ?_
      have hPc : va_P D ccl [] H := fun k q h => by simp at h
      have hDc : va_D A [] := ⟨fun i j p q h => by simp at h, fun k q h => by simp at h⟩
      have hFc := va_free (wc := []) hD hS hA [] rfl
      refine g_Si (As := [.int v, .int (-127), .int 127]) (rest := [.int (isSec N j), .ref (M 0)]) CF (c_X7_in l D cI cJ cO df H.size v (-127) 127 ) (va_cwS 3 hts gX7_set_X7_in rfl rfl rfl (by decide +kernel) ⟨Nat.le_of_ble_eq_true rfl, Nat.le_of_ble_eq_true rfl⟩)  hPc hK hDc hV hH hS hFc rfl hl.1 rfl (Nat.le_of_ble_eq_true rfl) dX7_set_20 ⟨Nat.le_of_ble_eq_true rfl, Nat.le_of_ble_eq_true rfl⟩ (fun r_20 w1 H1 locs1 hq hP1 hD1 hk hS hz => ?_)
      obtain ⟨rfl, hr_20⟩ := hq
      have hP := g_keep0 hP hk
      clear hPc hDc hFc hP1 hD1 hk hz
      generalize H1 = H at hP hS ⊢
      have hP : va_P D ccl (mW cI M mc ms mw (nI N) mo mh mu mk mt mq mp my mf ma cy lo gr ov un la) H := hP
      have hD : va_D A (mW cI M mc ms mw (nI N) mo mh mu mk mt mq mp my mf ma cy lo gr ov un la) := hD
      subst hr_20
      refine lv_if_eq (tgt := 30) hx hb dX7_set_23 (by decide) (fun c_23 => ?_) (fun c_23 => ?_)
      · refine lv_iconst (v := 0) hx hb dX7_set_30 (by decide) ?_
        exact hJ_31 _ _ _ (by first | (simp [c_12, c_23]; done) | exact ((if_neg c_12).trans ((isIn_01 _ _ _).resolve_left c_23)).symm) hP hD hS
      · refine lv_iconst (v := 1) hx hb dX7_set_26 (by decide) ?_
        refine lv_goto (tgt := 31) hx hb dX7_set_27 (by decide) ?_
        exact hJ_31 _ _ _ (by first | (simp [c_12, c_23]; done) | exact ((if_neg c_12).trans ((isIn_01 _ _ _).resolve_left c_23)).symm) hP hD hS

set_option maxHeartbeats 4000000 in
set_option maxRecDepth 100000 in
theorem c_X7_placeOf (l : Launch) (D : va_G) (cI cJ cO : ClassId) (df sz : Nat) (M : Nat → Nat) (mc : Nat → Int32) (ms : Nat → Int32) (mw : Nat → Int32) (mn : Int32) (mo : Nat → Int32) (mu : Nat → Int32) (mk : Int32) (mt : Nat → Int32) (mq : Nat → Int32) (mp : Nat → Int32) (my : Int32) (mf : Nat → Int32) (ma : Nat → Int32) (cy : Int32) (lo : Int32) (gr : Int32) (ov : Int64) (un : Int64) (la : Int32) (C : Nat) (j : Int32) (hC : C ≤ 8) : MetI l yX7_placeOf wsX7_placeOf ({ frames := 0, cells := 0, slots := 0, locals := 0 } : Room) D (gTY cI cJ cO) df (mW cI M mc ms mw mn mo (nI C) mu mk mt mq mp my mf ma cy lo gr ov un la) sz [.ref (M 0), .int j] (fun (r : Int32) (w : va_W) => w = mW cI M mc ms mw mn mo (nI C) mu mk mt mq mp my mf ma cy lo gr ov un la ∧ r = lastAt mo j C) := by
  refine g_of (cc := cX7_placeOf) (nL := 4) (ret := (some .int)) (D := D) (TY := (gTY cI cJ cO)) (df := df) (Qc := fun A => va_Qi (fun (r : Int32) (w : va_W) => w = mW cI M mc ms mw mn mo (nI C) mu mk mt mq mp my mf ma cy lo gr ov un la ∧ r = lastAt mo j C) (gB D (gTY cI cJ cO) A) A) (by decide +kernel) rfl (Nat.le_of_ble_eq_true rfl) ?_
  intro p e s m below meth c ls A hsz C0 hin hl
  obtain ⟨CF, hr, hlk, hA, hS, hP, hK, hD, hV, hH⟩ := C0
  have CF : CallFix p m c cX7_placeOf 4 s _ wsX7_placeOf RX7 := CF
  obtain ⟨hx, hb, hml, hown, hts⟩ := id CF
  subst hsz
  have hfieldLink_RX7_60 : (Cond.fieldLink RX7 60 "TapLoomModel" "chained" "I").before _ s = true := hts _ (List.mem_of_getElem? (i := 1) rfl)
  have hfieldLink_RX7_19 : (Cond.fieldLink RX7 19 "TapLoomModel" "order" "[I").before _ s = true := hts _ (List.mem_of_getElem? (i := 2) rfl)
  have inX7 : ∀ w ∈ u_ws RX7 TX7 20, w ∈ wsX7_placeOf := fun w h => (List.mem_cons_of_mem _ (List.mem_append_right _ h))
  have hP : va_P D ccl (mW cI M mc ms mw mn mo (nI C) mu mk mt mq mp my mf ma cy lo gr ov un la) s.heap := hP
  have hl : lv_has ls 4 [(0, .ref (M 0)), (1, .int j)] := hl
  refine lv_iconst (v := (-1)) hx hb dX7_placeOf_0 (by decide) ?_
  refine lv_istore_n (lv' := [(2, .int (-1)), (0, .ref (M 0)), (1, .int j)]) hx hb dX7_placeOf_1 rfl hl (by decide) rfl (fun ls hl => ?_)
  refine lv_iconst (v := 0) hx hb dX7_placeOf_2 (by decide) ?_
  refine lv_istore_n (lv' := [(3, .int 0), (2, .int (-1)), (0, .ref (M 0)), (1, .int j)]) hx hb dX7_placeOf_3 rfl hl (by decide) rfl (fun ls hl => ?_)
  refine W.widen (k := 0) (n := 0) (Nat.le_refl _) (Nat.le_refl _) ?_
  refine g_while (σ := Nat) (st := []) (nL := 4) (fun i => mW cI M mc ms mw mn mo (nI C) mu mk mt mq mp my mf ma cy lo gr ov un la)
    (fun i => [(0, .ref (M 0)), (1, .int j), (2, .int (lastAt mo j i)), (3, .int (nI i))])
    (fun i => i ≤ C)
    (fun i => C - i) (fun i => 0) (fun i => 0)
    ?_ 0 (Nat.zero_le C) hP hD hS (lv_sub hl [2, 3, 1, 0] rfl)
  intro i hI H locs ls hP hD hS hl ih
  have hI : i ≤ C := hI
  have hP : va_P D ccl (mW cI M mc ms mw mn mo (nI C) mu mk mt mq mp my mf ma cy lo gr ov un la) H := hP
  have hD : va_D A (mW cI M mc ms mw mn mo (nI C) mu mk mt mq mp my mf ma cy lo gr ov un la) := hD
  have hl : lv_has ls 4 [(0, .ref (M 0)), (1, .int j), (2, .int (lastAt mo j i)), (3, .int (nI i))] := hl
  change W p l e _ s m _ below meth c H locs 0 0 _ (F0 m 4 ls [])
  have ih_4 := ih
  clear ih
  refine lv_iload_n hx hb dX7_placeOf_4 rfl (lv_at hl 3 rfl) ?_
  refine lv_aload_n hx hb dX7_placeOf_5 rfl (lv_at hl 0 rfl) ?_
  refine va_get (D := D) (ci := 8) (v := .int (nI C)) (C := RX7) (T := TX7) (N := 20) hx hb hts inX7 hown hK hP 0 rfl rfl 5 (by decide) hfieldLink_RX7_60 (fun _ h9 => h9) rfl dX7_placeOf_6 ?_
  refine lv_icmp_ge (tgt := 34) hx hb dX7_placeOf_9 (by decide) (fun c_9 => ?_) (fun c_9 => ?_)
  · have c_9 : C ≤ i := g_le (a := C) (b := i) c_9 (by omega) (by omega)
    refine lv_iload_n hx hb dX7_placeOf_34 rfl (lv_at hl 2 rfl) ?_
    obtain rfl : i = C := by omega
    refine g_iret (v := lastAt mo j i) hx hb hr hlk hP hK hD hS (Nat.le_of_ble_eq_true rfl) (Nat.le_of_ble_eq_true rfl) dX7_placeOf_35 ?_
    exact ⟨rfl, (by first | rfl | (simp [c_9]; done))⟩
  · have c_9 : i < C := g_nle (a := C) (b := i) c_9 (by omega) (by omega)
    refine lv_aload_n hx hb dX7_placeOf_12 rfl (lv_at hl 0 rfl) ?_
    refine va_get (D := D) (ci := 8) (v := .ref (M 4)) (C := RX7) (T := TX7) (N := 20) hx hb hts inX7 hown hK hP 0 rfl rfl 4 (by decide) hfieldLink_RX7_19 (fun _ h9 => h9) rfl dX7_placeOf_13 ?_
    refine lv_iload_n hx hb dX7_placeOf_16 rfl (lv_at hl 3 rfl) ?_
    refine va_iald hx hb hK hP 4 0 rfl rfl (vp_in_nI (by omega) (by omega)) dX7_placeOf_17 ?_
    refine lv_topi (fun f ef => ?_)
    obtain rfl : f = mo i := ef.trans (congrArg mo (nI_clamp (n := i) (by omega)))
    refine lv_iload_n hx hb dX7_placeOf_18 rfl (lv_at hl 1 rfl) ?_
    refine lv_icmp_ne (tgt := 26) hx hb dX7_placeOf_19 (by decide) (fun c_19 => ?_) (fun c_19 => ?_)
    · refine lv_iload_n hx hb dX7_placeOf_26 rfl (lv_at hl 2 rfl) ?_
      refine lv_topi (fun f ef => ?_)
      obtain rfl : f = lastAt mo j (i + 1) := ef.trans ((by simp [lastAt, c_19]))
      refine lv_istore_n (lv' := [(2, .int (lastAt mo j (i + 1))), (0, .ref (M 0)), (1, .int j), (3, .int (nI i))]) hx hb dX7_placeOf_27 rfl hl (by decide) rfl (fun ls hl => ?_)
      refine lv_iinc (v := nI (i + 1)) (lv' := [(3, .int (nI (i + 1))), (2, .int (lastAt mo j (i + 1))), (0, .ref (M 0)), (1, .int j)]) hx hb dX7_placeOf_28 hl (k := 3) rfl (by exact nI_1 _) (by decide) rfl (fun ls hl => ?_)
      refine lv_goto (tgt := 4) hx hb dX7_placeOf_31 (by decide) ?_
      refine W.widen (k := 0) (n := 0) (Nat.le_refl _) (Nat.le_refl _) ?_
      exact ih_4 (i + 1) _ _ _ (show (i + 1) ≤ C from (by exact c_9)) (show C - (i + 1) < C - i by omega) hP hD hS (lv_sub hl [2, 3, 1, 0] rfl)
    · refine lv_iload_n hx hb dX7_placeOf_22 rfl (lv_at hl 3 rfl) ?_
      refine lv_goto (tgt := 27) hx hb dX7_placeOf_23 (by decide) ?_
      refine lv_topi (fun f ef => ?_)
      obtain rfl : f = lastAt mo j (i + 1) := ef.trans ((by simp [lastAt, c_19]))
      refine lv_istore_n (lv' := [(2, .int (lastAt mo j (i + 1))), (0, .ref (M 0)), (1, .int j), (3, .int (nI i))]) hx hb dX7_placeOf_27 rfl hl (by decide) rfl (fun ls hl => ?_)
      refine lv_iinc (v := nI (i + 1)) (lv' := [(3, .int (nI (i + 1))), (2, .int (lastAt mo j (i + 1))), (0, .ref (M 0)), (1, .int j)]) hx hb dX7_placeOf_28 hl (k := 3) rfl (by exact nI_1 _) (by decide) rfl (fun ls hl => ?_)
      refine lv_goto (tgt := 4) hx hb dX7_placeOf_31 (by decide) ?_
      refine W.widen (k := 0) (n := 0) (Nat.le_refl _) (Nat.le_refl _) ?_
      exact ih_4 (i + 1) _ _ _ (show (i + 1) ≤ C from (by exact c_9)) (show C - (i + 1) < C - i by omega) hP hD hS (lv_sub hl [2, 3, 1, 0] rfl)

set_option maxHeartbeats 4000000 in
set_option maxRecDepth 100000 in
theorem c_X7_tap (l : Launch) (D : va_G) (cI cJ cO : ClassId) (df sz : Nat) (M : Nat → Nat) (mc : Nat → Int32) (ms : Nat → Int32) (mw : Nat → Int32) (mn : Int32) (mo : Nat → Int32) (mh : Int32) (mu : Nat → Int32) (mk : Int32) (mt : Nat → Int32) (mq : Nat → Int32) (mp : Nat → Int32) (my : Int32) (mf : Nat → Int32) (ma : Nat → Int32) (cy : Int32) (lo : Int32) (gr : Int32) (ov : Int64) (un : Int64) (la : Int32) (tp : Int32) (v : Int32)  : MetI l yX7_tap wsX7_tap ({ frames := 1, cells := 0, slots := 0, locals := 23 } : Room) D (gTY cI cJ cO) df (mW cI M mc ms mw mn mo mh mu mk mt mq mp my mf ma cy lo gr ov un la) sz [.ref (M 0), .int tp, .int v] (fun (r : Int32) (w : va_W) => ∃ (a1 : Nat → Int32), w = mW cI M mc ms mw mn mo mh mu mk a1 mq mp my mf ma cy lo gr ov un (gGo (isIn tp 0 31) (isIn v (-96) 96) 1) ∧ (gGo (isIn tp 0 31) (isIn v (-96) 96) 1 = 0 → a1 = upd mt (gN tp) (rs97 v) ∧ r = mt (gN tp)) ∧ (¬ gGo (isIn tp 0 31) (isIn v (-96) 96) 1 = 0 → a1 = mt)) := by
  refine g_of (cc := cX7_tap) (nL := 4) (ret := (some .int)) (D := D) (TY := (gTY cI cJ cO)) (df := df) (Qc := fun A => va_Qi (fun (r : Int32) (w : va_W) => ∃ (a1 : Nat → Int32), w = mW cI M mc ms mw mn mo mh mu mk a1 mq mp my mf ma cy lo gr ov un (gGo (isIn tp 0 31) (isIn v (-96) 96) 1) ∧ (gGo (isIn tp 0 31) (isIn v (-96) 96) 1 = 0 → a1 = upd mt (gN tp) (rs97 v) ∧ r = mt (gN tp)) ∧ (¬ gGo (isIn tp 0 31) (isIn v (-96) 96) 1 = 0 → a1 = mt)) (gB D (gTY cI cJ cO) A) A) (by decide +kernel) rfl (Nat.le_of_ble_eq_true rfl) ?_
  intro p e s m below meth c ls A hsz C0 hin hl
  obtain ⟨CF, hr, hlk, hA, hS, hP, hK, hD, hV, hH⟩ := C0
  have CF : CallFix p m c cX7_tap 4 s _ wsX7_tap RX7 := CF
  obtain ⟨hx, hb, hml, hown, hts⟩ := id CF
  subst hsz
  have hmethodLink_RX7_48 : (Cond.methodLink RX7 48 yX7_in).before _ s = true := hts _ (List.mem_of_getElem? (i := 2) rfl)
  have hmethodLink_RX7_52 : (Cond.methodLink RX7 52 yX7_goes).before _ s = true := hts _ (List.mem_of_getElem? (i := 6) rfl)
  have hfieldLink_RX7_25 : (Cond.fieldLink RX7 25 "TapLoomModel" "taps" "[I").before _ s = true := hts _ (List.mem_of_getElem? (i := 1) rfl)
  have hmethodLink_RX7_87 : (Cond.methodLink RX7 87 yX7_rest).before _ s = true := hts _ (List.mem_of_getElem? (i := 11) rfl)
  have inX7 : ∀ w ∈ u_ws RX7 TX7 20, w ∈ wsX7_tap := fun w h => (List.mem_cons_of_mem _ (List.mem_append_right _ h))
  have hP : va_P D ccl (mW cI M mc ms mw mn mo mh mu mk mt mq mp my mf ma cy lo gr ov un la) s.heap := hP
  have hl : lv_has ls 4 [(0, .ref (M 0)), (1, .int tp), (2, .int v)] := hl
  refine lv_aload_n hx hb dX7_tap_0 rfl (lv_at hl 0 rfl) ?_
  refine lv_iload_n hx hb dX7_tap_1 rfl (lv_at hl 1 rfl) ?_
  refine lv_iconst (v := 0) hx hb dX7_tap_2 (by decide) ?_
  refine lv_bipush (v := 31) hx hb dX7_tap_3 (by decide) ?_
  have hPc : va_P D ccl [] s.heap := fun k q h => by simp at h
  have hDc : va_D A [] := ⟨fun i j p q h => by simp at h, fun k q h => by simp at h⟩
  have hFc := va_free (wc := []) hD hS hA [] rfl
  refine g_Si (As := [.int tp, .int 0, .int 31]) (rest := [.ref (M 0)]) CF (c_X7_in l D cI cJ cO df s.heap.size tp 0 31 ) (va_cwS 3 hts gX7_tap_X7_in rfl rfl rfl (by decide +kernel) ⟨Nat.le_of_ble_eq_true rfl, Nat.le_of_ble_eq_true rfl⟩)  hPc hK hDc hV hH hS hFc rfl hl.1 rfl (Nat.le_of_ble_eq_true rfl) dX7_tap_5 ⟨Nat.le_of_ble_eq_true rfl, Nat.le_of_ble_eq_true rfl⟩ (fun r_5 w1 H1 locs1 hq hP1 hD1 hk hS hz => ?_)
  obtain ⟨rfl, hr_5⟩ := hq
  have hP := g_keep0 hP hk
  clear hPc hDc hFc hP1 hD1 hk hz
  generalize H1 = H at hP hS ⊢
  have hP : va_P D ccl (mW cI M mc ms mw mn mo mh mu mk mt mq mp my mf ma cy lo gr ov un la) H := hP
  have hD : va_D A (mW cI M mc ms mw mn mo mh mu mk mt mq mp my mf ma cy lo gr ov un la) := hD
  subst hr_5
  refine lv_iload_n hx hb dX7_tap_8 rfl (lv_at hl 2 rfl) ?_
  refine lv_bipush (v := (-96)) hx hb dX7_tap_9 (by decide) ?_
  refine lv_bipush (v := 96) hx hb dX7_tap_11 (by decide) ?_
  have hPc : va_P D ccl [] H := fun k q h => by simp at h
  have hDc : va_D A [] := ⟨fun i j p q h => by simp at h, fun k q h => by simp at h⟩
  have hFc := va_free (wc := []) hD hS hA [] rfl
  refine g_Si (As := [.int v, .int (-96), .int 96]) (rest := [.int (isIn tp 0 31), .ref (M 0)]) CF (c_X7_in l D cI cJ cO df H.size v (-96) 96 ) (va_cwS 3 hts gX7_tap_X7_in rfl rfl rfl (by decide +kernel) ⟨Nat.le_of_ble_eq_true rfl, Nat.le_of_ble_eq_true rfl⟩)  hPc hK hDc hV hH hS hFc rfl hl.1 rfl (Nat.le_of_ble_eq_true rfl) dX7_tap_13 ⟨Nat.le_of_ble_eq_true rfl, Nat.le_of_ble_eq_true rfl⟩ (fun r_13 w1 H1 locs1 hq hP1 hD1 hk hS hz => ?_)
  obtain ⟨rfl, hr_13⟩ := hq
  have hP := g_keep0 hP hk
  clear hPc hDc hFc hP1 hD1 hk hz
  generalize H1 = H at hP hS ⊢
  have hP : va_P D ccl (mW cI M mc ms mw mn mo mh mu mk mt mq mp my mf ma cy lo gr ov un la) H := hP
  have hD : va_D A (mW cI M mc ms mw mn mo mh mu mk mt mq mp my mf ma cy lo gr ov un la) := hD
  subst hr_13
  refine lv_iconst (v := 1) hx hb dX7_tap_16 (by decide) ?_
  have hPc := hP.sub (ws' := [(M 0, .inr (8, [.ref (M 1), .ref (M 2), .ref (M 3), .int mn, .ref (M 4), .int mh, .ref (M 5), .int mk, .ref (M 6), .ref (M 7), .ref (M 8), .int my, .ref (M 9), .ref (M 10), .int cy, .int lo, .int gr, .long ov, .long un, .int la])), (M 1, .inl (cI, 40, .inl mc)), (M 2, .inl (cI, 32, .inl ms)), (M 3, .inl (cI, 8, .inl mw)), (M 4, .inl (cI, 8, .inl mo)), (M 5, .inl (cI, 16, .inl mu)), (M 6, .inl (cI, 32, .inl mt)), (M 7, .inl (cI, 32, .inl mq)), (M 8, .inl (cI, 64, .inl mp)), (M 9, .inl (cI, 40401, .inl mf)), (M 10, .inl (cI, 40401, .inl ma))]) [0, 1, 2, 3, 4, 5, 6, 7, 8, 9, 10] rfl
  have hDc := hD.sub (ws' := [(M 0, .inr (8, [.ref (M 1), .ref (M 2), .ref (M 3), .int mn, .ref (M 4), .int mh, .ref (M 5), .int mk, .ref (M 6), .ref (M 7), .ref (M 8), .int my, .ref (M 9), .ref (M 10), .int cy, .int lo, .int gr, .long ov, .long un, .int la])), (M 1, .inl (cI, 40, .inl mc)), (M 2, .inl (cI, 32, .inl ms)), (M 3, .inl (cI, 8, .inl mw)), (M 4, .inl (cI, 8, .inl mo)), (M 5, .inl (cI, 16, .inl mu)), (M 6, .inl (cI, 32, .inl mt)), (M 7, .inl (cI, 32, .inl mq)), (M 8, .inl (cI, 64, .inl mp)), (M 9, .inl (cI, 40401, .inl mf)), (M 10, .inl (cI, 40401, .inl ma))]) [0, 1, 2, 3, 4, 5, 6, 7, 8, 9, 10] (by decide) rfl
  have hFc := va_free (wc := [(M 0, .inr (8, [.ref (M 1), .ref (M 2), .ref (M 3), .int mn, .ref (M 4), .int mh, .ref (M 5), .int mk, .ref (M 6), .ref (M 7), .ref (M 8), .int my, .ref (M 9), .ref (M 10), .int cy, .int lo, .int gr, .long ov, .long un, .int la])), (M 1, .inl (cI, 40, .inl mc)), (M 2, .inl (cI, 32, .inl ms)), (M 3, .inl (cI, 8, .inl mw)), (M 4, .inl (cI, 8, .inl mo)), (M 5, .inl (cI, 16, .inl mu)), (M 6, .inl (cI, 32, .inl mt)), (M 7, .inl (cI, 32, .inl mq)), (M 8, .inl (cI, 64, .inl mp)), (M 9, .inl (cI, 40401, .inl mf)), (M 10, .inl (cI, 40401, .inl ma))]) hD hS hA [0, 1, 2, 3, 4, 5, 6, 7, 8, 9, 10] rfl
  refine g_Vi (As := [.int (isIn tp 0 31), .int (isIn v (-96) 96), .int 1]) (rest := []) CF (c_X7_goes l D cI cJ cO df H.size M mc ms mw mn mo mh mu mk mt mq mp my mf ma cy lo gr ov un la (isIn tp 0 31) (isIn v (-96) 96) 1 ) (cwV 3 hts gX7_tap_X7_goes rfl rfl rfl (by decide +kernel) ⟨Nat.le_of_ble_eq_true rfl, Nat.le_of_ble_eq_true rfl⟩) (va_recv hK hP (ci := 8) (q0 := 0) rfl rfl) hPc hK hDc hV hH hS hFc rfl hl.1 rfl (Nat.le_of_ble_eq_true rfl) dX7_tap_17 ⟨Nat.le_of_ble_eq_true rfl, Nat.le_of_ble_eq_true rfl⟩ (fun r_17 w1 H1 locs1 hq hP1 hD1 hk hS hz => ?_)
  obtain ⟨rfl, hr_17⟩ := hq
  obtain ⟨hP, hD⟩ := g_join (ws' := (mW cI M mc ms mw mn mo mh mu mk mt mq mp my mf ma cy lo gr ov un (gGo (isIn tp 0 31) (isIn v (-96) 96) 1))) hP hD hk hFc hP1 hD1 [0, 1, 2, 3, 4, 5, 6, 7, 8, 9, 10] [] [0, 1, 2, 3, 4, 5, 6, 7, 8, 9, 10] rfl rfl (by decide) (by decide) (by decide) rfl
  clear hPc hDc hFc hP1 hD1 hk hz
  generalize H1 = H at hP hS ⊢
  have hP : va_P D ccl (mW cI M mc ms mw mn mo mh mu mk mt mq mp my mf ma cy lo gr ov un (gGo (isIn tp 0 31) (isIn v (-96) 96) 1)) H := hP
  have hD : va_D A (mW cI M mc ms mw mn mo mh mu mk mt mq mp my mf ma cy lo gr ov un (gGo (isIn tp 0 31) (isIn v (-96) 96) 1)) := hD
  subst hr_17
  refine lv_if_ne (tgt := 25) hx hb dX7_tap_20 (by decide) (fun c_20 => ?_) (fun c_20 => ?_)
  · have c_20 : gGo (isIn tp 0 31) (isIn v (-96) 96) 1 = 0 := g_b1 c_20
    have hv0 := gGo_0 c_20
    obtain ⟨T0, hT0, rfl⟩ := isIn_nat 31 (by decide) hv0.1
    refine lv_aload_n hx hb dX7_tap_25 rfl (lv_at hl 0 rfl) ?_
    refine va_get (D := D) (ci := 8) (v := .ref (M 6)) (C := RX7) (T := TX7) (N := 20) hx hb hts inX7 hown hK hP 0 rfl rfl 8 (by decide) hfieldLink_RX7_25 (fun _ h9 => h9) rfl dX7_tap_26 ?_
    refine lv_iload_n hx hb dX7_tap_29 rfl (lv_at hl 1 rfl) ?_
    refine va_iald hx hb hK hP 6 0 rfl rfl (vp_in_nI (by omega) (by omega)) dX7_tap_30 ?_
    refine lv_topi (fun f ef => ?_)
    obtain rfl : f = mt T0 := ef.trans (congrArg mt (nI_clamp (n := T0) (by omega)))
    refine lv_istore_n (lv' := [(3, .int (mt T0)), (0, .ref (M 0)), (1, .int (nI T0)), (2, .int v)]) hx hb dX7_tap_31 rfl hl (by decide) rfl (fun ls hl => ?_)
    refine lv_aload_n hx hb dX7_tap_32 rfl (lv_at hl 1 rfl) ?_
    refine va_get (D := D) (ci := 8) (v := .ref (M 6)) (C := RX7) (T := TX7) (N := 20) hx hb hts inX7 hown hK hP 0 rfl rfl 8 (by decide) hfieldLink_RX7_25 (fun _ h9 => h9) rfl dX7_tap_33 ?_
    refine lv_iload_n hx hb dX7_tap_36 rfl (lv_at hl 2 rfl) ?_
    refine lv_iload_n hx hb dX7_tap_37 rfl (lv_at hl 3 rfl) ?_
    have hPc : va_P D ccl [] H := fun k q h => by simp at h
    have hDc : va_D A [] := ⟨fun i j p q h => by simp at h, fun k q h => by simp at h⟩
    have hFc := va_free (wc := []) hD hS hA [] rfl
    refine g_Si (As := [.int v]) (rest := [.int (nI T0), .ref (M 6)]) CF (c_X7_rest l D cI cJ cO df H.size v ) (va_cwS 1 hts gX7_tap_X7_rest rfl rfl rfl (by decide +kernel) ⟨Nat.le_of_ble_eq_true rfl, Nat.le_of_ble_eq_true rfl⟩)  hPc hK hDc hV hH hS hFc rfl hl.1 rfl (Nat.le_of_ble_eq_true rfl) dX7_tap_38 ⟨Nat.le_of_ble_eq_true rfl, Nat.le_of_ble_eq_true rfl⟩ (fun r_38 w1 H1 locs1 hq hP1 hD1 hk hS hz => ?_)
    obtain ⟨rfl, hr_38⟩ := hq
    have hP := g_keep0 hP hk
    clear hPc hDc hFc hP1 hD1 hk hz
    generalize H1 = H at hP hS ⊢
    have hP : va_P D ccl (mW cI M mc ms mw mn mo mh mu mk mt mq mp my mf ma cy lo gr ov un (gGo (isIn (nI T0) 0 31) (isIn v (-96) 96) 1)) H := hP
    have hD : va_D A (mW cI M mc ms mw mn mo mh mu mk mt mq mp my mf ma cy lo gr ov un (gGo (isIn (nI T0) 0 31) (isIn v (-96) 96) 1)) := hD
    subst hr_38
    refine va_iast hx hb hK hP hD hS 6 0 rfl rfl (vp_in_nI (by omega) (by omega)) dX7_tap_41 (fun H locs hP hD hS => ?_)
    rw [show (nI T0).toNatClampNeg = T0 from (nI_clamp (by omega))] at hP hD
    have hP : va_P D ccl (mW cI M mc ms mw mn mo mh mu mk (upd mt T0 (rs97 v)) mq mp my mf ma cy lo gr ov un (gGo (isIn (nI T0) 0 31) (isIn v (-96) 96) 1)) H := hP
    have hD : va_D A (mW cI M mc ms mw mn mo mh mu mk (upd mt T0 (rs97 v)) mq mp my mf ma cy lo gr ov un (gGo (isIn (nI T0) 0 31) (isIn v (-96) 96) 1)) := hD
    refine lv_iload_n hx hb dX7_tap_42 rfl (lv_at hl 0 rfl) ?_
    refine g_iret (v := mt T0) hx hb hr hlk hP hK hD hS (Nat.le_of_ble_eq_true rfl) (Nat.le_of_ble_eq_true rfl) dX7_tap_43 ?_
    exact ⟨_, rfl, fun _ => ⟨by rw [gN_nI (by omega)], by rw [gN_nI (by omega)]⟩, fun h => absurd c_20 h⟩
  · have c_20 : ¬ (gGo (isIn tp 0 31) (isIn v (-96) 96) 1 = 0) := g_b0 c_20
    refine lv_iconst (v := 0) hx hb dX7_tap_23 (by decide) ?_
    refine g_iret (v := 0) hx hb hr hlk hP hK hD hS (Nat.le_of_ble_eq_true rfl) (Nat.le_of_ble_eq_true rfl) dX7_tap_24 ?_
    exact ⟨_, rfl, fun h => absurd h c_20, fun _ => rfl⟩

set_option maxHeartbeats 4000000 in
set_option maxRecDepth 100000 in
theorem c_X7_ask (l : Launch) (D : va_G) (cI cJ cO : ClassId) (df sz : Nat) (M : Nat → Nat) (mc : Nat → Int32) (ms : Nat → Int32) (mw : Nat → Int32) (mn : Int32) (mo : Nat → Int32) (mh : Int32) (mu : Nat → Int32) (mk : Int32) (mt : Nat → Int32) (mq : Nat → Int32) (mp : Nat → Int32) (my : Int32) (mf : Nat → Int32) (ma : Nat → Int32) (cy : Int32) (lo : Int32) (gr : Int32) (ov : Int64) (un : Int64) (la : Int32) (tp : Int32) (v : Int32)  : MetI l yX7_ask wsX7_ask ({ frames := 1, cells := 0, slots := 0, locals := 23 } : Room) D (gTY cI cJ cO) df (mW cI M mc ms mw mn mo mh mu mk mt mq mp my mf ma cy lo gr ov un la) sz [.ref (M 0), .int tp, .int v] (fun (r : Int32) (w : va_W) => ∃ (a1 : Nat → Int32), w = mW cI M mc ms mw mn mo mh mu mk mt a1 mp my mf ma cy lo gr ov un (gGo (isIn tp 0 31) (isIn v (-96) 96) 1) ∧ (gGo (isIn tp 0 31) (isIn v (-96) 96) 1 = 0 → a1 = upd mq (gN tp) (rs97 v) ∧ r = mq (gN tp)) ∧ (¬ gGo (isIn tp 0 31) (isIn v (-96) 96) 1 = 0 → a1 = mq)) := by
  refine g_of (cc := cX7_ask) (nL := 4) (ret := (some .int)) (D := D) (TY := (gTY cI cJ cO)) (df := df) (Qc := fun A => va_Qi (fun (r : Int32) (w : va_W) => ∃ (a1 : Nat → Int32), w = mW cI M mc ms mw mn mo mh mu mk mt a1 mp my mf ma cy lo gr ov un (gGo (isIn tp 0 31) (isIn v (-96) 96) 1) ∧ (gGo (isIn tp 0 31) (isIn v (-96) 96) 1 = 0 → a1 = upd mq (gN tp) (rs97 v) ∧ r = mq (gN tp)) ∧ (¬ gGo (isIn tp 0 31) (isIn v (-96) 96) 1 = 0 → a1 = mq)) (gB D (gTY cI cJ cO) A) A) (by decide +kernel) rfl (Nat.le_of_ble_eq_true rfl) ?_
  intro p e s m below meth c ls A hsz C0 hin hl
  obtain ⟨CF, hr, hlk, hA, hS, hP, hK, hD, hV, hH⟩ := C0
  have CF : CallFix p m c cX7_ask 4 s _ wsX7_ask RX7 := CF
  obtain ⟨hx, hb, hml, hown, hts⟩ := id CF
  subst hsz
  have hmethodLink_RX7_48 : (Cond.methodLink RX7 48 yX7_in).before _ s = true := hts _ (List.mem_of_getElem? (i := 2) rfl)
  have hmethodLink_RX7_52 : (Cond.methodLink RX7 52 yX7_goes).before _ s = true := hts _ (List.mem_of_getElem? (i := 6) rfl)
  have hfieldLink_RX7_28 : (Cond.fieldLink RX7 28 "TapLoomModel" "asked" "[I").before _ s = true := hts _ (List.mem_of_getElem? (i := 1) rfl)
  have hmethodLink_RX7_87 : (Cond.methodLink RX7 87 yX7_rest).before _ s = true := hts _ (List.mem_of_getElem? (i := 11) rfl)
  have inX7 : ∀ w ∈ u_ws RX7 TX7 20, w ∈ wsX7_ask := fun w h => (List.mem_cons_of_mem _ (List.mem_append_right _ h))
  have hP : va_P D ccl (mW cI M mc ms mw mn mo mh mu mk mt mq mp my mf ma cy lo gr ov un la) s.heap := hP
  have hl : lv_has ls 4 [(0, .ref (M 0)), (1, .int tp), (2, .int v)] := hl
  refine lv_aload_n hx hb dX7_ask_0 rfl (lv_at hl 0 rfl) ?_
  refine lv_iload_n hx hb dX7_ask_1 rfl (lv_at hl 1 rfl) ?_
  refine lv_iconst (v := 0) hx hb dX7_ask_2 (by decide) ?_
  refine lv_bipush (v := 31) hx hb dX7_ask_3 (by decide) ?_
  have hPc : va_P D ccl [] s.heap := fun k q h => by simp at h
  have hDc : va_D A [] := ⟨fun i j p q h => by simp at h, fun k q h => by simp at h⟩
  have hFc := va_free (wc := []) hD hS hA [] rfl
  refine g_Si (As := [.int tp, .int 0, .int 31]) (rest := [.ref (M 0)]) CF (c_X7_in l D cI cJ cO df s.heap.size tp 0 31 ) (va_cwS 3 hts gX7_ask_X7_in rfl rfl rfl (by decide +kernel) ⟨Nat.le_of_ble_eq_true rfl, Nat.le_of_ble_eq_true rfl⟩)  hPc hK hDc hV hH hS hFc rfl hl.1 rfl (Nat.le_of_ble_eq_true rfl) dX7_ask_5 ⟨Nat.le_of_ble_eq_true rfl, Nat.le_of_ble_eq_true rfl⟩ (fun r_5 w1 H1 locs1 hq hP1 hD1 hk hS hz => ?_)
  obtain ⟨rfl, hr_5⟩ := hq
  have hP := g_keep0 hP hk
  clear hPc hDc hFc hP1 hD1 hk hz
  generalize H1 = H at hP hS ⊢
  have hP : va_P D ccl (mW cI M mc ms mw mn mo mh mu mk mt mq mp my mf ma cy lo gr ov un la) H := hP
  have hD : va_D A (mW cI M mc ms mw mn mo mh mu mk mt mq mp my mf ma cy lo gr ov un la) := hD
  subst hr_5
  refine lv_iload_n hx hb dX7_ask_8 rfl (lv_at hl 2 rfl) ?_
  refine lv_bipush (v := (-96)) hx hb dX7_ask_9 (by decide) ?_
  refine lv_bipush (v := 96) hx hb dX7_ask_11 (by decide) ?_
  have hPc : va_P D ccl [] H := fun k q h => by simp at h
  have hDc : va_D A [] := ⟨fun i j p q h => by simp at h, fun k q h => by simp at h⟩
  have hFc := va_free (wc := []) hD hS hA [] rfl
  refine g_Si (As := [.int v, .int (-96), .int 96]) (rest := [.int (isIn tp 0 31), .ref (M 0)]) CF (c_X7_in l D cI cJ cO df H.size v (-96) 96 ) (va_cwS 3 hts gX7_ask_X7_in rfl rfl rfl (by decide +kernel) ⟨Nat.le_of_ble_eq_true rfl, Nat.le_of_ble_eq_true rfl⟩)  hPc hK hDc hV hH hS hFc rfl hl.1 rfl (Nat.le_of_ble_eq_true rfl) dX7_ask_13 ⟨Nat.le_of_ble_eq_true rfl, Nat.le_of_ble_eq_true rfl⟩ (fun r_13 w1 H1 locs1 hq hP1 hD1 hk hS hz => ?_)
  obtain ⟨rfl, hr_13⟩ := hq
  have hP := g_keep0 hP hk
  clear hPc hDc hFc hP1 hD1 hk hz
  generalize H1 = H at hP hS ⊢
  have hP : va_P D ccl (mW cI M mc ms mw mn mo mh mu mk mt mq mp my mf ma cy lo gr ov un la) H := hP
  have hD : va_D A (mW cI M mc ms mw mn mo mh mu mk mt mq mp my mf ma cy lo gr ov un la) := hD
  subst hr_13
  refine lv_iconst (v := 1) hx hb dX7_ask_16 (by decide) ?_
  have hPc := hP.sub (ws' := [(M 0, .inr (8, [.ref (M 1), .ref (M 2), .ref (M 3), .int mn, .ref (M 4), .int mh, .ref (M 5), .int mk, .ref (M 6), .ref (M 7), .ref (M 8), .int my, .ref (M 9), .ref (M 10), .int cy, .int lo, .int gr, .long ov, .long un, .int la])), (M 1, .inl (cI, 40, .inl mc)), (M 2, .inl (cI, 32, .inl ms)), (M 3, .inl (cI, 8, .inl mw)), (M 4, .inl (cI, 8, .inl mo)), (M 5, .inl (cI, 16, .inl mu)), (M 6, .inl (cI, 32, .inl mt)), (M 7, .inl (cI, 32, .inl mq)), (M 8, .inl (cI, 64, .inl mp)), (M 9, .inl (cI, 40401, .inl mf)), (M 10, .inl (cI, 40401, .inl ma))]) [0, 1, 2, 3, 4, 5, 6, 7, 8, 9, 10] rfl
  have hDc := hD.sub (ws' := [(M 0, .inr (8, [.ref (M 1), .ref (M 2), .ref (M 3), .int mn, .ref (M 4), .int mh, .ref (M 5), .int mk, .ref (M 6), .ref (M 7), .ref (M 8), .int my, .ref (M 9), .ref (M 10), .int cy, .int lo, .int gr, .long ov, .long un, .int la])), (M 1, .inl (cI, 40, .inl mc)), (M 2, .inl (cI, 32, .inl ms)), (M 3, .inl (cI, 8, .inl mw)), (M 4, .inl (cI, 8, .inl mo)), (M 5, .inl (cI, 16, .inl mu)), (M 6, .inl (cI, 32, .inl mt)), (M 7, .inl (cI, 32, .inl mq)), (M 8, .inl (cI, 64, .inl mp)), (M 9, .inl (cI, 40401, .inl mf)), (M 10, .inl (cI, 40401, .inl ma))]) [0, 1, 2, 3, 4, 5, 6, 7, 8, 9, 10] (by decide) rfl
  have hFc := va_free (wc := [(M 0, .inr (8, [.ref (M 1), .ref (M 2), .ref (M 3), .int mn, .ref (M 4), .int mh, .ref (M 5), .int mk, .ref (M 6), .ref (M 7), .ref (M 8), .int my, .ref (M 9), .ref (M 10), .int cy, .int lo, .int gr, .long ov, .long un, .int la])), (M 1, .inl (cI, 40, .inl mc)), (M 2, .inl (cI, 32, .inl ms)), (M 3, .inl (cI, 8, .inl mw)), (M 4, .inl (cI, 8, .inl mo)), (M 5, .inl (cI, 16, .inl mu)), (M 6, .inl (cI, 32, .inl mt)), (M 7, .inl (cI, 32, .inl mq)), (M 8, .inl (cI, 64, .inl mp)), (M 9, .inl (cI, 40401, .inl mf)), (M 10, .inl (cI, 40401, .inl ma))]) hD hS hA [0, 1, 2, 3, 4, 5, 6, 7, 8, 9, 10] rfl
  refine g_Vi (As := [.int (isIn tp 0 31), .int (isIn v (-96) 96), .int 1]) (rest := []) CF (c_X7_goes l D cI cJ cO df H.size M mc ms mw mn mo mh mu mk mt mq mp my mf ma cy lo gr ov un la (isIn tp 0 31) (isIn v (-96) 96) 1 ) (cwV 3 hts gX7_ask_X7_goes rfl rfl rfl (by decide +kernel) ⟨Nat.le_of_ble_eq_true rfl, Nat.le_of_ble_eq_true rfl⟩) (va_recv hK hP (ci := 8) (q0 := 0) rfl rfl) hPc hK hDc hV hH hS hFc rfl hl.1 rfl (Nat.le_of_ble_eq_true rfl) dX7_ask_17 ⟨Nat.le_of_ble_eq_true rfl, Nat.le_of_ble_eq_true rfl⟩ (fun r_17 w1 H1 locs1 hq hP1 hD1 hk hS hz => ?_)
  obtain ⟨rfl, hr_17⟩ := hq
  obtain ⟨hP, hD⟩ := g_join (ws' := (mW cI M mc ms mw mn mo mh mu mk mt mq mp my mf ma cy lo gr ov un (gGo (isIn tp 0 31) (isIn v (-96) 96) 1))) hP hD hk hFc hP1 hD1 [0, 1, 2, 3, 4, 5, 6, 7, 8, 9, 10] [] [0, 1, 2, 3, 4, 5, 6, 7, 8, 9, 10] rfl rfl (by decide) (by decide) (by decide) rfl
  clear hPc hDc hFc hP1 hD1 hk hz
  generalize H1 = H at hP hS ⊢
  have hP : va_P D ccl (mW cI M mc ms mw mn mo mh mu mk mt mq mp my mf ma cy lo gr ov un (gGo (isIn tp 0 31) (isIn v (-96) 96) 1)) H := hP
  have hD : va_D A (mW cI M mc ms mw mn mo mh mu mk mt mq mp my mf ma cy lo gr ov un (gGo (isIn tp 0 31) (isIn v (-96) 96) 1)) := hD
  subst hr_17
  refine lv_if_ne (tgt := 25) hx hb dX7_ask_20 (by decide) (fun c_20 => ?_) (fun c_20 => ?_)
  · have c_20 : gGo (isIn tp 0 31) (isIn v (-96) 96) 1 = 0 := g_b1 c_20
    have hv0 := gGo_0 c_20
    obtain ⟨T0, hT0, rfl⟩ := isIn_nat 31 (by decide) hv0.1
    refine lv_aload_n hx hb dX7_ask_25 rfl (lv_at hl 0 rfl) ?_
    refine va_get (D := D) (ci := 8) (v := .ref (M 7)) (C := RX7) (T := TX7) (N := 20) hx hb hts inX7 hown hK hP 0 rfl rfl 9 (by decide) hfieldLink_RX7_28 (fun _ h9 => h9) rfl dX7_ask_26 ?_
    refine lv_iload_n hx hb dX7_ask_29 rfl (lv_at hl 1 rfl) ?_
    refine va_iald hx hb hK hP 7 0 rfl rfl (vp_in_nI (by omega) (by omega)) dX7_ask_30 ?_
    refine lv_topi (fun f ef => ?_)
    obtain rfl : f = mq T0 := ef.trans (congrArg mq (nI_clamp (n := T0) (by omega)))
    refine lv_istore_n (lv' := [(3, .int (mq T0)), (0, .ref (M 0)), (1, .int (nI T0)), (2, .int v)]) hx hb dX7_ask_31 rfl hl (by decide) rfl (fun ls hl => ?_)
    refine lv_aload_n hx hb dX7_ask_32 rfl (lv_at hl 1 rfl) ?_
    refine va_get (D := D) (ci := 8) (v := .ref (M 7)) (C := RX7) (T := TX7) (N := 20) hx hb hts inX7 hown hK hP 0 rfl rfl 9 (by decide) hfieldLink_RX7_28 (fun _ h9 => h9) rfl dX7_ask_33 ?_
    refine lv_iload_n hx hb dX7_ask_36 rfl (lv_at hl 2 rfl) ?_
    refine lv_iload_n hx hb dX7_ask_37 rfl (lv_at hl 3 rfl) ?_
    have hPc : va_P D ccl [] H := fun k q h => by simp at h
    have hDc : va_D A [] := ⟨fun i j p q h => by simp at h, fun k q h => by simp at h⟩
    have hFc := va_free (wc := []) hD hS hA [] rfl
    refine g_Si (As := [.int v]) (rest := [.int (nI T0), .ref (M 7)]) CF (c_X7_rest l D cI cJ cO df H.size v ) (va_cwS 1 hts gX7_ask_X7_rest rfl rfl rfl (by decide +kernel) ⟨Nat.le_of_ble_eq_true rfl, Nat.le_of_ble_eq_true rfl⟩)  hPc hK hDc hV hH hS hFc rfl hl.1 rfl (Nat.le_of_ble_eq_true rfl) dX7_ask_38 ⟨Nat.le_of_ble_eq_true rfl, Nat.le_of_ble_eq_true rfl⟩ (fun r_38 w1 H1 locs1 hq hP1 hD1 hk hS hz => ?_)
    obtain ⟨rfl, hr_38⟩ := hq
    have hP := g_keep0 hP hk
    clear hPc hDc hFc hP1 hD1 hk hz
    generalize H1 = H at hP hS ⊢
    have hP : va_P D ccl (mW cI M mc ms mw mn mo mh mu mk mt mq mp my mf ma cy lo gr ov un (gGo (isIn (nI T0) 0 31) (isIn v (-96) 96) 1)) H := hP
    have hD : va_D A (mW cI M mc ms mw mn mo mh mu mk mt mq mp my mf ma cy lo gr ov un (gGo (isIn (nI T0) 0 31) (isIn v (-96) 96) 1)) := hD
    subst hr_38
    refine va_iast hx hb hK hP hD hS 7 0 rfl rfl (vp_in_nI (by omega) (by omega)) dX7_ask_41 (fun H locs hP hD hS => ?_)
    rw [show (nI T0).toNatClampNeg = T0 from (nI_clamp (by omega))] at hP hD
    have hP : va_P D ccl (mW cI M mc ms mw mn mo mh mu mk mt (upd mq T0 (rs97 v)) mp my mf ma cy lo gr ov un (gGo (isIn (nI T0) 0 31) (isIn v (-96) 96) 1)) H := hP
    have hD : va_D A (mW cI M mc ms mw mn mo mh mu mk mt (upd mq T0 (rs97 v)) mp my mf ma cy lo gr ov un (gGo (isIn (nI T0) 0 31) (isIn v (-96) 96) 1)) := hD
    refine lv_iload_n hx hb dX7_ask_42 rfl (lv_at hl 0 rfl) ?_
    refine g_iret (v := mq T0) hx hb hr hlk hP hK hD hS (Nat.le_of_ble_eq_true rfl) (Nat.le_of_ble_eq_true rfl) dX7_ask_43 ?_
    exact ⟨_, rfl, fun _ => ⟨by rw [gN_nI (by omega)], by rw [gN_nI (by omega)]⟩, fun h => absurd c_20 h⟩
  · have c_20 : ¬ (gGo (isIn tp 0 31) (isIn v (-96) 96) 1 = 0) := g_b0 c_20
    refine lv_iconst (v := 0) hx hb dX7_ask_23 (by decide) ?_
    refine g_iret (v := 0) hx hb hr hlk hP hK hD hS (Nat.le_of_ble_eq_true rfl) (Nat.le_of_ble_eq_true rfl) dX7_ask_24 ?_
    exact ⟨_, rfl, fun h => absurd h c_20, fun _ => rfl⟩

set_option maxHeartbeats 4000000 in
set_option maxRecDepth 100000 in
theorem c_X7_rest_ (l : Launch) (D : va_G) (cI cJ cO : ClassId) (df sz : Nat) (M : Nat → Nat) (mc : Nat → Int32) (ms : Nat → Int32) (mw : Nat → Int32) (mn : Int32) (mo : Nat → Int32) (mh : Int32) (mu : Nat → Int32) (mk : Int32) (mt : Nat → Int32) (mq : Nat → Int32) (mp : Nat → Int32) (my : Int32) (mf : Nat → Int32) (ma : Nat → Int32) (cy : Int32) (lo : Int32) (gr : Int32) (ov : Int64) (un : Int64) (la : Int32)  : MetI l yX7_rest_ wsX7_rest_ ({ frames := 0, cells := 0, slots := 0, locals := 0 } : Room) D (gTY cI cJ cO) df (mW cI M mc ms mw mn mo mh mu mk mt mq mp my mf ma cy lo gr ov un la) sz [.ref (M 0)] (fun (r : Int32) (w : va_W) => ∃ (s1 : Nat → Int32), w = mW cI M mc s1 mw mn mo mh mu 0 mt mq mp my mf ma cy lo gr ov un 0 ∧ s1 = zeroTo ms 32 ∧ r = mk) := by
  refine g_of (cc := cX7_rest_) (nL := 3) (ret := (some .int)) (D := D) (TY := (gTY cI cJ cO)) (df := df) (Qc := fun A => va_Qi (fun (r : Int32) (w : va_W) => ∃ (s1 : Nat → Int32), w = mW cI M mc s1 mw mn mo mh mu 0 mt mq mp my mf ma cy lo gr ov un 0 ∧ s1 = zeroTo ms 32 ∧ r = mk) (gB D (gTY cI cJ cO) A) A) (by decide +kernel) rfl (Nat.le_of_ble_eq_true rfl) ?_
  intro p e s m below meth c ls A hsz C0 hin hl
  obtain ⟨CF, hr, hlk, hA, hS, hP, hK, hD, hV, hH⟩ := C0
  have CF : CallFix p m c cX7_rest_ 3 s _ wsX7_rest_ RX7 := CF
  obtain ⟨hx, hb, hml, hown, hts⟩ := id CF
  subst hsz
  have hfieldLink_RX7_41 : (Cond.fieldLink RX7 41 "TapLoomModel" "last" "I").before _ s = true := hts _ (List.mem_of_getElem? (i := 1) rfl)
  have hfieldLink_RX7_84 : (Cond.fieldLink RX7 84 "TapLoomModel" "kept" "I").before _ s = true := hts _ (List.mem_of_getElem? (i := 2) rfl)
  have hfieldLink_RX7_13 : (Cond.fieldLink RX7 13 "TapLoomModel" "states" "[I").before _ s = true := hts _ (List.mem_of_getElem? (i := 3) rfl)
  have inX7 : ∀ w ∈ u_ws RX7 TX7 20, w ∈ wsX7_rest_ := fun w h => (List.mem_cons_of_mem _ (List.mem_append_right _ h))
  have hP : va_P D ccl (mW cI M mc ms mw mn mo mh mu mk mt mq mp my mf ma cy lo gr ov un la) s.heap := hP
  have hl : lv_has ls 3 [(0, .ref (M 0))] := hl
  refine lv_aload_n hx hb dX7_rest__0 rfl (lv_at hl 0 rfl) ?_
  refine lv_iconst (v := 0) hx hb dX7_rest__1 (by decide) ?_
  refine va_put (D := D) (ci := 8) (v := .int 0) (ty := .int) (C := RX7) (T := TX7) (N := 20) hx hb hts inX7 tyX7 tyX7_ok nmX7 hown hK hP hD hS 0 rfl rfl 19 (by decide) hfieldLink_RX7_41 (fun _ h9 => h9) rfl (by decide +kernel) rfl rfl (Nat.le_of_ble_eq_true rfl) dX7_rest__2 (fun H locs hP hD hS => ?_)
  have hP : va_P D ccl (mW cI M mc ms mw mn mo mh mu mk mt mq mp my mf ma cy lo gr ov un 0) H := hP
  have hD : va_D A (mW cI M mc ms mw mn mo mh mu mk mt mq mp my mf ma cy lo gr ov un 0) := hD
  refine lv_aload_n hx hb dX7_rest__5 rfl (lv_at hl 0 rfl) ?_
  refine va_get (D := D) (ci := 8) (v := .int mk) (C := RX7) (T := TX7) (N := 20) hx hb hts inX7 hown hK hP 0 rfl rfl 7 (by decide) hfieldLink_RX7_84 (fun _ h9 => h9) rfl dX7_rest__6 ?_
  refine lv_istore_n (lv' := [(1, .int mk), (0, .ref (M 0))]) hx hb dX7_rest__9 rfl hl (by decide) rfl (fun ls hl => ?_)
  refine lv_iconst (v := 0) hx hb dX7_rest__10 (by decide) ?_
  refine lv_istore_n (lv' := [(2, .int 0), (1, .int mk), (0, .ref (M 0))]) hx hb dX7_rest__11 rfl hl (by decide) rfl (fun ls hl => ?_)
  refine W.widen (k := 0) (n := 0) (Nat.le_refl _) (Nat.le_refl _) ?_
  refine g_while (σ := Nat × (Nat → Int32)) (st := []) (nL := 3) (fun z => match z with | (i, s1) => mW cI M mc s1 mw mn mo mh mu mk mt mq mp my mf ma cy lo gr ov un 0)
    (fun z => match z with | (i, s1) => [(0, .ref (M 0)), (1, .int mk), (2, .int (nI i))])
    (fun z => match z with | (i, s1) => i ≤ 32 ∧ s1 = zeroTo ms i)
    (fun z => match z with | (i, s1) => 32 - i) (fun z => match z with | (i, s1) => 0) (fun z => match z with | (i, s1) => 0)
    ?_ (0, ms) ⟨Nat.zero_le 32, zeroTo_0⟩ hP hD hS (lv_sub hl [2, 1, 0] rfl)
  rintro ⟨i, s1⟩ hI H locs ls hP hD hS hl ih
  have hI : i ≤ 32 ∧ s1 = zeroTo ms i := hI
  have hP : va_P D ccl (mW cI M mc s1 mw mn mo mh mu mk mt mq mp my mf ma cy lo gr ov un 0) H := hP
  have hD : va_D A (mW cI M mc s1 mw mn mo mh mu mk mt mq mp my mf ma cy lo gr ov un 0) := hD
  have hl : lv_has ls 3 [(0, .ref (M 0)), (1, .int mk), (2, .int (nI i))] := hl
  change W p l e _ s m _ below meth c H locs 0 0 _ (F0 m 12 ls [])
  have ih_12 := ih
  clear ih
  obtain ⟨hi, rfl⟩ := hI
  refine lv_iload_n hx hb dX7_rest__12 rfl (lv_at hl 2 rfl) ?_
  refine lv_bipush (v := 32) hx hb dX7_rest__13 (by decide) ?_
  refine lv_icmp_ge (tgt := 31) hx hb dX7_rest__15 (by decide) (fun c_15 => ?_) (fun c_15 => ?_)
  · have c_15 : 32 ≤ i := g_le (a := 32) (b := i) c_15 (by omega) (by omega)
    refine lv_aload_n hx hb dX7_rest__31 rfl (lv_at hl 0 rfl) ?_
    refine lv_iconst (v := 0) hx hb dX7_rest__32 (by decide) ?_
    refine va_put (D := D) (ci := 8) (v := .int 0) (ty := .int) (C := RX7) (T := TX7) (N := 20) hx hb hts inX7 tyX7 tyX7_ok nmX7 hown hK hP hD hS 0 rfl rfl 7 (by decide) hfieldLink_RX7_84 (fun _ h9 => h9) rfl (by decide +kernel) rfl rfl (Nat.le_of_ble_eq_true rfl) dX7_rest__33 (fun H locs hP hD hS => ?_)
    have hP : va_P D ccl (mW cI M mc (zeroTo ms i) mw mn mo mh mu 0 mt mq mp my mf ma cy lo gr ov un 0) H := hP
    have hD : va_D A (mW cI M mc (zeroTo ms i) mw mn mo mh mu 0 mt mq mp my mf ma cy lo gr ov un 0) := hD
    obtain rfl : i = 32 := by omega
    refine lv_iload_n hx hb dX7_rest__36 rfl (lv_at hl 1 rfl) ?_
    refine g_iret (v := mk) hx hb hr hlk hP hK hD hS (Nat.le_of_ble_eq_true rfl) (Nat.le_of_ble_eq_true rfl) dX7_rest__37 ?_
    exact ⟨_, rfl, rfl, rfl⟩
  · have c_15 : i < 32 := g_nle (a := 32) (b := i) c_15 (by omega) (by omega)
    refine lv_aload_n hx hb dX7_rest__18 rfl (lv_at hl 0 rfl) ?_
    refine va_get (D := D) (ci := 8) (v := .ref (M 2)) (C := RX7) (T := TX7) (N := 20) hx hb hts inX7 hown hK hP 0 rfl rfl 1 (by decide) hfieldLink_RX7_13 (fun _ h9 => h9) rfl dX7_rest__19 ?_
    refine lv_iload_n hx hb dX7_rest__22 rfl (lv_at hl 2 rfl) ?_
    refine lv_iconst (v := 0) hx hb dX7_rest__23 (by decide) ?_
    refine va_iast hx hb hK hP hD hS 2 0 rfl rfl (vp_in_nI (by omega) (by omega)) dX7_rest__24 (fun H locs hP hD hS => ?_)
    rw [show (nI i).toNatClampNeg = i from (nI_clamp (by omega))] at hP hD
    have hP : va_P D ccl (mW cI M mc (upd (zeroTo ms i) i 0) mw mn mo mh mu mk mt mq mp my mf ma cy lo gr ov un 0) H := hP
    have hD : va_D A (mW cI M mc (upd (zeroTo ms i) i 0) mw mn mo mh mu mk mt mq mp my mf ma cy lo gr ov un 0) := hD
    refine lv_iinc (v := nI (i + 1)) (lv' := [(2, .int (nI (i + 1))), (0, .ref (M 0)), (1, .int mk)]) hx hb dX7_rest__25 hl (k := 2) rfl (by exact nI_1 _) (by decide) rfl (fun ls hl => ?_)
    refine lv_goto (tgt := 12) hx hb dX7_rest__28 (by decide) ?_
    refine W.widen (k := 0) (n := 0) (Nat.le_refl _) (Nat.le_refl _) ?_
    exact ih_12 (i + 1, upd (zeroTo ms i) i 0) _ _ _ (show (i + 1) ≤ 32 ∧ (upd (zeroTo ms i) i 0) = zeroTo ms (i + 1) from (by exact ⟨c_15, zeroTo_s⟩)) (show 32 - (i + 1) < 32 - i by omega) hP hD hS (lv_sub hl [1, 2, 0] rfl)

set_option maxHeartbeats 4000000 in
set_option maxRecDepth 100000 in
theorem c_X7_tapOf (l : Launch) (D : va_G) (cI cJ cO : ClassId) (df sz : Nat) (M : Nat → Nat) (mc : Nat → Int32) (ms : Nat → Int32) (mw : Nat → Int32) (mn : Int32) (mo : Nat → Int32) (mh : Int32) (mu : Nat → Int32) (mk : Int32) (mt : Nat → Int32) (mq : Nat → Int32) (mp : Nat → Int32) (my : Int32) (mf : Nat → Int32) (ma : Nat → Int32) (cy : Int32) (lo : Int32) (gr : Int32) (ov : Int64) (un : Int64) (la : Int32) (tp : Int32)  : MetI l yX7_tapOf wsX7_tapOf ({ frames := 1, cells := 0, slots := 0, locals := 23 } : Room) D (gTY cI cJ cO) df (mW cI M mc ms mw mn mo mh mu mk mt mq mp my mf ma cy lo gr ov un la) sz [.ref (M 0), .int tp] (fun (r : Int32) (w : va_W) => w = mW cI M mc ms mw mn mo mh mu mk mt mq mp my mf ma cy lo gr ov un (gGo (isIn tp 0 31) 1 1) ∧ (gGo (isIn tp 0 31) 1 1 = 0 → r = mt (gN tp))) := by
  refine g_of (cc := cX7_tapOf) (nL := 2) (ret := (some .int)) (D := D) (TY := (gTY cI cJ cO)) (df := df) (Qc := fun A => va_Qi (fun (r : Int32) (w : va_W) => w = mW cI M mc ms mw mn mo mh mu mk mt mq mp my mf ma cy lo gr ov un (gGo (isIn tp 0 31) 1 1) ∧ (gGo (isIn tp 0 31) 1 1 = 0 → r = mt (gN tp))) (gB D (gTY cI cJ cO) A) A) (by decide +kernel) rfl (Nat.le_of_ble_eq_true rfl) ?_
  intro p e s m below meth c ls A hsz C0 hin hl
  obtain ⟨CF, hr, hlk, hA, hS, hP, hK, hD, hV, hH⟩ := C0
  have CF : CallFix p m c cX7_tapOf 2 s _ wsX7_tapOf RX7 := CF
  obtain ⟨hx, hb, hml, hown, hts⟩ := id CF
  subst hsz
  have hmethodLink_RX7_48 : (Cond.methodLink RX7 48 yX7_in).before _ s = true := hts _ (List.mem_of_getElem? (i := 2) rfl)
  have hmethodLink_RX7_52 : (Cond.methodLink RX7 52 yX7_goes).before _ s = true := hts _ (List.mem_of_getElem? (i := 6) rfl)
  have hfieldLink_RX7_25 : (Cond.fieldLink RX7 25 "TapLoomModel" "taps" "[I").before _ s = true := hts _ (List.mem_of_getElem? (i := 1) rfl)
  have inX7 : ∀ w ∈ u_ws RX7 TX7 20, w ∈ wsX7_tapOf := fun w h => (List.mem_cons_of_mem _ (List.mem_append_right _ h))
  have hP : va_P D ccl (mW cI M mc ms mw mn mo mh mu mk mt mq mp my mf ma cy lo gr ov un la) s.heap := hP
  have hl : lv_has ls 2 [(0, .ref (M 0)), (1, .int tp)] := hl
  refine lv_aload_n hx hb dX7_tapOf_0 rfl (lv_at hl 0 rfl) ?_
  refine lv_iload_n hx hb dX7_tapOf_1 rfl (lv_at hl 1 rfl) ?_
  refine lv_iconst (v := 0) hx hb dX7_tapOf_2 (by decide) ?_
  refine lv_bipush (v := 31) hx hb dX7_tapOf_3 (by decide) ?_
  have hPc : va_P D ccl [] s.heap := fun k q h => by simp at h
  have hDc : va_D A [] := ⟨fun i j p q h => by simp at h, fun k q h => by simp at h⟩
  have hFc := va_free (wc := []) hD hS hA [] rfl
  refine g_Si (As := [.int tp, .int 0, .int 31]) (rest := [.ref (M 0)]) CF (c_X7_in l D cI cJ cO df s.heap.size tp 0 31 ) (va_cwS 3 hts gX7_tapOf_X7_in rfl rfl rfl (by decide +kernel) ⟨Nat.le_of_ble_eq_true rfl, Nat.le_of_ble_eq_true rfl⟩)  hPc hK hDc hV hH hS hFc rfl hl.1 rfl (Nat.le_of_ble_eq_true rfl) dX7_tapOf_5 ⟨Nat.le_of_ble_eq_true rfl, Nat.le_of_ble_eq_true rfl⟩ (fun r_5 w1 H1 locs1 hq hP1 hD1 hk hS hz => ?_)
  obtain ⟨rfl, hr_5⟩ := hq
  have hP := g_keep0 hP hk
  clear hPc hDc hFc hP1 hD1 hk hz
  generalize H1 = H at hP hS ⊢
  have hP : va_P D ccl (mW cI M mc ms mw mn mo mh mu mk mt mq mp my mf ma cy lo gr ov un la) H := hP
  have hD : va_D A (mW cI M mc ms mw mn mo mh mu mk mt mq mp my mf ma cy lo gr ov un la) := hD
  subst hr_5
  refine lv_iconst (v := 1) hx hb dX7_tapOf_8 (by decide) ?_
  refine lv_iconst (v := 1) hx hb dX7_tapOf_9 (by decide) ?_
  have hPc := hP.sub (ws' := [(M 0, .inr (8, [.ref (M 1), .ref (M 2), .ref (M 3), .int mn, .ref (M 4), .int mh, .ref (M 5), .int mk, .ref (M 6), .ref (M 7), .ref (M 8), .int my, .ref (M 9), .ref (M 10), .int cy, .int lo, .int gr, .long ov, .long un, .int la])), (M 1, .inl (cI, 40, .inl mc)), (M 2, .inl (cI, 32, .inl ms)), (M 3, .inl (cI, 8, .inl mw)), (M 4, .inl (cI, 8, .inl mo)), (M 5, .inl (cI, 16, .inl mu)), (M 6, .inl (cI, 32, .inl mt)), (M 7, .inl (cI, 32, .inl mq)), (M 8, .inl (cI, 64, .inl mp)), (M 9, .inl (cI, 40401, .inl mf)), (M 10, .inl (cI, 40401, .inl ma))]) [0, 1, 2, 3, 4, 5, 6, 7, 8, 9, 10] rfl
  have hDc := hD.sub (ws' := [(M 0, .inr (8, [.ref (M 1), .ref (M 2), .ref (M 3), .int mn, .ref (M 4), .int mh, .ref (M 5), .int mk, .ref (M 6), .ref (M 7), .ref (M 8), .int my, .ref (M 9), .ref (M 10), .int cy, .int lo, .int gr, .long ov, .long un, .int la])), (M 1, .inl (cI, 40, .inl mc)), (M 2, .inl (cI, 32, .inl ms)), (M 3, .inl (cI, 8, .inl mw)), (M 4, .inl (cI, 8, .inl mo)), (M 5, .inl (cI, 16, .inl mu)), (M 6, .inl (cI, 32, .inl mt)), (M 7, .inl (cI, 32, .inl mq)), (M 8, .inl (cI, 64, .inl mp)), (M 9, .inl (cI, 40401, .inl mf)), (M 10, .inl (cI, 40401, .inl ma))]) [0, 1, 2, 3, 4, 5, 6, 7, 8, 9, 10] (by decide) rfl
  have hFc := va_free (wc := [(M 0, .inr (8, [.ref (M 1), .ref (M 2), .ref (M 3), .int mn, .ref (M 4), .int mh, .ref (M 5), .int mk, .ref (M 6), .ref (M 7), .ref (M 8), .int my, .ref (M 9), .ref (M 10), .int cy, .int lo, .int gr, .long ov, .long un, .int la])), (M 1, .inl (cI, 40, .inl mc)), (M 2, .inl (cI, 32, .inl ms)), (M 3, .inl (cI, 8, .inl mw)), (M 4, .inl (cI, 8, .inl mo)), (M 5, .inl (cI, 16, .inl mu)), (M 6, .inl (cI, 32, .inl mt)), (M 7, .inl (cI, 32, .inl mq)), (M 8, .inl (cI, 64, .inl mp)), (M 9, .inl (cI, 40401, .inl mf)), (M 10, .inl (cI, 40401, .inl ma))]) hD hS hA [0, 1, 2, 3, 4, 5, 6, 7, 8, 9, 10] rfl
  refine g_Vi (As := [.int (isIn tp 0 31), .int 1, .int 1]) (rest := []) CF (c_X7_goes l D cI cJ cO df H.size M mc ms mw mn mo mh mu mk mt mq mp my mf ma cy lo gr ov un la (isIn tp 0 31) 1 1 ) (cwV 3 hts gX7_tapOf_X7_goes rfl rfl rfl (by decide +kernel) ⟨Nat.le_of_ble_eq_true rfl, Nat.le_of_ble_eq_true rfl⟩) (va_recv hK hP (ci := 8) (q0 := 0) rfl rfl) hPc hK hDc hV hH hS hFc rfl hl.1 rfl (Nat.le_of_ble_eq_true rfl) dX7_tapOf_10 ⟨Nat.le_of_ble_eq_true rfl, Nat.le_of_ble_eq_true rfl⟩ (fun r_10 w1 H1 locs1 hq hP1 hD1 hk hS hz => ?_)
  obtain ⟨rfl, hr_10⟩ := hq
  obtain ⟨hP, hD⟩ := g_join (ws' := (mW cI M mc ms mw mn mo mh mu mk mt mq mp my mf ma cy lo gr ov un (gGo (isIn tp 0 31) 1 1))) hP hD hk hFc hP1 hD1 [0, 1, 2, 3, 4, 5, 6, 7, 8, 9, 10] [] [0, 1, 2, 3, 4, 5, 6, 7, 8, 9, 10] rfl rfl (by decide) (by decide) (by decide) rfl
  clear hPc hDc hFc hP1 hD1 hk hz
  generalize H1 = H at hP hS ⊢
  have hP : va_P D ccl (mW cI M mc ms mw mn mo mh mu mk mt mq mp my mf ma cy lo gr ov un (gGo (isIn tp 0 31) 1 1)) H := hP
  have hD : va_D A (mW cI M mc ms mw mn mo mh mu mk mt mq mp my mf ma cy lo gr ov un (gGo (isIn tp 0 31) 1 1)) := hD
  subst hr_10
  refine lv_if_eq (tgt := 25) hx hb dX7_tapOf_13 (by decide) (fun c_13 => ?_) (fun c_13 => ?_)
  · have c_13 : ¬ (gGo (isIn tp 0 31) 1 1 = 0) := g_b0 c_13
    refine lv_iconst (v := 0) hx hb dX7_tapOf_25 (by decide) ?_
    refine g_iret (v := 0) hx hb hr hlk hP hK hD hS (Nat.le_of_ble_eq_true rfl) (Nat.le_of_ble_eq_true rfl) dX7_tapOf_26 ?_
    exact ⟨rfl, fun h => absurd h c_13⟩
  · have c_13 : gGo (isIn tp 0 31) 1 1 = 0 := g_b1 c_13
    have hv0 := gGo_0 c_13
    obtain ⟨T0, hT0, rfl⟩ := isIn_nat 31 (by decide) hv0.1
    refine lv_aload_n hx hb dX7_tapOf_16 rfl (lv_at hl 0 rfl) ?_
    refine va_get (D := D) (ci := 8) (v := .ref (M 6)) (C := RX7) (T := TX7) (N := 20) hx hb hts inX7 hown hK hP 0 rfl rfl 8 (by decide) hfieldLink_RX7_25 (fun _ h9 => h9) rfl dX7_tapOf_17 ?_
    refine lv_iload_n hx hb dX7_tapOf_20 rfl (lv_at hl 1 rfl) ?_
    refine va_iald hx hb hK hP 6 0 rfl rfl (vp_in_nI (by omega) (by omega)) dX7_tapOf_21 ?_
    refine lv_topi (fun f ef => ?_)
    obtain rfl : f = mt T0 := ef.trans (congrArg mt (nI_clamp (n := T0) (by omega)))
    refine lv_goto (tgt := 26) hx hb dX7_tapOf_22 (by decide) ?_
    refine g_iret (v := mt T0) hx hb hr hlk hP hK hD hS (Nat.le_of_ble_eq_true rfl) (Nat.le_of_ble_eq_true rfl) dX7_tapOf_26 ?_
    exact ⟨rfl, fun _ => by rw [gN_nI (by omega)]⟩

set_option maxHeartbeats 4000000 in
set_option maxRecDepth 100000 in
theorem c_X7_output (l : Launch) (D : va_G) (cI cJ cO : ClassId) (df sz : Nat) (M : Nat → Nat) (mc : Nat → Int32) (ms : Nat → Int32) (mw : Nat → Int32) (mn : Int32) (mo : Nat → Int32) (mh : Int32) (mu : Nat → Int32) (mt : Nat → Int32) (mq : Nat → Int32) (mp : Nat → Int32) (my : Int32) (mf : Nat → Int32) (ma : Nat → Int32) (cy : Int32) (lo : Int32) (gr : Int32) (ov : Int64) (un : Int64) (la : Int32) (K : Nat) (back : Int32) (hK8 : K ≤ 16) : MetI l yX7_output wsX7_output ({ frames := 1, cells := 0, slots := 0, locals := 23 } : Room) D (gTY cI cJ cO) df (mW cI M mc ms mw mn mo mh mu (nI K) mt mq mp my mf ma cy lo gr ov un la) sz [.ref (M 0), .int back] (fun (r : Int32) (w : va_W) => w = mW cI M mc ms mw mn mo mh mu (nI K) mt mq mp my mf ma cy lo gr ov un (gGo (if back < 0 then 0 else 1) 1 1) ∧ (gGo (if back < 0 then 0 else 1) 1 1 = 0 → r = if gN back < K then mu (gN back) else 0)) := by
  refine g_of (cc := cX7_output) (nL := 2) (ret := (some .int)) (D := D) (TY := (gTY cI cJ cO)) (df := df) (Qc := fun A => va_Qi (fun (r : Int32) (w : va_W) => w = mW cI M mc ms mw mn mo mh mu (nI K) mt mq mp my mf ma cy lo gr ov un (gGo (if back < 0 then 0 else 1) 1 1) ∧ (gGo (if back < 0 then 0 else 1) 1 1 = 0 → r = if gN back < K then mu (gN back) else 0)) (gB D (gTY cI cJ cO) A) A) (by decide +kernel) rfl (Nat.le_of_ble_eq_true rfl) ?_
  intro p e s m below meth c ls A hsz C0 hin hl
  obtain ⟨CF, hr, hlk, hA, hS, hP, hK, hD, hV, hH⟩ := C0
  have CF : CallFix p m c cX7_output 2 s _ wsX7_output RX7 := CF
  obtain ⟨hx, hb, hml, hown, hts⟩ := id CF
  subst hsz
  have hmethodLink_RX7_52 : (Cond.methodLink RX7 52 yX7_goes).before _ s = true := hts _ (List.mem_of_getElem? (i := 3) rfl)
  have hfieldLink_RX7_84 : (Cond.fieldLink RX7 84 "TapLoomModel" "kept" "I").before _ s = true := hts _ (List.mem_of_getElem? (i := 1) rfl)
  have hfieldLink_RX7_22 : (Cond.fieldLink RX7 22 "TapLoomModel" "outputs" "[I").before _ s = true := hts _ (List.mem_of_getElem? (i := 2) rfl)
  have inX7 : ∀ w ∈ u_ws RX7 TX7 20, w ∈ wsX7_output := fun w h => (List.mem_cons_of_mem _ (List.mem_append_right _ h))
  have hP : va_P D ccl (mW cI M mc ms mw mn mo mh mu (nI K) mt mq mp my mf ma cy lo gr ov un la) s.heap := hP
  have hl : lv_has ls 2 [(0, .ref (M 0)), (1, .int back)] := hl
  refine lv_aload_n hx hb dX7_output_0 rfl (lv_at hl 0 rfl) ?_
  refine lv_iload_n hx hb dX7_output_1 rfl (lv_at hl 1 rfl) ?_
  refine g_phii (ls := ls) (J := 10) (st1 := [.ref (M 0)]) (REL := fun b => b = if back < 0 then (0 : Int32) else 1) (fun b hb_10 => ?_) (fun hJ_10 => ?_)
  · subst hb_10
    refine lv_iconst (v := 1) hx hb dX7_output_10 (by decide) ?_
    refine lv_iconst (v := 1) hx hb dX7_output_11 (by decide) ?_
    have hPc := hP.sub (ws' := [(M 0, .inr (8, [.ref (M 1), .ref (M 2), .ref (M 3), .int mn, .ref (M 4), .int mh, .ref (M 5), .int (nI K), .ref (M 6), .ref (M 7), .ref (M 8), .int my, .ref (M 9), .ref (M 10), .int cy, .int lo, .int gr, .long ov, .long un, .int la])), (M 1, .inl (cI, 40, .inl mc)), (M 2, .inl (cI, 32, .inl ms)), (M 3, .inl (cI, 8, .inl mw)), (M 4, .inl (cI, 8, .inl mo)), (M 5, .inl (cI, 16, .inl mu)), (M 6, .inl (cI, 32, .inl mt)), (M 7, .inl (cI, 32, .inl mq)), (M 8, .inl (cI, 64, .inl mp)), (M 9, .inl (cI, 40401, .inl mf)), (M 10, .inl (cI, 40401, .inl ma))]) [0, 1, 2, 3, 4, 5, 6, 7, 8, 9, 10] rfl
    have hDc := hD.sub (ws' := [(M 0, .inr (8, [.ref (M 1), .ref (M 2), .ref (M 3), .int mn, .ref (M 4), .int mh, .ref (M 5), .int (nI K), .ref (M 6), .ref (M 7), .ref (M 8), .int my, .ref (M 9), .ref (M 10), .int cy, .int lo, .int gr, .long ov, .long un, .int la])), (M 1, .inl (cI, 40, .inl mc)), (M 2, .inl (cI, 32, .inl ms)), (M 3, .inl (cI, 8, .inl mw)), (M 4, .inl (cI, 8, .inl mo)), (M 5, .inl (cI, 16, .inl mu)), (M 6, .inl (cI, 32, .inl mt)), (M 7, .inl (cI, 32, .inl mq)), (M 8, .inl (cI, 64, .inl mp)), (M 9, .inl (cI, 40401, .inl mf)), (M 10, .inl (cI, 40401, .inl ma))]) [0, 1, 2, 3, 4, 5, 6, 7, 8, 9, 10] (by decide) rfl
    have hFc := va_free (wc := [(M 0, .inr (8, [.ref (M 1), .ref (M 2), .ref (M 3), .int mn, .ref (M 4), .int mh, .ref (M 5), .int (nI K), .ref (M 6), .ref (M 7), .ref (M 8), .int my, .ref (M 9), .ref (M 10), .int cy, .int lo, .int gr, .long ov, .long un, .int la])), (M 1, .inl (cI, 40, .inl mc)), (M 2, .inl (cI, 32, .inl ms)), (M 3, .inl (cI, 8, .inl mw)), (M 4, .inl (cI, 8, .inl mo)), (M 5, .inl (cI, 16, .inl mu)), (M 6, .inl (cI, 32, .inl mt)), (M 7, .inl (cI, 32, .inl mq)), (M 8, .inl (cI, 64, .inl mp)), (M 9, .inl (cI, 40401, .inl mf)), (M 10, .inl (cI, 40401, .inl ma))]) hD hS hA [0, 1, 2, 3, 4, 5, 6, 7, 8, 9, 10] rfl
    refine g_Vi (As := [.int (if back < 0 then (0 : Int32) else 1), .int 1, .int 1]) (rest := []) CF (c_X7_goes l D cI cJ cO df s.heap.size M mc ms mw mn mo mh mu (nI K) mt mq mp my mf ma cy lo gr ov un la (if back < 0 then (0 : Int32) else 1) 1 1 ) (cwV 3 hts gX7_output_X7_goes rfl rfl rfl (by decide +kernel) ⟨Nat.le_of_ble_eq_true rfl, Nat.le_of_ble_eq_true rfl⟩) (va_recv hK hP (ci := 8) (q0 := 0) rfl rfl) hPc hK hDc hV hH hS hFc rfl hl.1 rfl (Nat.le_of_ble_eq_true rfl) dX7_output_12 ⟨Nat.le_of_ble_eq_true rfl, Nat.le_of_ble_eq_true rfl⟩ (fun r_12 w1 H1 locs1 hq hP1 hD1 hk hS hz => ?_)
    obtain ⟨rfl, hr_12⟩ := hq
    obtain ⟨hP, hD⟩ := g_join (ws' := (mW cI M mc ms mw mn mo mh mu (nI K) mt mq mp my mf ma cy lo gr ov un (gGo (if back < 0 then (0 : Int32) else 1) 1 1))) hP hD hk hFc hP1 hD1 [0, 1, 2, 3, 4, 5, 6, 7, 8, 9, 10] [] [0, 1, 2, 3, 4, 5, 6, 7, 8, 9, 10] rfl rfl (by decide) (by decide) (by decide) rfl
    clear hPc hDc hFc hP1 hD1 hk hz
    generalize H1 = H at hP hS ⊢
    have hP : va_P D ccl (mW cI M mc ms mw mn mo mh mu (nI K) mt mq mp my mf ma cy lo gr ov un (gGo (if back < 0 then (0 : Int32) else 1) 1 1)) H := hP
    have hD : va_D A (mW cI M mc ms mw mn mo mh mu (nI K) mt mq mp my mf ma cy lo gr ov un (gGo (if back < 0 then (0 : Int32) else 1) 1 1)) := hD
    subst hr_12
    refine lv_if_eq (tgt := 35) hx hb dX7_output_15 (by decide) (fun c_15 => ?_) (fun c_15 => ?_)
    · have c_15 : ¬ (gGo (if back < 0 then (0 : Int32) else 1) 1 1 = 0) := g_b0 c_15
      refine lv_iconst (v := 0) hx hb dX7_output_35 (by decide) ?_
      refine g_iret (v := 0) hx hb hr hlk hP hK hD hS (Nat.le_of_ble_eq_true rfl) (Nat.le_of_ble_eq_true rfl) dX7_output_36 ?_
      exact ⟨rfl, fun h => absurd h c_15⟩
    · have c_15 : gGo (if back < 0 then (0 : Int32) else 1) 1 1 = 0 := g_b1 c_15
      have hv0 := (gGo_0 c_15).1
      have hb0 : ¬ back < 0 := fun h => hv0 (by rw [if_pos h])
      obtain ⟨B, hB, rfl⟩ := nI_of hb0
      refine lv_iload_n hx hb dX7_output_18 rfl (lv_at hl 1 rfl) ?_
      refine lv_aload_n hx hb dX7_output_19 rfl (lv_at hl 0 rfl) ?_
      refine va_get (D := D) (ci := 8) (v := .int (nI K)) (C := RX7) (T := TX7) (N := 20) hx hb hts inX7 hown hK hP 0 rfl rfl 7 (by decide) hfieldLink_RX7_84 (fun _ h9 => h9) rfl dX7_output_20 ?_
      refine lv_icmp_ge (tgt := 35) hx hb dX7_output_23 (by decide) (fun c_23 => ?_) (fun c_23 => ?_)
      · have c_23 : K ≤ B := g_le (a := K) (b := B) c_23 (by omega) (by omega)
        refine lv_iconst (v := 0) hx hb dX7_output_35 (by decide) ?_
        refine g_iret (v := 0) hx hb hr hlk hP hK hD hS (Nat.le_of_ble_eq_true rfl) (Nat.le_of_ble_eq_true rfl) dX7_output_36 ?_
        exact ⟨rfl, fun _ => by rw [gN_nI hB, if_neg (by omega)]⟩
      · have c_23 : B < K := g_nle (a := K) (b := B) c_23 (by omega) (by omega)
        refine lv_aload_n hx hb dX7_output_26 rfl (lv_at hl 0 rfl) ?_
        refine va_get (D := D) (ci := 8) (v := .ref (M 5)) (C := RX7) (T := TX7) (N := 20) hx hb hts inX7 hown hK hP 0 rfl rfl 6 (by decide) hfieldLink_RX7_22 (fun _ h9 => h9) rfl dX7_output_27 ?_
        refine lv_iload_n hx hb dX7_output_30 rfl (lv_at hl 1 rfl) ?_
        refine va_iald hx hb hK hP 5 0 rfl rfl (vp_in_nI (by omega) (by omega)) dX7_output_31 ?_
        refine lv_topi (fun f ef => ?_)
        obtain rfl : f = mu B := ef.trans (congrArg mu (nI_clamp (n := B) (by omega)))
        refine lv_goto (tgt := 36) hx hb dX7_output_32 (by decide) ?_
        refine g_iret (v := mu B) hx hb hr hlk hP hK hD hS (Nat.le_of_ble_eq_true rfl) (Nat.le_of_ble_eq_true rfl) dX7_output_36 ?_
        exact ⟨rfl, fun _ => by rw [gN_nI hB, if_pos c_23]⟩
  · refine lv_if_lt (tgt := 9) hx hb dX7_output_2 (by decide) (fun c_2 => ?_) (fun c_2 => ?_)
    · refine lv_iconst (v := 0) hx hb dX7_output_9 (by decide) ?_
      exact hJ_10 _ (by simp [c_2])
    · refine lv_iconst (v := 1) hx hb dX7_output_5 (by decide) ?_
      refine lv_goto (tgt := 10) hx hb dX7_output_6 (by decide) ?_
      exact hJ_10 _ (by simp [c_2])

set_option maxHeartbeats 4000000 in
set_option maxRecDepth 100000 in
theorem c_X7_isShort (l : Launch) (D : va_G) (cI cJ cO : ClassId) (df sz : Nat) (M : Nat → Nat) (mc : Nat → Int32) (ms : Nat → Int32) (mw : Nat → Int32) (mn : Int32) (mo : Nat → Int32) (mu : Nat → Int32) (mk : Int32) (mt : Nat → Int32) (mq : Nat → Int32) (mp : Nat → Int32) (my : Int32) (mf : Nat → Int32) (ma : Nat → Int32) (cy : Int32) (lo : Int32) (gr : Int32) (ov : Int64) (un : Int64) (la : Int32) (C : Nat) (wr : Int32) (hC : C ≤ 8) : MetI l yX7_isShort wsX7_isShort ({ frames := 0, cells := 0, slots := 0, locals := 0 } : Room) D (gTY cI cJ cO) df (mW cI M mc ms mw mn mo (nI C) mu mk mt mq mp my mf ma cy lo gr ov un la) sz [.ref (M 0), .int wr] (fun (r : Int32) (w : va_W) => w = mW cI M mc ms mw mn mo (nI C) mu mk mt mq mp my mf ma cy lo gr ov un la ∧ r = if C ≤ (if wr = 2 then 2 else 4) then 1 else 0) := by
  refine g_of (cc := cX7_isShort) (nL := 2) (ret := (some .boolean)) (D := D) (TY := (gTY cI cJ cO)) (df := df) (Qc := fun A => va_Qi (fun (r : Int32) (w : va_W) => w = mW cI M mc ms mw mn mo (nI C) mu mk mt mq mp my mf ma cy lo gr ov un la ∧ r = if C ≤ (if wr = 2 then 2 else 4) then 1 else 0) (gB D (gTY cI cJ cO) A) A) (by decide +kernel) rfl (Nat.le_of_ble_eq_true rfl) ?_
  intro p e s m below meth c ls A hsz C0 hin hl
  obtain ⟨CF, hr, hlk, hA, hS, hP, hK, hD, hV, hH⟩ := C0
  have CF : CallFix p m c cX7_isShort 2 s _ wsX7_isShort RX7 := CF
  obtain ⟨hx, hb, hml, hown, hts⟩ := id CF
  subst hsz
  have hfieldLink_RX7_60 : (Cond.fieldLink RX7 60 "TapLoomModel" "chained" "I").before _ s = true := hts _ (List.mem_of_getElem? (i := 1) rfl)
  have inX7 : ∀ w ∈ u_ws RX7 TX7 20, w ∈ wsX7_isShort := fun w h => (List.mem_cons_of_mem _ (List.mem_append_right _ h))
  have hP : va_P D ccl (mW cI M mc ms mw mn mo (nI C) mu mk mt mq mp my mf ma cy lo gr ov un la) s.heap := hP
  have hl : lv_has ls 2 [(0, .ref (M 0)), (1, .int wr)] := hl
  refine lv_aload_n hx hb dX7_isShort_0 rfl (lv_at hl 0 rfl) ?_
  refine va_get (D := D) (ci := 8) (v := .int (nI C)) (C := RX7) (T := TX7) (N := 20) hx hb hts inX7 hown hK hP 0 rfl rfl 5 (by decide) hfieldLink_RX7_60 (fun _ h9 => h9) rfl dX7_isShort_1 ?_
  refine lv_iload_n hx hb dX7_isShort_4 rfl (lv_at hl 1 rfl) ?_
  refine lv_iconst (v := 2) hx hb dX7_isShort_5 (by decide) ?_
  refine lv_icmp_ne (tgt := 13) hx hb dX7_isShort_6 (by decide) (fun c_6 => ?_) (fun c_6 => ?_)
  · refine lv_iconst (v := 4) hx hb dX7_isShort_13 (by decide) ?_
    refine lv_icmp_gt (tgt := 21) hx hb dX7_isShort_14 (by decide) (fun c_14 => ?_) (fun c_14 => ?_)
    · have c_14 : 4 < C := g_lt (a := 4) (b := C) c_14 (by omega) (by omega)
      refine lv_iconst (v := 0) hx hb dX7_isShort_21 (by decide) ?_
      refine g_zret (v := 0) hx hb hr hlk hP hK hD hS (Nat.le_of_ble_eq_true rfl) (Nat.le_of_ble_eq_true rfl) dX7_isShort_22 (by decide +kernel) ?_
      exact ⟨rfl, by simp only [c_6, if_true, if_false]; first | rw [if_pos (by omega)] | rw [if_neg (by omega)]⟩
    · have c_14 : C ≤ 4 := g_nlt (a := 4) (b := C) c_14 (by omega) (by omega)
      refine lv_iconst (v := 1) hx hb dX7_isShort_17 (by decide) ?_
      refine lv_goto (tgt := 22) hx hb dX7_isShort_18 (by decide) ?_
      refine g_zret (v := 1) hx hb hr hlk hP hK hD hS (Nat.le_of_ble_eq_true rfl) (Nat.le_of_ble_eq_true rfl) dX7_isShort_22 (by decide +kernel) ?_
      exact ⟨rfl, by simp only [c_6, if_true, if_false]; first | rw [if_pos (by omega)] | rw [if_neg (by omega)]⟩
  · refine lv_iconst (v := 2) hx hb dX7_isShort_9 (by decide) ?_
    refine lv_goto (tgt := 14) hx hb dX7_isShort_10 (by decide) ?_
    refine lv_icmp_gt (tgt := 21) hx hb dX7_isShort_14 (by decide) (fun c_14 => ?_) (fun c_14 => ?_)
    · have c_14 : 2 < C := g_lt (a := 2) (b := C) c_14 (by omega) (by omega)
      refine lv_iconst (v := 0) hx hb dX7_isShort_21 (by decide) ?_
      refine g_zret (v := 0) hx hb hr hlk hP hK hD hS (Nat.le_of_ble_eq_true rfl) (Nat.le_of_ble_eq_true rfl) dX7_isShort_22 (by decide +kernel) ?_
      exact ⟨rfl, by simp only [c_6, if_true, if_false]; first | rw [if_pos (by omega)] | rw [if_neg (by omega)]⟩
    · have c_14 : C ≤ 2 := g_nlt (a := 2) (b := C) c_14 (by omega) (by omega)
      refine lv_iconst (v := 1) hx hb dX7_isShort_17 (by decide) ?_
      refine lv_goto (tgt := 22) hx hb dX7_isShort_18 (by decide) ?_
      refine g_zret (v := 1) hx hb hr hlk hP hK hD hS (Nat.le_of_ble_eq_true rfl) (Nat.le_of_ble_eq_true rfl) dX7_isShort_22 (by decide +kernel) ?_
      exact ⟨rfl, by simp only [c_6, if_true, if_false]; first | rw [if_pos (by omega)] | rw [if_neg (by omega)]⟩

set_option maxHeartbeats 4000000 in
set_option maxRecDepth 100000 in
theorem c_X7_isStable (l : Launch) (D : va_G) (cI cJ cO : ClassId) (df sz : Nat) (M : Nat → Nat) (mc : Nat → Int32) (ms : Nat → Int32) (mw : Nat → Int32) (mn : Int32) (mo : Nat → Int32) (mh : Int32) (mu : Nat → Int32) (mk : Int32) (mt : Nat → Int32) (mq : Nat → Int32) (mp : Nat → Int32) (my : Int32) (mf : Nat → Int32) (ma : Nat → Int32) (cy : Int32) (lo : Int32) (gr : Int32) (ov : Int64) (un : Int64) (la : Int32) (J : Nat) (hJ : J < 8) : MetI l yX7_isStable wsX7_isStable ({ frames := 1, cells := 0, slots := 0, locals := 20 } : Room) D (gTY cI cJ cO) df (mW cI M mc ms mw mn mo mh mu mk mt mq mp my mf ma cy lo gr ov un la) sz [.ref (M 0), .int (nI J)] (fun (r : Int32) (w : va_W) => w = mW cI M mc ms mw mn mo mh mu mk mt mq mp my mf ma cy lo gr ov un la ∧ r = mStab mc J) := by
  refine g_of (cc := cX7_isStable) (nL := 4) (ret := (some .boolean)) (D := D) (TY := (gTY cI cJ cO)) (df := df) (Qc := fun A => va_Qi (fun (r : Int32) (w : va_W) => w = mW cI M mc ms mw mn mo mh mu mk mt mq mp my mf ma cy lo gr ov un la ∧ r = mStab mc J) (gB D (gTY cI cJ cO) A) A) (by decide +kernel) rfl (Nat.le_of_ble_eq_true rfl) ?_
  intro p e s m below meth c ls A hsz C0 hin hl
  obtain ⟨CF, hr, hlk, hA, hS, hP, hK, hD, hV, hH⟩ := C0
  have CF : CallFix p m c cX7_isStable 4 s _ wsX7_isStable RX7 := CF
  obtain ⟨hx, hb, hml, hown, hts⟩ := id CF
  subst hsz
  have hfieldLink_RX7_7 : (Cond.fieldLink RX7 7 "TapLoomModel" "coefficients" "[I").before _ s = true := hts _ (List.mem_of_getElem? (i := 1) rfl)
  have hmethodLink_RX7_67 : (Cond.methodLink RX7 67 yX7_size).before _ s = true := hts _ (List.mem_of_getElem? (i := 2) rfl)
  have inX7 : ∀ w ∈ u_ws RX7 TX7 20, w ∈ wsX7_isStable := fun w h => (List.mem_cons_of_mem _ (List.mem_append_right _ h))
  have hP : va_P D ccl (mW cI M mc ms mw mn mo mh mu mk mt mq mp my mf ma cy lo gr ov un la) s.heap := hP
  have hl : lv_has ls 4 [(0, .ref (M 0)), (1, .int (nI J))] := hl
  refine lv_aload_n hx hb dX7_isStable_0 rfl (lv_at hl 0 rfl) ?_
  refine va_get (D := D) (ci := 8) (v := .ref (M 1)) (C := RX7) (T := TX7) (N := 20) hx hb hts inX7 hown hK hP 0 rfl rfl 0 (by decide) hfieldLink_RX7_7 (fun _ h9 => h9) rfl dX7_isStable_1 ?_
  refine lv_iconst (v := 5) hx hb dX7_isStable_4 (by decide) ?_
  refine lv_iload_n hx hb dX7_isStable_5 rfl (lv_at hl 1 rfl) ?_
  refine lv_imul hx hb dX7_isStable_6 ?_
  refine lv_topi (fun f ef => ?_)
  obtain rfl : f = nI (5 * J) := ef.trans (pk_mul _ _)
  refine lv_iconst (v := 3) hx hb dX7_isStable_7 (by decide) ?_
  refine lv_iadd hx hb dX7_isStable_8 ?_
  refine lv_topi (fun f ef => ?_)
  obtain rfl : f = nI ((5 * J) + 3) := ef.trans (nI_add _ _)
  refine va_iald hx hb hK hP 1 0 rfl rfl (vp_in_nI (by omega) (by omega)) dX7_isStable_9 ?_
  refine lv_topi (fun f ef => ?_)
  obtain rfl : f = mc ((5 * J) + 3) := ef.trans (congrArg mc (nI_clamp (n := (5 * J) + 3) (by omega)))
  have hPc : va_P D ccl [] s.heap := fun k q h => by simp at h
  have hDc : va_D A [] := ⟨fun i j p q h => by simp at h, fun k q h => by simp at h⟩
  have hFc := va_free (wc := []) hD hS hA [] rfl
  refine g_Si (As := [.int (mc ((5 * J) + 3))]) (rest := []) CF (c_X7_size l D cI cJ cO df s.heap.size (mc ((5 * J) + 3)) ) (va_cwS 1 hts gX7_isStable_X7_size rfl rfl rfl (by decide +kernel) ⟨Nat.le_of_ble_eq_true rfl, Nat.le_of_ble_eq_true rfl⟩)  hPc hK hDc hV hH hS hFc rfl hl.1 rfl (Nat.le_of_ble_eq_true rfl) dX7_isStable_10 ⟨Nat.le_of_ble_eq_true rfl, Nat.le_of_ble_eq_true rfl⟩ (fun r_10 w1 H1 locs1 hq hP1 hD1 hk hS hz => ?_)
  obtain ⟨rfl, hr_10⟩ := hq
  have hP := g_keep0 hP hk
  clear hPc hDc hFc hP1 hD1 hk hz
  generalize H1 = H at hP hS ⊢
  have hP : va_P D ccl (mW cI M mc ms mw mn mo mh mu mk mt mq mp my mf ma cy lo gr ov un la) H := hP
  have hD : va_D A (mW cI M mc ms mw mn mo mh mu mk mt mq mp my mf ma cy lo gr ov un la) := hD
  subst hr_10
  refine lv_istore_n (lv' := [(2, .int (mSize (mc ((5 * J) + 3)))), (0, .ref (M 0)), (1, .int (nI J))]) hx hb dX7_isStable_13 rfl hl (by decide) rfl (fun ls hl => ?_)
  refine lv_aload_n hx hb dX7_isStable_14 rfl (lv_at hl 1 rfl) ?_
  refine va_get (D := D) (ci := 8) (v := .ref (M 1)) (C := RX7) (T := TX7) (N := 20) hx hb hts inX7 hown hK hP 0 rfl rfl 0 (by decide) hfieldLink_RX7_7 (fun _ h9 => h9) rfl dX7_isStable_15 ?_
  refine lv_iconst (v := 5) hx hb dX7_isStable_18 (by decide) ?_
  refine lv_iload_n hx hb dX7_isStable_19 rfl (lv_at hl 2 rfl) ?_
  refine lv_imul hx hb dX7_isStable_20 ?_
  refine lv_topi (fun f ef => ?_)
  obtain rfl : f = nI (5 * J) := ef.trans (pk_mul _ _)
  refine lv_iconst (v := 4) hx hb dX7_isStable_21 (by decide) ?_
  refine lv_iadd hx hb dX7_isStable_22 ?_
  refine lv_topi (fun f ef => ?_)
  obtain rfl : f = nI ((5 * J) + 4) := ef.trans (nI_add _ _)
  refine va_iald hx hb hK hP 1 0 rfl rfl (vp_in_nI (by omega) (by omega)) dX7_isStable_23 ?_
  refine lv_topi (fun f ef => ?_)
  obtain rfl : f = mc ((5 * J) + 4) := ef.trans (congrArg mc (nI_clamp (n := (5 * J) + 4) (by omega)))
  refine lv_istore_n (lv' := [(3, .int (mc ((5 * J) + 4))), (2, .int (mSize (mc ((5 * J) + 3)))), (0, .ref (M 0)), (1, .int (nI J))]) hx hb dX7_isStable_24 rfl hl (by decide) rfl (fun ls hl => ?_)
  refine lv_iload_n hx hb dX7_isStable_25 rfl (lv_at hl 0 rfl) ?_
  refine lv_bipush (v := (-64)) hx hb dX7_isStable_26 (by decide) ?_
  refine lv_icmp_le (tgt := 49) hx hb dX7_isStable_28 (by decide) (fun c_28 => ?_) (fun c_28 => ?_)
  · have c_28 : ¬ (-64) < (mc ((5 * J) + 4)) := Int32.not_lt.mpr c_28
    refine lv_iconst (v := 0) hx hb dX7_isStable_49 (by decide) ?_
    refine g_zret (v := 0) hx hb hr hlk hP hK hD hS (Nat.le_of_ble_eq_true rfl) (Nat.le_of_ble_eq_true rfl) dX7_isStable_50 (by decide +kernel) ?_
    exact ⟨rfl, (by first | rfl | (simp [mStab, c_28]; done))⟩
  · have c_28 : (-64) < (mc ((5 * J) + 4)) := Int32.not_le.mp c_28
    refine lv_iload_n hx hb dX7_isStable_31 rfl (lv_at hl 0 rfl) ?_
    refine lv_bipush (v := 64) hx hb dX7_isStable_32 (by decide) ?_
    refine lv_icmp_ge (tgt := 49) hx hb dX7_isStable_34 (by decide) (fun c_34 => ?_) (fun c_34 => ?_)
    · have c_34 : ¬ (mc ((5 * J) + 4)) < 64 := Int32.not_lt.mpr c_34
      refine lv_iconst (v := 0) hx hb dX7_isStable_49 (by decide) ?_
      refine g_zret (v := 0) hx hb hr hlk hP hK hD hS (Nat.le_of_ble_eq_true rfl) (Nat.le_of_ble_eq_true rfl) dX7_isStable_50 (by decide +kernel) ?_
      exact ⟨rfl, (by first | rfl | (simp [mStab, c_28, c_34]; done))⟩
    · have c_34 : (mc ((5 * J) + 4)) < 64 := Int32.not_le.mp c_34
      refine lv_iload_n hx hb dX7_isStable_37 rfl (lv_at hl 1 rfl) ?_
      refine lv_iload_n hx hb dX7_isStable_38 rfl (lv_at hl 0 rfl) ?_
      refine lv_bipush (v := 64) hx hb dX7_isStable_39 (by decide) ?_
      refine lv_iadd hx hb dX7_isStable_41 ?_
      refine lv_icmp_ge (tgt := 49) hx hb dX7_isStable_42 (by decide) (fun c_42 => ?_) (fun c_42 => ?_)
      · have c_42 : ¬ (mSize (mc ((5 * J) + 3))) < ((mc ((5 * J) + 4)) + 64) := Int32.not_lt.mpr c_42
        refine lv_iconst (v := 0) hx hb dX7_isStable_49 (by decide) ?_
        refine g_zret (v := 0) hx hb hr hlk hP hK hD hS (Nat.le_of_ble_eq_true rfl) (Nat.le_of_ble_eq_true rfl) dX7_isStable_50 (by decide +kernel) ?_
        exact ⟨rfl, (by first | rfl | (simp [mStab, c_28, c_34, c_42]; done))⟩
      · have c_42 : (mSize (mc ((5 * J) + 3))) < ((mc ((5 * J) + 4)) + 64) := Int32.not_le.mp c_42
        refine lv_iconst (v := 1) hx hb dX7_isStable_45 (by decide) ?_
        refine lv_goto (tgt := 50) hx hb dX7_isStable_46 (by decide) ?_
        refine g_zret (v := 1) hx hb hr hlk hP hK hD hS (Nat.le_of_ble_eq_true rfl) (Nat.le_of_ble_eq_true rfl) dX7_isStable_50 (by decide +kernel) ?_
        exact ⟨rfl, (by first | rfl | (simp [mStab, c_28, c_34, c_42]; done))⟩

set_option maxHeartbeats 4000000 in
set_option maxRecDepth 100000 in
theorem c_X7_of (l : Launch) (D : va_G) (cI cJ cO : ClassId) (df sz : Nat) (M : Nat → Nat) (mc : Nat → Int32) (ms : Nat → Int32) (mw : Nat → Int32) (mo : Nat → Int32) (mu : Nat → Int32) (mk : Int32) (mt : Nat → Int32) (mq : Nat → Int32) (mp : Nat → Int32) (my : Int32) (mf : Nat → Int32) (ma : Nat → Int32) (cy : Int32) (lo : Int32) (gr : Int32) (ov : Int64) (un : Int64) (la : Int32) (N : Nat) (C : Nat) (j : Int32) (wh : Int32) (hN : N ≤ 8) (hC : C ≤ 8) : MetI l yX7_of wsX7_of ({ frames := 2, cells := 0, slots := 0, locals := 43 } : Room) D (gTY cI cJ cO) df (mW cI M mc ms mw (nI N) mo (nI C) mu mk mt mq mp my mf ma cy lo gr ov un la) sz [.ref (M 0), .int j, .int wh] (fun (r : Int32) (w : va_W) => w = mW cI M mc ms mw (nI N) mo (nI C) mu mk mt mq mp my mf ma cy lo gr ov un (gGo (isSec N j) (isIn wh 0 9) 1) ∧ (gGo (isSec N j) (isIn wh 0 9) 1 = 0 → r = (if gN wh < 5 then mc (5 * gN j + gN wh) else if gN wh = 5 then mStab mc (gN j) else if gN wh = 6 then lastAt mo j C else if gN wh < 9 then ms (4 * gN j + gN wh - 5) else mw (gN j)))) := by
  refine g_of (cc := cX7_of) (nL := 3) (ret := (some .int)) (D := D) (TY := (gTY cI cJ cO)) (df := df) (Qc := fun A => va_Qi (fun (r : Int32) (w : va_W) => w = mW cI M mc ms mw (nI N) mo (nI C) mu mk mt mq mp my mf ma cy lo gr ov un (gGo (isSec N j) (isIn wh 0 9) 1) ∧ (gGo (isSec N j) (isIn wh 0 9) 1 = 0 → r = (if gN wh < 5 then mc (5 * gN j + gN wh) else if gN wh = 5 then mStab mc (gN j) else if gN wh = 6 then lastAt mo j C else if gN wh < 9 then ms (4 * gN j + gN wh - 5) else mw (gN j)))) (gB D (gTY cI cJ cO) A) A) (by decide +kernel) rfl (Nat.le_of_ble_eq_true rfl) ?_
  intro p e s m below meth c ls A hsz C0 hin hl
  obtain ⟨CF, hr, hlk, hA, hS, hP, hK, hD, hV, hH⟩ := C0
  have CF : CallFix p m c cX7_of 3 s _ wsX7_of RX7 := CF
  obtain ⟨hx, hb, hml, hown, hts⟩ := id CF
  subst hsz
  have hmethodLink_RX7_56 : (Cond.methodLink RX7 56 yX7_isSection).before _ s = true := hts _ (List.mem_of_getElem? (i := 4) rfl)
  have hmethodLink_RX7_48 : (Cond.methodLink RX7 48 yX7_in).before _ s = true := hts _ (List.mem_of_getElem? (i := 10) rfl)
  have hmethodLink_RX7_52 : (Cond.methodLink RX7 52 yX7_goes).before _ s = true := hts _ (List.mem_of_getElem? (i := 13) rfl)
  have hfieldLink_RX7_16 : (Cond.fieldLink RX7 16 "TapLoomModel" "ways" "[I").before _ s = true := hts _ (List.mem_of_getElem? (i := 3) rfl)
  have hfieldLink_RX7_13 : (Cond.fieldLink RX7 13 "TapLoomModel" "states" "[I").before _ s = true := hts _ (List.mem_of_getElem? (i := 2) rfl)
  have hmethodLink_RX7_63 : (Cond.methodLink RX7 63 yX7_placeOf).before _ s = true := hts _ (List.mem_of_getElem? (i := 25) rfl)
  have hmethodLink_RX7_96 : (Cond.methodLink RX7 96 yX7_isStable).before _ s = true := hts _ (List.mem_of_getElem? (i := 18) rfl)
  have hfieldLink_RX7_7 : (Cond.fieldLink RX7 7 "TapLoomModel" "coefficients" "[I").before _ s = true := hts _ (List.mem_of_getElem? (i := 1) rfl)
  have inX7 : ∀ w ∈ u_ws RX7 TX7 20, w ∈ wsX7_of := fun w h => (List.mem_cons_of_mem _ (List.mem_append_right _ h))
  have hP : va_P D ccl (mW cI M mc ms mw (nI N) mo (nI C) mu mk mt mq mp my mf ma cy lo gr ov un la) s.heap := hP
  have hl : lv_has ls 3 [(0, .ref (M 0)), (1, .int j), (2, .int wh)] := hl
  refine lv_aload_n hx hb dX7_of_0 rfl (lv_at hl 0 rfl) ?_
  refine lv_aload_n hx hb dX7_of_1 rfl (lv_at hl 0 rfl) ?_
  refine lv_iload_n hx hb dX7_of_2 rfl (lv_at hl 1 rfl) ?_
  have hPc := hP.sub (ws' := [(M 0, .inr (8, [.ref (M 1), .ref (M 2), .ref (M 3), .int (nI N), .ref (M 4), .int (nI C), .ref (M 5), .int mk, .ref (M 6), .ref (M 7), .ref (M 8), .int my, .ref (M 9), .ref (M 10), .int cy, .int lo, .int gr, .long ov, .long un, .int la])), (M 1, .inl (cI, 40, .inl mc)), (M 2, .inl (cI, 32, .inl ms)), (M 3, .inl (cI, 8, .inl mw)), (M 4, .inl (cI, 8, .inl mo)), (M 5, .inl (cI, 16, .inl mu)), (M 6, .inl (cI, 32, .inl mt)), (M 7, .inl (cI, 32, .inl mq)), (M 8, .inl (cI, 64, .inl mp)), (M 9, .inl (cI, 40401, .inl mf)), (M 10, .inl (cI, 40401, .inl ma))]) [0, 1, 2, 3, 4, 5, 6, 7, 8, 9, 10] rfl
  have hDc := hD.sub (ws' := [(M 0, .inr (8, [.ref (M 1), .ref (M 2), .ref (M 3), .int (nI N), .ref (M 4), .int (nI C), .ref (M 5), .int mk, .ref (M 6), .ref (M 7), .ref (M 8), .int my, .ref (M 9), .ref (M 10), .int cy, .int lo, .int gr, .long ov, .long un, .int la])), (M 1, .inl (cI, 40, .inl mc)), (M 2, .inl (cI, 32, .inl ms)), (M 3, .inl (cI, 8, .inl mw)), (M 4, .inl (cI, 8, .inl mo)), (M 5, .inl (cI, 16, .inl mu)), (M 6, .inl (cI, 32, .inl mt)), (M 7, .inl (cI, 32, .inl mq)), (M 8, .inl (cI, 64, .inl mp)), (M 9, .inl (cI, 40401, .inl mf)), (M 10, .inl (cI, 40401, .inl ma))]) [0, 1, 2, 3, 4, 5, 6, 7, 8, 9, 10] (by decide) rfl
  have hFc := va_free (wc := [(M 0, .inr (8, [.ref (M 1), .ref (M 2), .ref (M 3), .int (nI N), .ref (M 4), .int (nI C), .ref (M 5), .int mk, .ref (M 6), .ref (M 7), .ref (M 8), .int my, .ref (M 9), .ref (M 10), .int cy, .int lo, .int gr, .long ov, .long un, .int la])), (M 1, .inl (cI, 40, .inl mc)), (M 2, .inl (cI, 32, .inl ms)), (M 3, .inl (cI, 8, .inl mw)), (M 4, .inl (cI, 8, .inl mo)), (M 5, .inl (cI, 16, .inl mu)), (M 6, .inl (cI, 32, .inl mt)), (M 7, .inl (cI, 32, .inl mq)), (M 8, .inl (cI, 64, .inl mp)), (M 9, .inl (cI, 40401, .inl mf)), (M 10, .inl (cI, 40401, .inl ma))]) hD hS hA [0, 1, 2, 3, 4, 5, 6, 7, 8, 9, 10] rfl
  refine g_Vi (As := [.int j]) (rest := [.ref (M 0)]) CF (c_X7_isSection l D cI cJ cO df s.heap.size M mc ms mw mo (nI C) mu mk mt mq mp my mf ma cy lo gr ov un la N j (by omega)) (cwV 1 hts gX7_of_X7_isSection rfl rfl rfl (by decide +kernel) ⟨Nat.le_of_ble_eq_true rfl, Nat.le_of_ble_eq_true rfl⟩) (va_recv hK hP (ci := 8) (q0 := 0) rfl rfl) hPc hK hDc hV hH hS hFc rfl hl.1 rfl (Nat.le_of_ble_eq_true rfl) dX7_of_3 ⟨Nat.le_of_ble_eq_true rfl, Nat.le_of_ble_eq_true rfl⟩ (fun r_3 w1 H1 locs1 hq hP1 hD1 hk hS hz => ?_)
  obtain ⟨rfl, hr_3⟩ := hq
  have hP := g_keepR hP hD [0, 1, 2, 3, 4, 5, 6, 7, 8, 9, 10] rfl hk hP1
  clear hPc hDc hFc hP1 hD1 hk hz
  generalize H1 = H at hP hS ⊢
  have hP : va_P D ccl (mW cI M mc ms mw (nI N) mo (nI C) mu mk mt mq mp my mf ma cy lo gr ov un la) H := hP
  have hD : va_D A (mW cI M mc ms mw (nI N) mo (nI C) mu mk mt mq mp my mf ma cy lo gr ov un la) := hD
  subst hr_3
  refine lv_iload_n hx hb dX7_of_6 rfl (lv_at hl 2 rfl) ?_
  refine lv_iconst (v := 0) hx hb dX7_of_7 (by decide) ?_
  refine lv_bipush (v := 9) hx hb dX7_of_8 (by decide) ?_
  have hPc : va_P D ccl [] H := fun k q h => by simp at h
  have hDc : va_D A [] := ⟨fun i j p q h => by simp at h, fun k q h => by simp at h⟩
  have hFc := va_free (wc := []) hD hS hA [] rfl
  refine g_Si (As := [.int wh, .int 0, .int 9]) (rest := [.int (isSec N j), .ref (M 0)]) CF (c_X7_in l D cI cJ cO df H.size wh 0 9 ) (va_cwS 3 hts gX7_of_X7_in rfl rfl rfl (by decide +kernel) ⟨Nat.le_of_ble_eq_true rfl, Nat.le_of_ble_eq_true rfl⟩)  hPc hK hDc hV hH hS hFc rfl hl.1 rfl (Nat.le_of_ble_eq_true rfl) dX7_of_10 ⟨Nat.le_of_ble_eq_true rfl, Nat.le_of_ble_eq_true rfl⟩ (fun r_10 w1 H1 locs1 hq hP1 hD1 hk hS hz => ?_)
  obtain ⟨rfl, hr_10⟩ := hq
  have hP := g_keep0 hP hk
  clear hPc hDc hFc hP1 hD1 hk hz
  generalize H1 = H at hP hS ⊢
  have hP : va_P D ccl (mW cI M mc ms mw (nI N) mo (nI C) mu mk mt mq mp my mf ma cy lo gr ov un la) H := hP
  have hD : va_D A (mW cI M mc ms mw (nI N) mo (nI C) mu mk mt mq mp my mf ma cy lo gr ov un la) := hD
  subst hr_10
  refine lv_iconst (v := 1) hx hb dX7_of_13 (by decide) ?_
  have hPc := hP.sub (ws' := [(M 0, .inr (8, [.ref (M 1), .ref (M 2), .ref (M 3), .int (nI N), .ref (M 4), .int (nI C), .ref (M 5), .int mk, .ref (M 6), .ref (M 7), .ref (M 8), .int my, .ref (M 9), .ref (M 10), .int cy, .int lo, .int gr, .long ov, .long un, .int la])), (M 1, .inl (cI, 40, .inl mc)), (M 2, .inl (cI, 32, .inl ms)), (M 3, .inl (cI, 8, .inl mw)), (M 4, .inl (cI, 8, .inl mo)), (M 5, .inl (cI, 16, .inl mu)), (M 6, .inl (cI, 32, .inl mt)), (M 7, .inl (cI, 32, .inl mq)), (M 8, .inl (cI, 64, .inl mp)), (M 9, .inl (cI, 40401, .inl mf)), (M 10, .inl (cI, 40401, .inl ma))]) [0, 1, 2, 3, 4, 5, 6, 7, 8, 9, 10] rfl
  have hDc := hD.sub (ws' := [(M 0, .inr (8, [.ref (M 1), .ref (M 2), .ref (M 3), .int (nI N), .ref (M 4), .int (nI C), .ref (M 5), .int mk, .ref (M 6), .ref (M 7), .ref (M 8), .int my, .ref (M 9), .ref (M 10), .int cy, .int lo, .int gr, .long ov, .long un, .int la])), (M 1, .inl (cI, 40, .inl mc)), (M 2, .inl (cI, 32, .inl ms)), (M 3, .inl (cI, 8, .inl mw)), (M 4, .inl (cI, 8, .inl mo)), (M 5, .inl (cI, 16, .inl mu)), (M 6, .inl (cI, 32, .inl mt)), (M 7, .inl (cI, 32, .inl mq)), (M 8, .inl (cI, 64, .inl mp)), (M 9, .inl (cI, 40401, .inl mf)), (M 10, .inl (cI, 40401, .inl ma))]) [0, 1, 2, 3, 4, 5, 6, 7, 8, 9, 10] (by decide) rfl
  have hFc := va_free (wc := [(M 0, .inr (8, [.ref (M 1), .ref (M 2), .ref (M 3), .int (nI N), .ref (M 4), .int (nI C), .ref (M 5), .int mk, .ref (M 6), .ref (M 7), .ref (M 8), .int my, .ref (M 9), .ref (M 10), .int cy, .int lo, .int gr, .long ov, .long un, .int la])), (M 1, .inl (cI, 40, .inl mc)), (M 2, .inl (cI, 32, .inl ms)), (M 3, .inl (cI, 8, .inl mw)), (M 4, .inl (cI, 8, .inl mo)), (M 5, .inl (cI, 16, .inl mu)), (M 6, .inl (cI, 32, .inl mt)), (M 7, .inl (cI, 32, .inl mq)), (M 8, .inl (cI, 64, .inl mp)), (M 9, .inl (cI, 40401, .inl mf)), (M 10, .inl (cI, 40401, .inl ma))]) hD hS hA [0, 1, 2, 3, 4, 5, 6, 7, 8, 9, 10] rfl
  refine g_Vi (As := [.int (isSec N j), .int (isIn wh 0 9), .int 1]) (rest := []) CF (c_X7_goes l D cI cJ cO df H.size M mc ms mw (nI N) mo (nI C) mu mk mt mq mp my mf ma cy lo gr ov un la (isSec N j) (isIn wh 0 9) 1 ) (cwV 3 hts gX7_of_X7_goes rfl rfl rfl (by decide +kernel) ⟨Nat.le_of_ble_eq_true rfl, Nat.le_of_ble_eq_true rfl⟩) (va_recv hK hP (ci := 8) (q0 := 0) rfl rfl) hPc hK hDc hV hH hS hFc rfl hl.1 rfl (Nat.le_of_ble_eq_true rfl) dX7_of_14 ⟨Nat.le_of_ble_eq_true rfl, Nat.le_of_ble_eq_true rfl⟩ (fun r_14 w1 H1 locs1 hq hP1 hD1 hk hS hz => ?_)
  obtain ⟨rfl, hr_14⟩ := hq
  obtain ⟨hP, hD⟩ := g_join (ws' := (mW cI M mc ms mw (nI N) mo (nI C) mu mk mt mq mp my mf ma cy lo gr ov un (gGo (isSec N j) (isIn wh 0 9) 1))) hP hD hk hFc hP1 hD1 [0, 1, 2, 3, 4, 5, 6, 7, 8, 9, 10] [] [0, 1, 2, 3, 4, 5, 6, 7, 8, 9, 10] rfl rfl (by decide) (by decide) (by decide) rfl
  clear hPc hDc hFc hP1 hD1 hk hz
  generalize H1 = H at hP hS ⊢
  have hP : va_P D ccl (mW cI M mc ms mw (nI N) mo (nI C) mu mk mt mq mp my mf ma cy lo gr ov un (gGo (isSec N j) (isIn wh 0 9) 1)) H := hP
  have hD : va_D A (mW cI M mc ms mw (nI N) mo (nI C) mu mk mt mq mp my mf ma cy lo gr ov un (gGo (isSec N j) (isIn wh 0 9) 1)) := hD
  subst hr_14
  refine lv_if_ne (tgt := 22) hx hb dX7_of_17 (by decide) (fun c_17 => ?_) (fun c_17 => ?_)
  · have c_17 : gGo (isSec N j) (isIn wh 0 9) 1 = 0 := g_b1 c_17
    have hv0 := gGo_0 c_17
    obtain ⟨J, hJ, rfl⟩ := isSec_get hN hv0.1
    obtain ⟨w0, hw1, rfl⟩ := isIn_nat 9 (by decide) hv0.2.1
    refine lv_iload_n hx hb dX7_of_22 rfl (lv_at hl 2 rfl) ?_
    refine lv_iconst (v := 5) hx hb dX7_of_23 (by decide) ?_
    refine lv_icmp_ge (tgt := 40) hx hb dX7_of_24 (by decide) (fun c_24 => ?_) (fun c_24 => ?_)
    · have c_24 : 5 ≤ w0 := g_le (a := 5) (b := w0) c_24 (by omega) (by omega)
      refine lv_iload_n hx hb dX7_of_40 rfl (lv_at hl 2 rfl) ?_
      refine lv_iconst (v := 5) hx hb dX7_of_41 (by decide) ?_
      refine lv_icmp_ne (tgt := 61) hx hb dX7_of_42 (by decide) (fun c_42 => ?_) (fun c_42 => ?_)
      · have c_42 : w0 ≠ 5 := g_ne (a := w0) (b := 5) c_42 (by omega) (by omega)
        refine lv_iload_n hx hb dX7_of_61 rfl (lv_at hl 2 rfl) ?_
        refine lv_bipush (v := 6) hx hb dX7_of_62 (by decide) ?_
        refine lv_icmp_ne (tgt := 75) hx hb dX7_of_64 (by decide) (fun c_64 => ?_) (fun c_64 => ?_)
        · have c_64 : w0 ≠ 6 := g_ne (a := w0) (b := 6) c_64 (by omega) (by omega)
          refine lv_iload_n hx hb dX7_of_75 rfl (lv_at hl 2 rfl) ?_
          refine lv_bipush (v := 9) hx hb dX7_of_76 (by decide) ?_
          refine lv_icmp_ge (tgt := 96) hx hb dX7_of_78 (by decide) (fun c_78 => ?_) (fun c_78 => ?_)
          · have c_78 : 9 ≤ w0 := g_le (a := 9) (b := w0) c_78 (by omega) (by omega)
            refine lv_aload_n hx hb dX7_of_96 rfl (lv_at hl 0 rfl) ?_
            refine va_get (D := D) (ci := 8) (v := .ref (M 3)) (C := RX7) (T := TX7) (N := 20) hx hb hts inX7 hown hK hP 0 rfl rfl 2 (by decide) hfieldLink_RX7_16 (fun _ h9 => h9) rfl dX7_of_97 ?_
            refine lv_iload_n hx hb dX7_of_100 rfl (lv_at hl 1 rfl) ?_
            refine va_iald hx hb hK hP 3 0 rfl rfl (vp_in_nI (by omega) (by omega)) dX7_of_101 ?_
            refine lv_topi (fun f ef => ?_)
            obtain rfl : f = mw J := ef.trans (congrArg mw (nI_clamp (n := J) (by omega)))
            refine g_iret (v := mw J) hx hb hr hlk hP hK hD hS (Nat.le_of_ble_eq_true rfl) (Nat.le_of_ble_eq_true rfl) dX7_of_102 ?_
            exact ⟨rfl, fun _ => by rw [gN_nI (by omega), gN_nI (by omega)]; (repeat (first | rw [if_pos (by omega)] | rw [if_neg (by omega)])); try rfl⟩
          · have c_78 : w0 < 9 := g_nle (a := 9) (b := w0) c_78 (by omega) (by omega)
            refine lv_aload_n hx hb dX7_of_81 rfl (lv_at hl 0 rfl) ?_
            refine va_get (D := D) (ci := 8) (v := .ref (M 2)) (C := RX7) (T := TX7) (N := 20) hx hb hts inX7 hown hK hP 0 rfl rfl 1 (by decide) hfieldLink_RX7_13 (fun _ h9 => h9) rfl dX7_of_82 ?_
            refine lv_iconst (v := 4) hx hb dX7_of_85 (by decide) ?_
            refine lv_iload_n hx hb dX7_of_86 rfl (lv_at hl 1 rfl) ?_
            refine lv_imul hx hb dX7_of_87 ?_
            refine lv_topi (fun f ef => ?_)
            obtain rfl : f = nI (4 * J) := ef.trans (pk_mul _ _)
            refine lv_iload_n hx hb dX7_of_88 rfl (lv_at hl 2 rfl) ?_
            refine lv_iadd hx hb dX7_of_89 ?_
            refine lv_topi (fun f ef => ?_)
            obtain rfl : f = nI ((4 * J) + w0) := ef.trans (nI_add _ _)
            refine lv_iconst (v := 5) hx hb dX7_of_90 (by decide) ?_
            refine lv_isub hx hb dX7_of_91 ?_
            refine lv_topi (fun f ef => ?_)
            obtain rfl : f = nI (4 * J + w0 - 5) := ef.trans (pk_sub (a := 4 * J + w0) (b := 5) (by omega))
            refine va_iald hx hb hK hP 2 0 rfl rfl (vp_in_nI (by omega) (by omega)) dX7_of_92 ?_
            refine lv_topi (fun f ef => ?_)
            obtain rfl : f = ms (4 * J + w0 - 5) := ef.trans (congrArg ms (nI_clamp (n := 4 * J + w0 - 5) (by omega)))
            refine lv_goto (tgt := 102) hx hb dX7_of_93 (by decide) ?_
            refine g_iret (v := ms (4 * J + w0 - 5)) hx hb hr hlk hP hK hD hS (Nat.le_of_ble_eq_true rfl) (Nat.le_of_ble_eq_true rfl) dX7_of_102 ?_
            exact ⟨rfl, fun _ => by rw [gN_nI (by omega), gN_nI (by omega)]; (repeat (first | rw [if_pos (by omega)] | rw [if_neg (by omega)])); try rfl⟩
        · have c_64 : w0 = 6 := g_eq (a := w0) (b := 6) c_64 (by omega) (by omega)
          refine lv_aload_n hx hb dX7_of_67 rfl (lv_at hl 0 rfl) ?_
          refine lv_iload_n hx hb dX7_of_68 rfl (lv_at hl 1 rfl) ?_
          have hPc := hP.sub (ws' := [(M 0, .inr (8, [.ref (M 1), .ref (M 2), .ref (M 3), .int (nI N), .ref (M 4), .int (nI C), .ref (M 5), .int mk, .ref (M 6), .ref (M 7), .ref (M 8), .int my, .ref (M 9), .ref (M 10), .int cy, .int lo, .int gr, .long ov, .long un, .int (gGo (isSec N (nI J)) (isIn (nI w0) 0 9) 1)])), (M 1, .inl (cI, 40, .inl mc)), (M 2, .inl (cI, 32, .inl ms)), (M 3, .inl (cI, 8, .inl mw)), (M 4, .inl (cI, 8, .inl mo)), (M 5, .inl (cI, 16, .inl mu)), (M 6, .inl (cI, 32, .inl mt)), (M 7, .inl (cI, 32, .inl mq)), (M 8, .inl (cI, 64, .inl mp)), (M 9, .inl (cI, 40401, .inl mf)), (M 10, .inl (cI, 40401, .inl ma))]) [0, 1, 2, 3, 4, 5, 6, 7, 8, 9, 10] rfl
          have hDc := hD.sub (ws' := [(M 0, .inr (8, [.ref (M 1), .ref (M 2), .ref (M 3), .int (nI N), .ref (M 4), .int (nI C), .ref (M 5), .int mk, .ref (M 6), .ref (M 7), .ref (M 8), .int my, .ref (M 9), .ref (M 10), .int cy, .int lo, .int gr, .long ov, .long un, .int (gGo (isSec N (nI J)) (isIn (nI w0) 0 9) 1)])), (M 1, .inl (cI, 40, .inl mc)), (M 2, .inl (cI, 32, .inl ms)), (M 3, .inl (cI, 8, .inl mw)), (M 4, .inl (cI, 8, .inl mo)), (M 5, .inl (cI, 16, .inl mu)), (M 6, .inl (cI, 32, .inl mt)), (M 7, .inl (cI, 32, .inl mq)), (M 8, .inl (cI, 64, .inl mp)), (M 9, .inl (cI, 40401, .inl mf)), (M 10, .inl (cI, 40401, .inl ma))]) [0, 1, 2, 3, 4, 5, 6, 7, 8, 9, 10] (by decide) rfl
          have hFc := va_free (wc := [(M 0, .inr (8, [.ref (M 1), .ref (M 2), .ref (M 3), .int (nI N), .ref (M 4), .int (nI C), .ref (M 5), .int mk, .ref (M 6), .ref (M 7), .ref (M 8), .int my, .ref (M 9), .ref (M 10), .int cy, .int lo, .int gr, .long ov, .long un, .int (gGo (isSec N (nI J)) (isIn (nI w0) 0 9) 1)])), (M 1, .inl (cI, 40, .inl mc)), (M 2, .inl (cI, 32, .inl ms)), (M 3, .inl (cI, 8, .inl mw)), (M 4, .inl (cI, 8, .inl mo)), (M 5, .inl (cI, 16, .inl mu)), (M 6, .inl (cI, 32, .inl mt)), (M 7, .inl (cI, 32, .inl mq)), (M 8, .inl (cI, 64, .inl mp)), (M 9, .inl (cI, 40401, .inl mf)), (M 10, .inl (cI, 40401, .inl ma))]) hD hS hA [0, 1, 2, 3, 4, 5, 6, 7, 8, 9, 10] rfl
          refine g_Vi (As := [.int (nI J)]) (rest := []) CF (c_X7_placeOf l D cI cJ cO df H.size M mc ms mw (nI N) mo mu mk mt mq mp my mf ma cy lo gr ov un (gGo (isSec N (nI J)) (isIn (nI w0) 0 9) 1) C (nI J) (by omega)) (cwV 1 hts gX7_of_X7_placeOf rfl rfl rfl (by decide +kernel) ⟨Nat.le_of_ble_eq_true rfl, Nat.le_of_ble_eq_true rfl⟩) (va_recv hK hP (ci := 8) (q0 := 0) rfl rfl) hPc hK hDc hV hH hS hFc rfl hl.1 rfl (Nat.le_of_ble_eq_true rfl) dX7_of_69 ⟨Nat.le_of_ble_eq_true rfl, Nat.le_of_ble_eq_true rfl⟩ (fun r_69 w1 H1 locs1 hq hP1 hD1 hk hS hz => ?_)
          obtain ⟨rfl, hr_69⟩ := hq
          have hP := g_keepR hP hD [0, 1, 2, 3, 4, 5, 6, 7, 8, 9, 10] rfl hk hP1
          clear hPc hDc hFc hP1 hD1 hk hz
          generalize H1 = H at hP hS ⊢
          have hP : va_P D ccl (mW cI M mc ms mw (nI N) mo (nI C) mu mk mt mq mp my mf ma cy lo gr ov un (gGo (isSec N (nI J)) (isIn (nI w0) 0 9) 1)) H := hP
          have hD : va_D A (mW cI M mc ms mw (nI N) mo (nI C) mu mk mt mq mp my mf ma cy lo gr ov un (gGo (isSec N (nI J)) (isIn (nI w0) 0 9) 1)) := hD
          subst hr_69
          refine lv_goto (tgt := 102) hx hb dX7_of_72 (by decide) ?_
          refine g_iret (v := lastAt mo (nI J) C) hx hb hr hlk hP hK hD hS (Nat.le_of_ble_eq_true rfl) (Nat.le_of_ble_eq_true rfl) dX7_of_102 ?_
          exact ⟨rfl, fun _ => by rw [gN_nI (by omega), gN_nI (by omega)]; (repeat (first | rw [if_pos (by omega)] | rw [if_neg (by omega)])); try rfl⟩
      · have c_42 : w0 = 5 := g_eq (a := w0) (b := 5) c_42 (by omega) (by omega)
        refine lv_aload_n hx hb dX7_of_45 rfl (lv_at hl 0 rfl) ?_
        refine lv_iload_n hx hb dX7_of_46 rfl (lv_at hl 1 rfl) ?_
        have hPc := hP.sub (ws' := [(M 0, .inr (8, [.ref (M 1), .ref (M 2), .ref (M 3), .int (nI N), .ref (M 4), .int (nI C), .ref (M 5), .int mk, .ref (M 6), .ref (M 7), .ref (M 8), .int my, .ref (M 9), .ref (M 10), .int cy, .int lo, .int gr, .long ov, .long un, .int (gGo (isSec N (nI J)) (isIn (nI w0) 0 9) 1)])), (M 1, .inl (cI, 40, .inl mc)), (M 2, .inl (cI, 32, .inl ms)), (M 3, .inl (cI, 8, .inl mw)), (M 4, .inl (cI, 8, .inl mo)), (M 5, .inl (cI, 16, .inl mu)), (M 6, .inl (cI, 32, .inl mt)), (M 7, .inl (cI, 32, .inl mq)), (M 8, .inl (cI, 64, .inl mp)), (M 9, .inl (cI, 40401, .inl mf)), (M 10, .inl (cI, 40401, .inl ma))]) [0, 1, 2, 3, 4, 5, 6, 7, 8, 9, 10] rfl
        have hDc := hD.sub (ws' := [(M 0, .inr (8, [.ref (M 1), .ref (M 2), .ref (M 3), .int (nI N), .ref (M 4), .int (nI C), .ref (M 5), .int mk, .ref (M 6), .ref (M 7), .ref (M 8), .int my, .ref (M 9), .ref (M 10), .int cy, .int lo, .int gr, .long ov, .long un, .int (gGo (isSec N (nI J)) (isIn (nI w0) 0 9) 1)])), (M 1, .inl (cI, 40, .inl mc)), (M 2, .inl (cI, 32, .inl ms)), (M 3, .inl (cI, 8, .inl mw)), (M 4, .inl (cI, 8, .inl mo)), (M 5, .inl (cI, 16, .inl mu)), (M 6, .inl (cI, 32, .inl mt)), (M 7, .inl (cI, 32, .inl mq)), (M 8, .inl (cI, 64, .inl mp)), (M 9, .inl (cI, 40401, .inl mf)), (M 10, .inl (cI, 40401, .inl ma))]) [0, 1, 2, 3, 4, 5, 6, 7, 8, 9, 10] (by decide) rfl
        have hFc := va_free (wc := [(M 0, .inr (8, [.ref (M 1), .ref (M 2), .ref (M 3), .int (nI N), .ref (M 4), .int (nI C), .ref (M 5), .int mk, .ref (M 6), .ref (M 7), .ref (M 8), .int my, .ref (M 9), .ref (M 10), .int cy, .int lo, .int gr, .long ov, .long un, .int (gGo (isSec N (nI J)) (isIn (nI w0) 0 9) 1)])), (M 1, .inl (cI, 40, .inl mc)), (M 2, .inl (cI, 32, .inl ms)), (M 3, .inl (cI, 8, .inl mw)), (M 4, .inl (cI, 8, .inl mo)), (M 5, .inl (cI, 16, .inl mu)), (M 6, .inl (cI, 32, .inl mt)), (M 7, .inl (cI, 32, .inl mq)), (M 8, .inl (cI, 64, .inl mp)), (M 9, .inl (cI, 40401, .inl mf)), (M 10, .inl (cI, 40401, .inl ma))]) hD hS hA [0, 1, 2, 3, 4, 5, 6, 7, 8, 9, 10] rfl
        refine g_Vi (As := [.int (nI J)]) (rest := []) CF (c_X7_isStable l D cI cJ cO df H.size M mc ms mw (nI N) mo (nI C) mu mk mt mq mp my mf ma cy lo gr ov un (gGo (isSec N (nI J)) (isIn (nI w0) 0 9) 1) J (by omega)) (cwV 1 hts gX7_of_X7_isStable rfl rfl rfl (by decide +kernel) ⟨Nat.le_of_ble_eq_true rfl, Nat.le_of_ble_eq_true rfl⟩) (va_recv hK hP (ci := 8) (q0 := 0) rfl rfl) hPc hK hDc hV hH hS hFc rfl hl.1 rfl (Nat.le_of_ble_eq_true rfl) dX7_of_47 ⟨Nat.le_of_ble_eq_true rfl, Nat.le_of_ble_eq_true rfl⟩ (fun r_47 w1 H1 locs1 hq hP1 hD1 hk hS hz => ?_)
        obtain ⟨rfl, hr_47⟩ := hq
        have hP := g_keepR hP hD [0, 1, 2, 3, 4, 5, 6, 7, 8, 9, 10] rfl hk hP1
        clear hPc hDc hFc hP1 hD1 hk hz
        generalize H1 = H at hP hS ⊢
        have hP : va_P D ccl (mW cI M mc ms mw (nI N) mo (nI C) mu mk mt mq mp my mf ma cy lo gr ov un (gGo (isSec N (nI J)) (isIn (nI w0) 0 9) 1)) H := hP
        have hD : va_D A (mW cI M mc ms mw (nI N) mo (nI C) mu mk mt mq mp my mf ma cy lo gr ov un (gGo (isSec N (nI J)) (isIn (nI w0) 0 9) 1)) := hD
        subst hr_47
        refine lv_if_eq (tgt := 57) hx hb dX7_of_50 (by decide) (fun c_50 => ?_) (fun c_50 => ?_)
        · refine lv_iconst (v := 0) hx hb dX7_of_57 (by decide) ?_
          refine lv_goto (tgt := 102) hx hb dX7_of_58 (by decide) ?_
          refine g_iret (v := 0) hx hb hr hlk hP hK hD hS (Nat.le_of_ble_eq_true rfl) (Nat.le_of_ble_eq_true rfl) dX7_of_102 ?_
          exact ⟨rfl, fun _ => by rw [gN_nI (by omega), gN_nI (by omega)]; (repeat (first | rw [if_pos (by omega)] | rw [if_neg (by omega)])); first | done | exact c_50.symm | exact ((mStab_01 mc J).resolve_left c_50).symm⟩
        · refine lv_iconst (v := 1) hx hb dX7_of_53 (by decide) ?_
          refine lv_goto (tgt := 102) hx hb dX7_of_54 (by decide) ?_
          refine g_iret (v := 1) hx hb hr hlk hP hK hD hS (Nat.le_of_ble_eq_true rfl) (Nat.le_of_ble_eq_true rfl) dX7_of_102 ?_
          exact ⟨rfl, fun _ => by rw [gN_nI (by omega), gN_nI (by omega)]; (repeat (first | rw [if_pos (by omega)] | rw [if_neg (by omega)])); first | done | exact c_50.symm | exact ((mStab_01 mc J).resolve_left c_50).symm⟩
    · have c_24 : w0 < 5 := g_nle (a := 5) (b := w0) c_24 (by omega) (by omega)
      refine lv_aload_n hx hb dX7_of_27 rfl (lv_at hl 0 rfl) ?_
      refine va_get (D := D) (ci := 8) (v := .ref (M 1)) (C := RX7) (T := TX7) (N := 20) hx hb hts inX7 hown hK hP 0 rfl rfl 0 (by decide) hfieldLink_RX7_7 (fun _ h9 => h9) rfl dX7_of_28 ?_
      refine lv_iconst (v := 5) hx hb dX7_of_31 (by decide) ?_
      refine lv_iload_n hx hb dX7_of_32 rfl (lv_at hl 1 rfl) ?_
      refine lv_imul hx hb dX7_of_33 ?_
      refine lv_topi (fun f ef => ?_)
      obtain rfl : f = nI (5 * J) := ef.trans (pk_mul _ _)
      refine lv_iload_n hx hb dX7_of_34 rfl (lv_at hl 2 rfl) ?_
      refine lv_iadd hx hb dX7_of_35 ?_
      refine lv_topi (fun f ef => ?_)
      obtain rfl : f = nI ((5 * J) + w0) := ef.trans (nI_add _ _)
      refine va_iald hx hb hK hP 1 0 rfl rfl (vp_in_nI (by omega) (by omega)) dX7_of_36 ?_
      refine lv_topi (fun f ef => ?_)
      obtain rfl : f = mc ((5 * J) + w0) := ef.trans (congrArg mc (nI_clamp (n := (5 * J) + w0) (by omega)))
      refine lv_goto (tgt := 102) hx hb dX7_of_37 (by decide) ?_
      refine g_iret (v := mc ((5 * J) + w0)) hx hb hr hlk hP hK hD hS (Nat.le_of_ble_eq_true rfl) (Nat.le_of_ble_eq_true rfl) dX7_of_102 ?_
      exact ⟨rfl, fun _ => by rw [gN_nI (by omega), gN_nI (by omega)]; (repeat (first | rw [if_pos (by omega)] | rw [if_neg (by omega)])); try rfl⟩
  · have c_17 : ¬ (gGo (isSec N j) (isIn wh 0 9) 1 = 0) := g_b0 c_17
    refine lv_iconst (v := 0) hx hb dX7_of_20 (by decide) ?_
    refine g_iret (v := 0) hx hb hr hlk hP hK hD hS (Nat.le_of_ble_eq_true rfl) (Nat.le_of_ble_eq_true rfl) dX7_of_21 ?_
    exact ⟨rfl, fun h => absurd h c_17⟩

set_option maxHeartbeats 4000000 in
set_option maxRecDepth 100000 in
theorem c_X7_sample (l : Launch) (D : va_G) (cI cJ cO : ClassId) (df sz : Nat) (M : Nat → Nat) (mc : Nat → Int32) (ms : Nat → Int32) (mw : Nat → Int32) (mn : Int32) (mo : Nat → Int32) (mh : Int32) (mu : Nat → Int32) (mk : Int32) (mt : Nat → Int32) (mq : Nat → Int32) (mp : Nat → Int32) (mf : Nat → Int32) (ma : Nat → Int32) (cy : Int32) (lo : Int32) (gr : Int32) (ov : Int64) (un : Int64) (la : Int32) (Y : Nat) (v : Int32) (hY : Y ≤ 64) : MetI l yX7_sample wsX7_sample ({ frames := 1, cells := 0, slots := 0, locals := 23 } : Room) D (gTY cI cJ cO) df (mW cI M mc ms mw mn mo mh mu mk mt mq mp (nI Y) mf ma cy lo gr ov un la) sz [.ref (M 0), .int v] (fun (r : Int32) (w : va_W) => ∃ (p1 : Nat → Int32), ∃ (y1 : Int32), w = mW cI M mc ms mw mn mo mh mu mk mt mq p1 y1 mf ma cy lo gr ov un (gGo (isIn v (-96) 96) 1 1) ∧ (gGo (isIn v (-96) 96) 1 1 = 0 → p1 = shiftIn 64 mp (rs97 v) ∧ y1 = nI (if Y < 64 then Y + 1 else Y) ∧ r = nI (if Y < 64 then Y + 1 else Y)) ∧ (¬ gGo (isIn v (-96) 96) 1 1 = 0 → p1 = mp ∧ y1 = nI Y)) := by
  refine g_of (cc := cX7_sample) (nL := 3) (ret := (some .int)) (D := D) (TY := (gTY cI cJ cO)) (df := df) (Qc := fun A => va_Qi (fun (r : Int32) (w : va_W) => ∃ (p1 : Nat → Int32), ∃ (y1 : Int32), w = mW cI M mc ms mw mn mo mh mu mk mt mq p1 y1 mf ma cy lo gr ov un (gGo (isIn v (-96) 96) 1 1) ∧ (gGo (isIn v (-96) 96) 1 1 = 0 → p1 = shiftIn 64 mp (rs97 v) ∧ y1 = nI (if Y < 64 then Y + 1 else Y) ∧ r = nI (if Y < 64 then Y + 1 else Y)) ∧ (¬ gGo (isIn v (-96) 96) 1 1 = 0 → p1 = mp ∧ y1 = nI Y)) (gB D (gTY cI cJ cO) A) A) (by decide +kernel) rfl (Nat.le_of_ble_eq_true rfl) ?_
  intro p e s m below meth c ls A hsz C0 hin hl
  obtain ⟨CF, hr, hlk, hA, hS, hP, hK, hD, hV, hH⟩ := C0
  have CF : CallFix p m c cX7_sample 3 s _ wsX7_sample RX7 := CF
  obtain ⟨hx, hb, hml, hown, hts⟩ := id CF
  subst hsz
  have hmethodLink_RX7_48 : (Cond.methodLink RX7 48 yX7_in).before _ s = true := hts _ (List.mem_of_getElem? (i := 3) rfl)
  have hmethodLink_RX7_52 : (Cond.methodLink RX7 52 yX7_goes).before _ s = true := hts _ (List.mem_of_getElem? (i := 7) rfl)
  have hfieldLink_RX7_31 : (Cond.fieldLink RX7 31 "TapLoomModel" "samples" "[I").before _ s = true := hts _ (List.mem_of_getElem? (i := 1) rfl)
  have hmethodLink_RX7_87 : (Cond.methodLink RX7 87 yX7_rest).before _ s = true := hts _ (List.mem_of_getElem? (i := 12) rfl)
  have hfieldLink_RX7_93 : (Cond.fieldLink RX7 93 "TapLoomModel" "many" "I").before _ s = true := hts _ (List.mem_of_getElem? (i := 2) rfl)
  have inX7 : ∀ w ∈ u_ws RX7 TX7 20, w ∈ wsX7_sample := fun w h => (List.mem_cons_of_mem _ (List.mem_append_right _ h))
  have hP : va_P D ccl (mW cI M mc ms mw mn mo mh mu mk mt mq mp (nI Y) mf ma cy lo gr ov un la) s.heap := hP
  have hl : lv_has ls 3 [(0, .ref (M 0)), (1, .int v)] := hl
  refine lv_aload_n hx hb dX7_sample_0 rfl (lv_at hl 0 rfl) ?_
  refine lv_iload_n hx hb dX7_sample_1 rfl (lv_at hl 1 rfl) ?_
  refine lv_bipush (v := (-96)) hx hb dX7_sample_2 (by decide) ?_
  refine lv_bipush (v := 96) hx hb dX7_sample_4 (by decide) ?_
  have hPc : va_P D ccl [] s.heap := fun k q h => by simp at h
  have hDc : va_D A [] := ⟨fun i j p q h => by simp at h, fun k q h => by simp at h⟩
  have hFc := va_free (wc := []) hD hS hA [] rfl
  refine g_Si (As := [.int v, .int (-96), .int 96]) (rest := [.ref (M 0)]) CF (c_X7_in l D cI cJ cO df s.heap.size v (-96) 96 ) (va_cwS 3 hts gX7_sample_X7_in rfl rfl rfl (by decide +kernel) ⟨Nat.le_of_ble_eq_true rfl, Nat.le_of_ble_eq_true rfl⟩)  hPc hK hDc hV hH hS hFc rfl hl.1 rfl (Nat.le_of_ble_eq_true rfl) dX7_sample_6 ⟨Nat.le_of_ble_eq_true rfl, Nat.le_of_ble_eq_true rfl⟩ (fun r_6 w1 H1 locs1 hq hP1 hD1 hk hS hz => ?_)
  obtain ⟨rfl, hr_6⟩ := hq
  have hP := g_keep0 hP hk
  clear hPc hDc hFc hP1 hD1 hk hz
  generalize H1 = H at hP hS ⊢
  have hP : va_P D ccl (mW cI M mc ms mw mn mo mh mu mk mt mq mp (nI Y) mf ma cy lo gr ov un la) H := hP
  have hD : va_D A (mW cI M mc ms mw mn mo mh mu mk mt mq mp (nI Y) mf ma cy lo gr ov un la) := hD
  subst hr_6
  refine lv_iconst (v := 1) hx hb dX7_sample_9 (by decide) ?_
  refine lv_iconst (v := 1) hx hb dX7_sample_10 (by decide) ?_
  have hPc := hP.sub (ws' := [(M 0, .inr (8, [.ref (M 1), .ref (M 2), .ref (M 3), .int mn, .ref (M 4), .int mh, .ref (M 5), .int mk, .ref (M 6), .ref (M 7), .ref (M 8), .int (nI Y), .ref (M 9), .ref (M 10), .int cy, .int lo, .int gr, .long ov, .long un, .int la])), (M 1, .inl (cI, 40, .inl mc)), (M 2, .inl (cI, 32, .inl ms)), (M 3, .inl (cI, 8, .inl mw)), (M 4, .inl (cI, 8, .inl mo)), (M 5, .inl (cI, 16, .inl mu)), (M 6, .inl (cI, 32, .inl mt)), (M 7, .inl (cI, 32, .inl mq)), (M 8, .inl (cI, 64, .inl mp)), (M 9, .inl (cI, 40401, .inl mf)), (M 10, .inl (cI, 40401, .inl ma))]) [0, 1, 2, 3, 4, 5, 6, 7, 8, 9, 10] rfl
  have hDc := hD.sub (ws' := [(M 0, .inr (8, [.ref (M 1), .ref (M 2), .ref (M 3), .int mn, .ref (M 4), .int mh, .ref (M 5), .int mk, .ref (M 6), .ref (M 7), .ref (M 8), .int (nI Y), .ref (M 9), .ref (M 10), .int cy, .int lo, .int gr, .long ov, .long un, .int la])), (M 1, .inl (cI, 40, .inl mc)), (M 2, .inl (cI, 32, .inl ms)), (M 3, .inl (cI, 8, .inl mw)), (M 4, .inl (cI, 8, .inl mo)), (M 5, .inl (cI, 16, .inl mu)), (M 6, .inl (cI, 32, .inl mt)), (M 7, .inl (cI, 32, .inl mq)), (M 8, .inl (cI, 64, .inl mp)), (M 9, .inl (cI, 40401, .inl mf)), (M 10, .inl (cI, 40401, .inl ma))]) [0, 1, 2, 3, 4, 5, 6, 7, 8, 9, 10] (by decide) rfl
  have hFc := va_free (wc := [(M 0, .inr (8, [.ref (M 1), .ref (M 2), .ref (M 3), .int mn, .ref (M 4), .int mh, .ref (M 5), .int mk, .ref (M 6), .ref (M 7), .ref (M 8), .int (nI Y), .ref (M 9), .ref (M 10), .int cy, .int lo, .int gr, .long ov, .long un, .int la])), (M 1, .inl (cI, 40, .inl mc)), (M 2, .inl (cI, 32, .inl ms)), (M 3, .inl (cI, 8, .inl mw)), (M 4, .inl (cI, 8, .inl mo)), (M 5, .inl (cI, 16, .inl mu)), (M 6, .inl (cI, 32, .inl mt)), (M 7, .inl (cI, 32, .inl mq)), (M 8, .inl (cI, 64, .inl mp)), (M 9, .inl (cI, 40401, .inl mf)), (M 10, .inl (cI, 40401, .inl ma))]) hD hS hA [0, 1, 2, 3, 4, 5, 6, 7, 8, 9, 10] rfl
  refine g_Vi (As := [.int (isIn v (-96) 96), .int 1, .int 1]) (rest := []) CF (c_X7_goes l D cI cJ cO df H.size M mc ms mw mn mo mh mu mk mt mq mp (nI Y) mf ma cy lo gr ov un la (isIn v (-96) 96) 1 1 ) (cwV 3 hts gX7_sample_X7_goes rfl rfl rfl (by decide +kernel) ⟨Nat.le_of_ble_eq_true rfl, Nat.le_of_ble_eq_true rfl⟩) (va_recv hK hP (ci := 8) (q0 := 0) rfl rfl) hPc hK hDc hV hH hS hFc rfl hl.1 rfl (Nat.le_of_ble_eq_true rfl) dX7_sample_11 ⟨Nat.le_of_ble_eq_true rfl, Nat.le_of_ble_eq_true rfl⟩ (fun r_11 w1 H1 locs1 hq hP1 hD1 hk hS hz => ?_)
  obtain ⟨rfl, hr_11⟩ := hq
  obtain ⟨hP, hD⟩ := g_join (ws' := (mW cI M mc ms mw mn mo mh mu mk mt mq mp (nI Y) mf ma cy lo gr ov un (gGo (isIn v (-96) 96) 1 1))) hP hD hk hFc hP1 hD1 [0, 1, 2, 3, 4, 5, 6, 7, 8, 9, 10] [] [0, 1, 2, 3, 4, 5, 6, 7, 8, 9, 10] rfl rfl (by decide) (by decide) (by decide) rfl
  clear hPc hDc hFc hP1 hD1 hk hz
  generalize H1 = H at hP hS ⊢
  have hP : va_P D ccl (mW cI M mc ms mw mn mo mh mu mk mt mq mp (nI Y) mf ma cy lo gr ov un (gGo (isIn v (-96) 96) 1 1)) H := hP
  have hD : va_D A (mW cI M mc ms mw mn mo mh mu mk mt mq mp (nI Y) mf ma cy lo gr ov un (gGo (isIn v (-96) 96) 1 1)) := hD
  subst hr_11
  refine lv_if_ne (tgt := 19) hx hb dX7_sample_14 (by decide) (fun c_14 => ?_) (fun c_14 => ?_)
  · have c_14 : gGo (isIn v (-96) 96) 1 1 = 0 := g_b1 c_14
    refine lv_bipush (v := 63) hx hb dX7_sample_19 (by decide) ?_
    refine lv_istore_n (lv' := [(2, .int 63), (0, .ref (M 0)), (1, .int v)]) hx hb dX7_sample_21 rfl hl (by decide) rfl (fun ls hl => ?_)
    refine W.widen (k := 0) (n := 0) (Nat.le_refl _) (Nat.le_refl _) ?_
    refine g_while (σ := Nat × (Nat → Int32)) (st := []) (nL := 3) (fun z => match z with | (i, p1) => mW cI M mc ms mw mn mo mh mu mk mt mq p1 (nI Y) mf ma cy lo gr ov un (gGo (isIn v (-96) 96) 1 1))
      (fun z => match z with | (i, p1) => [(0, .ref (M 0)), (1, .int v), (2, .int (nI i))])
      (fun z => match z with | (i, p1) => i ≤ 63 ∧ p1 = shAt 64 mp i)
      (fun z => match z with | (i, p1) => i) (fun z => match z with | (i, p1) => 0) (fun z => match z with | (i, p1) => 0)
      ?_ (63, mp) ⟨Nat.le_refl 63, shAt_0⟩ hP hD hS (lv_sub hl [1, 2, 0] rfl)
    rintro ⟨i, p1⟩ hI H locs ls hP hD hS hl ih
    have hI : i ≤ 63 ∧ p1 = shAt 64 mp i := hI
    have hP : va_P D ccl (mW cI M mc ms mw mn mo mh mu mk mt mq p1 (nI Y) mf ma cy lo gr ov un (gGo (isIn v (-96) 96) 1 1)) H := hP
    have hD : va_D A (mW cI M mc ms mw mn mo mh mu mk mt mq p1 (nI Y) mf ma cy lo gr ov un (gGo (isIn v (-96) 96) 1 1)) := hD
    have hl : lv_has ls 3 [(0, .ref (M 0)), (1, .int v), (2, .int (nI i))] := hl
    change W p l e _ s m _ below meth c H locs 0 0 _ (F0 m 22 ls [])
    have ih_22 := ih
    clear ih
    obtain ⟨hi, rfl⟩ := hI
    refine lv_iload_n hx hb dX7_sample_22 rfl (lv_at hl 2 rfl) ?_
    refine lv_if_le (tgt := 46) hx hb dX7_sample_23 (by decide) (fun c_23 => ?_) (fun c_23 => ?_)
    · have c_23 : i ≤ 0 := g_le (a := i) (b := 0) c_23 (by omega) (by omega)
      obtain rfl : i = 0 := by omega
      refine lv_aload_n hx hb dX7_sample_46 rfl (lv_at hl 0 rfl) ?_
      refine va_get (D := D) (ci := 8) (v := .ref (M 8)) (C := RX7) (T := TX7) (N := 20) hx hb hts inX7 hown hK hP 0 rfl rfl 10 (by decide) hfieldLink_RX7_31 (fun _ h9 => h9) rfl dX7_sample_47 ?_
      refine lv_iconst (v := 0) hx hb dX7_sample_50 (by decide) ?_
      refine lv_iload_n hx hb dX7_sample_51 rfl (lv_at hl 1 rfl) ?_
      have hPc : va_P D ccl [] H := fun k q h => by simp at h
      have hDc : va_D A [] := ⟨fun i j p q h => by simp at h, fun k q h => by simp at h⟩
      have hFc := va_free (wc := []) hD hS hA [] rfl
      refine g_Si (As := [.int v]) (rest := [.int 0, .ref (M 8)]) CF (c_X7_rest l D cI cJ cO df H.size v ) (va_cwS 1 hts gX7_sample_X7_rest rfl rfl rfl (by decide +kernel) ⟨Nat.le_of_ble_eq_true rfl, Nat.le_of_ble_eq_true rfl⟩)  hPc hK hDc hV hH hS hFc rfl hl.1 rfl (Nat.le_of_ble_eq_true rfl) dX7_sample_52 ⟨Nat.le_of_ble_eq_true rfl, Nat.le_of_ble_eq_true rfl⟩ (fun r_52 w1 H1 locs1 hq hP1 hD1 hk hS hz => ?_)
      obtain ⟨rfl, hr_52⟩ := hq
      have hP := g_keep0 hP hk
      clear hPc hDc hFc hP1 hD1 hk hz
      generalize H1 = H at hP hS ⊢
      have hP : va_P D ccl (mW cI M mc ms mw mn mo mh mu mk mt mq (shAt 64 mp 0) (nI Y) mf ma cy lo gr ov un (gGo (isIn v (-96) 96) 1 1)) H := hP
      have hD : va_D A (mW cI M mc ms mw mn mo mh mu mk mt mq (shAt 64 mp 0) (nI Y) mf ma cy lo gr ov un (gGo (isIn v (-96) 96) 1 1)) := hD
      subst hr_52
      refine va_iast hx hb hK hP hD hS 8 0 rfl rfl (by unfold vp_in; decide) dX7_sample_55 (fun H locs hP hD hS => ?_)
      rw [show ((0 : Int32)).toNatClampNeg = 0 from (by decide)] at hP hD
      rw [show upd (shAt 64 mp 0) 0 (rs97 v) = shiftIn 64 mp (rs97 v) from shAt_end] at hP hD
      have hP : va_P D ccl (mW cI M mc ms mw mn mo mh mu mk mt mq (shiftIn 64 mp (rs97 v)) (nI Y) mf ma cy lo gr ov un (gGo (isIn v (-96) 96) 1 1)) H := hP
      have hD : va_D A (mW cI M mc ms mw mn mo mh mu mk mt mq (shiftIn 64 mp (rs97 v)) (nI Y) mf ma cy lo gr ov un (gGo (isIn v (-96) 96) 1 1)) := hD
      refine lv_aload_n hx hb dX7_sample_56 rfl (lv_at hl 0 rfl) ?_
      refine lv_dup hx hb dX7_sample_57 rfl ?_
      refine va_get (D := D) (ci := 8) (v := .int (nI Y)) (C := RX7) (T := TX7) (N := 20) hx hb hts inX7 hown hK hP 0 rfl rfl 11 (by decide) hfieldLink_RX7_93 (fun _ h9 => h9) rfl dX7_sample_58 ?_
      refine lv_aload_n hx hb dX7_sample_61 rfl (lv_at hl 0 rfl) ?_
      refine va_get (D := D) (ci := 8) (v := .int (nI Y)) (C := RX7) (T := TX7) (N := 20) hx hb hts inX7 hown hK hP 0 rfl rfl 11 (by decide) hfieldLink_RX7_93 (fun _ h9 => h9) rfl dX7_sample_62 ?_
      refine lv_bipush (v := 64) hx hb dX7_sample_65 (by decide) ?_
      refine g_phii (ls := ls) (J := 75) (st1 := [.int (nI Y), .ref (M 0)]) (REL := fun b => b = if Y < 64 then (1 : Int32) else 0) (fun b hb_75 => ?_) (fun hJ_75 => ?_)
      · subst hb_75
        refine lv_iadd hx hb dX7_sample_75 ?_
        refine lv_topi (fun f ef => ?_)
        obtain rfl : f = nI (if Y < 64 then Y + 1 else Y) := ef.trans (by by_cases h : Y < 64 <;> simp [h, nI_1])
        refine va_put (D := D) (ci := 8) (v := .int (nI (if Y < 64 then Y + 1 else Y))) (ty := .int) (C := RX7) (T := TX7) (N := 20) hx hb hts inX7 tyX7 tyX7_ok nmX7 hown hK hP hD hS 0 rfl rfl 11 (by decide) hfieldLink_RX7_93 (fun _ h9 => h9) rfl (by decide +kernel) rfl rfl (Nat.le_of_ble_eq_true rfl) dX7_sample_76 (fun H locs hP hD hS => ?_)
        have hP : va_P D ccl (mW cI M mc ms mw mn mo mh mu mk mt mq (shiftIn 64 mp (rs97 v)) (nI (if Y < 64 then Y + 1 else Y)) mf ma cy lo gr ov un (gGo (isIn v (-96) 96) 1 1)) H := hP
        have hD : va_D A (mW cI M mc ms mw mn mo mh mu mk mt mq (shiftIn 64 mp (rs97 v)) (nI (if Y < 64 then Y + 1 else Y)) mf ma cy lo gr ov un (gGo (isIn v (-96) 96) 1 1)) := hD
        refine lv_aload_n hx hb dX7_sample_79 rfl (lv_at hl 0 rfl) ?_
        refine va_get (D := D) (ci := 8) (v := .int (nI (if Y < 64 then Y + 1 else Y))) (C := RX7) (T := TX7) (N := 20) hx hb hts inX7 hown hK hP 0 rfl rfl 11 (by decide) hfieldLink_RX7_93 (fun _ h9 => h9) rfl dX7_sample_80 ?_
        refine g_iret (v := nI (if Y < 64 then Y + 1 else Y)) hx hb hr hlk hP hK hD hS (Nat.le_of_ble_eq_true rfl) (Nat.le_of_ble_eq_true rfl) dX7_sample_83 ?_
        exact ⟨_, _, rfl, fun _ => ⟨rfl, rfl, rfl⟩, fun h => absurd c_14 h⟩
      · refine lv_icmp_ge (tgt := 74) hx hb dX7_sample_67 (by decide) (fun c_67 => ?_) (fun c_67 => ?_)
        · have c_67 : 64 ≤ Y := g_le (a := 64) (b := Y) c_67 (by omega) (by omega)
          refine lv_iconst (v := 0) hx hb dX7_sample_74 (by decide) ?_
          exact hJ_75 _ (by first | rw [if_pos (by omega)] | rw [if_neg (by omega)])
        · have c_67 : Y < 64 := g_nle (a := 64) (b := Y) c_67 (by omega) (by omega)
          refine lv_iconst (v := 1) hx hb dX7_sample_70 (by decide) ?_
          refine lv_goto (tgt := 75) hx hb dX7_sample_71 (by decide) ?_
          exact hJ_75 _ (by first | rw [if_pos (by omega)] | rw [if_neg (by omega)])
    · have c_23 : 0 < i := g_nle (a := i) (b := 0) c_23 (by omega) (by omega)
      refine lv_aload_n hx hb dX7_sample_26 rfl (lv_at hl 0 rfl) ?_
      refine va_get (D := D) (ci := 8) (v := .ref (M 8)) (C := RX7) (T := TX7) (N := 20) hx hb hts inX7 hown hK hP 0 rfl rfl 10 (by decide) hfieldLink_RX7_31 (fun _ h9 => h9) rfl dX7_sample_27 ?_
      refine lv_iload_n hx hb dX7_sample_30 rfl (lv_at hl 2 rfl) ?_
      refine lv_aload_n hx hb dX7_sample_31 rfl (lv_at hl 0 rfl) ?_
      refine va_get (D := D) (ci := 8) (v := .ref (M 8)) (C := RX7) (T := TX7) (N := 20) hx hb hts inX7 hown hK hP 0 rfl rfl 10 (by decide) hfieldLink_RX7_31 (fun _ h9 => h9) rfl dX7_sample_32 ?_
      refine lv_iload_n hx hb dX7_sample_35 rfl (lv_at hl 2 rfl) ?_
      refine lv_iconst (v := 1) hx hb dX7_sample_36 (by decide) ?_
      refine lv_isub hx hb dX7_sample_37 ?_
      refine lv_topi (fun f ef => ?_)
      obtain rfl : f = nI (i - 1) := ef.trans (pk_sub (a := i) (b := 1) (by omega))
      refine va_iald hx hb hK hP 8 0 rfl rfl (vp_in_nI (by omega) (by omega)) dX7_sample_38 ?_
      refine lv_topi (fun f ef => ?_)
      obtain rfl : f = (shAt 64 mp i) (i - 1) := ef.trans (congrArg (shAt 64 mp i) (nI_clamp (n := i - 1) (by omega)))
      refine va_iast hx hb hK hP hD hS 8 0 rfl rfl (vp_in_nI (by omega) (by omega)) dX7_sample_39 (fun H locs hP hD hS => ?_)
      rw [show (nI i).toNatClampNeg = i from (nI_clamp (by omega))] at hP hD
      have hP : va_P D ccl (mW cI M mc ms mw mn mo mh mu mk mt mq (upd (shAt 64 mp i) i ((shAt 64 mp i) (i - 1))) (nI Y) mf ma cy lo gr ov un (gGo (isIn v (-96) 96) 1 1)) H := hP
      have hD : va_D A (mW cI M mc ms mw mn mo mh mu mk mt mq (upd (shAt 64 mp i) i ((shAt 64 mp i) (i - 1))) (nI Y) mf ma cy lo gr ov un (gGo (isIn v (-96) 96) 1 1)) := hD
      refine lv_iinc (v := nI (i - 1)) (lv' := [(2, .int (nI (i - 1))), (0, .ref (M 0)), (1, .int v)]) hx hb dX7_sample_40 hl (k := 2) rfl (by exact sb_m1 (by omega)) (by decide) rfl (fun ls hl => ?_)
      refine lv_goto (tgt := 22) hx hb dX7_sample_43 (by decide) ?_
      refine W.widen (k := 0) (n := 0) (Nat.le_refl _) (Nat.le_refl _) ?_
      exact ih_22 (i - 1, upd (shAt 64 mp i) i ((shAt 64 mp i) (i - 1))) _ _ _ (show (i - 1) ≤ 63 ∧ (upd (shAt 64 mp i) i ((shAt 64 mp i) (i - 1))) = shAt 64 mp (i - 1) from (by exact ⟨by omega, shAt_step (by omega) (by omega)⟩)) (show (i - 1) < i by omega) hP hD hS (lv_sub hl [1, 2, 0] rfl)
  · have c_14 : ¬ (gGo (isIn v (-96) 96) 1 1 = 0) := g_b0 c_14
    refine lv_iconst (v := 0) hx hb dX7_sample_17 (by decide) ?_
    refine g_iret (v := 0) hx hb hr hlk hP hK hD hS (Nat.le_of_ble_eq_true rfl) (Nat.le_of_ble_eq_true rfl) dX7_sample_18 ?_
    exact ⟨_, _, rfl, fun h => absurd h c_14, fun _ => ⟨rfl, rfl⟩⟩

set_option maxHeartbeats 4000000 in
set_option maxRecDepth 100000 in
theorem c_X7_goesOn (l : Launch) (D : va_G) (cI cJ cO : ClassId) (df sz : Nat) (M : Nat → Nat) (mc : Nat → Int32) (ms : Nat → Int32) (mw : Nat → Int32) (mn : Int32) (mo : Nat → Int32) (mh : Int32) (mu : Nat → Int32) (mk : Int32) (mt : Nat → Int32) (mq : Nat → Int32) (mp : Nat → Int32) (my : Int32) (mf : Nat → Int32) (ma : Nat → Int32) (cy : Int32) (lo : Int32) (gr : Int32) (ov : Int64) (un : Int64) (la : Int32) (J : Nat) (x : Int32) (hJ : J < 8) : MetI l yX7_goesOn wsX7_goesOn ({ frames := 2, cells := 0, slots := 0, locals := 44 } : Room) D (gTY cI cJ cO) df (mW cI M mc ms mw mn mo mh mu mk mt mq mp my mf ma cy lo gr ov un la) sz [.ref (M 0), .int (nI J), .int x] (fun (r : Int32) (w : va_W) => w = mW cI M mc (goM ms J x (goY mc mw ms J x)) mw mn mo mh mu mk mt mq mp my mf ma cy lo gr ov un la ∧ r = goY mc mw ms J x) := by
  refine g_of (cc := cX7_goesOn) (nL := 7) (ret := (some .int)) (D := D) (TY := (gTY cI cJ cO)) (df := df) (Qc := fun A => va_Qi (fun (r : Int32) (w : va_W) => w = mW cI M mc (goM ms J x (goY mc mw ms J x)) mw mn mo mh mu mk mt mq mp my mf ma cy lo gr ov un la ∧ r = goY mc mw ms J x) (gB D (gTY cI cJ cO) A) A) (by decide +kernel) rfl (Nat.le_of_ble_eq_true rfl) ?_
  intro p e s m below meth c ls A hsz C0 hin hl
  obtain ⟨CF, hr, hlk, hA, hS, hP, hK, hD, hV, hH⟩ := C0
  have CF : CallFix p m c cX7_goesOn 7 s _ wsX7_goesOn RX7 := CF
  obtain ⟨hx, hb, hml, hown, hts⟩ := id CF
  subst hsz
  have hfieldLink_RX7_7 : (Cond.fieldLink RX7 7 "TapLoomModel" "coefficients" "[I").before _ s = true := hts _ (List.mem_of_getElem? (i := 1) rfl)
  have hfieldLink_RX7_13 : (Cond.fieldLink RX7 13 "TapLoomModel" "states" "[I").before _ s = true := hts _ (List.mem_of_getElem? (i := 2) rfl)
  have hfieldLink_RX7_16 : (Cond.fieldLink RX7 16 "TapLoomModel" "ways" "[I").before _ s = true := hts _ (List.mem_of_getElem? (i := 3) rfl)
  have hmethodLink_RX7_78 : (Cond.methodLink RX7 78 yX7_rounded).before _ s = true := hts _ (List.mem_of_getElem? (i := 4) rfl)
  have inX7 : ∀ w ∈ u_ws RX7 TX7 20, w ∈ wsX7_goesOn := fun w h => (List.mem_cons_of_mem _ (List.mem_append_right _ h))
  have hP : va_P D ccl (mW cI M mc ms mw mn mo mh mu mk mt mq mp my mf ma cy lo gr ov un la) s.heap := hP
  have hl : lv_has ls 7 [(0, .ref (M 0)), (1, .int (nI J)), (2, .int x)] := hl
  refine lv_iconst (v := 5) hx hb dX7_goesOn_0 (by decide) ?_
  refine lv_iload_n hx hb dX7_goesOn_1 rfl (lv_at hl 1 rfl) ?_
  refine lv_imul hx hb dX7_goesOn_2 ?_
  refine lv_topi (fun f ef => ?_)
  obtain rfl : f = nI (5 * J) := ef.trans (pk_mul _ _)
  refine lv_istore_n (lv' := [(3, .int (nI (5 * J))), (0, .ref (M 0)), (1, .int (nI J)), (2, .int x)]) hx hb dX7_goesOn_3 rfl hl (by decide) rfl (fun ls hl => ?_)
  refine lv_iconst (v := 4) hx hb dX7_goesOn_4 (by decide) ?_
  refine lv_iload_n hx hb dX7_goesOn_5 rfl (lv_at hl 2 rfl) ?_
  refine lv_imul hx hb dX7_goesOn_6 ?_
  refine lv_topi (fun f ef => ?_)
  obtain rfl : f = nI (4 * J) := ef.trans (pk_mul _ _)
  refine lv_istore (lv' := [(4, .int (nI (4 * J))), (3, .int (nI (5 * J))), (0, .ref (M 0)), (1, .int (nI J)), (2, .int x)]) hx hb dX7_goesOn_7 hl (by decide) rfl (fun ls hl => ?_)
  refine lv_aload_n hx hb dX7_goesOn_9 rfl (lv_at hl 2 rfl) ?_
  refine va_get (D := D) (ci := 8) (v := .ref (M 1)) (C := RX7) (T := TX7) (N := 20) hx hb hts inX7 hown hK hP 0 rfl rfl 0 (by decide) hfieldLink_RX7_7 (fun _ h9 => h9) rfl dX7_goesOn_10 ?_
  refine lv_iload_n hx hb dX7_goesOn_13 rfl (lv_at hl 1 rfl) ?_
  refine va_iald hx hb hK hP 1 0 rfl rfl (vp_in_nI (by omega) (by omega)) dX7_goesOn_14 ?_
  refine lv_topi (fun f ef => ?_)
  obtain rfl : f = mc (5 * J) := ef.trans (congrArg mc (nI_clamp (n := 5 * J) (by omega)))
  refine lv_iload_n hx hb dX7_goesOn_15 rfl (lv_at hl 4 rfl) ?_
  refine lv_imul hx hb dX7_goesOn_16 ?_
  refine lv_aload_n hx hb dX7_goesOn_17 rfl (lv_at hl 2 rfl) ?_
  refine va_get (D := D) (ci := 8) (v := .ref (M 1)) (C := RX7) (T := TX7) (N := 20) hx hb hts inX7 hown hK hP 0 rfl rfl 0 (by decide) hfieldLink_RX7_7 (fun _ h9 => h9) rfl dX7_goesOn_18 ?_
  refine lv_iload_n hx hb dX7_goesOn_21 rfl (lv_at hl 1 rfl) ?_
  refine lv_iconst (v := 1) hx hb dX7_goesOn_22 (by decide) ?_
  refine lv_iadd hx hb dX7_goesOn_23 ?_
  refine lv_topi (fun f ef => ?_)
  obtain rfl : f = nI ((5 * J) + 1) := ef.trans (nI_add _ _)
  refine va_iald hx hb hK hP 1 0 rfl rfl (vp_in_nI (by omega) (by omega)) dX7_goesOn_24 ?_
  refine lv_topi (fun f ef => ?_)
  obtain rfl : f = mc ((5 * J) + 1) := ef.trans (congrArg mc (nI_clamp (n := (5 * J) + 1) (by omega)))
  refine lv_aload_n hx hb dX7_goesOn_25 rfl (lv_at hl 2 rfl) ?_
  refine va_get (D := D) (ci := 8) (v := .ref (M 2)) (C := RX7) (T := TX7) (N := 20) hx hb hts inX7 hown hK hP 0 rfl rfl 1 (by decide) hfieldLink_RX7_13 (fun _ h9 => h9) rfl dX7_goesOn_26 ?_
  refine lv_iload hx hb dX7_goesOn_29 (lv_at hl 0 rfl) ?_
  refine va_iald hx hb hK hP 2 0 rfl rfl (vp_in_nI (by omega) (by omega)) dX7_goesOn_31 ?_
  refine lv_topi (fun f ef => ?_)
  obtain rfl : f = ms (4 * J) := ef.trans (congrArg ms (nI_clamp (n := 4 * J) (by omega)))
  refine lv_imul hx hb dX7_goesOn_32 ?_
  refine lv_iadd hx hb dX7_goesOn_33 ?_
  refine lv_aload_n hx hb dX7_goesOn_34 rfl (lv_at hl 2 rfl) ?_
  refine va_get (D := D) (ci := 8) (v := .ref (M 1)) (C := RX7) (T := TX7) (N := 20) hx hb hts inX7 hown hK hP 0 rfl rfl 0 (by decide) hfieldLink_RX7_7 (fun _ h9 => h9) rfl dX7_goesOn_35 ?_
  refine lv_iload_n hx hb dX7_goesOn_38 rfl (lv_at hl 1 rfl) ?_
  refine lv_iconst (v := 2) hx hb dX7_goesOn_39 (by decide) ?_
  refine lv_iadd hx hb dX7_goesOn_40 ?_
  refine lv_topi (fun f ef => ?_)
  obtain rfl : f = nI ((5 * J) + 2) := ef.trans (nI_add _ _)
  refine va_iald hx hb hK hP 1 0 rfl rfl (vp_in_nI (by omega) (by omega)) dX7_goesOn_41 ?_
  refine lv_topi (fun f ef => ?_)
  obtain rfl : f = mc ((5 * J) + 2) := ef.trans (congrArg mc (nI_clamp (n := (5 * J) + 2) (by omega)))
  refine lv_aload_n hx hb dX7_goesOn_42 rfl (lv_at hl 2 rfl) ?_
  refine va_get (D := D) (ci := 8) (v := .ref (M 2)) (C := RX7) (T := TX7) (N := 20) hx hb hts inX7 hown hK hP 0 rfl rfl 1 (by decide) hfieldLink_RX7_13 (fun _ h9 => h9) rfl dX7_goesOn_43 ?_
  refine lv_iload hx hb dX7_goesOn_46 (lv_at hl 0 rfl) ?_
  refine lv_iconst (v := 1) hx hb dX7_goesOn_48 (by decide) ?_
  refine lv_iadd hx hb dX7_goesOn_49 ?_
  refine lv_topi (fun f ef => ?_)
  obtain rfl : f = nI ((4 * J) + 1) := ef.trans (nI_add _ _)
  refine va_iald hx hb hK hP 2 0 rfl rfl (vp_in_nI (by omega) (by omega)) dX7_goesOn_50 ?_
  refine lv_topi (fun f ef => ?_)
  obtain rfl : f = ms ((4 * J) + 1) := ef.trans (congrArg ms (nI_clamp (n := (4 * J) + 1) (by omega)))
  refine lv_imul hx hb dX7_goesOn_51 ?_
  refine lv_iadd hx hb dX7_goesOn_52 ?_
  refine lv_aload_n hx hb dX7_goesOn_53 rfl (lv_at hl 2 rfl) ?_
  refine va_get (D := D) (ci := 8) (v := .ref (M 1)) (C := RX7) (T := TX7) (N := 20) hx hb hts inX7 hown hK hP 0 rfl rfl 0 (by decide) hfieldLink_RX7_7 (fun _ h9 => h9) rfl dX7_goesOn_54 ?_
  refine lv_iload_n hx hb dX7_goesOn_57 rfl (lv_at hl 1 rfl) ?_
  refine lv_iconst (v := 3) hx hb dX7_goesOn_58 (by decide) ?_
  refine lv_iadd hx hb dX7_goesOn_59 ?_
  refine lv_topi (fun f ef => ?_)
  obtain rfl : f = nI ((5 * J) + 3) := ef.trans (nI_add _ _)
  refine va_iald hx hb hK hP 1 0 rfl rfl (vp_in_nI (by omega) (by omega)) dX7_goesOn_60 ?_
  refine lv_topi (fun f ef => ?_)
  obtain rfl : f = mc ((5 * J) + 3) := ef.trans (congrArg mc (nI_clamp (n := (5 * J) + 3) (by omega)))
  refine lv_aload_n hx hb dX7_goesOn_61 rfl (lv_at hl 2 rfl) ?_
  refine va_get (D := D) (ci := 8) (v := .ref (M 2)) (C := RX7) (T := TX7) (N := 20) hx hb hts inX7 hown hK hP 0 rfl rfl 1 (by decide) hfieldLink_RX7_13 (fun _ h9 => h9) rfl dX7_goesOn_62 ?_
  refine lv_iload hx hb dX7_goesOn_65 (lv_at hl 0 rfl) ?_
  refine lv_iconst (v := 2) hx hb dX7_goesOn_67 (by decide) ?_
  refine lv_iadd hx hb dX7_goesOn_68 ?_
  refine lv_topi (fun f ef => ?_)
  obtain rfl : f = nI ((4 * J) + 2) := ef.trans (nI_add _ _)
  refine va_iald hx hb hK hP 2 0 rfl rfl (vp_in_nI (by omega) (by omega)) dX7_goesOn_69 ?_
  refine lv_topi (fun f ef => ?_)
  obtain rfl : f = ms ((4 * J) + 2) := ef.trans (congrArg ms (nI_clamp (n := (4 * J) + 2) (by omega)))
  refine lv_imul hx hb dX7_goesOn_70 ?_
  refine lv_isub hx hb dX7_goesOn_71 ?_
  refine lv_aload_n hx hb dX7_goesOn_72 rfl (lv_at hl 2 rfl) ?_
  refine va_get (D := D) (ci := 8) (v := .ref (M 1)) (C := RX7) (T := TX7) (N := 20) hx hb hts inX7 hown hK hP 0 rfl rfl 0 (by decide) hfieldLink_RX7_7 (fun _ h9 => h9) rfl dX7_goesOn_73 ?_
  refine lv_iload_n hx hb dX7_goesOn_76 rfl (lv_at hl 1 rfl) ?_
  refine lv_iconst (v := 4) hx hb dX7_goesOn_77 (by decide) ?_
  refine lv_iadd hx hb dX7_goesOn_78 ?_
  refine lv_topi (fun f ef => ?_)
  obtain rfl : f = nI ((5 * J) + 4) := ef.trans (nI_add _ _)
  refine va_iald hx hb hK hP 1 0 rfl rfl (vp_in_nI (by omega) (by omega)) dX7_goesOn_79 ?_
  refine lv_topi (fun f ef => ?_)
  obtain rfl : f = mc ((5 * J) + 4) := ef.trans (congrArg mc (nI_clamp (n := (5 * J) + 4) (by omega)))
  refine lv_aload_n hx hb dX7_goesOn_80 rfl (lv_at hl 2 rfl) ?_
  refine va_get (D := D) (ci := 8) (v := .ref (M 2)) (C := RX7) (T := TX7) (N := 20) hx hb hts inX7 hown hK hP 0 rfl rfl 1 (by decide) hfieldLink_RX7_13 (fun _ h9 => h9) rfl dX7_goesOn_81 ?_
  refine lv_iload hx hb dX7_goesOn_84 (lv_at hl 0 rfl) ?_
  refine lv_iconst (v := 3) hx hb dX7_goesOn_86 (by decide) ?_
  refine lv_iadd hx hb dX7_goesOn_87 ?_
  refine lv_topi (fun f ef => ?_)
  obtain rfl : f = nI ((4 * J) + 3) := ef.trans (nI_add _ _)
  refine va_iald hx hb hK hP 2 0 rfl rfl (vp_in_nI (by omega) (by omega)) dX7_goesOn_88 ?_
  refine lv_topi (fun f ef => ?_)
  obtain rfl : f = ms ((4 * J) + 3) := ef.trans (congrArg ms (nI_clamp (n := (4 * J) + 3) (by omega)))
  refine lv_imul hx hb dX7_goesOn_89 ?_
  refine lv_isub hx hb dX7_goesOn_90 ?_
  refine lv_istore (lv' := [(5, .int ((((((mc (5 * J)) * x) + ((mc ((5 * J) + 1)) * (ms (4 * J)))) + ((mc ((5 * J) + 2)) * (ms ((4 * J) + 1)))) - ((mc ((5 * J) + 3)) * (ms ((4 * J) + 2)))) - ((mc ((5 * J) + 4)) * (ms ((4 * J) + 3))))), (4, .int (nI (4 * J))), (3, .int (nI (5 * J))), (0, .ref (M 0)), (1, .int (nI J)), (2, .int x)]) hx hb dX7_goesOn_91 hl (by decide) rfl (fun ls hl => ?_)
  refine lv_aload_n hx hb dX7_goesOn_93 rfl (lv_at hl 3 rfl) ?_
  refine lv_iload hx hb dX7_goesOn_94 (lv_at hl 0 rfl) ?_
  refine lv_aload_n hx hb dX7_goesOn_96 rfl (lv_at hl 3 rfl) ?_
  refine va_get (D := D) (ci := 8) (v := .ref (M 3)) (C := RX7) (T := TX7) (N := 20) hx hb hts inX7 hown hK hP 0 rfl rfl 2 (by decide) hfieldLink_RX7_16 (fun _ h9 => h9) rfl dX7_goesOn_97 ?_
  refine lv_iload_n hx hb dX7_goesOn_100 rfl (lv_at hl 4 rfl) ?_
  refine va_iald hx hb hK hP 3 0 rfl rfl (vp_in_nI (by omega) (by omega)) dX7_goesOn_101 ?_
  refine lv_topi (fun f ef => ?_)
  obtain rfl : f = mw J := ef.trans (congrArg mw (nI_clamp (n := J) (by omega)))
  have hPc : va_P D ccl [] s.heap := fun k q h => by simp at h
  have hDc : va_D A [] := ⟨fun i j p q h => by simp at h, fun k q h => by simp at h⟩
  have hFc := va_free (wc := []) hD hS hA [] rfl
  refine g_Vi (As := [.int ((((((mc (5 * J)) * x) + ((mc ((5 * J) + 1)) * (ms (4 * J)))) + ((mc ((5 * J) + 2)) * (ms ((4 * J) + 1)))) - ((mc ((5 * J) + 3)) * (ms ((4 * J) + 2)))) - ((mc ((5 * J) + 4)) * (ms ((4 * J) + 3)))), .int (mw J)]) (rest := []) CF (c_X7_rounded l D cI cJ cO df s.heap.size (M 0) ((((((mc (5 * J)) * x) + ((mc ((5 * J) + 1)) * (ms (4 * J)))) + ((mc ((5 * J) + 2)) * (ms ((4 * J) + 1)))) - ((mc ((5 * J) + 3)) * (ms ((4 * J) + 2)))) - ((mc ((5 * J) + 4)) * (ms ((4 * J) + 3)))) (mw J) ) (cwV 2 hts gX7_goesOn_X7_rounded rfl rfl rfl (by decide +kernel) ⟨Nat.le_of_ble_eq_true rfl, Nat.le_of_ble_eq_true rfl⟩) (va_recv hK hP (ci := 8) (q0 := 0) rfl rfl) hPc hK hDc hV hH hS hFc rfl hl.1 rfl (Nat.le_of_ble_eq_true rfl) dX7_goesOn_102 ⟨Nat.le_of_ble_eq_true rfl, Nat.le_of_ble_eq_true rfl⟩ (fun r_102 w1 H1 locs1 hq hP1 hD1 hk hS hz => ?_)
  obtain ⟨rfl, hr_102⟩ := hq
  have hP := g_keep0 hP hk
  clear hPc hDc hFc hP1 hD1 hk hz
  generalize H1 = H at hP hS ⊢
  have hP : va_P D ccl (mW cI M mc ms mw mn mo mh mu mk mt mq mp my mf ma cy lo gr ov un la) H := hP
  have hD : va_D A (mW cI M mc ms mw mn mo mh mu mk mt mq mp my mf ma cy lo gr ov un la) := hD
  subst hr_102
  refine lv_topi (fun yy eyy => ?_)
  refine lv_istore (lv' := [(6, .int yy), (5, .int ((((((mc (5 * J)) * x) + ((mc ((5 * J) + 1)) * (ms (4 * J)))) + ((mc ((5 * J) + 2)) * (ms ((4 * J) + 1)))) - ((mc ((5 * J) + 3)) * (ms ((4 * J) + 2)))) - ((mc ((5 * J) + 4)) * (ms ((4 * J) + 3))))), (4, .int (nI (4 * J))), (3, .int (nI (5 * J))), (0, .ref (M 0)), (1, .int (nI J)), (2, .int x)]) hx hb dX7_goesOn_105 hl (by decide) rfl (fun ls hl => ?_)
  refine lv_aload_n hx hb dX7_goesOn_107 rfl (lv_at hl 4 rfl) ?_
  refine va_get (D := D) (ci := 8) (v := .ref (M 2)) (C := RX7) (T := TX7) (N := 20) hx hb hts inX7 hown hK hP 0 rfl rfl 1 (by decide) hfieldLink_RX7_13 (fun _ h9 => h9) rfl dX7_goesOn_108 ?_
  refine lv_iload hx hb dX7_goesOn_111 (lv_at hl 2 rfl) ?_
  refine lv_iconst (v := 1) hx hb dX7_goesOn_113 (by decide) ?_
  refine lv_iadd hx hb dX7_goesOn_114 ?_
  refine lv_topi (fun f ef => ?_)
  obtain rfl : f = nI ((4 * J) + 1) := ef.trans (nI_add _ _)
  refine lv_aload_n hx hb dX7_goesOn_115 rfl (lv_at hl 4 rfl) ?_
  refine va_get (D := D) (ci := 8) (v := .ref (M 2)) (C := RX7) (T := TX7) (N := 20) hx hb hts inX7 hown hK hP 0 rfl rfl 1 (by decide) hfieldLink_RX7_13 (fun _ h9 => h9) rfl dX7_goesOn_116 ?_
  refine lv_iload hx hb dX7_goesOn_119 (lv_at hl 2 rfl) ?_
  refine va_iald hx hb hK hP 2 0 rfl rfl (vp_in_nI (by omega) (by omega)) dX7_goesOn_121 ?_
  refine lv_topi (fun f ef => ?_)
  obtain rfl : f = ms (4 * J) := ef.trans (congrArg ms (nI_clamp (n := 4 * J) (by omega)))
  refine va_iast hx hb hK hP hD hS 2 0 rfl rfl (vp_in_nI (by omega) (by omega)) dX7_goesOn_122 (fun H locs hP hD hS => ?_)
  rw [show (nI ((4 * J) + 1)).toNatClampNeg = (4 * J) + 1 from (nI_clamp (by omega))] at hP hD
  have hP : va_P D ccl (mW cI M mc (upd ms ((4 * J) + 1) (ms (4 * J))) mw mn mo mh mu mk mt mq mp my mf ma cy lo gr ov un la) H := hP
  have hD : va_D A (mW cI M mc (upd ms ((4 * J) + 1) (ms (4 * J))) mw mn mo mh mu mk mt mq mp my mf ma cy lo gr ov un la) := hD
  refine lv_aload_n hx hb dX7_goesOn_123 rfl (lv_at hl 4 rfl) ?_
  refine va_get (D := D) (ci := 8) (v := .ref (M 2)) (C := RX7) (T := TX7) (N := 20) hx hb hts inX7 hown hK hP 0 rfl rfl 1 (by decide) hfieldLink_RX7_13 (fun _ h9 => h9) rfl dX7_goesOn_124 ?_
  refine lv_iload hx hb dX7_goesOn_127 (lv_at hl 2 rfl) ?_
  refine lv_iload_n hx hb dX7_goesOn_129 rfl (lv_at hl 6 rfl) ?_
  refine va_iast hx hb hK hP hD hS 2 0 rfl rfl (vp_in_nI (by omega) (by omega)) dX7_goesOn_130 (fun H locs hP hD hS => ?_)
  rw [show (nI (4 * J)).toNatClampNeg = 4 * J from (nI_clamp (by omega))] at hP hD
  have hP : va_P D ccl (mW cI M mc (upd (upd ms ((4 * J) + 1) (ms (4 * J))) (4 * J) x) mw mn mo mh mu mk mt mq mp my mf ma cy lo gr ov un la) H := hP
  have hD : va_D A (mW cI M mc (upd (upd ms ((4 * J) + 1) (ms (4 * J))) (4 * J) x) mw mn mo mh mu mk mt mq mp my mf ma cy lo gr ov un la) := hD
  refine lv_aload_n hx hb dX7_goesOn_131 rfl (lv_at hl 4 rfl) ?_
  refine va_get (D := D) (ci := 8) (v := .ref (M 2)) (C := RX7) (T := TX7) (N := 20) hx hb hts inX7 hown hK hP 0 rfl rfl 1 (by decide) hfieldLink_RX7_13 (fun _ h9 => h9) rfl dX7_goesOn_132 ?_
  refine lv_iload hx hb dX7_goesOn_135 (lv_at hl 2 rfl) ?_
  refine lv_iconst (v := 3) hx hb dX7_goesOn_137 (by decide) ?_
  refine lv_iadd hx hb dX7_goesOn_138 ?_
  refine lv_topi (fun f ef => ?_)
  obtain rfl : f = nI ((4 * J) + 3) := ef.trans (nI_add _ _)
  refine lv_aload_n hx hb dX7_goesOn_139 rfl (lv_at hl 4 rfl) ?_
  refine va_get (D := D) (ci := 8) (v := .ref (M 2)) (C := RX7) (T := TX7) (N := 20) hx hb hts inX7 hown hK hP 0 rfl rfl 1 (by decide) hfieldLink_RX7_13 (fun _ h9 => h9) rfl dX7_goesOn_140 ?_
  refine lv_iload hx hb dX7_goesOn_143 (lv_at hl 2 rfl) ?_
  refine lv_iconst (v := 2) hx hb dX7_goesOn_145 (by decide) ?_
  refine lv_iadd hx hb dX7_goesOn_146 ?_
  refine lv_topi (fun f ef => ?_)
  obtain rfl : f = nI ((4 * J) + 2) := ef.trans (nI_add _ _)
  refine va_iald hx hb hK hP 2 0 rfl rfl (vp_in_nI (by omega) (by omega)) dX7_goesOn_147 ?_
  refine lv_topi (fun f ef => ?_)
  obtain rfl : f = (upd (upd ms ((4 * J) + 1) (ms (4 * J))) (4 * J) x) ((4 * J) + 2) := ef.trans (congrArg (upd (upd ms ((4 * J) + 1) (ms (4 * J))) (4 * J) x) (nI_clamp (n := (4 * J) + 2) (by omega)))
  refine va_iast hx hb hK hP hD hS 2 0 rfl rfl (vp_in_nI (by omega) (by omega)) dX7_goesOn_148 (fun H locs hP hD hS => ?_)
  rw [show (nI ((4 * J) + 3)).toNatClampNeg = (4 * J) + 3 from (nI_clamp (by omega))] at hP hD
  have hP : va_P D ccl (mW cI M mc (upd (upd (upd ms ((4 * J) + 1) (ms (4 * J))) (4 * J) x) ((4 * J) + 3) ((upd (upd ms ((4 * J) + 1) (ms (4 * J))) (4 * J) x) ((4 * J) + 2))) mw mn mo mh mu mk mt mq mp my mf ma cy lo gr ov un la) H := hP
  have hD : va_D A (mW cI M mc (upd (upd (upd ms ((4 * J) + 1) (ms (4 * J))) (4 * J) x) ((4 * J) + 3) ((upd (upd ms ((4 * J) + 1) (ms (4 * J))) (4 * J) x) ((4 * J) + 2))) mw mn mo mh mu mk mt mq mp my mf ma cy lo gr ov un la) := hD
  refine lv_aload_n hx hb dX7_goesOn_149 rfl (lv_at hl 4 rfl) ?_
  refine va_get (D := D) (ci := 8) (v := .ref (M 2)) (C := RX7) (T := TX7) (N := 20) hx hb hts inX7 hown hK hP 0 rfl rfl 1 (by decide) hfieldLink_RX7_13 (fun _ h9 => h9) rfl dX7_goesOn_150 ?_
  refine lv_iload hx hb dX7_goesOn_153 (lv_at hl 2 rfl) ?_
  refine lv_iconst (v := 2) hx hb dX7_goesOn_155 (by decide) ?_
  refine lv_iadd hx hb dX7_goesOn_156 ?_
  refine lv_topi (fun f ef => ?_)
  obtain rfl : f = nI ((4 * J) + 2) := ef.trans (nI_add _ _)
  refine lv_iload hx hb dX7_goesOn_157 (lv_at hl 0 rfl) ?_
  refine va_iast hx hb hK hP hD hS 2 0 rfl rfl (vp_in_nI (by omega) (by omega)) dX7_goesOn_159 (fun H locs hP hD hS => ?_)
  rw [show (nI ((4 * J) + 2)).toNatClampNeg = (4 * J) + 2 from (nI_clamp (by omega))] at hP hD
  rw [show upd (upd (upd (upd ms ((4 * J) + 1) (ms (4 * J))) (4 * J) x) ((4 * J) + 3) ((upd (upd ms ((4 * J) + 1) (ms (4 * J))) (4 * J) x) ((4 * J) + 2))) ((4 * J) + 2) yy = goM ms J x yy from by funext z; simp [goM, upd]] at hP hD
  have hP : va_P D ccl (mW cI M mc (goM ms J x yy) mw mn mo mh mu mk mt mq mp my mf ma cy lo gr ov un la) H := hP
  have hD : va_D A (mW cI M mc (goM ms J x yy) mw mn mo mh mu mk mt mq mp my mf ma cy lo gr ov un la) := hD
  refine lv_iload hx hb dX7_goesOn_160 (lv_at hl 0 rfl) ?_
  refine g_iret (v := yy) hx hb hr hlk hP hK hD hS (Nat.le_of_ble_eq_true rfl) (Nat.le_of_ble_eq_true rfl) dX7_goesOn_162 ?_
  have ey : yy = goY mc mw ms J x := eyy
  exact ⟨by rw [ey], ey⟩

set_option maxHeartbeats 4000000 in
set_option maxRecDepth 100000 in
theorem c_X7_run (l : Launch) (D : va_G) (cI cJ cO : ClassId) (df sz : Nat) (M : Nat → Nat) (mc : Nat → Int32) (ms : Nat → Int32) (mw : Nat → Int32) (mn : Int32) (mo : Nat → Int32) (mu : Nat → Int32) (mt : Nat → Int32) (mq : Nat → Int32) (mp : Nat → Int32) (my : Int32) (mf : Nat → Int32) (ma : Nat → Int32) (cy : Int32) (lo : Int32) (gr : Int32) (ov : Int64) (un : Int64) (la : Int32) (C : Nat) (K : Nat) (x : Int32) (hC : C ≤ 8) (hK6 : K ≤ 16) (hO : ∀ i, i < C → gN (mo i) < 8 ∧ mo i = nI (gN (mo i))) : MetI l yX7_run wsX7_run ({ frames := 3, cells := 0, slots := 0, locals := 70 } : Room) D (gTY cI cJ cO) df (mW cI M mc ms mw mn mo (nI C) mu (nI K) mt mq mp my mf ma cy lo gr ov un la) sz [.ref (M 0), .int x] (fun (r : Int32) (w : va_W) => ∃ (s1 : Nat → Int32), ∃ (u1 : Nat → Int32), ∃ (k1 : Int32), w = mW cI M mc s1 mw mn mo (nI C) u1 k1 mt mq mp my mf ma cy lo gr ov un (gGo (isIn x (-32767) 32767) 1 1) ∧ (gGo (isIn x (-32767) 32767) 1 1 = 0 → s1 = (rnM mc mw mo ms x C).1 ∧ u1 = shiftIn 16 mu (rnM mc mw mo ms x C).2 ∧ k1 = nI (if K < 16 then K + 1 else K) ∧ r = (rnM mc mw mo ms x C).2) ∧ (¬ gGo (isIn x (-32767) 32767) 1 1 = 0 → s1 = ms ∧ u1 = mu ∧ k1 = nI K)) := by
  refine g_of (cc := cX7_run) (nL := 4) (ret := (some .int)) (D := D) (TY := (gTY cI cJ cO)) (df := df) (Qc := fun A => va_Qi (fun (r : Int32) (w : va_W) => ∃ (s1 : Nat → Int32), ∃ (u1 : Nat → Int32), ∃ (k1 : Int32), w = mW cI M mc s1 mw mn mo (nI C) u1 k1 mt mq mp my mf ma cy lo gr ov un (gGo (isIn x (-32767) 32767) 1 1) ∧ (gGo (isIn x (-32767) 32767) 1 1 = 0 → s1 = (rnM mc mw mo ms x C).1 ∧ u1 = shiftIn 16 mu (rnM mc mw mo ms x C).2 ∧ k1 = nI (if K < 16 then K + 1 else K) ∧ r = (rnM mc mw mo ms x C).2) ∧ (¬ gGo (isIn x (-32767) 32767) 1 1 = 0 → s1 = ms ∧ u1 = mu ∧ k1 = nI K)) (gB D (gTY cI cJ cO) A) A) (by decide +kernel) rfl (Nat.le_of_ble_eq_true rfl) ?_
  intro p e s m below meth c ls A hsz C0 hin hl
  obtain ⟨CF, hr, hlk, hA, hS, hP, hK, hD, hV, hH⟩ := C0
  have CF : CallFix p m c cX7_run 4 s _ wsX7_run RX7 := CF
  obtain ⟨hx, hb, hml, hown, hts⟩ := id CF
  subst hsz
  have hmethodLink_RX7_48 : (Cond.methodLink RX7 48 yX7_in).before _ s = true := hts _ (List.mem_of_getElem? (i := 5) rfl)
  have hmethodLink_RX7_52 : (Cond.methodLink RX7 52 yX7_goes).before _ s = true := hts _ (List.mem_of_getElem? (i := 9) rfl)
  have hfieldLink_RX7_60 : (Cond.fieldLink RX7 60 "TapLoomModel" "chained" "I").before _ s = true := hts _ (List.mem_of_getElem? (i := 1) rfl)
  have hfieldLink_RX7_22 : (Cond.fieldLink RX7 22 "TapLoomModel" "outputs" "[I").before _ s = true := hts _ (List.mem_of_getElem? (i := 3) rfl)
  have hfieldLink_RX7_84 : (Cond.fieldLink RX7 84 "TapLoomModel" "kept" "I").before _ s = true := hts _ (List.mem_of_getElem? (i := 4) rfl)
  have hfieldLink_RX7_19 : (Cond.fieldLink RX7 19 "TapLoomModel" "order" "[I").before _ s = true := hts _ (List.mem_of_getElem? (i := 2) rfl)
  have hmethodLink_RX7_81 : (Cond.methodLink RX7 81 yX7_goesOn).before _ s = true := hts _ (List.mem_of_getElem? (i := 14) rfl)
  have inX7 : ∀ w ∈ u_ws RX7 TX7 20, w ∈ wsX7_run := fun w h => (List.mem_cons_of_mem _ (List.mem_append_right _ h))
  have hP : va_P D ccl (mW cI M mc ms mw mn mo (nI C) mu (nI K) mt mq mp my mf ma cy lo gr ov un la) s.heap := hP
  have hl : lv_has ls 4 [(0, .ref (M 0)), (1, .int x)] := hl
  refine lv_aload_n hx hb dX7_run_0 rfl (lv_at hl 0 rfl) ?_
  refine lv_iload_n hx hb dX7_run_1 rfl (lv_at hl 1 rfl) ?_
  refine lv_sipush (v := (-32767)) hx hb dX7_run_2 (by decide) ?_
  refine lv_sipush (v := 32767) hx hb dX7_run_5 (by decide) ?_
  have hPc : va_P D ccl [] s.heap := fun k q h => by simp at h
  have hDc : va_D A [] := ⟨fun i j p q h => by simp at h, fun k q h => by simp at h⟩
  have hFc := va_free (wc := []) hD hS hA [] rfl
  refine g_Si (As := [.int x, .int (-32767), .int 32767]) (rest := [.ref (M 0)]) CF (c_X7_in l D cI cJ cO df s.heap.size x (-32767) 32767 ) (va_cwS 3 hts gX7_run_X7_in rfl rfl rfl (by decide +kernel) ⟨Nat.le_of_ble_eq_true rfl, Nat.le_of_ble_eq_true rfl⟩)  hPc hK hDc hV hH hS hFc rfl hl.1 rfl (Nat.le_of_ble_eq_true rfl) dX7_run_8 ⟨Nat.le_of_ble_eq_true rfl, Nat.le_of_ble_eq_true rfl⟩ (fun r_8 w1 H1 locs1 hq hP1 hD1 hk hS hz => ?_)
  obtain ⟨rfl, hr_8⟩ := hq
  have hP := g_keep0 hP hk
  clear hPc hDc hFc hP1 hD1 hk hz
  generalize H1 = H at hP hS ⊢
  have hP : va_P D ccl (mW cI M mc ms mw mn mo (nI C) mu (nI K) mt mq mp my mf ma cy lo gr ov un la) H := hP
  have hD : va_D A (mW cI M mc ms mw mn mo (nI C) mu (nI K) mt mq mp my mf ma cy lo gr ov un la) := hD
  subst hr_8
  refine lv_iconst (v := 1) hx hb dX7_run_11 (by decide) ?_
  refine lv_iconst (v := 1) hx hb dX7_run_12 (by decide) ?_
  have hPc := hP.sub (ws' := [(M 0, .inr (8, [.ref (M 1), .ref (M 2), .ref (M 3), .int mn, .ref (M 4), .int (nI C), .ref (M 5), .int (nI K), .ref (M 6), .ref (M 7), .ref (M 8), .int my, .ref (M 9), .ref (M 10), .int cy, .int lo, .int gr, .long ov, .long un, .int la])), (M 1, .inl (cI, 40, .inl mc)), (M 2, .inl (cI, 32, .inl ms)), (M 3, .inl (cI, 8, .inl mw)), (M 4, .inl (cI, 8, .inl mo)), (M 5, .inl (cI, 16, .inl mu)), (M 6, .inl (cI, 32, .inl mt)), (M 7, .inl (cI, 32, .inl mq)), (M 8, .inl (cI, 64, .inl mp)), (M 9, .inl (cI, 40401, .inl mf)), (M 10, .inl (cI, 40401, .inl ma))]) [0, 1, 2, 3, 4, 5, 6, 7, 8, 9, 10] rfl
  have hDc := hD.sub (ws' := [(M 0, .inr (8, [.ref (M 1), .ref (M 2), .ref (M 3), .int mn, .ref (M 4), .int (nI C), .ref (M 5), .int (nI K), .ref (M 6), .ref (M 7), .ref (M 8), .int my, .ref (M 9), .ref (M 10), .int cy, .int lo, .int gr, .long ov, .long un, .int la])), (M 1, .inl (cI, 40, .inl mc)), (M 2, .inl (cI, 32, .inl ms)), (M 3, .inl (cI, 8, .inl mw)), (M 4, .inl (cI, 8, .inl mo)), (M 5, .inl (cI, 16, .inl mu)), (M 6, .inl (cI, 32, .inl mt)), (M 7, .inl (cI, 32, .inl mq)), (M 8, .inl (cI, 64, .inl mp)), (M 9, .inl (cI, 40401, .inl mf)), (M 10, .inl (cI, 40401, .inl ma))]) [0, 1, 2, 3, 4, 5, 6, 7, 8, 9, 10] (by decide) rfl
  have hFc := va_free (wc := [(M 0, .inr (8, [.ref (M 1), .ref (M 2), .ref (M 3), .int mn, .ref (M 4), .int (nI C), .ref (M 5), .int (nI K), .ref (M 6), .ref (M 7), .ref (M 8), .int my, .ref (M 9), .ref (M 10), .int cy, .int lo, .int gr, .long ov, .long un, .int la])), (M 1, .inl (cI, 40, .inl mc)), (M 2, .inl (cI, 32, .inl ms)), (M 3, .inl (cI, 8, .inl mw)), (M 4, .inl (cI, 8, .inl mo)), (M 5, .inl (cI, 16, .inl mu)), (M 6, .inl (cI, 32, .inl mt)), (M 7, .inl (cI, 32, .inl mq)), (M 8, .inl (cI, 64, .inl mp)), (M 9, .inl (cI, 40401, .inl mf)), (M 10, .inl (cI, 40401, .inl ma))]) hD hS hA [0, 1, 2, 3, 4, 5, 6, 7, 8, 9, 10] rfl
  refine g_Vi (As := [.int (isIn x (-32767) 32767), .int 1, .int 1]) (rest := []) CF (c_X7_goes l D cI cJ cO df H.size M mc ms mw mn mo (nI C) mu (nI K) mt mq mp my mf ma cy lo gr ov un la (isIn x (-32767) 32767) 1 1 ) (cwV 3 hts gX7_run_X7_goes rfl rfl rfl (by decide +kernel) ⟨Nat.le_of_ble_eq_true rfl, Nat.le_of_ble_eq_true rfl⟩) (va_recv hK hP (ci := 8) (q0 := 0) rfl rfl) hPc hK hDc hV hH hS hFc rfl hl.1 rfl (Nat.le_of_ble_eq_true rfl) dX7_run_13 ⟨Nat.le_of_ble_eq_true rfl, Nat.le_of_ble_eq_true rfl⟩ (fun r_13 w1 H1 locs1 hq hP1 hD1 hk hS hz => ?_)
  obtain ⟨rfl, hr_13⟩ := hq
  obtain ⟨hP, hD⟩ := g_join (ws' := (mW cI M mc ms mw mn mo (nI C) mu (nI K) mt mq mp my mf ma cy lo gr ov un (gGo (isIn x (-32767) 32767) 1 1))) hP hD hk hFc hP1 hD1 [0, 1, 2, 3, 4, 5, 6, 7, 8, 9, 10] [] [0, 1, 2, 3, 4, 5, 6, 7, 8, 9, 10] rfl rfl (by decide) (by decide) (by decide) rfl
  clear hPc hDc hFc hP1 hD1 hk hz
  generalize H1 = H at hP hS ⊢
  have hP : va_P D ccl (mW cI M mc ms mw mn mo (nI C) mu (nI K) mt mq mp my mf ma cy lo gr ov un (gGo (isIn x (-32767) 32767) 1 1)) H := hP
  have hD : va_D A (mW cI M mc ms mw mn mo (nI C) mu (nI K) mt mq mp my mf ma cy lo gr ov un (gGo (isIn x (-32767) 32767) 1 1)) := hD
  subst hr_13
  refine lv_if_ne (tgt := 21) hx hb dX7_run_16 (by decide) (fun c_16 => ?_) (fun c_16 => ?_)
  · have c_16 : gGo (isIn x (-32767) 32767) 1 1 = 0 := g_b1 c_16
    refine lv_iload_n hx hb dX7_run_21 rfl (lv_at hl 1 rfl) ?_
    refine lv_istore_n (lv' := [(2, .int x), (0, .ref (M 0)), (1, .int x)]) hx hb dX7_run_22 rfl hl (by decide) rfl (fun ls hl => ?_)
    refine lv_iconst (v := 0) hx hb dX7_run_23 (by decide) ?_
    refine lv_istore_n (lv' := [(3, .int 0), (2, .int x), (0, .ref (M 0)), (1, .int x)]) hx hb dX7_run_24 rfl hl (by decide) rfl (fun ls hl => ?_)
    refine W.widen (k := 0) (n := 0) (Nat.le_refl _) (Nat.le_refl _) ?_
    refine g_while (σ := Nat × (Nat → Int32) × Int32) (st := []) (nL := 4) (fun z => match z with | (i, s1, z1) => mW cI M mc s1 mw mn mo (nI C) mu (nI K) mt mq mp my mf ma cy lo gr ov un (gGo (isIn x (-32767) 32767) 1 1))
      (fun z => match z with | (i, s1, z1) => [(0, .ref (M 0)), (1, .int x), (2, .int z1), (3, .int (nI i))])
      (fun z => match z with | (i, s1, z1) => i ≤ C ∧ s1 = (rnM mc mw mo ms x i).1 ∧ z1 = (rnM mc mw mo ms x i).2)
      (fun z => match z with | (i, s1, z1) => C - i) (fun z => match z with | (i, s1, z1) => 0) (fun z => match z with | (i, s1, z1) => 0)
      ?_ (0, ms, x) ⟨Nat.zero_le C, rfl, rfl⟩ hP hD hS (lv_sub hl [2, 3, 1, 0] rfl)
    rintro ⟨i, s1, z1⟩ hI H locs ls hP hD hS hl ih
    have hI : i ≤ C ∧ s1 = (rnM mc mw mo ms x i).1 ∧ z1 = (rnM mc mw mo ms x i).2 := hI
    have hP : va_P D ccl (mW cI M mc s1 mw mn mo (nI C) mu (nI K) mt mq mp my mf ma cy lo gr ov un (gGo (isIn x (-32767) 32767) 1 1)) H := hP
    have hD : va_D A (mW cI M mc s1 mw mn mo (nI C) mu (nI K) mt mq mp my mf ma cy lo gr ov un (gGo (isIn x (-32767) 32767) 1 1)) := hD
    have hl : lv_has ls 4 [(0, .ref (M 0)), (1, .int x), (2, .int z1), (3, .int (nI i))] := hl
    change W p l e _ s m _ below meth c H locs 0 0 _ (F0 m 25 ls [])
    have ih_25 := ih
    clear ih
    obtain ⟨hi, es1, ez1⟩ := hI
    refine lv_iload_n hx hb dX7_run_25 rfl (lv_at hl 3 rfl) ?_
    refine lv_aload_n hx hb dX7_run_26 rfl (lv_at hl 0 rfl) ?_
    refine va_get (D := D) (ci := 8) (v := .int (nI C)) (C := RX7) (T := TX7) (N := 20) hx hb hts inX7 hown hK hP 0 rfl rfl 5 (by decide) hfieldLink_RX7_60 (fun _ h9 => h9) rfl dX7_run_27 ?_
    refine lv_icmp_ge (tgt := 51) hx hb dX7_run_30 (by decide) (fun c_30 => ?_) (fun c_30 => ?_)
    · have c_30 : C ≤ i := g_le (a := C) (b := i) c_30 (by omega) (by omega)
      obtain rfl : i = C := by omega
      refine lv_bipush (v := 15) hx hb dX7_run_51 (by decide) ?_
      refine lv_istore_n (lv' := [(3, .int 15), (0, .ref (M 0)), (1, .int x), (2, .int z1)]) hx hb dX7_run_53 rfl hl (by decide) rfl (fun ls hl => ?_)
      refine W.widen (k := 0) (n := 0) (Nat.le_refl _) (Nat.le_refl _) ?_
      refine g_while (σ := Nat × (Nat → Int32)) (st := []) (nL := 4) (fun z => match z with | (j, u1) => mW cI M mc s1 mw mn mo (nI i) u1 (nI K) mt mq mp my mf ma cy lo gr ov un (gGo (isIn x (-32767) 32767) 1 1))
        (fun z => match z with | (j, u1) => [(0, .ref (M 0)), (1, .int x), (2, .int z1), (3, .int (nI j))])
        (fun z => match z with | (j, u1) => j ≤ 15 ∧ u1 = shAt 16 mu j)
        (fun z => match z with | (j, u1) => j) (fun z => match z with | (j, u1) => 0) (fun z => match z with | (j, u1) => 0)
        ?_ (15, mu) ⟨Nat.le_refl 15, shAt_0⟩ hP hD hS (lv_sub hl [1, 2, 3, 0] rfl)
      rintro ⟨j, u1⟩ hI H locs ls hP hD hS hl ih
      have hI : j ≤ 15 ∧ u1 = shAt 16 mu j := hI
      have hP : va_P D ccl (mW cI M mc s1 mw mn mo (nI i) u1 (nI K) mt mq mp my mf ma cy lo gr ov un (gGo (isIn x (-32767) 32767) 1 1)) H := hP
      have hD : va_D A (mW cI M mc s1 mw mn mo (nI i) u1 (nI K) mt mq mp my mf ma cy lo gr ov un (gGo (isIn x (-32767) 32767) 1 1)) := hD
      have hl : lv_has ls 4 [(0, .ref (M 0)), (1, .int x), (2, .int z1), (3, .int (nI j))] := hl
      change W p l e _ s m _ below meth c H locs 0 0 _ (F0 m 54 ls [])
      have ih_54 := ih
      clear ih
      obtain ⟨hj, rfl⟩ := hI
      refine lv_iload_n hx hb dX7_run_54 rfl (lv_at hl 3 rfl) ?_
      refine lv_if_le (tgt := 78) hx hb dX7_run_55 (by decide) (fun c_55 => ?_) (fun c_55 => ?_)
      · have c_55 : j ≤ 0 := g_le (a := j) (b := 0) c_55 (by omega) (by omega)
        obtain rfl : j = 0 := by omega
        refine lv_aload_n hx hb dX7_run_78 rfl (lv_at hl 0 rfl) ?_
        refine va_get (D := D) (ci := 8) (v := .ref (M 5)) (C := RX7) (T := TX7) (N := 20) hx hb hts inX7 hown hK hP 0 rfl rfl 6 (by decide) hfieldLink_RX7_22 (fun _ h9 => h9) rfl dX7_run_79 ?_
        refine lv_iconst (v := 0) hx hb dX7_run_82 (by decide) ?_
        refine lv_iload_n hx hb dX7_run_83 rfl (lv_at hl 2 rfl) ?_
        refine va_iast hx hb hK hP hD hS 5 0 rfl rfl (by unfold vp_in; decide) dX7_run_84 (fun H locs hP hD hS => ?_)
        rw [show ((0 : Int32)).toNatClampNeg = 0 from (by decide)] at hP hD
        rw [show upd (shAt 16 mu 0) 0 z1 = shiftIn 16 mu z1 from shAt_end] at hP hD
        have hP : va_P D ccl (mW cI M mc s1 mw mn mo (nI i) (shiftIn 16 mu z1) (nI K) mt mq mp my mf ma cy lo gr ov un (gGo (isIn x (-32767) 32767) 1 1)) H := hP
        have hD : va_D A (mW cI M mc s1 mw mn mo (nI i) (shiftIn 16 mu z1) (nI K) mt mq mp my mf ma cy lo gr ov un (gGo (isIn x (-32767) 32767) 1 1)) := hD
        refine lv_aload_n hx hb dX7_run_85 rfl (lv_at hl 0 rfl) ?_
        refine lv_dup hx hb dX7_run_86 rfl ?_
        refine va_get (D := D) (ci := 8) (v := .int (nI K)) (C := RX7) (T := TX7) (N := 20) hx hb hts inX7 hown hK hP 0 rfl rfl 7 (by decide) hfieldLink_RX7_84 (fun _ h9 => h9) rfl dX7_run_87 ?_
        refine lv_aload_n hx hb dX7_run_90 rfl (lv_at hl 0 rfl) ?_
        refine va_get (D := D) (ci := 8) (v := .int (nI K)) (C := RX7) (T := TX7) (N := 20) hx hb hts inX7 hown hK hP 0 rfl rfl 7 (by decide) hfieldLink_RX7_84 (fun _ h9 => h9) rfl dX7_run_91 ?_
        refine lv_bipush (v := 16) hx hb dX7_run_94 (by decide) ?_
        refine g_phii (ls := ls) (J := 104) (st1 := [.int (nI K), .ref (M 0)]) (REL := fun b => b = if K < 16 then (1 : Int32) else 0) (fun b hb_104 => ?_) (fun hJ_104 => ?_)
        · subst hb_104
          refine lv_iadd hx hb dX7_run_104 ?_
          refine lv_topi (fun f ef => ?_)
          obtain rfl : f = nI (if K < 16 then K + 1 else K) := ef.trans (by by_cases h : K < 16 <;> simp [h, nI_1])
          refine va_put (D := D) (ci := 8) (v := .int (nI (if K < 16 then K + 1 else K))) (ty := .int) (C := RX7) (T := TX7) (N := 20) hx hb hts inX7 tyX7 tyX7_ok nmX7 hown hK hP hD hS 0 rfl rfl 7 (by decide) hfieldLink_RX7_84 (fun _ h9 => h9) rfl (by decide +kernel) rfl rfl (Nat.le_of_ble_eq_true rfl) dX7_run_105 (fun H locs hP hD hS => ?_)
          have hP : va_P D ccl (mW cI M mc s1 mw mn mo (nI i) (shiftIn 16 mu z1) (nI (if K < 16 then K + 1 else K)) mt mq mp my mf ma cy lo gr ov un (gGo (isIn x (-32767) 32767) 1 1)) H := hP
          have hD : va_D A (mW cI M mc s1 mw mn mo (nI i) (shiftIn 16 mu z1) (nI (if K < 16 then K + 1 else K)) mt mq mp my mf ma cy lo gr ov un (gGo (isIn x (-32767) 32767) 1 1)) := hD
          refine lv_iload_n hx hb dX7_run_108 rfl (lv_at hl 2 rfl) ?_
          refine g_iret (v := z1) hx hb hr hlk hP hK hD hS (Nat.le_of_ble_eq_true rfl) (Nat.le_of_ble_eq_true rfl) dX7_run_109 ?_
          exact ⟨_, _, _, rfl, fun _ => ⟨es1, by rw [ez1], rfl, ez1⟩, fun h => absurd c_16 h⟩
        · refine lv_icmp_ge (tgt := 103) hx hb dX7_run_96 (by decide) (fun c_96 => ?_) (fun c_96 => ?_)
          · have c_96 : 16 ≤ K := g_le (a := 16) (b := K) c_96 (by omega) (by omega)
            refine lv_iconst (v := 0) hx hb dX7_run_103 (by decide) ?_
            exact hJ_104 _ (by first | rw [if_pos (by omega)] | rw [if_neg (by omega)])
          · have c_96 : K < 16 := g_nle (a := 16) (b := K) c_96 (by omega) (by omega)
            refine lv_iconst (v := 1) hx hb dX7_run_99 (by decide) ?_
            refine lv_goto (tgt := 104) hx hb dX7_run_100 (by decide) ?_
            exact hJ_104 _ (by first | rw [if_pos (by omega)] | rw [if_neg (by omega)])
      · have c_55 : 0 < j := g_nle (a := j) (b := 0) c_55 (by omega) (by omega)
        refine lv_aload_n hx hb dX7_run_58 rfl (lv_at hl 0 rfl) ?_
        refine va_get (D := D) (ci := 8) (v := .ref (M 5)) (C := RX7) (T := TX7) (N := 20) hx hb hts inX7 hown hK hP 0 rfl rfl 6 (by decide) hfieldLink_RX7_22 (fun _ h9 => h9) rfl dX7_run_59 ?_
        refine lv_iload_n hx hb dX7_run_62 rfl (lv_at hl 3 rfl) ?_
        refine lv_aload_n hx hb dX7_run_63 rfl (lv_at hl 0 rfl) ?_
        refine va_get (D := D) (ci := 8) (v := .ref (M 5)) (C := RX7) (T := TX7) (N := 20) hx hb hts inX7 hown hK hP 0 rfl rfl 6 (by decide) hfieldLink_RX7_22 (fun _ h9 => h9) rfl dX7_run_64 ?_
        refine lv_iload_n hx hb dX7_run_67 rfl (lv_at hl 3 rfl) ?_
        refine lv_iconst (v := 1) hx hb dX7_run_68 (by decide) ?_
        refine lv_isub hx hb dX7_run_69 ?_
        refine lv_topi (fun f ef => ?_)
        obtain rfl : f = nI (j - 1) := ef.trans (pk_sub (a := j) (b := 1) (by omega))
        refine va_iald hx hb hK hP 5 0 rfl rfl (vp_in_nI (by omega) (by omega)) dX7_run_70 ?_
        refine lv_topi (fun f ef => ?_)
        obtain rfl : f = (shAt 16 mu j) (j - 1) := ef.trans (congrArg (shAt 16 mu j) (nI_clamp (n := j - 1) (by omega)))
        refine va_iast hx hb hK hP hD hS 5 0 rfl rfl (vp_in_nI (by omega) (by omega)) dX7_run_71 (fun H locs hP hD hS => ?_)
        rw [show (nI j).toNatClampNeg = j from (nI_clamp (by omega))] at hP hD
        have hP : va_P D ccl (mW cI M mc s1 mw mn mo (nI i) (upd (shAt 16 mu j) j ((shAt 16 mu j) (j - 1))) (nI K) mt mq mp my mf ma cy lo gr ov un (gGo (isIn x (-32767) 32767) 1 1)) H := hP
        have hD : va_D A (mW cI M mc s1 mw mn mo (nI i) (upd (shAt 16 mu j) j ((shAt 16 mu j) (j - 1))) (nI K) mt mq mp my mf ma cy lo gr ov un (gGo (isIn x (-32767) 32767) 1 1)) := hD
        refine lv_iinc (v := nI (j - 1)) (lv' := [(3, .int (nI (j - 1))), (0, .ref (M 0)), (1, .int x), (2, .int z1)]) hx hb dX7_run_72 hl (k := 3) rfl (by exact sb_m1 (by omega)) (by decide) rfl (fun ls hl => ?_)
        refine lv_goto (tgt := 54) hx hb dX7_run_75 (by decide) ?_
        refine W.widen (k := 0) (n := 0) (Nat.le_refl _) (Nat.le_refl _) ?_
        exact ih_54 (j - 1, upd (shAt 16 mu j) j ((shAt 16 mu j) (j - 1))) _ _ _ (show (j - 1) ≤ 15 ∧ (upd (shAt 16 mu j) j ((shAt 16 mu j) (j - 1))) = shAt 16 mu (j - 1) from (by exact ⟨by omega, shAt_step (by omega) (by omega)⟩)) (show (j - 1) < j by omega) hP hD hS (lv_sub hl [1, 2, 3, 0] rfl)
    · have c_30 : i < C := g_nle (a := C) (b := i) c_30 (by omega) (by omega)
      refine lv_aload_n hx hb dX7_run_33 rfl (lv_at hl 0 rfl) ?_
      refine lv_aload_n hx hb dX7_run_34 rfl (lv_at hl 0 rfl) ?_
      refine va_get (D := D) (ci := 8) (v := .ref (M 4)) (C := RX7) (T := TX7) (N := 20) hx hb hts inX7 hown hK hP 0 rfl rfl 4 (by decide) hfieldLink_RX7_19 (fun _ h9 => h9) rfl dX7_run_35 ?_
      refine lv_iload_n hx hb dX7_run_38 rfl (lv_at hl 3 rfl) ?_
      refine va_iald hx hb hK hP 4 0 rfl rfl (vp_in_nI (by omega) (by omega)) dX7_run_39 ?_
      refine lv_topi (fun f ef => ?_)
      obtain rfl : f = mo i := ef.trans (congrArg mo (nI_clamp (n := i) (by omega)))
      refine lv_topi (fun f ef => ?_)
      obtain rfl : f = nI (gN (mo i)) := ef.trans ((hO i c_30).2)
      refine lv_iload_n hx hb dX7_run_40 rfl (lv_at hl 2 rfl) ?_
      have hPc := hP.sub (ws' := [(M 0, .inr (8, [.ref (M 1), .ref (M 2), .ref (M 3), .int mn, .ref (M 4), .int (nI C), .ref (M 5), .int (nI K), .ref (M 6), .ref (M 7), .ref (M 8), .int my, .ref (M 9), .ref (M 10), .int cy, .int lo, .int gr, .long ov, .long un, .int (gGo (isIn x (-32767) 32767) 1 1)])), (M 1, .inl (cI, 40, .inl mc)), (M 2, .inl (cI, 32, .inl s1)), (M 3, .inl (cI, 8, .inl mw)), (M 4, .inl (cI, 8, .inl mo)), (M 5, .inl (cI, 16, .inl mu)), (M 6, .inl (cI, 32, .inl mt)), (M 7, .inl (cI, 32, .inl mq)), (M 8, .inl (cI, 64, .inl mp)), (M 9, .inl (cI, 40401, .inl mf)), (M 10, .inl (cI, 40401, .inl ma))]) [0, 1, 2, 3, 4, 5, 6, 7, 8, 9, 10] rfl
      have hDc := hD.sub (ws' := [(M 0, .inr (8, [.ref (M 1), .ref (M 2), .ref (M 3), .int mn, .ref (M 4), .int (nI C), .ref (M 5), .int (nI K), .ref (M 6), .ref (M 7), .ref (M 8), .int my, .ref (M 9), .ref (M 10), .int cy, .int lo, .int gr, .long ov, .long un, .int (gGo (isIn x (-32767) 32767) 1 1)])), (M 1, .inl (cI, 40, .inl mc)), (M 2, .inl (cI, 32, .inl s1)), (M 3, .inl (cI, 8, .inl mw)), (M 4, .inl (cI, 8, .inl mo)), (M 5, .inl (cI, 16, .inl mu)), (M 6, .inl (cI, 32, .inl mt)), (M 7, .inl (cI, 32, .inl mq)), (M 8, .inl (cI, 64, .inl mp)), (M 9, .inl (cI, 40401, .inl mf)), (M 10, .inl (cI, 40401, .inl ma))]) [0, 1, 2, 3, 4, 5, 6, 7, 8, 9, 10] (by decide) rfl
      have hFc := va_free (wc := [(M 0, .inr (8, [.ref (M 1), .ref (M 2), .ref (M 3), .int mn, .ref (M 4), .int (nI C), .ref (M 5), .int (nI K), .ref (M 6), .ref (M 7), .ref (M 8), .int my, .ref (M 9), .ref (M 10), .int cy, .int lo, .int gr, .long ov, .long un, .int (gGo (isIn x (-32767) 32767) 1 1)])), (M 1, .inl (cI, 40, .inl mc)), (M 2, .inl (cI, 32, .inl s1)), (M 3, .inl (cI, 8, .inl mw)), (M 4, .inl (cI, 8, .inl mo)), (M 5, .inl (cI, 16, .inl mu)), (M 6, .inl (cI, 32, .inl mt)), (M 7, .inl (cI, 32, .inl mq)), (M 8, .inl (cI, 64, .inl mp)), (M 9, .inl (cI, 40401, .inl mf)), (M 10, .inl (cI, 40401, .inl ma))]) hD hS hA [0, 1, 2, 3, 4, 5, 6, 7, 8, 9, 10] rfl
      refine g_Vi (As := [.int (nI (gN (mo i))), .int z1]) (rest := []) CF (c_X7_goesOn l D cI cJ cO df H.size M mc s1 mw mn mo (nI C) mu (nI K) mt mq mp my mf ma cy lo gr ov un (gGo (isIn x (-32767) 32767) 1 1) (gN (mo i)) z1 ((hO i c_30).1)) (cwV 2 hts gX7_run_X7_goesOn rfl rfl rfl (by decide +kernel) ⟨Nat.le_of_ble_eq_true rfl, Nat.le_of_ble_eq_true rfl⟩) (va_recv hK hP (ci := 8) (q0 := 0) rfl rfl) hPc hK hDc hV hH hS hFc rfl hl.1 rfl (Nat.le_of_ble_eq_true rfl) dX7_run_41 ⟨Nat.le_of_ble_eq_true rfl, Nat.le_of_ble_eq_true rfl⟩ (fun r_41 w1 H1 locs1 hq hP1 hD1 hk hS hz => ?_)
      obtain ⟨rfl, hr_41⟩ := hq
      obtain ⟨hP, hD⟩ := g_join (ws' := (mW cI M mc (goM s1 (gN (mo i)) z1 (goY mc mw s1 (gN (mo i)) z1)) mw mn mo (nI C) mu (nI K) mt mq mp my mf ma cy lo gr ov un (gGo (isIn x (-32767) 32767) 1 1))) hP hD hk hFc hP1 hD1 [0, 1, 2, 3, 4, 5, 6, 7, 8, 9, 10] [] [0, 1, 2, 3, 4, 5, 6, 7, 8, 9, 10] rfl rfl (by decide) (by decide) (by decide) rfl
      clear hPc hDc hFc hP1 hD1 hk hz
      generalize H1 = H at hP hS ⊢
      have hP : va_P D ccl (mW cI M mc (goM s1 (gN (mo i)) z1 (goY mc mw s1 (gN (mo i)) z1)) mw mn mo (nI C) mu (nI K) mt mq mp my mf ma cy lo gr ov un (gGo (isIn x (-32767) 32767) 1 1)) H := hP
      have hD : va_D A (mW cI M mc (goM s1 (gN (mo i)) z1 (goY mc mw s1 (gN (mo i)) z1)) mw mn mo (nI C) mu (nI K) mt mq mp my mf ma cy lo gr ov un (gGo (isIn x (-32767) 32767) 1 1)) := hD
      subst hr_41
      refine lv_istore_n (lv' := [(2, .int (goY mc mw s1 (gN (mo i)) z1)), (0, .ref (M 0)), (1, .int x), (3, .int (nI i))]) hx hb dX7_run_44 rfl hl (by decide) rfl (fun ls hl => ?_)
      refine lv_iinc (v := nI (i + 1)) (lv' := [(3, .int (nI (i + 1))), (2, .int (goY mc mw s1 (gN (mo i)) z1)), (0, .ref (M 0)), (1, .int x)]) hx hb dX7_run_45 hl (k := 3) rfl (by exact nI_1 _) (by decide) rfl (fun ls hl => ?_)
      refine lv_goto (tgt := 25) hx hb dX7_run_48 (by decide) ?_
      refine W.widen (k := 0) (n := 0) (Nat.le_refl _) (Nat.le_refl _) ?_
      exact ih_25 (i + 1, goM s1 (gN (mo i)) z1 (goY mc mw s1 (gN (mo i)) z1), (goY mc mw s1 (gN (mo i)) z1)) _ _ _ (show (i + 1) ≤ C ∧ (goM s1 (gN (mo i)) z1 (goY mc mw s1 (gN (mo i)) z1)) = (rnM mc mw mo ms x (i + 1)).1 ∧ (goY mc mw s1 (gN (mo i)) z1) = (rnM mc mw mo ms x (i + 1)).2 from (by exact ⟨c_30, by rw [es1, ez1]; rfl, by rw [es1, ez1]; rfl⟩)) (show C - (i + 1) < C - i by omega) hP hD hS (lv_sub hl [2, 3, 1, 0] rfl)
  · have c_16 : ¬ (gGo (isIn x (-32767) 32767) 1 1 = 0) := g_b0 c_16
    refine lv_iconst (v := 0) hx hb dX7_run_19 (by decide) ?_
    refine g_iret (v := 0) hx hb hr hlk hP hK hD hS (Nat.le_of_ble_eq_true rfl) (Nat.le_of_ble_eq_true rfl) dX7_run_20 ?_
    exact ⟨_, _, _, rfl, fun h => absurd h c_16, fun _ => ⟨rfl, rfl, rfl⟩⟩
