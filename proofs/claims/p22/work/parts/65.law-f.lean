set_option maxHeartbeats 4000000 in
set_option maxRecDepth 100000 in
theorem c_L_from (l : Launch) (D : va_G) (cI cJ cO : ClassId) (df sz : Nat) (b : Nat) (L : Nat) (xs : Nat → Int32) (k : Nat) (B : Nat) (hL : L ≤ 260) (hk : k < 100000) (hB0 : 0 < B) (hB : B < 2147483648) : MetS l yL_from wsL_from ({ frames := 0, cells := 0, slots := 0, locals := 0 } : Room) D (gTY cI cJ cO) df b L xs [] sz [.ref b, .int (nI k), .int (nI B)] (fun (r : Int32) (wZ : va_W) => ∃ (R : Nat), wZ = [] ∧ r = nI R ∧ R < B) := by
  refine gS_of (cc := cL_from) (nL := 4) (ret := (some .int)) (D := D) (TY := (gTY cI cJ cO)) (df := df) (Qc := fun A => va_Qi (fun (r : Int32) (wZ : va_W) => ∃ (R : Nat), wZ = [] ∧ r = nI R ∧ R < B) (gB D (gTY cI cJ cO) A) A) (by decide +kernel) rfl (Nat.le_of_ble_eq_true rfl) ?_
  intro p e s m below meth c ls A hsz C0 hX0 hl
  obtain ⟨hX, hbl, hbA⟩ := id hX0
  obtain ⟨CF, hr, hlk, hA, hS, hP, hK, hD, hV, hH⟩ := C0
  have CF : CallFix p m c cL_from 4 s _ wsL_from RL := CF
  obtain ⟨hx, hb, hml, hown, hts⟩ := id CF
  subst hsz
  have hconstant_RL_8 : (Cond.constant RL 8 (2147483647)).before _ s = true := hts _ (List.mem_of_getElem? (i := 2) rfl)
  have hconstant_RL_7 : (Cond.constant RL 7 (360989)).before _ s = true := hts _ (List.mem_of_getElem? (i := 1) rfl)
  have hP : va_P D ccl [] s.heap := hP
  have hl : lv_has ls 4 [(0, .ref b), (1, .int (nI k)), (2, .int (nI B))] := hl
  refine lv_aload_n hx hb dL_from_0 rfl (lv_at hl 0 rfl) ?_
  refine va_slen hx hb hX hbl hbA hS dL_from_1 ?_
  refine g_phii (ls := ls) (J := 28) (st1 := []) (REL := fun v9 => True) (fun v9 hb_28 => ?_) (fun hJ_28 => ?_)
  · refine lv_istore_n (lv' := [(3, .int v9), (0, .ref b), (1, .int (nI k)), (2, .int (nI B))]) hx hb dL_from_28 rfl hl (by decide) rfl (fun ls hl => ?_)
    refine lv_iload_n hx hb dL_from_29 rfl (lv_at hl 0 rfl) ?_
    refine lv_ldc (v := 2147483647) hx hb hown hconstant_RL_8 dL_from_30 ?_
    obtain ⟨M, hM, eM⟩ := and_nn v9
    refine lv_iand hx hb dL_from_32 ?_
    refine lv_topi (fun f ef => ?_)
    obtain rfl : f = nI M := ef.trans (eM)
    refine lv_iload_n hx hb dL_from_33 rfl (lv_at hl 3 rfl) ?_
    refine lv_irem hx hb dL_from_34 (nI_ne0 (by omega) (by omega)) ?_
    refine lv_topi (fun f ef => ?_)
    obtain rfl : f = nI (M % B) := ef.trans (pk_rem (a := M) (d := B) (by omega) (by omega) (by omega))
    refine g_iret (v := nI (M % B)) hx hb hr hlk hP hK hD hS (Nat.le_of_ble_eq_true rfl) (Nat.le_of_ble_eq_true rfl) dL_from_35 ?_
    exact ⟨_, rfl, rfl, Nat.mod_lt _ hB0⟩
  · refine lv_if_ne (tgt := 17) hx hb dL_from_2 (by decide) (fun c_2 => ?_) (fun c_2 => ?_)
    · have c_2 : L ≠ 0 := g_ne (a := L) (b := 0) c_2 (by omega) (by omega)
      have hml := Nat.mod_lt k (show 0 < L by omega)
      refine lv_aload_n hx hb dL_from_17 rfl (lv_at hl 0 rfl) ?_
      refine lv_iload_n hx hb dL_from_18 rfl (lv_at hl 1 rfl) ?_
      refine lv_aload_n hx hb dL_from_19 rfl (lv_at hl 0 rfl) ?_
      refine va_slen hx hb hX hbl hbA hS dL_from_20 ?_
      refine lv_irem hx hb dL_from_21 (nI_ne0 (by omega) (by omega)) ?_
      refine lv_topi (fun f ef => ?_)
      obtain rfl : f = nI (k % L) := ef.trans (pk_rem (a := k) (d := L) (by omega) (by omega) (by omega))
      refine va_sld hx hb hX hbl hbA hS (vp_in_nI (n := k % L) (by omega) (by omega)) dL_from_22 ?_
      refine lv_topi (fun f ef => ?_)
      obtain rfl : f = xs (k % L) := ef.trans (congrArg xs (nI_clamp (n := k % L) (by omega)))
      refine lv_ldc (v := 360989) hx hb hown hconstant_RL_7 dL_from_23 ?_
      refine lv_iload_n hx hb dL_from_25 rfl (lv_at hl 1 rfl) ?_
      refine lv_imul hx hb dL_from_26 ?_
      refine lv_topi (fun f ef => ?_)
      obtain rfl : f = nI (360989 * k) := ef.trans (pk_mul _ _)
      refine lv_ixor hx hb dL_from_27 ?_
      exact hJ_28 _ trivial
    · have c_2 : L = 0 := g_eq (a := L) (b := 0) c_2 (by omega) (by omega)
      refine lv_sipush (v := 499) hx hb dL_from_5 (by decide) ?_
      refine lv_iload_n hx hb dL_from_8 rfl (lv_at hl 1 rfl) ?_
      refine lv_imul hx hb dL_from_9 ?_
      refine lv_topi (fun f ef => ?_)
      obtain rfl : f = nI (499 * k) := ef.trans (pk_mul _ _)
      refine lv_sipush (v := 457) hx hb dL_from_10 (by decide) ?_
      refine lv_iadd hx hb dL_from_13 ?_
      refine lv_topi (fun f ef => ?_)
      obtain rfl : f = nI ((499 * k) + 457) := ef.trans (nI_add _ _)
      refine lv_goto (tgt := 28) hx hb dL_from_14 (by decide) ?_
      exact hJ_28 _ trivial

set_option maxHeartbeats 4000000 in
set_option maxRecDepth 100000 in
theorem c_L_holds (l : Launch) (hfl : l.stackTraces = false) (D : va_G) (cI cJ cO : ClassId) (df sz : Nat) (b : Nat) (L : Nat) (xs : Nat → Int32) (hL : L ≤ 260) : MetS l yL_holds wsL_holds ({ frames := 15, cells := 18100, slots := 128100, locals := 481 } : Room) D (gTY cI cJ cO) df b L xs [] sz [.ref b] (fun (r : Int32) (wZ : va_W) => ∃ (w1 : va_W), wZ = ([] : va_W) ++ w1 ∧ r = 1) := by
  refine gS_of (cc := cL_holds) (nL := 12) (ret := (some .boolean)) (D := D) (TY := (gTY cI cJ cO)) (df := df) (Qc := fun A => va_Qi (fun (r : Int32) (wZ : va_W) => ∃ (w1 : va_W), wZ = ([] : va_W) ++ w1 ∧ r = 1) (gB D (gTY cI cJ cO) A) A) (by decide +kernel) rfl (Nat.le_of_ble_eq_true rfl) ?_
  intro p e s m below meth c ls A hsz C0 hX0 hl
  obtain ⟨hX, hbl, hbA⟩ := id hX0
  obtain ⟨CF, hr, hlk, hA, hS, hP, hK, hD, hV, hH⟩ := C0
  have CF : CallFix p m c cL_holds 12 s _ wsL_holds RL := CF
  obtain ⟨hx, hb, hml, hown, hts⟩ := id CF
  subst hsz
  have hclassLink_RL_34 : (Cond.classLink RL 34 RX6).before _ s = true := hts _ (List.mem_of_getElem? (i := 1) rfl)
  have hinstantiable_RX6_6 : (Cond.instantiable RX6 6).before _ s = true := hts _ (List.mem_of_getElem? (i := 2) rfl)
  have hinitialized_RX6 : (Cond.initialized RX6).before _ s = true := hts _ (List.mem_of_getElem? (i := 3) rfl)
  have hmethodLink_RL_133 : (Cond.methodLink RL 133 yX6_init).before _ s = true := hts _ (List.mem_of_getElem? (i := 6) rfl)
  have hinstanceMethod_yX6_init : (Cond.instanceMethod yX6_init).before _ s = true := hts _ (List.mem_of_getElem? (i := 7) rfl)
  have hArrI : (Cond.arrayClass .int).before _ s = true := hts _ (List.mem_of_getElem? (i := 4) rfl)
  have hconstant_RL_134 : (Cond.constant RL 134 (1000000000)).before _ s = true := hts _ (List.mem_of_getElem? (i := 5) rfl)
  have hmethodLink_RL_135 : (Cond.methodLink RL 135 yL_from).before _ s = true := hts _ (List.mem_of_getElem? (i := 77) rfl)
  have hmethodLink_RL_138 : (Cond.methodLink RL 138 yL_isActed).before _ s = true := hts _ (List.mem_of_getElem? (i := 83) rfl)
  have hmethodLink_RL_142 : (Cond.methodLink RL 142 yL_isSame).before _ s = true := hts _ (List.mem_of_getElem? (i := 369) rfl)
  have hmethodLink_RL_146 : (Cond.methodLink RL 146 yL_areGains).before _ s = true := hts _ (List.mem_of_getElem? (i := 435) rfl)
  have hmethodLink_RL_150 : (Cond.methodLink RL 150 yL_areCycles).before _ s = true := hts _ (List.mem_of_getElem? (i := 515) rfl)
  have inX6 : ∀ w ∈ u_ws RX6 TX6 6, w ∈ wsL_holds := fun w h => (List.mem_cons_of_mem _ (List.mem_append_left _ (List.mem_append_left _ (List.mem_append_left _ (List.mem_append_left _ (List.mem_append_left _ (List.mem_append_left _ (List.mem_append_left _ (List.mem_append_left _ (List.mem_append_left _ (List.mem_append_left _ (List.mem_append_right _ h))))))))))))
  have hP : va_P D ccl [] s.heap := hP
  have hl : lv_has ls 12 [(0, .ref b)] := hl
  refine va_new (ci := 7) (fs := [.null, .null, .null, .null, .null, .null]) (C := RX6) (T := TX6) (N := 6) hx hb hts inX6 tyX6 tyX6_ok hown hclassLink_RL_34 hinstantiable_RX6_6 hinitialized_RX6 hK hP hD hS hA rfl (fun j hj => by rcases (show j = 0 ∨ j = 1 ∨ j = 2 ∨ j = 3 ∨ j = 4 ∨ j = 5 by omega) with rfl | rfl | rfl | rfl | rfl | rfl <;> rfl) (Nat.le_of_ble_eq_true rfl) (Nat.le_of_ble_eq_true rfl) dL_holds_0 (fun t0 H hP hD hS => ?_)
  have hP : va_P D ccl [(t0, .inr (7, [.null, .null, .null, .null, .null, .null]))] H := hP
  have hD : va_D A [(t0, .inr (7, [.null, .null, .null, .null, .null, .null]))] := hD
  refine lv_dup hx hb dL_holds_3 rfl ?_
  have hPc := hP.sub (ws' := [(t0, .inr (7, [.null, .null, .null, .null, .null, .null]))]) [0] rfl
  have hDc := hD.sub (ws' := [(t0, .inr (7, [.null, .null, .null, .null, .null, .null]))]) [0] (by decide) rfl
  have hFc := va_free (wc := [(t0, .inr (7, [.null, .null, .null, .null, .null, .null]))]) hD hS hA [0] rfl
  refine g_Iv (As := []) (rest := [.ref t0]) CF (c_X6_init l D cI cJ cO df H.size t0 ) (cwI 0 hts gL_holds_X6_init rfl rfl rfl hinitialized_RX6 hmethodLink_RL_133 hinstanceMethod_yX6_init rfl (by decide +kernel) ⟨Nat.le_of_ble_eq_true rfl, Nat.le_of_ble_eq_true rfl⟩)  hPc hK hDc hV hH hS hFc rfl hl.1 rfl (Nat.le_of_ble_eq_true rfl) dL_holds_4 ⟨Nat.le_of_ble_eq_true rfl, Nat.le_of_ble_eq_true rfl⟩ (fun w1 H1 locs1 hq hP1 hD1 hk hS hz => ?_)
  obtain ⟨sl, ch, lh, oh, ob, xh, xk, rh, ta, qa, pa, sh, sb, rfl⟩ := hq
  obtain ⟨hP, hD⟩ := g_join (ws' := [(t0, .inr (7, [.ref sl, .ref ch, .ref oh, .ref xh, .ref rh, .ref sh])), (sl, .inr (0, [.int 0, .ref df, .int 0])), (ch, .inr (1, [.ref lh])), (lh, .inr (0, [.int 0, .ref df, .int 0])), (oh, .inr (4, [.ref ob, .int 0])), (ob, .inl (cI, 16, .inl (fun _ => 0))), (xh, .inr (2, [.ref xk, .int 0, .int 0, .int 0, .int 0])), (xk, .inl (cJ, 1263, .inr (.inl (fun _ => 0)))), (rh, .inr (6, [.ref ta, .ref qa, .ref pa])), (ta, .inl (cI, 32, .inl (fun _ => 0))), (qa, .inl (cI, 32, .inl (fun _ => 0))), (pa, .inl (cI, 32, .inl (pwZ 32))), (sh, .inr (4, [.ref sb, .int 0])), (sb, .inl (cI, 64, .inl (fun _ => 0)))]) hP hD hk hFc hP1 hD1 [0] [] [0, 1, 2, 3, 4, 5, 6, 7, 8, 9, 10, 11, 12, 13] rfl rfl (by decide) (by decide) (by decide) rfl
  clear hPc hDc hFc hP1 hD1 hk hz
  generalize H1 = H at hP hS ⊢
  have hP : va_P D ccl [(t0, .inr (7, [.ref sl, .ref ch, .ref oh, .ref xh, .ref rh, .ref sh])), (sl, .inr (0, [.int 0, .ref df, .int 0])), (ch, .inr (1, [.ref lh])), (lh, .inr (0, [.int 0, .ref df, .int 0])), (oh, .inr (4, [.ref ob, .int 0])), (ob, .inl (cI, 16, .inl (fun _ => 0))), (xh, .inr (2, [.ref xk, .int 0, .int 0, .int 0, .int 0])), (xk, .inl (cJ, 1263, .inr (.inl (fun _ => 0)))), (rh, .inr (6, [.ref ta, .ref qa, .ref pa])), (ta, .inl (cI, 32, .inl (fun _ => 0))), (qa, .inl (cI, 32, .inl (fun _ => 0))), (pa, .inl (cI, 32, .inl (pwZ 32))), (sh, .inr (4, [.ref sb, .int 0])), (sb, .inl (cI, 64, .inl (fun _ => 0)))] H := hP
  have hD : va_D A [(t0, .inr (7, [.ref sl, .ref ch, .ref oh, .ref xh, .ref rh, .ref sh])), (sl, .inr (0, [.int 0, .ref df, .int 0])), (ch, .inr (1, [.ref lh])), (lh, .inr (0, [.int 0, .ref df, .int 0])), (oh, .inr (4, [.ref ob, .int 0])), (ob, .inl (cI, 16, .inl (fun _ => 0))), (xh, .inr (2, [.ref xk, .int 0, .int 0, .int 0, .int 0])), (xk, .inl (cJ, 1263, .inr (.inl (fun _ => 0)))), (rh, .inr (6, [.ref ta, .ref qa, .ref pa])), (ta, .inl (cI, 32, .inl (fun _ => 0))), (qa, .inl (cI, 32, .inl (fun _ => 0))), (pa, .inl (cI, 32, .inl (pwZ 32))), (sh, .inr (4, [.ref sb, .int 0])), (sb, .inl (cI, 64, .inl (fun _ => 0)))] := hD
  refine lv_astore_n (lv' := [(1, .ref t0), (0, .ref b)]) hx hb dL_holds_7 rfl hl (by decide) rfl (fun ls hl => ?_)
  refine lv_bipush (v := 40) hx hb dL_holds_8 (by decide) ?_
  refine g_newaI (N := 40) hx hb hArrI hK hP hD hS hA (by decide) (by decide) (Nat.le_of_ble_eq_true rfl) (Nat.le_of_ble_eq_true rfl) (Nat.le_of_ble_eq_true rfl) dL_holds_10 (fun kc H hP hD hS => ?_)
  have hP : va_P D ccl [(t0, .inr (7, [.ref sl, .ref ch, .ref oh, .ref xh, .ref rh, .ref sh])), (sl, .inr (0, [.int 0, .ref df, .int 0])), (ch, .inr (1, [.ref lh])), (lh, .inr (0, [.int 0, .ref df, .int 0])), (oh, .inr (4, [.ref ob, .int 0])), (ob, .inl (cI, 16, .inl (fun _ => 0))), (xh, .inr (2, [.ref xk, .int 0, .int 0, .int 0, .int 0])), (xk, .inl (cJ, 1263, .inr (.inl (fun _ => 0)))), (rh, .inr (6, [.ref ta, .ref qa, .ref pa])), (ta, .inl (cI, 32, .inl (fun _ => 0))), (qa, .inl (cI, 32, .inl (fun _ => 0))), (pa, .inl (cI, 32, .inl (pwZ 32))), (sh, .inr (4, [.ref sb, .int 0])), (sb, .inl (cI, 64, .inl (fun _ => 0))), (kc, .inl (cI, 40, .inl (fun _ => 0)))] H := hP
  have hD : va_D A [(t0, .inr (7, [.ref sl, .ref ch, .ref oh, .ref xh, .ref rh, .ref sh])), (sl, .inr (0, [.int 0, .ref df, .int 0])), (ch, .inr (1, [.ref lh])), (lh, .inr (0, [.int 0, .ref df, .int 0])), (oh, .inr (4, [.ref ob, .int 0])), (ob, .inl (cI, 16, .inl (fun _ => 0))), (xh, .inr (2, [.ref xk, .int 0, .int 0, .int 0, .int 0])), (xk, .inl (cJ, 1263, .inr (.inl (fun _ => 0)))), (rh, .inr (6, [.ref ta, .ref qa, .ref pa])), (ta, .inl (cI, 32, .inl (fun _ => 0))), (qa, .inl (cI, 32, .inl (fun _ => 0))), (pa, .inl (cI, 32, .inl (pwZ 32))), (sh, .inr (4, [.ref sb, .int 0])), (sb, .inl (cI, 64, .inl (fun _ => 0))), (kc, .inl (cI, 40, .inl (fun _ => 0)))] := hD
  refine lv_astore_n (lv' := [(2, .ref kc), (1, .ref t0), (0, .ref b)]) hx hb dL_holds_12 rfl hl (by decide) rfl (fun ls hl => ?_)
  refine lv_iconst (v := 4) hx hb dL_holds_13 (by decide) ?_
  refine g_newaI (N := 4) hx hb hArrI hK hP hD hS hA (by decide) (by decide) (Nat.le_of_ble_eq_true rfl) (Nat.le_of_ble_eq_true rfl) (Nat.le_of_ble_eq_true rfl) dL_holds_14 (fun kq H hP hD hS => ?_)
  have hP : va_P D ccl [(t0, .inr (7, [.ref sl, .ref ch, .ref oh, .ref xh, .ref rh, .ref sh])), (sl, .inr (0, [.int 0, .ref df, .int 0])), (ch, .inr (1, [.ref lh])), (lh, .inr (0, [.int 0, .ref df, .int 0])), (oh, .inr (4, [.ref ob, .int 0])), (ob, .inl (cI, 16, .inl (fun _ => 0))), (xh, .inr (2, [.ref xk, .int 0, .int 0, .int 0, .int 0])), (xk, .inl (cJ, 1263, .inr (.inl (fun _ => 0)))), (rh, .inr (6, [.ref ta, .ref qa, .ref pa])), (ta, .inl (cI, 32, .inl (fun _ => 0))), (qa, .inl (cI, 32, .inl (fun _ => 0))), (pa, .inl (cI, 32, .inl (pwZ 32))), (sh, .inr (4, [.ref sb, .int 0])), (sb, .inl (cI, 64, .inl (fun _ => 0))), (kc, .inl (cI, 40, .inl (fun _ => 0))), (kq, .inl (cI, 4, .inl (fun _ => 0)))] H := hP
  have hD : va_D A [(t0, .inr (7, [.ref sl, .ref ch, .ref oh, .ref xh, .ref rh, .ref sh])), (sl, .inr (0, [.int 0, .ref df, .int 0])), (ch, .inr (1, [.ref lh])), (lh, .inr (0, [.int 0, .ref df, .int 0])), (oh, .inr (4, [.ref ob, .int 0])), (ob, .inl (cI, 16, .inl (fun _ => 0))), (xh, .inr (2, [.ref xk, .int 0, .int 0, .int 0, .int 0])), (xk, .inl (cJ, 1263, .inr (.inl (fun _ => 0)))), (rh, .inr (6, [.ref ta, .ref qa, .ref pa])), (ta, .inl (cI, 32, .inl (fun _ => 0))), (qa, .inl (cI, 32, .inl (fun _ => 0))), (pa, .inl (cI, 32, .inl (pwZ 32))), (sh, .inr (4, [.ref sb, .int 0])), (sb, .inl (cI, 64, .inl (fun _ => 0))), (kc, .inl (cI, 40, .inl (fun _ => 0))), (kq, .inl (cI, 4, .inl (fun _ => 0)))] := hD
  refine lv_astore_n (lv' := [(3, .ref kq), (2, .ref kc), (1, .ref t0), (0, .ref b)]) hx hb dL_holds_16 rfl hl (by decide) rfl (fun ls hl => ?_)
  refine lv_bipush (v := 16) hx hb dL_holds_17 (by decide) ?_
  refine g_newaI (N := 16) hx hb hArrI hK hP hD hS hA (by decide) (by decide) (Nat.le_of_ble_eq_true rfl) (Nat.le_of_ble_eq_true rfl) (Nat.le_of_ble_eq_true rfl) dL_holds_19 (fun ku H hP hD hS => ?_)
  have hP : va_P D ccl [(t0, .inr (7, [.ref sl, .ref ch, .ref oh, .ref xh, .ref rh, .ref sh])), (sl, .inr (0, [.int 0, .ref df, .int 0])), (ch, .inr (1, [.ref lh])), (lh, .inr (0, [.int 0, .ref df, .int 0])), (oh, .inr (4, [.ref ob, .int 0])), (ob, .inl (cI, 16, .inl (fun _ => 0))), (xh, .inr (2, [.ref xk, .int 0, .int 0, .int 0, .int 0])), (xk, .inl (cJ, 1263, .inr (.inl (fun _ => 0)))), (rh, .inr (6, [.ref ta, .ref qa, .ref pa])), (ta, .inl (cI, 32, .inl (fun _ => 0))), (qa, .inl (cI, 32, .inl (fun _ => 0))), (pa, .inl (cI, 32, .inl (pwZ 32))), (sh, .inr (4, [.ref sb, .int 0])), (sb, .inl (cI, 64, .inl (fun _ => 0))), (kc, .inl (cI, 40, .inl (fun _ => 0))), (kq, .inl (cI, 4, .inl (fun _ => 0))), (ku, .inl (cI, 16, .inl (fun _ => 0)))] H := hP
  have hD : va_D A [(t0, .inr (7, [.ref sl, .ref ch, .ref oh, .ref xh, .ref rh, .ref sh])), (sl, .inr (0, [.int 0, .ref df, .int 0])), (ch, .inr (1, [.ref lh])), (lh, .inr (0, [.int 0, .ref df, .int 0])), (oh, .inr (4, [.ref ob, .int 0])), (ob, .inl (cI, 16, .inl (fun _ => 0))), (xh, .inr (2, [.ref xk, .int 0, .int 0, .int 0, .int 0])), (xk, .inl (cJ, 1263, .inr (.inl (fun _ => 0)))), (rh, .inr (6, [.ref ta, .ref qa, .ref pa])), (ta, .inl (cI, 32, .inl (fun _ => 0))), (qa, .inl (cI, 32, .inl (fun _ => 0))), (pa, .inl (cI, 32, .inl (pwZ 32))), (sh, .inr (4, [.ref sb, .int 0])), (sb, .inl (cI, 64, .inl (fun _ => 0))), (kc, .inl (cI, 40, .inl (fun _ => 0))), (kq, .inl (cI, 4, .inl (fun _ => 0))), (ku, .inl (cI, 16, .inl (fun _ => 0)))] := hD
  refine lv_astore (lv' := [(4, .ref ku), (3, .ref kq), (2, .ref kc), (1, .ref t0), (0, .ref b)]) hx hb dL_holds_21 hl (by decide) rfl (fun ls hl => ?_)
  refine lv_bipush (v := 32) hx hb dL_holds_23 (by decide) ?_
  refine g_newaI (N := 32) hx hb hArrI hK hP hD hS hA (by decide) (by decide) (Nat.le_of_ble_eq_true rfl) (Nat.le_of_ble_eq_true rfl) (Nat.le_of_ble_eq_true rfl) dL_holds_25 (fun kt H hP hD hS => ?_)
  have hP : va_P D ccl [(t0, .inr (7, [.ref sl, .ref ch, .ref oh, .ref xh, .ref rh, .ref sh])), (sl, .inr (0, [.int 0, .ref df, .int 0])), (ch, .inr (1, [.ref lh])), (lh, .inr (0, [.int 0, .ref df, .int 0])), (oh, .inr (4, [.ref ob, .int 0])), (ob, .inl (cI, 16, .inl (fun _ => 0))), (xh, .inr (2, [.ref xk, .int 0, .int 0, .int 0, .int 0])), (xk, .inl (cJ, 1263, .inr (.inl (fun _ => 0)))), (rh, .inr (6, [.ref ta, .ref qa, .ref pa])), (ta, .inl (cI, 32, .inl (fun _ => 0))), (qa, .inl (cI, 32, .inl (fun _ => 0))), (pa, .inl (cI, 32, .inl (pwZ 32))), (sh, .inr (4, [.ref sb, .int 0])), (sb, .inl (cI, 64, .inl (fun _ => 0))), (kc, .inl (cI, 40, .inl (fun _ => 0))), (kq, .inl (cI, 4, .inl (fun _ => 0))), (ku, .inl (cI, 16, .inl (fun _ => 0))), (kt, .inl (cI, 32, .inl (fun _ => 0)))] H := hP
  have hD : va_D A [(t0, .inr (7, [.ref sl, .ref ch, .ref oh, .ref xh, .ref rh, .ref sh])), (sl, .inr (0, [.int 0, .ref df, .int 0])), (ch, .inr (1, [.ref lh])), (lh, .inr (0, [.int 0, .ref df, .int 0])), (oh, .inr (4, [.ref ob, .int 0])), (ob, .inl (cI, 16, .inl (fun _ => 0))), (xh, .inr (2, [.ref xk, .int 0, .int 0, .int 0, .int 0])), (xk, .inl (cJ, 1263, .inr (.inl (fun _ => 0)))), (rh, .inr (6, [.ref ta, .ref qa, .ref pa])), (ta, .inl (cI, 32, .inl (fun _ => 0))), (qa, .inl (cI, 32, .inl (fun _ => 0))), (pa, .inl (cI, 32, .inl (pwZ 32))), (sh, .inr (4, [.ref sb, .int 0])), (sb, .inl (cI, 64, .inl (fun _ => 0))), (kc, .inl (cI, 40, .inl (fun _ => 0))), (kq, .inl (cI, 4, .inl (fun _ => 0))), (ku, .inl (cI, 16, .inl (fun _ => 0))), (kt, .inl (cI, 32, .inl (fun _ => 0)))] := hD
  refine lv_astore (lv' := [(5, .ref kt), (4, .ref ku), (3, .ref kq), (2, .ref kc), (1, .ref t0), (0, .ref b)]) hx hb dL_holds_27 hl (by decide) rfl (fun ls hl => ?_)
  refine lv_bipush (v := 32) hx hb dL_holds_29 (by decide) ?_
  refine g_newaI (N := 32) hx hb hArrI hK hP hD hS hA (by decide) (by decide) (Nat.le_of_ble_eq_true rfl) (Nat.le_of_ble_eq_true rfl) (Nat.le_of_ble_eq_true rfl) dL_holds_31 (fun ka H hP hD hS => ?_)
  have hP : va_P D ccl [(t0, .inr (7, [.ref sl, .ref ch, .ref oh, .ref xh, .ref rh, .ref sh])), (sl, .inr (0, [.int 0, .ref df, .int 0])), (ch, .inr (1, [.ref lh])), (lh, .inr (0, [.int 0, .ref df, .int 0])), (oh, .inr (4, [.ref ob, .int 0])), (ob, .inl (cI, 16, .inl (fun _ => 0))), (xh, .inr (2, [.ref xk, .int 0, .int 0, .int 0, .int 0])), (xk, .inl (cJ, 1263, .inr (.inl (fun _ => 0)))), (rh, .inr (6, [.ref ta, .ref qa, .ref pa])), (ta, .inl (cI, 32, .inl (fun _ => 0))), (qa, .inl (cI, 32, .inl (fun _ => 0))), (pa, .inl (cI, 32, .inl (pwZ 32))), (sh, .inr (4, [.ref sb, .int 0])), (sb, .inl (cI, 64, .inl (fun _ => 0))), (kc, .inl (cI, 40, .inl (fun _ => 0))), (kq, .inl (cI, 4, .inl (fun _ => 0))), (ku, .inl (cI, 16, .inl (fun _ => 0))), (kt, .inl (cI, 32, .inl (fun _ => 0))), (ka, .inl (cI, 32, .inl (fun _ => 0)))] H := hP
  have hD : va_D A [(t0, .inr (7, [.ref sl, .ref ch, .ref oh, .ref xh, .ref rh, .ref sh])), (sl, .inr (0, [.int 0, .ref df, .int 0])), (ch, .inr (1, [.ref lh])), (lh, .inr (0, [.int 0, .ref df, .int 0])), (oh, .inr (4, [.ref ob, .int 0])), (ob, .inl (cI, 16, .inl (fun _ => 0))), (xh, .inr (2, [.ref xk, .int 0, .int 0, .int 0, .int 0])), (xk, .inl (cJ, 1263, .inr (.inl (fun _ => 0)))), (rh, .inr (6, [.ref ta, .ref qa, .ref pa])), (ta, .inl (cI, 32, .inl (fun _ => 0))), (qa, .inl (cI, 32, .inl (fun _ => 0))), (pa, .inl (cI, 32, .inl (pwZ 32))), (sh, .inr (4, [.ref sb, .int 0])), (sb, .inl (cI, 64, .inl (fun _ => 0))), (kc, .inl (cI, 40, .inl (fun _ => 0))), (kq, .inl (cI, 4, .inl (fun _ => 0))), (ku, .inl (cI, 16, .inl (fun _ => 0))), (kt, .inl (cI, 32, .inl (fun _ => 0))), (ka, .inl (cI, 32, .inl (fun _ => 0)))] := hD
  refine lv_astore (lv' := [(6, .ref ka), (5, .ref kt), (4, .ref ku), (3, .ref kq), (2, .ref kc), (1, .ref t0), (0, .ref b)]) hx hb dL_holds_33 hl (by decide) rfl (fun ls hl => ?_)
  refine lv_bipush (v := 64) hx hb dL_holds_35 (by decide) ?_
  refine g_newaI (N := 64) hx hb hArrI hK hP hD hS hA (by decide) (by decide) (Nat.le_of_ble_eq_true rfl) (Nat.le_of_ble_eq_true rfl) (Nat.le_of_ble_eq_true rfl) dL_holds_37 (fun kp H hP hD hS => ?_)
  have hP : va_P D ccl [(t0, .inr (7, [.ref sl, .ref ch, .ref oh, .ref xh, .ref rh, .ref sh])), (sl, .inr (0, [.int 0, .ref df, .int 0])), (ch, .inr (1, [.ref lh])), (lh, .inr (0, [.int 0, .ref df, .int 0])), (oh, .inr (4, [.ref ob, .int 0])), (ob, .inl (cI, 16, .inl (fun _ => 0))), (xh, .inr (2, [.ref xk, .int 0, .int 0, .int 0, .int 0])), (xk, .inl (cJ, 1263, .inr (.inl (fun _ => 0)))), (rh, .inr (6, [.ref ta, .ref qa, .ref pa])), (ta, .inl (cI, 32, .inl (fun _ => 0))), (qa, .inl (cI, 32, .inl (fun _ => 0))), (pa, .inl (cI, 32, .inl (pwZ 32))), (sh, .inr (4, [.ref sb, .int 0])), (sb, .inl (cI, 64, .inl (fun _ => 0))), (kc, .inl (cI, 40, .inl (fun _ => 0))), (kq, .inl (cI, 4, .inl (fun _ => 0))), (ku, .inl (cI, 16, .inl (fun _ => 0))), (kt, .inl (cI, 32, .inl (fun _ => 0))), (ka, .inl (cI, 32, .inl (fun _ => 0))), (kp, .inl (cI, 64, .inl (fun _ => 0)))] H := hP
  have hD : va_D A [(t0, .inr (7, [.ref sl, .ref ch, .ref oh, .ref xh, .ref rh, .ref sh])), (sl, .inr (0, [.int 0, .ref df, .int 0])), (ch, .inr (1, [.ref lh])), (lh, .inr (0, [.int 0, .ref df, .int 0])), (oh, .inr (4, [.ref ob, .int 0])), (ob, .inl (cI, 16, .inl (fun _ => 0))), (xh, .inr (2, [.ref xk, .int 0, .int 0, .int 0, .int 0])), (xk, .inl (cJ, 1263, .inr (.inl (fun _ => 0)))), (rh, .inr (6, [.ref ta, .ref qa, .ref pa])), (ta, .inl (cI, 32, .inl (fun _ => 0))), (qa, .inl (cI, 32, .inl (fun _ => 0))), (pa, .inl (cI, 32, .inl (pwZ 32))), (sh, .inr (4, [.ref sb, .int 0])), (sb, .inl (cI, 64, .inl (fun _ => 0))), (kc, .inl (cI, 40, .inl (fun _ => 0))), (kq, .inl (cI, 4, .inl (fun _ => 0))), (ku, .inl (cI, 16, .inl (fun _ => 0))), (kt, .inl (cI, 32, .inl (fun _ => 0))), (ka, .inl (cI, 32, .inl (fun _ => 0))), (kp, .inl (cI, 64, .inl (fun _ => 0)))] := hD
  refine lv_astore (lv' := [(7, .ref kp), (6, .ref ka), (5, .ref kt), (4, .ref ku), (3, .ref kq), (2, .ref kc), (1, .ref t0), (0, .ref b)]) hx hb dL_holds_39 hl (by decide) rfl (fun ls hl => ?_)
  refine lv_iconst (v := 4) hx hb dL_holds_41 (by decide) ?_
  refine g_newaI (N := 4) hx hb hArrI hK hP hD hS hA (by decide) (by decide) (Nat.le_of_ble_eq_true rfl) (Nat.le_of_ble_eq_true rfl) (Nat.le_of_ble_eq_true rfl) dL_holds_42 (fun km H hP hD hS => ?_)
  have hP : va_P D ccl [(t0, .inr (7, [.ref sl, .ref ch, .ref oh, .ref xh, .ref rh, .ref sh])), (sl, .inr (0, [.int 0, .ref df, .int 0])), (ch, .inr (1, [.ref lh])), (lh, .inr (0, [.int 0, .ref df, .int 0])), (oh, .inr (4, [.ref ob, .int 0])), (ob, .inl (cI, 16, .inl (fun _ => 0))), (xh, .inr (2, [.ref xk, .int 0, .int 0, .int 0, .int 0])), (xk, .inl (cJ, 1263, .inr (.inl (fun _ => 0)))), (rh, .inr (6, [.ref ta, .ref qa, .ref pa])), (ta, .inl (cI, 32, .inl (fun _ => 0))), (qa, .inl (cI, 32, .inl (fun _ => 0))), (pa, .inl (cI, 32, .inl (pwZ 32))), (sh, .inr (4, [.ref sb, .int 0])), (sb, .inl (cI, 64, .inl (fun _ => 0))), (kc, .inl (cI, 40, .inl (fun _ => 0))), (kq, .inl (cI, 4, .inl (fun _ => 0))), (ku, .inl (cI, 16, .inl (fun _ => 0))), (kt, .inl (cI, 32, .inl (fun _ => 0))), (ka, .inl (cI, 32, .inl (fun _ => 0))), (kp, .inl (cI, 64, .inl (fun _ => 0))), (km, .inl (cI, 4, .inl (fun _ => 0)))] H := hP
  have hD : va_D A [(t0, .inr (7, [.ref sl, .ref ch, .ref oh, .ref xh, .ref rh, .ref sh])), (sl, .inr (0, [.int 0, .ref df, .int 0])), (ch, .inr (1, [.ref lh])), (lh, .inr (0, [.int 0, .ref df, .int 0])), (oh, .inr (4, [.ref ob, .int 0])), (ob, .inl (cI, 16, .inl (fun _ => 0))), (xh, .inr (2, [.ref xk, .int 0, .int 0, .int 0, .int 0])), (xk, .inl (cJ, 1263, .inr (.inl (fun _ => 0)))), (rh, .inr (6, [.ref ta, .ref qa, .ref pa])), (ta, .inl (cI, 32, .inl (fun _ => 0))), (qa, .inl (cI, 32, .inl (fun _ => 0))), (pa, .inl (cI, 32, .inl (pwZ 32))), (sh, .inr (4, [.ref sb, .int 0])), (sb, .inl (cI, 64, .inl (fun _ => 0))), (kc, .inl (cI, 40, .inl (fun _ => 0))), (kq, .inl (cI, 4, .inl (fun _ => 0))), (ku, .inl (cI, 16, .inl (fun _ => 0))), (kt, .inl (cI, 32, .inl (fun _ => 0))), (ka, .inl (cI, 32, .inl (fun _ => 0))), (kp, .inl (cI, 64, .inl (fun _ => 0))), (km, .inl (cI, 4, .inl (fun _ => 0)))] := hD
  refine lv_astore (lv' := [(8, .ref km), (7, .ref kp), (6, .ref ka), (5, .ref kt), (4, .ref ku), (3, .ref kq), (2, .ref kc), (1, .ref t0), (0, .ref b)]) hx hb dL_holds_44 hl (by decide) rfl (fun ls hl => ?_)
  have hP := hP.sub (ws' := [(kc, .inl (cI, 40, .inl (fun _ => 0))), (kq, .inl (cI, 4, .inl (fun _ => 0))), (ku, .inl (cI, 16, .inl (fun _ => 0))), (kt, .inl (cI, 32, .inl (fun _ => 0))), (ka, .inl (cI, 32, .inl (fun _ => 0))), (kp, .inl (cI, 64, .inl (fun _ => 0))), (km, .inl (cI, 4, .inl (fun _ => 0))), (t0, .inr (7, [.ref sl, .ref ch, .ref oh, .ref xh, .ref rh, .ref sh])), (oh, .inr (4, [.ref ob, .int 0])), (ob, .inl (cI, 16, .inl (fun _ => 0))), (xh, .inr (2, [.ref xk, .int 0, .int 0, .int 0, .int 0])), (xk, .inl (cJ, 1263, .inr (.inl (fun _ => 0)))), (rh, .inr (6, [.ref ta, .ref qa, .ref pa])), (ta, .inl (cI, 32, .inl (fun _ => 0))), (qa, .inl (cI, 32, .inl (fun _ => 0))), (pa, .inl (cI, 32, .inl (pwZ 32))), (sh, .inr (4, [.ref sb, .int 0])), (sb, .inl (cI, 64, .inl (fun _ => 0))), (ch, .inr (1, [.ref lh])), (lh, .inr (0, [.int 0, .ref df, .int 0])), (sl, .inr (0, [.int 0, .ref df, .int 0]))]) [14, 15, 16, 17, 18, 19, 20, 0, 4, 5, 6, 7, 8, 9, 10, 11, 12, 13, 2, 3, 1] rfl
  have hD := hD.sub (ws' := [(kc, .inl (cI, 40, .inl (fun _ => 0))), (kq, .inl (cI, 4, .inl (fun _ => 0))), (ku, .inl (cI, 16, .inl (fun _ => 0))), (kt, .inl (cI, 32, .inl (fun _ => 0))), (ka, .inl (cI, 32, .inl (fun _ => 0))), (kp, .inl (cI, 64, .inl (fun _ => 0))), (km, .inl (cI, 4, .inl (fun _ => 0))), (t0, .inr (7, [.ref sl, .ref ch, .ref oh, .ref xh, .ref rh, .ref sh])), (oh, .inr (4, [.ref ob, .int 0])), (ob, .inl (cI, 16, .inl (fun _ => 0))), (xh, .inr (2, [.ref xk, .int 0, .int 0, .int 0, .int 0])), (xk, .inl (cJ, 1263, .inr (.inl (fun _ => 0)))), (rh, .inr (6, [.ref ta, .ref qa, .ref pa])), (ta, .inl (cI, 32, .inl (fun _ => 0))), (qa, .inl (cI, 32, .inl (fun _ => 0))), (pa, .inl (cI, 32, .inl (pwZ 32))), (sh, .inr (4, [.ref sb, .int 0])), (sb, .inl (cI, 64, .inl (fun _ => 0))), (ch, .inr (1, [.ref lh])), (lh, .inr (0, [.int 0, .ref df, .int 0])), (sl, .inr (0, [.int 0, .ref df, .int 0]))]) [14, 15, 16, 17, 18, 19, 20, 0, 4, 5, 6, 7, 8, 9, 10, 11, 12, 13, 2, 3, 1] (by decide) rfl
  obtain ⟨w, ew⟩ : ∃ w : va_W, w = (([(t0, .inr (7, [.ref sl, .ref ch, .ref oh, .ref xh, .ref rh, .ref sh])), (oh, .inr (4, [.ref ob, .int 0])), (ob, .inl (cI, 16, .inl (fun _ => 0))), (xh, .inr (2, [.ref xk, .int 0, .int 0, .int 0, .int 0])), (xk, .inl (cJ, 1263, .inr (.inl (fun _ => 0)))), (rh, .inr (6, [.ref ta, .ref qa, .ref pa])), (ta, .inl (cI, 32, .inl (fun _ => 0))), (qa, .inl (cI, 32, .inl (fun _ => 0))), (pa, .inl (cI, 32, .inl (pwZ 32))), (sh, .inr (4, [.ref sb, .int 0])), (sb, .inl (cI, 64, .inl (fun _ => 0)))] : va_W) ++ (([(ch, .inr (1, [.ref lh])), (lh, .inr (0, [.int 0, .ref df, .int 0])), (sl, .inr (0, [.int 0, .ref df, .int 0]))] : va_W) ++ scL (scJ cI (fun _ => 0) (fun _ => 0) (fun _ => 0) (fun _ => 0) (fun _ => 0)) (List.range 0))) := ⟨_, rfl⟩
  have hCL : CLS cI cJ cO df t0 w 0 (fun _ => 0) (fun _ => 0) (fun _ => 0) 0 (fun _ => 0) 0 (fun _ => 0) 0 (fun _ => 0) (fun _ => 0) (fun _ => 0) := by
    rw [ew]
    exact ⟨sl, ch, oh, xh, rh, sh, ob, xk, ta, qa, pa, sb, 0, 0, 0, 0, (fun _ => 0), _, rfl, Or.inr (Or.inr ⟨lh, 0, 0, (fun _ => 0), (fun _ => 0), rfl, rfl, rfl⟩)⟩
  have hP : va_P D ccl (([(kc, .inl (cI, 40, .inl (fun _ => 0))), (kq, .inl (cI, 4, .inl (fun _ => 0))), (ku, .inl (cI, 16, .inl (fun _ => 0))), (kt, .inl (cI, 32, .inl (fun _ => 0))), (ka, .inl (cI, 32, .inl (fun _ => 0))), (kp, .inl (cI, 64, .inl (fun _ => 0))), (km, .inl (cI, 4, .inl (mF 0 0 0 0)))] : va_W) ++ w) H := by rw [ew, ← mF_n]; exact hP
  have hD : va_D A (([(kc, .inl (cI, 40, .inl (fun _ => 0))), (kq, .inl (cI, 4, .inl (fun _ => 0))), (ku, .inl (cI, 16, .inl (fun _ => 0))), (kt, .inl (cI, 32, .inl (fun _ => 0))), (ka, .inl (cI, 32, .inl (fun _ => 0))), (kp, .inl (cI, 64, .inl (fun _ => 0))), (km, .inl (cI, 4, .inl (mF 0 0 0 0)))] : va_W) ++ w) := by rw [ew, ← mF_n]; exact hD
  refine lv_iconst (v := 1) hx hb dL_holds_46 (by decide) ?_
  refine lv_istore (lv' := [(9, .int 1), (8, .ref km), (7, .ref kp), (6, .ref ka), (5, .ref kt), (4, .ref ku), (3, .ref kq), (2, .ref kc), (1, .ref t0), (0, .ref b)]) hx hb dL_holds_47 hl (by decide) rfl (fun ls hl => ?_)
  refine lv_iconst (v := 0) hx hb dL_holds_49 (by decide) ?_
  refine lv_istore (lv' := [(10, .int 0), (9, .int 1), (8, .ref km), (7, .ref kp), (6, .ref ka), (5, .ref kt), (4, .ref ku), (3, .ref kq), (2, .ref kc), (1, .ref t0), (0, .ref b)]) hx hb dL_holds_50 hl (by decide) rfl (fun ls hl => ?_)
  refine W.widen (k := 25 + 200 * 0) (n := 2000 + 1400 * 0) (show 21 ≤ _ by omega) (show 1659 ≤ _ by omega) ?_
  refine g_while (σ := Nat × va_W) (st := []) (nL := 12) (fun z => match z with | (k, W9) => ([] : va_W) ++ W9)
    (fun z => match z with | (k, W9) => [(0, .ref b), (1, .ref t0), (2, .ref kc), (3, .ref kq), (4, .ref ku), (5, .ref kt), (6, .ref ka), (7, .ref kp), (8, .ref km), (9, .int 1), (10, .int (nI k))])
    (fun z => match z with | (k, W9) => k ≤ 90 ∧ ∃ (N : Nat), ∃ (mc : Nat → Int32), ∃ (ms : Nat → Int32), ∃ (mw : Nat → Int32), ∃ (C : Nat), ∃ (mo : Nat → Int32), ∃ (K : Nat), ∃ (mu : Nat → Int32), ∃ (Y : Nat), ∃ (rw0 : Nat → Int32), ∃ (tf : Nat → Int32), ∃ (qf : Nat → Int32), ∃ (mp : Nat → Int32), ∃ (fc : Nat → Int32), ∃ (w : va_W), W9 = (([(kc, .inl (cI, 40, .inl fc)), (kq, .inl (cI, 4, .inl mo)), (ku, .inl (cI, 16, .inl mu)), (kt, .inl (cI, 32, .inl tf)), (ka, .inl (cI, 32, .inl qf)), (kp, .inl (cI, 64, .inl mp)), (km, .inl (cI, 4, .inl (mF N C K Y)))] : va_W) ++ w) ∧ CLS cI cJ cO df t0 w N mc ms mw C mo K mu Y rw0 tf qf ∧ WF N mc ms mw C mo K Y rw0 mp tf qf ∧ RC fc mc ms mw N ∧ N ≤ 4 ∧ (0 < k → 0 < N))
    (fun z => match z with | (k, W9) => 91 - k) (fun z => match z with | (k, W9) => 25 + 200 * k) (fun z => match z with | (k, W9) => 2000 + 1400 * k)
    ?_ (0, (([(kc, .inl (cI, 40, .inl (fun _ => 0))), (kq, .inl (cI, 4, .inl (fun _ => 0))), (ku, .inl (cI, 16, .inl (fun _ => 0))), (kt, .inl (cI, 32, .inl (fun _ => 0))), (ka, .inl (cI, 32, .inl (fun _ => 0))), (kp, .inl (cI, 64, .inl (fun _ => 0))), (km, .inl (cI, 4, .inl (mF 0 0 0 0)))] : va_W) ++ w)) ⟨Nat.zero_le _, 0, (fun _ => 0), (fun _ => 0), (fun _ => 0), 0, (fun _ => 0), 0, (fun _ => 0), 0, (fun _ => 0), (fun _ => 0), (fun _ => 0), (fun _ => 0), (fun _ => 0), w, rfl, hCL, wf_new, rc_0, Nat.zero_le _, fun h9 => absurd h9 (Nat.lt_irrefl 0)⟩ hP hD hS (lv_sub hl [10, 9, 8, 7, 6, 5, 4, 3, 2, 1, 0] rfl)
  rintro ⟨k, W9⟩ hI H locs ls hP hD hS hl ih
  have hI : k ≤ 90 ∧ ∃ (N : Nat), ∃ (mc : Nat → Int32), ∃ (ms : Nat → Int32), ∃ (mw : Nat → Int32), ∃ (C : Nat), ∃ (mo : Nat → Int32), ∃ (K : Nat), ∃ (mu : Nat → Int32), ∃ (Y : Nat), ∃ (rw0 : Nat → Int32), ∃ (tf : Nat → Int32), ∃ (qf : Nat → Int32), ∃ (mp : Nat → Int32), ∃ (fc : Nat → Int32), ∃ (w : va_W), W9 = (([(kc, .inl (cI, 40, .inl fc)), (kq, .inl (cI, 4, .inl mo)), (ku, .inl (cI, 16, .inl mu)), (kt, .inl (cI, 32, .inl tf)), (ka, .inl (cI, 32, .inl qf)), (kp, .inl (cI, 64, .inl mp)), (km, .inl (cI, 4, .inl (mF N C K Y)))] : va_W) ++ w) ∧ CLS cI cJ cO df t0 w N mc ms mw C mo K mu Y rw0 tf qf ∧ WF N mc ms mw C mo K Y rw0 mp tf qf ∧ RC fc mc ms mw N ∧ N ≤ 4 ∧ (0 < k → 0 < N) := hI
  have hP : va_P D ccl (([] : va_W) ++ W9) H := hP
  have hD : va_D A (([] : va_W) ++ W9) := hD
  have hl : lv_has ls 12 [(0, .ref b), (1, .ref t0), (2, .ref kc), (3, .ref kq), (4, .ref ku), (5, .ref kt), (6, .ref ka), (7, .ref kp), (8, .ref km), (9, .int 1), (10, .int (nI k))] := hl
  change W p l e _ s m _ below meth c H locs (25 + 200 * k) (2000 + 1400 * k) _ (F0 m 52 ls [])
  have ih_52 := ih
  clear ih
  obtain ⟨hk, N, mc, ms, mw, C, mo, K, mu, Y, rw0, tf, qf, mp, fc, w, rfl, hCL, hW, hR, hN4, hN0⟩ := hI
  have hP : va_P D ccl (([(kc, .inl (cI, 40, .inl fc)), (kq, .inl (cI, 4, .inl mo)), (ku, .inl (cI, 16, .inl mu)), (kt, .inl (cI, 32, .inl tf)), (ka, .inl (cI, 32, .inl qf)), (kp, .inl (cI, 64, .inl mp)), (km, .inl (cI, 4, .inl (mF N C K Y)))] : va_W) ++ w) H := hP
  have hD : va_D A (([(kc, .inl (cI, 40, .inl fc)), (kq, .inl (cI, 4, .inl mo)), (ku, .inl (cI, 16, .inl mu)), (kt, .inl (cI, 32, .inl tf)), (ka, .inl (cI, 32, .inl qf)), (kp, .inl (cI, 64, .inl mp)), (km, .inl (cI, 4, .inl (mF N C K Y)))] : va_W) ++ w) := hD
  refine lv_iload hx hb dL_holds_52 (lv_at hl 10 rfl) ?_
  refine lv_bipush (v := 90) hx hb dL_holds_54 (by decide) ?_
  refine lv_icmp_ge (tgt := 221) hx hb dL_holds_56 (by decide) (fun c_56 => ?_) (fun c_56 => ?_)
  · have c_56 : 90 ≤ k := g_le (a := 90) (b := k) c_56 (by omega) (by omega)
    refine lv_iload hx hb dL_holds_221 (lv_at hl 9 rfl) ?_
    refine g_zret (v := 1) hx hb hr hlk hP hK hD hS (show 25 + 200 * k ≤ 18100 by omega) (show 2000 + 1400 * k ≤ 128100 by omega) dL_holds_223 (by decide +kernel) ?_
    exact ⟨_, rfl, rfl⟩
  · have c_56 : k < 90 := g_nle (a := 90) (b := k) c_56 (by omega) (by omega)
    refine lv_iload hx hb dL_holds_59 (lv_at hl 9 rfl) ?_
    refine lv_if_eq (tgt := 221) hx hb dL_holds_61 (by decide) (fun c_61 => ?_) (fun c_61 => ?_)
    · exact absurd c_61 (by decide)
    · refine lv_aload_n hx hb dL_holds_64 rfl (lv_at hl 0 rfl) ?_
      refine lv_iconst (v := 2) hx hb dL_holds_65 (by decide) ?_
      refine lv_iload hx hb dL_holds_66 (lv_at hl 10 rfl) ?_
      refine lv_imul hx hb dL_holds_68 ?_
      refine lv_topi (fun f ef => ?_)
      obtain rfl : f = nI (2 * k) := ef.trans (pk_mul _ _)
      refine lv_ldc (v := 1000000000) hx hb hown hconstant_RL_134 dL_holds_69 ?_
      have hPc : va_P D ccl [] H := fun k q h => by simp at h
      have hDc : va_D A [] := ⟨fun i j p q h => by simp at h, fun k q h => by simp at h⟩
      have hFc := va_free (wc := []) hD hS hA [] rfl
      refine gS_Si (As := [.ref b, .int (nI (2 * k)), .int 1000000000]) (rest := []) hX0 CF (c_L_from l D cI cJ cO df H.size b L xs (2 * k) 1000000000 hL (by omega) (by decide) (by decide)) (va_cwS 3 hts gL_holds_L_from rfl rfl rfl (by decide +kernel) ⟨Nat.le_of_ble_eq_true rfl, Nat.le_of_ble_eq_true rfl⟩)  hPc hK hDc hV hH hS hFc rfl hl.1 rfl (Nat.le_of_ble_eq_true rfl) dL_holds_71 ⟨show 25 + 200 * k + 0 ≤ 18100 by omega, show 2000 + 1400 * k + 0 ≤ 128100 by omega⟩ (fun r_71 w1 H1 locs1 hq hP1 hD1 hk hS hz => ?_)
      obtain ⟨Z0, rfl, hr_71, hq_71⟩ := hq
      have hP := g_keep0 hP hk
      clear hPc hDc hFc hP1 hD1 hk hz
      generalize H1 = H at hP hS ⊢
      have hP : va_P D ccl (([(kc, .inl (cI, 40, .inl fc)), (kq, .inl (cI, 4, .inl mo)), (ku, .inl (cI, 16, .inl mu)), (kt, .inl (cI, 32, .inl tf)), (ka, .inl (cI, 32, .inl qf)), (kp, .inl (cI, 64, .inl mp)), (km, .inl (cI, 4, .inl (mF N C K Y)))] : va_W) ++ w) H := hP
      have hD : va_D A (([(kc, .inl (cI, 40, .inl fc)), (kq, .inl (cI, 4, .inl mo)), (ku, .inl (cI, 16, .inl mu)), (kt, .inl (cI, 32, .inl tf)), (ka, .inl (cI, 32, .inl qf)), (kp, .inl (cI, 64, .inl mp)), (km, .inl (cI, 4, .inl (mF N C K Y)))] : va_W) ++ w) := hD
      subst hr_71
      refine lv_istore (lv' := [(11, .int (nI Z0)), (0, .ref b), (1, .ref t0), (2, .ref kc), (3, .ref kq), (4, .ref ku), (5, .ref kt), (6, .ref ka), (7, .ref kp), (8, .ref km), (9, .int 1), (10, .int (nI k))]) hx hb dL_holds_74 hl (by decide) rfl (fun ls hl => ?_)
      refine lv_aload_n hx hb dL_holds_76 rfl (lv_at hl 2 rfl) ?_
      refine lv_aload_n hx hb dL_holds_77 rfl (lv_at hl 3 rfl) ?_
      refine lv_aload_n hx hb dL_holds_78 rfl (lv_at hl 4 rfl) ?_
      refine lv_aload hx hb dL_holds_79 (lv_at hl 5 rfl) ?_
      refine lv_aload hx hb dL_holds_81 (lv_at hl 6 rfl) ?_
      refine lv_aload hx hb dL_holds_83 (lv_at hl 7 rfl) ?_
      refine lv_aload hx hb dL_holds_85 (lv_at hl 8 rfl) ?_
      refine lv_aload hx hb dL_holds_87 (lv_at hl 9 rfl) ?_
      refine lv_aload_n hx hb dL_holds_89 rfl (lv_at hl 1 rfl) ?_
      refine lv_iconst (v := 2) hx hb dL_holds_90 (by decide) ?_
      refine lv_iload hx hb dL_holds_91 (lv_at hl 11 rfl) ?_
      refine lv_imul hx hb dL_holds_93 ?_
      refine lv_topi (fun f ef => ?_)
      obtain rfl : f = nI (2 * k) := ef.trans (pk_mul _ _)
      refine lv_iconst (v := 1) hx hb dL_holds_94 (by decide) ?_
      refine lv_iadd hx hb dL_holds_95 ?_
      refine lv_topi (fun f ef => ?_)
      obtain rfl : f = nI ((2 * k) + 1) := ef.trans (nI_add _ _)
      refine lv_bipush (v := 27) hx hb dL_holds_96 (by decide) ?_
      have hPc : va_P D ccl [] H := fun k q h => by simp at h
      have hDc : va_D A [] := ⟨fun i j p q h => by simp at h, fun k q h => by simp at h⟩
      have hFc := va_free (wc := []) hD hS hA [] rfl
      refine gS_Si (As := [.ref b, .int (nI ((2 * k) + 1)), .int 27]) (rest := [.ref km, .ref kp, .ref ka, .ref kt, .ref ku, .ref kq, .ref kc, .ref t0]) hX0 CF (c_L_from l D cI cJ cO df H.size b L xs ((2 * k) + 1) 27 hL (by omega) (by decide) (by decide)) (va_cwS 3 hts gL_holds_L_from rfl rfl rfl (by decide +kernel) ⟨Nat.le_of_ble_eq_true rfl, Nat.le_of_ble_eq_true rfl⟩)  hPc hK hDc hV hH hS hFc rfl hl.1 rfl (Nat.le_of_ble_eq_true rfl) dL_holds_98 ⟨show 25 + 200 * k + 0 ≤ 18100 by omega, show 2000 + 1400 * k + 0 ≤ 128100 by omega⟩ (fun r_98 w1 H1 locs1 hq hP1 hD1 hk hS hz => ?_)
      obtain ⟨WY0, rfl, hr_98, hq_98⟩ := hq
      have hP := g_keep0 hP hk
      clear hPc hDc hFc hP1 hD1 hk hz
      generalize H1 = H at hP hS ⊢
      have hP : va_P D ccl (([(kc, .inl (cI, 40, .inl fc)), (kq, .inl (cI, 4, .inl mo)), (ku, .inl (cI, 16, .inl mu)), (kt, .inl (cI, 32, .inl tf)), (ka, .inl (cI, 32, .inl qf)), (kp, .inl (cI, 64, .inl mp)), (km, .inl (cI, 4, .inl (mF N C K Y)))] : va_W) ++ w) H := hP
      have hD : va_D A (([(kc, .inl (cI, 40, .inl fc)), (kq, .inl (cI, 4, .inl mo)), (ku, .inl (cI, 16, .inl mu)), (kt, .inl (cI, 32, .inl tf)), (ka, .inl (cI, 32, .inl qf)), (kp, .inl (cI, 64, .inl mp)), (km, .inl (cI, 4, .inl (mF N C K Y)))] : va_W) ++ w) := hD
      subst hr_98
      refine lv_iload hx hb dL_holds_101 (lv_at hl 0 rfl) ?_
      have hPc := hP.part (X := [(kc, .inl (cI, 40, .inl fc)), (kq, .inl (cI, 4, .inl mo)), (ku, .inl (cI, 16, .inl mu)), (kt, .inl (cI, 32, .inl tf)), (ka, .inl (cI, 32, .inl qf)), (kp, .inl (cI, 64, .inl mp)), (km, .inl (cI, 4, .inl (mF N C K Y)))]) (cx := [(kc, .inl (cI, 40, .inl fc)), (kq, .inl (cI, 4, .inl mo)), (ku, .inl (cI, 16, .inl mu)), (kt, .inl (cI, 32, .inl tf)), (ka, .inl (cI, 32, .inl qf)), (kp, .inl (cI, 64, .inl mp)), (km, .inl (cI, 4, .inl (mF N C K Y)))]) [0, 1, 2, 3, 4, 5, 6] rfl
      have hDc := hD.part (X := [(kc, .inl (cI, 40, .inl fc)), (kq, .inl (cI, 4, .inl mo)), (ku, .inl (cI, 16, .inl mu)), (kt, .inl (cI, 32, .inl tf)), (ka, .inl (cI, 32, .inl qf)), (kp, .inl (cI, 64, .inl mp)), (km, .inl (cI, 4, .inl (mF N C K Y)))]) (cx := [(kc, .inl (cI, 40, .inl fc)), (kq, .inl (cI, 4, .inl mo)), (ku, .inl (cI, 16, .inl mu)), (kt, .inl (cI, 32, .inl tf)), (ka, .inl (cI, 32, .inl qf)), (kp, .inl (cI, 64, .inl mp)), (km, .inl (cI, 4, .inl (mF N C K Y)))]) [0, 1, 2, 3, 4, 5, 6] (by decide) rfl
      have hFc := va_freeP (X := [(kc, .inl (cI, 40, .inl fc)), (kq, .inl (cI, 4, .inl mo)), (ku, .inl (cI, 16, .inl mu)), (kt, .inl (cI, 32, .inl tf)), (ka, .inl (cI, 32, .inl qf)), (kp, .inl (cI, 64, .inl mp)), (km, .inl (cI, 4, .inl (mF N C K Y)))]) (cx := [(kc, .inl (cI, 40, .inl fc)), (kq, .inl (cI, 4, .inl mo)), (ku, .inl (cI, 16, .inl mu)), (kt, .inl (cI, 32, .inl tf)), (ka, .inl (cI, 32, .inl qf)), (kp, .inl (cI, 64, .inl mp)), (km, .inl (cI, 4, .inl (mF N C K Y)))]) hD hS hA [0, 1, 2, 3, 4, 5, 6] rfl
      refine g_Si (As := [.ref t0, .ref kc, .ref kq, .ref ku, .ref kt, .ref ka, .ref kp, .ref km, .int (nI WY0), .int (nI Z0)]) (rest := []) CF (c_L_isActed l hfl D cI cJ cO df H.size t0 w kc kq ku kt ka kp km fc N mc ms mw C mo K mu Y rw0 tf qf mp WY0 Z0 hCL hW hN4 hR hq_71 hq_98) (va_cwS 10 hts gL_holds_L_isActed rfl rfl rfl (by decide +kernel) ⟨Nat.le_of_ble_eq_true rfl, Nat.le_of_ble_eq_true rfl⟩)  hPc hK hDc hV hH hS hFc rfl hl.1 rfl (Nat.le_of_ble_eq_true rfl) dL_holds_103 ⟨show 25 + 200 * k + 8 ≤ 18100 by omega, show 2000 + 1400 * k + 50 ≤ 128100 by omega⟩ (fun r_103 w1 H1 locs1 hq hP1 hD1 hk hS hz => ?_)
      obtain ⟨N2, mc2, ms2, mw2, C2, mo2, K2, mu2, Y2, rw02, tf2, qf2, mp2, fc2, w2, rfl, hr_103, hq_103⟩ := hq
      obtain ⟨hP, hD⟩ := g_joinP (X := [(kc, .inl (cI, 40, .inl fc)), (kq, .inl (cI, 4, .inl mo)), (ku, .inl (cI, 16, .inl mu)), (kt, .inl (cI, 32, .inl tf)), (ka, .inl (cI, 32, .inl qf)), (kp, .inl (cI, 64, .inl mp)), (km, .inl (cI, 4, .inl (mF N C K Y)))]) (cx := [(kc, .inl (cI, 40, .inl fc)), (kq, .inl (cI, 4, .inl mo)), (ku, .inl (cI, 16, .inl mu)), (kt, .inl (cI, 32, .inl tf)), (ka, .inl (cI, 32, .inl qf)), (kp, .inl (cI, 64, .inl mp)), (km, .inl (cI, 4, .inl (mF N C K Y)))]) (rx := [(kc, .inl (cI, 40, .inl fc2)), (kq, .inl (cI, 4, .inl mo2)), (ku, .inl (cI, 16, .inl mu2)), (kt, .inl (cI, 32, .inl tf2)), (ka, .inl (cI, 32, .inl qf2)), (kp, .inl (cI, 64, .inl mp2)), (km, .inl (cI, 4, .inl (mF N2 C2 K2 Y2)))]) (X' := [(kc, .inl (cI, 40, .inl fc2)), (kq, .inl (cI, 4, .inl mo2)), (ku, .inl (cI, 16, .inl mu2)), (kt, .inl (cI, 32, .inl tf2)), (ka, .inl (cI, 32, .inl qf2)), (kp, .inl (cI, 64, .inl mp2)), (km, .inl (cI, 4, .inl (mF N2 C2 K2 Y2)))]) hP hD hk hFc hP1 hD1 [0, 1, 2, 3, 4, 5, 6] [] [0, 1, 2, 3, 4, 5, 6] rfl rfl (by decide) (by decide) (by decide) rfl
      clear hPc hDc hFc hP1 hD1 hk hz
      generalize H1 = H at hP hS ⊢
      have hP : va_P D ccl (([(kc, .inl (cI, 40, .inl fc2)), (kq, .inl (cI, 4, .inl mo2)), (ku, .inl (cI, 16, .inl mu2)), (kt, .inl (cI, 32, .inl tf2)), (ka, .inl (cI, 32, .inl qf2)), (kp, .inl (cI, 64, .inl mp2)), (km, .inl (cI, 4, .inl (mF N2 C2 K2 Y2)))] : va_W) ++ w2) H := hP
      have hD : va_D A (([(kc, .inl (cI, 40, .inl fc2)), (kq, .inl (cI, 4, .inl mo2)), (ku, .inl (cI, 16, .inl mu2)), (kt, .inl (cI, 32, .inl tf2)), (ka, .inl (cI, 32, .inl qf2)), (kp, .inl (cI, 64, .inl mp2)), (km, .inl (cI, 4, .inl (mF N2 C2 K2 Y2)))] : va_W) ++ w2) := hD
      subst hr_103
      clear hCL hW hR hN4 hN0
      obtain ⟨hCL, hW, hR, hN4, hN0⟩ := hq_103
      refine lv_if_eq (tgt := 165) hx hb dL_holds_106 (by decide) (fun c_106 => ?_) (fun c_106 => ?_)
      · exact absurd c_106 (by decide)
      · refine lv_aload_n hx hb dL_holds_109 rfl (lv_at hl 2 rfl) ?_
        refine lv_aload_n hx hb dL_holds_110 rfl (lv_at hl 3 rfl) ?_
        refine lv_aload_n hx hb dL_holds_111 rfl (lv_at hl 4 rfl) ?_
        refine lv_aload hx hb dL_holds_112 (lv_at hl 5 rfl) ?_
        refine lv_aload hx hb dL_holds_114 (lv_at hl 6 rfl) ?_
        refine lv_aload hx hb dL_holds_116 (lv_at hl 8 rfl) ?_
        refine lv_aload hx hb dL_holds_118 (lv_at hl 9 rfl) ?_
        refine lv_aload_n hx hb dL_holds_120 rfl (lv_at hl 1 rfl) ?_
        refine lv_sipush (v := 401) hx hb dL_holds_121 (by decide) ?_
        refine lv_iload hx hb dL_holds_124 (lv_at hl 11 rfl) ?_
        refine lv_iadd hx hb dL_holds_126 ?_
        refine lv_topi (fun f ef => ?_)
        obtain rfl : f = nI (401 + k) := ef.trans (nI_add _ _)
        refine lv_ldc (v := 1000000000) hx hb hown hconstant_RL_134 dL_holds_127 ?_
        have hPc : va_P D ccl [] H := fun k q h => by simp at h
        have hDc : va_D A [] := ⟨fun i j p q h => by simp at h, fun k q h => by simp at h⟩
        have hFc := va_free (wc := []) hD hS hA [] rfl
        refine gS_Si (As := [.ref b, .int (nI (401 + k)), .int 1000000000]) (rest := [.ref km, .ref kp, .ref kt, .ref ku, .ref kq, .ref kc, .ref t0]) hX0 CF (c_L_from l D cI cJ cO df H.size b L xs (401 + k) 1000000000 hL (by omega) (by decide) (by decide)) (va_cwS 3 hts gL_holds_L_from rfl rfl rfl (by decide +kernel) ⟨Nat.le_of_ble_eq_true rfl, Nat.le_of_ble_eq_true rfl⟩)  hPc hK hDc hV hH hS hFc rfl hl.1 rfl (Nat.le_of_ble_eq_true rfl) dL_holds_129 ⟨show 25 + 200 * k + 8 + 0 ≤ 18100 by omega, show 2000 + 1400 * k + 50 + 0 ≤ 128100 by omega⟩ (fun r_129 w1 H1 locs1 hq hP1 hD1 hk hS hz => ?_)
        obtain ⟨Z1, rfl, hr_129, hq_129⟩ := hq
        have hP := g_keep0 hP hk
        clear hPc hDc hFc hP1 hD1 hk hz
        generalize H1 = H at hP hS ⊢
        have hP : va_P D ccl (([(kc, .inl (cI, 40, .inl fc2)), (kq, .inl (cI, 4, .inl mo2)), (ku, .inl (cI, 16, .inl mu2)), (kt, .inl (cI, 32, .inl tf2)), (ka, .inl (cI, 32, .inl qf2)), (kp, .inl (cI, 64, .inl mp2)), (km, .inl (cI, 4, .inl (mF N2 C2 K2 Y2)))] : va_W) ++ w2) H := hP
        have hD : va_D A (([(kc, .inl (cI, 40, .inl fc2)), (kq, .inl (cI, 4, .inl mo2)), (ku, .inl (cI, 16, .inl mu2)), (kt, .inl (cI, 32, .inl tf2)), (ka, .inl (cI, 32, .inl qf2)), (kp, .inl (cI, 64, .inl mp2)), (km, .inl (cI, 4, .inl (mF N2 C2 K2 Y2)))] : va_W) ++ w2) := hD
        subst hr_129
        have hPc := hP.part (X := [(kc, .inl (cI, 40, .inl fc2)), (kq, .inl (cI, 4, .inl mo2)), (ku, .inl (cI, 16, .inl mu2)), (kt, .inl (cI, 32, .inl tf2)), (ka, .inl (cI, 32, .inl qf2)), (kp, .inl (cI, 64, .inl mp2)), (km, .inl (cI, 4, .inl (mF N2 C2 K2 Y2)))]) (cx := [(kc, .inl (cI, 40, .inl fc2)), (kq, .inl (cI, 4, .inl mo2)), (ku, .inl (cI, 16, .inl mu2)), (kt, .inl (cI, 32, .inl tf2)), (kp, .inl (cI, 64, .inl mp2)), (km, .inl (cI, 4, .inl (mF N2 C2 K2 Y2)))]) [0, 1, 2, 3, 5, 6] rfl
        have hDc := hD.part (X := [(kc, .inl (cI, 40, .inl fc2)), (kq, .inl (cI, 4, .inl mo2)), (ku, .inl (cI, 16, .inl mu2)), (kt, .inl (cI, 32, .inl tf2)), (ka, .inl (cI, 32, .inl qf2)), (kp, .inl (cI, 64, .inl mp2)), (km, .inl (cI, 4, .inl (mF N2 C2 K2 Y2)))]) (cx := [(kc, .inl (cI, 40, .inl fc2)), (kq, .inl (cI, 4, .inl mo2)), (ku, .inl (cI, 16, .inl mu2)), (kt, .inl (cI, 32, .inl tf2)), (kp, .inl (cI, 64, .inl mp2)), (km, .inl (cI, 4, .inl (mF N2 C2 K2 Y2)))]) [0, 1, 2, 3, 5, 6] (by decide) rfl
        have hFc := va_freeP (X := [(kc, .inl (cI, 40, .inl fc2)), (kq, .inl (cI, 4, .inl mo2)), (ku, .inl (cI, 16, .inl mu2)), (kt, .inl (cI, 32, .inl tf2)), (ka, .inl (cI, 32, .inl qf2)), (kp, .inl (cI, 64, .inl mp2)), (km, .inl (cI, 4, .inl (mF N2 C2 K2 Y2)))]) (cx := [(kc, .inl (cI, 40, .inl fc2)), (kq, .inl (cI, 4, .inl mo2)), (ku, .inl (cI, 16, .inl mu2)), (kt, .inl (cI, 32, .inl tf2)), (kp, .inl (cI, 64, .inl mp2)), (km, .inl (cI, 4, .inl (mF N2 C2 K2 Y2)))]) hD hS hA [0, 1, 2, 3, 5, 6] rfl
        refine g_Si (As := [.ref t0, .ref kc, .ref kq, .ref ku, .ref kt, .ref kp, .ref km, .int (nI Z1)]) (rest := []) CF (c_L_isSame l hfl D cI cJ cO df H.size t0 w2 kc kq ku kt kp km fc2 N2 mc2 ms2 mw2 C2 mo2 K2 mu2 Y2 rw02 tf2 qf2 mp2 Z1 hCL hW hN4 hR hq_129) (va_cwS 8 hts gL_holds_L_isSame rfl rfl rfl (by decide +kernel) ⟨Nat.le_of_ble_eq_true rfl, Nat.le_of_ble_eq_true rfl⟩)  hPc hK hDc hV hH hS hFc rfl hl.1 rfl (Nat.le_of_ble_eq_true rfl) dL_holds_132 ⟨show 25 + 200 * k + 8 + 150 ≤ 18100 by omega, show 2000 + 1400 * k + 50 + 1000 ≤ 128100 by omega⟩ (fun r_132 w1 H1 locs1 hq hP1 hD1 hk hS hz => ?_)
        obtain ⟨w4, rfl, hr_132, hq_132⟩ := hq
        obtain ⟨hP, hD⟩ := g_joinP (X := [(kc, .inl (cI, 40, .inl fc2)), (kq, .inl (cI, 4, .inl mo2)), (ku, .inl (cI, 16, .inl mu2)), (kt, .inl (cI, 32, .inl tf2)), (ka, .inl (cI, 32, .inl qf2)), (kp, .inl (cI, 64, .inl mp2)), (km, .inl (cI, 4, .inl (mF N2 C2 K2 Y2)))]) (cx := [(kc, .inl (cI, 40, .inl fc2)), (kq, .inl (cI, 4, .inl mo2)), (ku, .inl (cI, 16, .inl mu2)), (kt, .inl (cI, 32, .inl tf2)), (kp, .inl (cI, 64, .inl mp2)), (km, .inl (cI, 4, .inl (mF N2 C2 K2 Y2)))]) (rx := [(kc, .inl (cI, 40, .inl fc2)), (kq, .inl (cI, 4, .inl mo2)), (ku, .inl (cI, 16, .inl mu2)), (kt, .inl (cI, 32, .inl tf2)), (kp, .inl (cI, 64, .inl mp2)), (km, .inl (cI, 4, .inl (mF N2 C2 K2 Y2)))]) (X' := [(kc, .inl (cI, 40, .inl fc2)), (kq, .inl (cI, 4, .inl mo2)), (ku, .inl (cI, 16, .inl mu2)), (kt, .inl (cI, 32, .inl tf2)), (ka, .inl (cI, 32, .inl qf2)), (kp, .inl (cI, 64, .inl mp2)), (km, .inl (cI, 4, .inl (mF N2 C2 K2 Y2)))]) hP hD hk hFc hP1 hD1 [0, 1, 2, 3, 5, 6] [4] [1, 2, 3, 4, 0, 5, 6] rfl rfl (by decide) (by decide) (by decide) rfl
        clear hPc hDc hFc hP1 hD1 hk hz
        generalize H1 = H at hP hS ⊢
        have hP : va_P D ccl (([(kc, .inl (cI, 40, .inl fc2)), (kq, .inl (cI, 4, .inl mo2)), (ku, .inl (cI, 16, .inl mu2)), (kt, .inl (cI, 32, .inl tf2)), (ka, .inl (cI, 32, .inl qf2)), (kp, .inl (cI, 64, .inl mp2)), (km, .inl (cI, 4, .inl (mF N2 C2 K2 Y2)))] : va_W) ++ w4) H := hP
        have hD : va_D A (([(kc, .inl (cI, 40, .inl fc2)), (kq, .inl (cI, 4, .inl mo2)), (ku, .inl (cI, 16, .inl mu2)), (kt, .inl (cI, 32, .inl tf2)), (ka, .inl (cI, 32, .inl qf2)), (kp, .inl (cI, 64, .inl mp2)), (km, .inl (cI, 4, .inl (mF N2 C2 K2 Y2)))] : va_W) ++ w4) := hD
        subst hr_132
        clear hCL
        have hCL := hq_132
        refine lv_if_eq (tgt := 165) hx hb dL_holds_135 (by decide) (fun c_135 => ?_) (fun c_135 => ?_)
        · exact absurd c_135 (by decide)
        · refine lv_aload_n hx hb dL_holds_138 rfl (lv_at hl 2 rfl) ?_
          refine lv_aload_n hx hb dL_holds_139 rfl (lv_at hl 3 rfl) ?_
          refine lv_aload_n hx hb dL_holds_140 rfl (lv_at hl 4 rfl) ?_
          refine lv_aload hx hb dL_holds_141 (lv_at hl 9 rfl) ?_
          refine lv_aload_n hx hb dL_holds_143 rfl (lv_at hl 1 rfl) ?_
          refine lv_sipush (v := 601) hx hb dL_holds_144 (by decide) ?_
          refine lv_iload hx hb dL_holds_147 (lv_at hl 11 rfl) ?_
          refine lv_iadd hx hb dL_holds_149 ?_
          refine lv_topi (fun f ef => ?_)
          obtain rfl : f = nI (601 + k) := ef.trans (nI_add _ _)
          refine lv_ldc (v := 1000000000) hx hb hown hconstant_RL_134 dL_holds_150 ?_
          have hPc : va_P D ccl [] H := fun k q h => by simp at h
          have hDc : va_D A [] := ⟨fun i j p q h => by simp at h, fun k q h => by simp at h⟩
          have hFc := va_free (wc := []) hD hS hA [] rfl
          refine gS_Si (As := [.ref b, .int (nI (601 + k)), .int 1000000000]) (rest := [.ref km, .ref kq, .ref kc, .ref t0]) hX0 CF (c_L_from l D cI cJ cO df H.size b L xs (601 + k) 1000000000 hL (by omega) (by decide) (by decide)) (va_cwS 3 hts gL_holds_L_from rfl rfl rfl (by decide +kernel) ⟨Nat.le_of_ble_eq_true rfl, Nat.le_of_ble_eq_true rfl⟩)  hPc hK hDc hV hH hS hFc rfl hl.1 rfl (Nat.le_of_ble_eq_true rfl) dL_holds_152 ⟨show 25 + 200 * k + 8 + 150 + 0 ≤ 18100 by omega, show 2000 + 1400 * k + 50 + 1000 + 0 ≤ 128100 by omega⟩ (fun r_152 w1 H1 locs1 hq hP1 hD1 hk hS hz => ?_)
          obtain ⟨Z2, rfl, hr_152, hq_152⟩ := hq
          have hP := g_keep0 hP hk
          clear hPc hDc hFc hP1 hD1 hk hz
          generalize H1 = H at hP hS ⊢
          have hP : va_P D ccl (([(kc, .inl (cI, 40, .inl fc2)), (kq, .inl (cI, 4, .inl mo2)), (ku, .inl (cI, 16, .inl mu2)), (kt, .inl (cI, 32, .inl tf2)), (ka, .inl (cI, 32, .inl qf2)), (kp, .inl (cI, 64, .inl mp2)), (km, .inl (cI, 4, .inl (mF N2 C2 K2 Y2)))] : va_W) ++ w4) H := hP
          have hD : va_D A (([(kc, .inl (cI, 40, .inl fc2)), (kq, .inl (cI, 4, .inl mo2)), (ku, .inl (cI, 16, .inl mu2)), (kt, .inl (cI, 32, .inl tf2)), (ka, .inl (cI, 32, .inl qf2)), (kp, .inl (cI, 64, .inl mp2)), (km, .inl (cI, 4, .inl (mF N2 C2 K2 Y2)))] : va_W) ++ w4) := hD
          subst hr_152
          have hPc := hP.part (X := [(kc, .inl (cI, 40, .inl fc2)), (kq, .inl (cI, 4, .inl mo2)), (ku, .inl (cI, 16, .inl mu2)), (kt, .inl (cI, 32, .inl tf2)), (ka, .inl (cI, 32, .inl qf2)), (kp, .inl (cI, 64, .inl mp2)), (km, .inl (cI, 4, .inl (mF N2 C2 K2 Y2)))]) (cx := [(kc, .inl (cI, 40, .inl fc2)), (kq, .inl (cI, 4, .inl mo2)), (km, .inl (cI, 4, .inl (mF N2 C2 K2 Y2)))]) [0, 1, 6] rfl
          have hDc := hD.part (X := [(kc, .inl (cI, 40, .inl fc2)), (kq, .inl (cI, 4, .inl mo2)), (ku, .inl (cI, 16, .inl mu2)), (kt, .inl (cI, 32, .inl tf2)), (ka, .inl (cI, 32, .inl qf2)), (kp, .inl (cI, 64, .inl mp2)), (km, .inl (cI, 4, .inl (mF N2 C2 K2 Y2)))]) (cx := [(kc, .inl (cI, 40, .inl fc2)), (kq, .inl (cI, 4, .inl mo2)), (km, .inl (cI, 4, .inl (mF N2 C2 K2 Y2)))]) [0, 1, 6] (by decide) rfl
          have hFc := va_freeP (X := [(kc, .inl (cI, 40, .inl fc2)), (kq, .inl (cI, 4, .inl mo2)), (ku, .inl (cI, 16, .inl mu2)), (kt, .inl (cI, 32, .inl tf2)), (ka, .inl (cI, 32, .inl qf2)), (kp, .inl (cI, 64, .inl mp2)), (km, .inl (cI, 4, .inl (mF N2 C2 K2 Y2)))]) (cx := [(kc, .inl (cI, 40, .inl fc2)), (kq, .inl (cI, 4, .inl mo2)), (km, .inl (cI, 4, .inl (mF N2 C2 K2 Y2)))]) hD hS hA [0, 1, 6] rfl
          refine g_Si (As := [.ref t0, .ref kc, .ref kq, .ref km, .int (nI Z2)]) (rest := []) CF (c_L_areGains l hfl D cI cJ cO df H.size t0 w4 kc kq km fc2 N2 mc2 ms2 mw2 C2 mo2 K2 mu2 Y2 rw02 tf2 qf2 mp2 Z2 hCL hW hN4 hR hq_152) (va_cwS 5 hts gL_holds_L_areGains rfl rfl rfl (by decide +kernel) ⟨Nat.le_of_ble_eq_true rfl, Nat.le_of_ble_eq_true rfl⟩)  hPc hK hDc hV hH hS hFc rfl hl.1 rfl (Nat.le_of_ble_eq_true rfl) dL_holds_155 ⟨show 25 + 200 * k + 8 + 150 + 18 ≤ 18100 by omega, show 2000 + 1400 * k + 50 + 1000 + 120 ≤ 128100 by omega⟩ (fun r_155 w1 H1 locs1 hq hP1 hD1 hk hS hz => ?_)
          obtain ⟨w5, rfl, hr_155, hq_155⟩ := hq
          obtain ⟨hP, hD⟩ := g_joinP (X := [(kc, .inl (cI, 40, .inl fc2)), (kq, .inl (cI, 4, .inl mo2)), (ku, .inl (cI, 16, .inl mu2)), (kt, .inl (cI, 32, .inl tf2)), (ka, .inl (cI, 32, .inl qf2)), (kp, .inl (cI, 64, .inl mp2)), (km, .inl (cI, 4, .inl (mF N2 C2 K2 Y2)))]) (cx := [(kc, .inl (cI, 40, .inl fc2)), (kq, .inl (cI, 4, .inl mo2)), (km, .inl (cI, 4, .inl (mF N2 C2 K2 Y2)))]) (rx := [(kc, .inl (cI, 40, .inl fc2)), (kq, .inl (cI, 4, .inl mo2)), (km, .inl (cI, 4, .inl (mF N2 C2 K2 Y2)))]) (X' := [(kc, .inl (cI, 40, .inl fc2)), (kq, .inl (cI, 4, .inl mo2)), (ku, .inl (cI, 16, .inl mu2)), (kt, .inl (cI, 32, .inl tf2)), (ka, .inl (cI, 32, .inl qf2)), (kp, .inl (cI, 64, .inl mp2)), (km, .inl (cI, 4, .inl (mF N2 C2 K2 Y2)))]) hP hD hk hFc hP1 hD1 [0, 1, 6] [2, 3, 4, 5] [4, 5, 0, 1, 2, 3, 6] rfl rfl (by decide) (by decide) (by decide) rfl
          clear hPc hDc hFc hP1 hD1 hk hz
          generalize H1 = H at hP hS ⊢
          have hP : va_P D ccl (([(kc, .inl (cI, 40, .inl fc2)), (kq, .inl (cI, 4, .inl mo2)), (ku, .inl (cI, 16, .inl mu2)), (kt, .inl (cI, 32, .inl tf2)), (ka, .inl (cI, 32, .inl qf2)), (kp, .inl (cI, 64, .inl mp2)), (km, .inl (cI, 4, .inl (mF N2 C2 K2 Y2)))] : va_W) ++ w5) H := hP
          have hD : va_D A (([(kc, .inl (cI, 40, .inl fc2)), (kq, .inl (cI, 4, .inl mo2)), (ku, .inl (cI, 16, .inl mu2)), (kt, .inl (cI, 32, .inl tf2)), (ka, .inl (cI, 32, .inl qf2)), (kp, .inl (cI, 64, .inl mp2)), (km, .inl (cI, 4, .inl (mF N2 C2 K2 Y2)))] : va_W) ++ w5) := hD
          subst hr_155
          clear hCL
          have hCL := hq_155
          refine lv_if_eq (tgt := 165) hx hb dL_holds_158 (by decide) (fun c_158 => ?_) (fun c_158 => ?_)
          · exact absurd c_158 (by decide)
          · refine lv_iconst (v := 1) hx hb dL_holds_161 (by decide) ?_
            refine lv_goto (tgt := 166) hx hb dL_holds_162 (by decide) ?_
            refine lv_istore (lv' := [(9, .int 1), (11, .int (nI Z0)), (0, .ref b), (1, .ref t0), (2, .ref kc), (3, .ref kq), (4, .ref ku), (5, .ref kt), (6, .ref ka), (7, .ref kp), (8, .ref km), (10, .int (nI k))]) hx hb dL_holds_166 hl (by decide) rfl (fun ls hl => ?_)
            refine lv_iload hx hb dL_holds_168 (lv_at hl 11 rfl) ?_
            refine lv_bipush (v := 8) hx hb dL_holds_170 (by decide) ?_
            refine lv_irem hx hb dL_holds_172 (by decide) ?_
            refine lv_topi (fun f ef => ?_)
            obtain rfl : f = nI (k % 8) := ef.trans (pk_rem (a := k) (d := 8) (by omega) (by omega) (by omega))
            refine lv_bipush (v := 7) hx hb dL_holds_173 (by decide) ?_
            refine lv_icmp_ne (tgt := 215) hx hb dL_holds_175 (by decide) (fun c_175 => ?_) (fun c_175 => ?_)
            · have c_175 : k % 8 ≠ 7 := g_ne (a := k % 8) (b := 7) c_175 (by omega) (by omega)
              refine lv_iinc (v := nI (k + 1)) (lv' := [(10, .int (nI (k + 1))), (9, .int 1), (11, .int (nI Z0)), (0, .ref b), (1, .ref t0), (2, .ref kc), (3, .ref kq), (4, .ref ku), (5, .ref kt), (6, .ref ka), (7, .ref kp), (8, .ref km)]) hx hb dL_holds_215 hl (k := 11) rfl (by exact nI_1 _) (by decide) rfl (fun ls hl => ?_)
              refine lv_goto (tgt := 52) hx hb dL_holds_218 (by decide) ?_
              refine W.widen (k := 25 + 200 * (k + 1)) (n := 2000 + 1400 * (k + 1)) (show 25 + 200 * k + 8 + 150 + 18 ≤ _ by omega) (show 2000 + 1400 * k + 50 + 1000 + 120 ≤ _ by omega) ?_
              exact ih_52 (k + 1, (([(kc, .inl (cI, 40, .inl fc2)), (kq, .inl (cI, 4, .inl mo2)), (ku, .inl (cI, 16, .inl mu2)), (kt, .inl (cI, 32, .inl tf2)), (ka, .inl (cI, 32, .inl qf2)), (kp, .inl (cI, 64, .inl mp2)), (km, .inl (cI, 4, .inl (mF N2 C2 K2 Y2)))] : va_W) ++ w5)) _ _ _ (show (k + 1) ≤ 90 ∧ ∃ (N : Nat), ∃ (mc : Nat → Int32), ∃ (ms : Nat → Int32), ∃ (mw : Nat → Int32), ∃ (C : Nat), ∃ (mo : Nat → Int32), ∃ (K : Nat), ∃ (mu : Nat → Int32), ∃ (Y : Nat), ∃ (rw0 : Nat → Int32), ∃ (tf : Nat → Int32), ∃ (qf : Nat → Int32), ∃ (mp : Nat → Int32), ∃ (fc : Nat → Int32), ∃ (w : va_W), (([(kc, .inl (cI, 40, .inl fc2)), (kq, .inl (cI, 4, .inl mo2)), (ku, .inl (cI, 16, .inl mu2)), (kt, .inl (cI, 32, .inl tf2)), (ka, .inl (cI, 32, .inl qf2)), (kp, .inl (cI, 64, .inl mp2)), (km, .inl (cI, 4, .inl (mF N2 C2 K2 Y2)))] : va_W) ++ w5) = (([(kc, .inl (cI, 40, .inl fc)), (kq, .inl (cI, 4, .inl mo)), (ku, .inl (cI, 16, .inl mu)), (kt, .inl (cI, 32, .inl tf)), (ka, .inl (cI, 32, .inl qf)), (kp, .inl (cI, 64, .inl mp)), (km, .inl (cI, 4, .inl (mF N C K Y)))] : va_W) ++ w) ∧ CLS cI cJ cO df t0 w N mc ms mw C mo K mu Y rw0 tf qf ∧ WF N mc ms mw C mo K Y rw0 mp tf qf ∧ RC fc mc ms mw N ∧ N ≤ 4 ∧ (0 < (k + 1) → 0 < N) from (by exact ⟨by omega, _, _, _, _, _, _, _, _, _, _, _, _, _, _, _, rfl, hCL, hW, hR, hN4, fun _ => hN0⟩)) (show 91 - (k + 1) < 91 - k by omega) hP hD hS (lv_sub hl [3, 4, 5, 6, 7, 8, 9, 10, 11, 1, 0] rfl)
            · have c_175 : k % 8 = 7 := g_eq (a := k % 8) (b := 7) c_175 (by omega) (by omega)
              refine lv_iload hx hb dL_holds_178 (lv_at hl 0 rfl) ?_
              refine lv_if_eq (tgt := 215) hx hb dL_holds_180 (by decide) (fun c_180 => ?_) (fun c_180 => ?_)
              · exact absurd c_180 (by decide)
              · refine lv_aload_n hx hb dL_holds_183 rfl (lv_at hl 3 rfl) ?_
                refine lv_aload_n hx hb dL_holds_184 rfl (lv_at hl 4 rfl) ?_
                refine lv_iload hx hb dL_holds_185 (lv_at hl 1 rfl) ?_
                refine lv_iconst (v := 5) hx hb dL_holds_187 (by decide) ?_
                refine lv_idiv hx hb dL_holds_188 (by decide) ?_
                refine lv_topi (fun f ef => ?_)
                obtain rfl : f = nI (Z0 / 5) := ef.trans (pk_div (a := Z0) (d := 5) (by omega) (by omega) (by omega))
                refine lv_aload hx hb dL_holds_189 (lv_at hl 10 rfl) ?_
                refine lv_iconst (v := 0) hx hb dL_holds_191 (by decide) ?_
                refine va_iald hx hb hK hP 6 0 rfl rfl (by unfold vp_in; decide) dL_holds_192 ?_
                refine lv_topi (fun f ef => ?_)
                obtain rfl : f = (mF N2 C2 K2 Y2) 0 := ef.trans (congrArg (mF N2 C2 K2 Y2) (show (0 : Int32).toNatClampNeg = 0 by decide))
                refine lv_topi (fun f ef => ?_)
                obtain rfl : f = nI N2 := ef.trans (rfl)
                have hJ9 := Nat.mod_lt (Z0 / 5) hN0
                refine lv_irem hx hb dL_holds_193 (nI_ne0 (by omega) (by omega)) ?_
                refine lv_topi (fun f ef => ?_)
                obtain rfl : f = nI ((Z0 / 5) % N2) := ef.trans (pk_rem (a := Z0 / 5) (d := N2) (by omega) (by omega) (by omega))
                refine lv_iconst (v := 1) hx hb dL_holds_194 (by decide) ?_
                refine lv_iload hx hb dL_holds_195 (lv_at hl 1 rfl) ?_
                refine lv_bipush (v := 40) hx hb dL_holds_197 (by decide) ?_
                refine lv_idiv hx hb dL_holds_199 (by decide) ?_
                refine lv_topi (fun f ef => ?_)
                obtain rfl : f = nI (Z0 / 40) := ef.trans (pk_div (a := Z0) (d := 40) (by omega) (by omega) (by omega))
                refine lv_iconst (v := 2) hx hb dL_holds_200 (by decide) ?_
                refine lv_irem hx hb dL_holds_201 (by decide) ?_
                refine lv_topi (fun f ef => ?_)
                obtain rfl : f = nI ((Z0 / 40) % 2) := ef.trans (pk_rem (a := Z0 / 40) (d := 2) (by omega) (by omega) (by omega))
                refine lv_iadd hx hb dL_holds_202 ?_
                refine lv_topi (fun f ef => ?_)
                obtain rfl : f = nI (1 + ((Z0 / 40) % 2)) := ef.trans (nI_add _ _)
                refine lv_iload hx hb dL_holds_203 (lv_at hl 1 rfl) ?_
                refine lv_bipush (v := 80) hx hb dL_holds_205 (by decide) ?_
                refine lv_idiv hx hb dL_holds_207 (by decide) ?_
                refine lv_topi (fun f ef => ?_)
                obtain rfl : f = nI (Z0 / 80) := ef.trans (pk_div (a := Z0) (d := 80) (by omega) (by omega) (by omega))
                refine lv_iconst (v := 4) hx hb dL_holds_208 (by decide) ?_
                refine lv_irem hx hb dL_holds_209 (by decide) ?_
                refine lv_topi (fun f ef => ?_)
                obtain rfl : f = nI ((Z0 / 80) % 4) := ef.trans (pk_rem (a := Z0 / 80) (d := 4) (by omega) (by omega) (by omega))
                have hPc := hP.part (X := [(kc, .inl (cI, 40, .inl fc2)), (kq, .inl (cI, 4, .inl mo2)), (ku, .inl (cI, 16, .inl mu2)), (kt, .inl (cI, 32, .inl tf2)), (ka, .inl (cI, 32, .inl qf2)), (kp, .inl (cI, 64, .inl mp2)), (km, .inl (cI, 4, .inl (mF N2 C2 K2 Y2)))]) (cx := [(kc, .inl (cI, 40, .inl fc2))]) [0] rfl
                have hDc := hD.part (X := [(kc, .inl (cI, 40, .inl fc2)), (kq, .inl (cI, 4, .inl mo2)), (ku, .inl (cI, 16, .inl mu2)), (kt, .inl (cI, 32, .inl tf2)), (ka, .inl (cI, 32, .inl qf2)), (kp, .inl (cI, 64, .inl mp2)), (km, .inl (cI, 4, .inl (mF N2 C2 K2 Y2)))]) (cx := [(kc, .inl (cI, 40, .inl fc2))]) [0] (by decide) rfl
                have hFc := va_freeP (X := [(kc, .inl (cI, 40, .inl fc2)), (kq, .inl (cI, 4, .inl mo2)), (ku, .inl (cI, 16, .inl mu2)), (kt, .inl (cI, 32, .inl tf2)), (ka, .inl (cI, 32, .inl qf2)), (kp, .inl (cI, 64, .inl mp2)), (km, .inl (cI, 4, .inl (mF N2 C2 K2 Y2)))]) (cx := [(kc, .inl (cI, 40, .inl fc2))]) hD hS hA [0] rfl
                refine g_Si (As := [.ref t0, .ref kc, .int (nI ((Z0 / 5) % N2)), .int (nI (1 + ((Z0 / 40) % 2))), .int (nI ((Z0 / 80) % 4))]) (rest := []) CF (c_L_areCycles l hfl D cI cJ cO df H.size t0 w5 kc fc2 N2 mc2 ms2 mw2 C2 mo2 K2 mu2 Y2 rw02 tf2 qf2 mp2 ((Z0 / 5) % N2) (1 + ((Z0 / 40) % 2)) ((Z0 / 80) % 4) hCL hW hN4 hR hJ9 (by omega) (by omega) (by omega)) (va_cwS 5 hts gL_holds_L_areCycles rfl rfl rfl (by decide +kernel) ⟨Nat.le_of_ble_eq_true rfl, Nat.le_of_ble_eq_true rfl⟩)  hPc hK hDc hV hH hS hFc rfl hl.1 rfl (Nat.le_of_ble_eq_true rfl) dL_holds_210 ⟨show 25 + 200 * k + 8 + 150 + 18 + 7 ≤ 18100 by omega, show 2000 + 1400 * k + 50 + 1000 + 120 + 65 ≤ 128100 by omega⟩ (fun r_210 w1 H1 locs1 hq hP1 hD1 hk hS hz => ?_)
                obtain ⟨w6, rfl, hr_210, hq_210⟩ := hq
                obtain ⟨hP, hD⟩ := g_joinP (X := [(kc, .inl (cI, 40, .inl fc2)), (kq, .inl (cI, 4, .inl mo2)), (ku, .inl (cI, 16, .inl mu2)), (kt, .inl (cI, 32, .inl tf2)), (ka, .inl (cI, 32, .inl qf2)), (kp, .inl (cI, 64, .inl mp2)), (km, .inl (cI, 4, .inl (mF N2 C2 K2 Y2)))]) (cx := [(kc, .inl (cI, 40, .inl fc2))]) (rx := [(kc, .inl (cI, 40, .inl fc2))]) (X' := [(kc, .inl (cI, 40, .inl fc2)), (kq, .inl (cI, 4, .inl mo2)), (ku, .inl (cI, 16, .inl mu2)), (kt, .inl (cI, 32, .inl tf2)), (ka, .inl (cI, 32, .inl qf2)), (kp, .inl (cI, 64, .inl mp2)), (km, .inl (cI, 4, .inl (mF N2 C2 K2 Y2)))]) hP hD hk hFc hP1 hD1 [0] [1, 2, 3, 4, 5, 6] [6, 0, 1, 2, 3, 4, 5] rfl rfl (by decide) (by decide) (by decide) rfl
                clear hPc hDc hFc hP1 hD1 hk hz
                generalize H1 = H at hP hS ⊢
                have hP : va_P D ccl (([(kc, .inl (cI, 40, .inl fc2)), (kq, .inl (cI, 4, .inl mo2)), (ku, .inl (cI, 16, .inl mu2)), (kt, .inl (cI, 32, .inl tf2)), (ka, .inl (cI, 32, .inl qf2)), (kp, .inl (cI, 64, .inl mp2)), (km, .inl (cI, 4, .inl (mF N2 C2 K2 Y2)))] : va_W) ++ w6) H := hP
                have hD : va_D A (([(kc, .inl (cI, 40, .inl fc2)), (kq, .inl (cI, 4, .inl mo2)), (ku, .inl (cI, 16, .inl mu2)), (kt, .inl (cI, 32, .inl tf2)), (ka, .inl (cI, 32, .inl qf2)), (kp, .inl (cI, 64, .inl mp2)), (km, .inl (cI, 4, .inl (mF N2 C2 K2 Y2)))] : va_W) ++ w6) := hD
                subst hr_210
                clear hCL
                have hCL := hq_210
                refine lv_istore (lv' := [(9, .int 1), (11, .int (nI Z0)), (0, .ref b), (1, .ref t0), (2, .ref kc), (3, .ref kq), (4, .ref ku), (5, .ref kt), (6, .ref ka), (7, .ref kp), (8, .ref km), (10, .int (nI k))]) hx hb dL_holds_213 hl (by decide) rfl (fun ls hl => ?_)
                refine lv_iinc (v := nI (k + 1)) (lv' := [(10, .int (nI (k + 1))), (9, .int 1), (11, .int (nI Z0)), (0, .ref b), (1, .ref t0), (2, .ref kc), (3, .ref kq), (4, .ref ku), (5, .ref kt), (6, .ref ka), (7, .ref kp), (8, .ref km)]) hx hb dL_holds_215 hl (k := 11) rfl (by exact nI_1 _) (by decide) rfl (fun ls hl => ?_)
                refine lv_goto (tgt := 52) hx hb dL_holds_218 (by decide) ?_
                refine W.widen (k := 25 + 200 * (k + 1)) (n := 2000 + 1400 * (k + 1)) (show 25 + 200 * k + 8 + 150 + 18 + 7 ≤ _ by omega) (show 2000 + 1400 * k + 50 + 1000 + 120 + 65 ≤ _ by omega) ?_
                exact ih_52 (k + 1, (([(kc, .inl (cI, 40, .inl fc2)), (kq, .inl (cI, 4, .inl mo2)), (ku, .inl (cI, 16, .inl mu2)), (kt, .inl (cI, 32, .inl tf2)), (ka, .inl (cI, 32, .inl qf2)), (kp, .inl (cI, 64, .inl mp2)), (km, .inl (cI, 4, .inl (mF N2 C2 K2 Y2)))] : va_W) ++ w6)) _ _ _ (show (k + 1) ≤ 90 ∧ ∃ (N : Nat), ∃ (mc : Nat → Int32), ∃ (ms : Nat → Int32), ∃ (mw : Nat → Int32), ∃ (C : Nat), ∃ (mo : Nat → Int32), ∃ (K : Nat), ∃ (mu : Nat → Int32), ∃ (Y : Nat), ∃ (rw0 : Nat → Int32), ∃ (tf : Nat → Int32), ∃ (qf : Nat → Int32), ∃ (mp : Nat → Int32), ∃ (fc : Nat → Int32), ∃ (w : va_W), (([(kc, .inl (cI, 40, .inl fc2)), (kq, .inl (cI, 4, .inl mo2)), (ku, .inl (cI, 16, .inl mu2)), (kt, .inl (cI, 32, .inl tf2)), (ka, .inl (cI, 32, .inl qf2)), (kp, .inl (cI, 64, .inl mp2)), (km, .inl (cI, 4, .inl (mF N2 C2 K2 Y2)))] : va_W) ++ w6) = (([(kc, .inl (cI, 40, .inl fc)), (kq, .inl (cI, 4, .inl mo)), (ku, .inl (cI, 16, .inl mu)), (kt, .inl (cI, 32, .inl tf)), (ka, .inl (cI, 32, .inl qf)), (kp, .inl (cI, 64, .inl mp)), (km, .inl (cI, 4, .inl (mF N C K Y)))] : va_W) ++ w) ∧ CLS cI cJ cO df t0 w N mc ms mw C mo K mu Y rw0 tf qf ∧ WF N mc ms mw C mo K Y rw0 mp tf qf ∧ RC fc mc ms mw N ∧ N ≤ 4 ∧ (0 < (k + 1) → 0 < N) from (by exact ⟨by omega, _, _, _, _, _, _, _, _, _, _, _, _, _, _, _, rfl, hCL, hW, hR, hN4, fun _ => hN0⟩)) (show 91 - (k + 1) < 91 - k by omega) hP hD hS (lv_sub hl [3, 4, 5, 6, 7, 8, 9, 10, 11, 1, 0] rfl)

set_option maxHeartbeats 4000000 in
set_option maxRecDepth 100000 in
theorem c_L_isHeld (l : Launch) (hfl : l.stackTraces = false) (D : va_G) (cI cJ cO : ClassId) (df sz : Nat) (b : Nat) (L : Nat) (xs : Nat → Int32) (hL : L ≤ 260) : MetS l yL_isHeld wsL_isHeld ({ frames := 16, cells := 18100, slots := 128100, locals := 512 } : Room) D (gTY cI cJ cO) df b L xs [] sz [.ref b] (fun (r : Int32) (wZ : va_W) => ∃ (w1 : va_W), wZ = ([] : va_W) ++ w1 ∧ r = 1) := by
  refine gS_ofH (cc := cL_isHeld) (nL := 2) (ret := (some .boolean)) (D := D) (TY := (gTY cI cJ cO)) (df := df) (Qc := fun A => va_Qi (fun (r : Int32) (wZ : va_W) => ∃ (w1 : va_W), wZ = ([] : va_W) ++ w1 ∧ r = 1) (gB D (gTY cI cJ cO) A) A) (by decide +kernel) rfl (Nat.le_of_ble_eq_true rfl) ?_
  intro p e s m below meth c ls A hsz C0 hX0 hl
  obtain ⟨hX, hbl, hbA⟩ := id hX0
  obtain ⟨CF, hr, hlk, hA, hS, hP, hK, hD, hV, hH⟩ := C0
  have CF : CallFix p m c cL_isHeld 2 s _ wsL_isHeld RL := CF
  obtain ⟨hx, hb, hml, hown, hts⟩ := id CF
  subst hsz
  have hmethodLink_RL_154 : (Cond.methodLink RL 154 yL_holds).before _ s = true := hts _ (List.mem_of_getElem? (i := 4) rfl)
  have hP : va_P D ccl [] s.heap := hP
  have hl : lv_has ls 2 [(0, .ref b)] := hl
  refine lv_aload_n hx hb dL_isHeld_0 rfl (lv_at hl 0 rfl) ?_
  have hPc : va_P D ccl [] s.heap := fun k q h => by simp at h
  have hDc : va_D A [] := ⟨fun i j p q h => by simp at h, fun k q h => by simp at h⟩
  have hFc := va_free (wc := []) hD hS hA [] rfl
  refine gS_Si (As := [.ref b]) (rest := []) hX0 CF (c_L_holds l hfl D cI cJ cO df s.heap.size b L xs hL) (va_cwS 1 hts gL_isHeld_L_holds rfl rfl rfl (by decide +kernel) ⟨Nat.le_of_ble_eq_true rfl, Nat.le_of_ble_eq_true rfl⟩)  hPc hK hDc hV hH hS hFc rfl hl.1 rfl (Nat.le_of_ble_eq_true rfl) dL_isHeld_1 ⟨Nat.le_of_ble_eq_true rfl, Nat.le_of_ble_eq_true rfl⟩ (fun r_1 w1 H1 locs1 hq hP1 hD1 hk hS hz => ?_)
  obtain ⟨w2, ew_1, hr_1⟩ := hq
  rw [ew_1] at hP1 hD1
  have hP := g_keep0 hP hk
  clear hPc hDc hFc hP1 hD1 hk hz
  generalize H1 = H at hP hS ⊢
  have hP : va_P D ccl [] H := hP
  have hD : va_D A [] := hD
  subst hr_1
  refine g_zret (v := 1) hx hb hr hlk hP hK hD hS (Nat.le_of_ble_eq_true rfl) (Nat.le_of_ble_eq_true rfl) dL_isHeld_4 (by decide +kernel) ?_
  exact ⟨_, rfl, rfl⟩
