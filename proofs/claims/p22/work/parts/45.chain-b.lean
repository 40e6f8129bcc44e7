set_option maxHeartbeats 4000000 in
set_option maxRecDepth 100000 in
theorem c_X0_insert (l : Launch) (D : va_G) (cI cJ cO : ClassId) (df sz : Nat) (l2 : Nat) (q2 : Nat) (m2 : Int32) (i : Nat) (f2 : Nat → Option Nat) (sg : Nat → Nat) (C : Nat) (mo : Nat → Int32) (SA : Nat → Nat) (SB : Nat → Nat) (mc : Nat → Int32) (ms : Nat → Int32) (mw : Nat → Int32) (N : Nat) (hc : isC mc) (hN : N ≤ 8) (hC : C ≤ 8) (hO : ∀ i, i < C → gN (mo i) < N ∧ mo i = nI (gN (mo i))) (hiM : ∀ i j, i < C → j < C → gN (mo i) = gN (mo j) → i = j) (hi : i < C) (hi0 : 0 < i) (hs9 : ordS mc mo SA f2 sg i) : MetV l yX0_insert wsX0_insert ({ frames := 3, cells := 0, slots := 0, locals := 84 } : Room) D (gTY cI cJ cO) df (([(l2, .inr (0, [.int m2, .ref q2, .int (nI i)])), (q2, .inl (cO, 10, .inr (.inr (.inr (.inr f2)))))] : va_W) ++ scL (scJ cI SA SB mc ms mw) (List.range N)) sz [.ref l2, .ref (SA (gN (mo i)))] (fun (wZ : va_W) => wZ = ([(l2, .inr (0, [.int (m2 + 1), .ref q2, .int (nI (i + 1))])), (q2, .inl (cO, 10, .inr (.inr (.inr (.inr (insF f2 (rkM mc mo i i) i (SA (gN (mo i)))))))))] : va_W) ++ scL (scJ cI SA SB mc ms mw) (List.range N)) := by
  refine g_of (cc := cX0_insert) (nL := 3) (ret := none) (D := D) (TY := (gTY cI cJ cO)) (df := df) (Qc := fun A => va_Qv (fun (wZ : va_W) => wZ = ([(l2, .inr (0, [.int (m2 + 1), .ref q2, .int (nI (i + 1))])), (q2, .inl (cO, 10, .inr (.inr (.inr (.inr (insF f2 (rkM mc mo i i) i (SA (gN (mo i)))))))))] : va_W) ++ scL (scJ cI SA SB mc ms mw) (List.range N)) (gB D (gTY cI cJ cO) A) A) (by decide +kernel) rfl (Nat.le_of_ble_eq_true rfl) ?_
  intro p e s m below meth c ls A hsz C0 hin hl
  obtain ⟨CF, hr, hlk, hA, hS, hP, hK, hD, hV, hH⟩ := C0
  have CF : CallFix p m c cX0_insert 3 s _ wsX0_insert RX0 := CF
  obtain ⟨hx, hb, hml, hown, hts⟩ := id CF
  subst hsz
  have hmethodLink_RX0_18 : (Cond.methodLink RX0 18 yJx4a65c_size_8abf5).before _ s = true := hts _ (List.mem_of_getElem? (i := 2) rfl)
  have hmethodLink_RX0_47 : (Cond.methodLink RX0 47 yJx4a65c_add_7a177).before _ s = true := hts _ (List.mem_of_getElem? (i := 36) rfl)
  have hmethodLink_RX0_22 : (Cond.methodLink RX0 22 yJx4a65c_get_915e3).before _ s = true := hts _ (List.mem_of_getElem? (i := 8) rfl)
  have hclassLink_RX0_37 : (Cond.classLink RX0 37 "TapLoom$Section").before _ s = true := hts _ (List.mem_of_getElem? (i := 1) rfl)
  have hmethodLink_RX0_43 : (Cond.methodLink RX0 43 yX4_goesAheadOf).before _ s = true := hts _ (List.mem_of_getElem? (i := 25) rfl)
  have hP : va_P D ccl (([(l2, .inr (0, [.int m2, .ref q2, .int (nI i)])), (q2, .inl (cO, 10, .inr (.inr (.inr (.inr f2)))))] : va_W) ++ scL (scJ cI SA SB mc ms mw) (List.range N)) s.heap := hP
  have hl : lv_has ls 3 [(0, .ref l2), (1, .ref (SA (gN (mo i))))] := hl
  have hO8 : ∀ i, i < C → gN (mo i) < 8 := fun i hi => Nat.lt_of_lt_of_le (hO i hi).1 hN
  have hpi := rkM_le mc mo i i
  refine lv_iconst (v := 0) hx hb dX0_insert_0 (by decide) ?_
  refine lv_istore_n (lv' := [(2, .int 0), (0, .ref l2), (1, .ref (SA (gN (mo i))))]) hx hb dX0_insert_1 rfl hl (by decide) rfl (fun ls hl => ?_)
  refine W.widen (k := 0) (n := 0) (Nat.le_refl _) (Nat.le_refl _) ?_
  refine g_while (σ := Nat) (st := []) (nL := 3) (fun t => ([(l2, .inr (0, [.int m2, .ref q2, .int (nI i)])), (q2, .inl (cO, 10, .inr (.inr (.inr (.inr f2)))))] : va_W) ++ scL (scJ cI SA SB mc ms mw) (List.range N))
    (fun t => [(0, .ref l2), (1, .ref (SA (gN (mo i)))), (2, .int (nI t))])
    (fun t => t ≤ rkM mc mo i i)
    (fun t => rkM mc mo i i - t) (fun t => 0) (fun t => 0)
    ?_ 0 (Nat.zero_le _) hP hD hS (lv_sub hl [1, 2, 0] rfl)
  intro t hI H locs ls hP hD hS hl ih
  have hI : t ≤ rkM mc mo i i := hI
  have hP : va_P D ccl (([(l2, .inr (0, [.int m2, .ref q2, .int (nI i)])), (q2, .inl (cO, 10, .inr (.inr (.inr (.inr f2)))))] : va_W) ++ scL (scJ cI SA SB mc ms mw) (List.range N)) H := hP
  have hD : va_D A (([(l2, .inr (0, [.int m2, .ref q2, .int (nI i)])), (q2, .inl (cO, 10, .inr (.inr (.inr (.inr f2)))))] : va_W) ++ scL (scJ cI SA SB mc ms mw) (List.range N)) := hD
  have hl : lv_has ls 3 [(0, .ref l2), (1, .ref (SA (gN (mo i)))), (2, .int (nI t))] := hl
  change W p l e _ s m _ below meth c H locs 0 0 _ (F0 m 2 ls [])
  have ih_2 := ih
  clear ih
  refine lv_iload_n hx hb dX0_insert_2 rfl (lv_at hl 2 rfl) ?_
  refine lv_aload_n hx hb dX0_insert_3 rfl (lv_at hl 0 rfl) ?_
  have hPc := hP.sub (ws' := [(l2, .inr (0, [.int m2, .ref q2, .int (nI i)]))]) [0] rfl
  have hDc := hD.sub (ws' := [(l2, .inr (0, [.int m2, .ref q2, .int (nI i)]))]) [0] (by decide) rfl
  have hFc := va_free (wc := [(l2, .inr (0, [.int m2, .ref q2, .int (nI i)]))]) hD hS hA [0] rfl
  refine g_Vi (As := []) (rest := [.int (nI t)]) CF (c_Jx4a65c_size_8abf5 l D cI cJ cO df H.size l2 m2 q2 (nI i) ) (cwV 0 hts gX0_insert_Jx4a65c_size_8abf5 rfl rfl rfl (by decide +kernel) ⟨Nat.le_of_ble_eq_true rfl, Nat.le_of_ble_eq_true rfl⟩) (va_recv hK hP (ci := 0) (q0 := 0) rfl rfl) hPc hK hDc hV hH hS hFc rfl hl.1 rfl (Nat.le_of_ble_eq_true rfl) dX0_insert_4 ⟨Nat.le_of_ble_eq_true rfl, Nat.le_of_ble_eq_true rfl⟩ (fun r_4 w1 H1 locs1 hq hP1 hD1 hk hS hz => ?_)
  obtain ⟨rfl, hr_4⟩ := hq
  have hP := g_keepR hP hD [0] rfl hk hP1
  clear hPc hDc hFc hP1 hD1 hk hz
  generalize H1 = H at hP hS ⊢
  have hP : va_P D ccl (([(l2, .inr (0, [.int m2, .ref q2, .int (nI i)])), (q2, .inl (cO, 10, .inr (.inr (.inr (.inr f2)))))] : va_W) ++ scL (scJ cI SA SB mc ms mw) (List.range N)) H := hP
  have hD : va_D A (([(l2, .inr (0, [.int m2, .ref q2, .int (nI i)])), (q2, .inl (cO, 10, .inr (.inr (.inr (.inr f2)))))] : va_W) ++ scL (scJ cI SA SB mc ms mw) (List.range N)) := hD
  subst hr_4
  refine lv_icmp_ge (tgt := 31) hx hb dX0_insert_7 (by decide) (fun c_7 => ?_) (fun c_7 => ?_)
  · have c_7 : i ≤ t := g_le (a := i) (b := t) c_7 (by omega) (by omega)
    have het : t = rkM mc mo i i := by omega
    have hl : lv_has ls 3 [(0, .ref l2), (1, .ref (SA (gN (mo i)))), (2, .int (nI (rkM mc mo i i)))] := by rw [het] at hl; exact hl
    refine lv_aload_n hx hb dX0_insert_31 rfl (lv_at hl 0 rfl) ?_
    refine lv_iload_n hx hb dX0_insert_32 rfl (lv_at hl 2 rfl) ?_
    refine lv_aload_n hx hb dX0_insert_33 rfl (lv_at hl 1 rfl) ?_
    have hPc := hP.part (X := [(l2, .inr (0, [.int m2, .ref q2, .int (nI i)])), (q2, .inl (cO, 10, .inr (.inr (.inr (.inr f2)))))]) (cx := [(l2, .inr (0, [.int m2, .ref q2, .int (nI i)])), (q2, .inl (cO, 10, .inr (.inr (.inr (.inr f2)))))]) [0, 1] rfl
    have hDc := hD.part (X := [(l2, .inr (0, [.int m2, .ref q2, .int (nI i)])), (q2, .inl (cO, 10, .inr (.inr (.inr (.inr f2)))))]) (cx := [(l2, .inr (0, [.int m2, .ref q2, .int (nI i)])), (q2, .inl (cO, 10, .inr (.inr (.inr (.inr f2)))))]) [0, 1] (by decide) rfl
    have hFc := va_freeP (X := [(l2, .inr (0, [.int m2, .ref q2, .int (nI i)])), (q2, .inl (cO, 10, .inr (.inr (.inr (.inr f2)))))]) (cx := [(l2, .inr (0, [.int m2, .ref q2, .int (nI i)])), (q2, .inl (cO, 10, .inr (.inr (.inr (.inr f2)))))]) hD hS hA [0, 1] rfl
    refine g_Vv (As := [.int (nI (rkM mc mo i i)), .ref (SA (gN (mo i)))]) (rest := []) CF (c_Jx4a65c_add_7a177 l D cI cJ cO df H.size l2 m2 q2 i f2 (scL (scJ cI SA SB mc ms mw) (List.range N)) (rkM mc mo i i) (SA (gN (mo i))) hpi (by omega) (inT_scL (rgm (hO i hi).1)) (fun k hk y hy => by rw [(hs9 k hk).2.2] at hy; cases hy; exact inT_scL (rgm (hO _ (by have := (hs9 k hk).1; omega)).1))) (cwV 2 hts gX0_insert_Jx4a65c_add_7a177 rfl rfl rfl (by decide +kernel) ⟨Nat.le_of_ble_eq_true rfl, Nat.le_of_ble_eq_true rfl⟩) (va_recv hK hP (ci := 0) (q0 := 0) rfl rfl) hPc hK hDc hV hH hS hFc rfl hl.1 rfl (Nat.le_of_ble_eq_true rfl) dX0_insert_34 ⟨Nat.le_of_ble_eq_true rfl, Nat.le_of_ble_eq_true rfl⟩ (fun w1 H1 locs1 hq hP1 hD1 hk hS hz => ?_)
    obtain rfl := hq
    obtain ⟨hP, hD⟩ := g_joinP (X := [(l2, .inr (0, [.int m2, .ref q2, .int (nI i)])), (q2, .inl (cO, 10, .inr (.inr (.inr (.inr f2)))))]) (cx := [(l2, .inr (0, [.int m2, .ref q2, .int (nI i)])), (q2, .inl (cO, 10, .inr (.inr (.inr (.inr f2)))))]) (rx := [(l2, .inr (0, [.int (m2 + 1), .ref q2, .int (nI (i + 1))])), (q2, .inl (cO, 10, .inr (.inr (.inr (.inr (insF f2 (rkM mc mo i i) i (SA (gN (mo i)))))))))]) (X' := [(l2, .inr (0, [.int (m2 + 1), .ref q2, .int (nI (i + 1))])), (q2, .inl (cO, 10, .inr (.inr (.inr (.inr (insF f2 (rkM mc mo i i) i (SA (gN (mo i)))))))))]) hP hD hk hFc hP1 hD1 [0, 1] [] [0, 1] rfl rfl (by decide) (by decide) (by decide) rfl
    clear hPc hDc hFc hP1 hD1 hk hz
    generalize H1 = H at hP hS ⊢
    have hP : va_P D ccl (([(l2, .inr (0, [.int (m2 + 1), .ref q2, .int (nI (i + 1))])), (q2, .inl (cO, 10, .inr (.inr (.inr (.inr (insF f2 (rkM mc mo i i) i (SA (gN (mo i)))))))))] : va_W) ++ (scL (scJ cI SA SB mc ms mw) (List.range N))) H := hP
    have hD : va_D A (([(l2, .inr (0, [.int (m2 + 1), .ref q2, .int (nI (i + 1))])), (q2, .inl (cO, 10, .inr (.inr (.inr (.inr (insF f2 (rkM mc mo i i) i (SA (gN (mo i)))))))))] : va_W) ++ (scL (scJ cI SA SB mc ms mw) (List.range N))) := hD
    refine g_vret hx hb hr hlk hP hK hD hS (Nat.le_of_ble_eq_true rfl) (Nat.le_of_ble_eq_true rfl) dX0_insert_37 ?_
    exact rfl
  · have c_7 : t < i := g_nle (a := i) (b := t) c_7 (by omega) (by omega)
    have hsg : sg t < C := by have := (hs9 t c_7).1; omega
    have hne2 : gN (mo i) ≠ gN (mo (sg t)) := fun h9 => by have h8 := hiM _ _ hi hsg h9; have := (hs9 t c_7).1; omega
    refine lv_aload_n hx hb dX0_insert_10 rfl (lv_at hl 0 rfl) ?_
    refine lv_iload_n hx hb dX0_insert_11 rfl (lv_at hl 2 rfl) ?_
    have hPc := hP.sub (ws' := [(l2, .inr (0, [.int m2, .ref q2, .int (nI i)])), (q2, .inl (cO, 10, .inr (.inr (.inr (.inr f2)))))]) [0, 1] rfl
    have hDc := hD.sub (ws' := [(l2, .inr (0, [.int m2, .ref q2, .int (nI i)])), (q2, .inl (cO, 10, .inr (.inr (.inr (.inr f2)))))]) [0, 1] (by decide) rfl
    have hFc := va_free (wc := [(l2, .inr (0, [.int m2, .ref q2, .int (nI i)])), (q2, .inl (cO, 10, .inr (.inr (.inr (.inr f2)))))]) hD hS hA [0, 1] rfl
    refine g_Vr (As := [.int (nI t)]) (rest := []) CF (c_Jx4a65c_get_915e3 l D cI cJ cO df H.size l2 m2 q2 i f2 t (SA (gN (mo (sg t)))) c_7 (by omega) ((hs9 t c_7).2.2)) (cwV 1 hts gX0_insert_Jx4a65c_get_915e3 rfl rfl rfl (by decide +kernel) ⟨Nat.le_of_ble_eq_true rfl, Nat.le_of_ble_eq_true rfl⟩) (va_recv hK hP (ci := 0) (q0 := 0) rfl rfl) hPc hK hDc hV hH hS hFc rfl hl.1 rfl (Nat.le_of_ble_eq_true rfl) dX0_insert_12 ⟨Nat.le_of_ble_eq_true rfl, Nat.le_of_ble_eq_true rfl⟩ (fun w1 H1 locs1 hq hP1 hD1 hk hS hz => ?_)
    obtain ⟨w1, a1⟩ := w1
    obtain ⟨ew1, hr_12⟩ := hq
    dsimp only at ew1 hP1 hD1 hr_12
    subst ew1
    have hP := g_keepR hP hD [0, 1] rfl hk hP1
    clear hPc hDc hFc hP1 hD1 hk hz
    generalize H1 = H at hP hS ⊢
    have hP : va_P D ccl (([(l2, .inr (0, [.int m2, .ref q2, .int (nI i)])), (q2, .inl (cO, 10, .inr (.inr (.inr (.inr f2)))))] : va_W) ++ scL (scJ cI SA SB mc ms mw) (List.range N)) H := hP
    have hD : va_D A (([(l2, .inr (0, [.int m2, .ref q2, .int (nI i)])), (q2, .inl (cO, 10, .inr (.inr (.inr (.inr f2)))))] : va_W) ++ scL (scJ cI SA SB mc ms mw) (List.range N)) := hD
    have hr_12 := hr_12.symm
    subst hr_12
    refine va_castS hx hb hown hclassLink_RX0_37 (gS4 hK) ((inT_scL (rgm (hO (sg t) hsg).1)).recv (X := [(l2, .inr (0, [.int m2, .ref q2, .int (nI i)])), (q2, .inl (cO, 10, .inr (.inr (.inr (.inr f2)))))]) hK hP) dX0_insert_15 ?_
    refine lv_aload_n hx hb dX0_insert_18 rfl (lv_at hl 1 rfl) ?_
    obtain ⟨hP, hD⟩ := sc_open (X := [(l2, .inr (0, [.int m2, .ref q2, .int (nI i)])), (q2, .inl (cO, 10, .inr (.inr (.inr (.inr f2)))))]) (gN (mo (sg t))) hP hD (rgm (hO (sg t) hsg).1)
    have hP : va_P D ccl (([(l2, .inr (0, [.int m2, .ref q2, .int (nI i)])), (q2, .inl (cO, 10, .inr (.inr (.inr (.inr f2))))), (SA (gN (mo (sg t))), .inr (5, [.int (nI (gN (mo (sg t)))), .int (mw (gN (mo (sg t)))), .ref (SB (gN (mo (sg t)))), .int (ms (4 * (gN (mo (sg t))))), .int (ms (4 * (gN (mo (sg t))) + 1)), .int (ms (4 * (gN (mo (sg t))) + 2)), .int (ms (4 * (gN (mo (sg t))) + 3))])), (SB (gN (mo (sg t))), .inl (cI, 5, .inl (fun z9 => if z9 < 5 then mc (5 * (gN (mo (sg t))) + z9) else 0)))] : va_W) ++ scL (scJ cI SA SB mc ms mw) ((List.range N).erase (gN (mo (sg t))))) H := hP
    have hD : va_D A (([(l2, .inr (0, [.int m2, .ref q2, .int (nI i)])), (q2, .inl (cO, 10, .inr (.inr (.inr (.inr f2))))), (SA (gN (mo (sg t))), .inr (5, [.int (nI (gN (mo (sg t)))), .int (mw (gN (mo (sg t)))), .ref (SB (gN (mo (sg t)))), .int (ms (4 * (gN (mo (sg t))))), .int (ms (4 * (gN (mo (sg t))) + 1)), .int (ms (4 * (gN (mo (sg t))) + 2)), .int (ms (4 * (gN (mo (sg t))) + 3))])), (SB (gN (mo (sg t))), .inl (cI, 5, .inl (fun z9 => if z9 < 5 then mc (5 * (gN (mo (sg t))) + z9) else 0)))] : va_W) ++ scL (scJ cI SA SB mc ms mw) ((List.range N).erase (gN (mo (sg t))))) := hD
    obtain ⟨hP, hD⟩ := sc_open (X := [(l2, .inr (0, [.int m2, .ref q2, .int (nI i)])), (q2, .inl (cO, 10, .inr (.inr (.inr (.inr f2))))), (SA (gN (mo (sg t))), .inr (5, [.int (nI (gN (mo (sg t)))), .int (mw (gN (mo (sg t)))), .ref (SB (gN (mo (sg t)))), .int (ms (4 * (gN (mo (sg t))))), .int (ms (4 * (gN (mo (sg t))) + 1)), .int (ms (4 * (gN (mo (sg t))) + 2)), .int (ms (4 * (gN (mo (sg t))) + 3))])), (SB (gN (mo (sg t))), .inl (cI, 5, .inl (fun z9 => if z9 < 5 then mc (5 * (gN (mo (sg t))) + z9) else 0)))]) (gN (mo i)) hP hD ((List.mem_erase_of_ne hne2).mpr (rgm (hO i hi).1))
    have hP : va_P D ccl (([(l2, .inr (0, [.int m2, .ref q2, .int (nI i)])), (q2, .inl (cO, 10, .inr (.inr (.inr (.inr f2))))), (SA (gN (mo (sg t))), .inr (5, [.int (nI (gN (mo (sg t)))), .int (mw (gN (mo (sg t)))), .ref (SB (gN (mo (sg t)))), .int (ms (4 * (gN (mo (sg t))))), .int (ms (4 * (gN (mo (sg t))) + 1)), .int (ms (4 * (gN (mo (sg t))) + 2)), .int (ms (4 * (gN (mo (sg t))) + 3))])), (SB (gN (mo (sg t))), .inl (cI, 5, .inl (fun z9 => if z9 < 5 then mc (5 * (gN (mo (sg t))) + z9) else 0))), (SA (gN (mo i)), .inr (5, [.int (nI (gN (mo i))), .int (mw (gN (mo i))), .ref (SB (gN (mo i))), .int (ms (4 * (gN (mo i)))), .int (ms (4 * (gN (mo i)) + 1)), .int (ms (4 * (gN (mo i)) + 2)), .int (ms (4 * (gN (mo i)) + 3))])), (SB (gN (mo i)), .inl (cI, 5, .inl (fun z9 => if z9 < 5 then mc (5 * (gN (mo i)) + z9) else 0)))] : va_W) ++ scL (scJ cI SA SB mc ms mw) (((List.range N).erase (gN (mo (sg t)))).erase (gN (mo i)))) H := hP
    have hD : va_D A (([(l2, .inr (0, [.int m2, .ref q2, .int (nI i)])), (q2, .inl (cO, 10, .inr (.inr (.inr (.inr f2))))), (SA (gN (mo (sg t))), .inr (5, [.int (nI (gN (mo (sg t)))), .int (mw (gN (mo (sg t)))), .ref (SB (gN (mo (sg t)))), .int (ms (4 * (gN (mo (sg t))))), .int (ms (4 * (gN (mo (sg t))) + 1)), .int (ms (4 * (gN (mo (sg t))) + 2)), .int (ms (4 * (gN (mo (sg t))) + 3))])), (SB (gN (mo (sg t))), .inl (cI, 5, .inl (fun z9 => if z9 < 5 then mc (5 * (gN (mo (sg t))) + z9) else 0))), (SA (gN (mo i)), .inr (5, [.int (nI (gN (mo i))), .int (mw (gN (mo i))), .ref (SB (gN (mo i))), .int (ms (4 * (gN (mo i)))), .int (ms (4 * (gN (mo i)) + 1)), .int (ms (4 * (gN (mo i)) + 2)), .int (ms (4 * (gN (mo i)) + 3))])), (SB (gN (mo i)), .inl (cI, 5, .inl (fun z9 => if z9 < 5 then mc (5 * (gN (mo i)) + z9) else 0)))] : va_W) ++ scL (scJ cI SA SB mc ms mw) (((List.range N).erase (gN (mo (sg t)))).erase (gN (mo i)))) := hD
    have hPc := hP.sub (ws' := [((SA (gN (mo (sg t)))), .inr (5, [.int (nI (gN (mo (sg t)))), .int (mw (gN (mo (sg t)))), .ref (SB (gN (mo (sg t)))), .int (ms (4 * (gN (mo (sg t))))), .int (ms (4 * (gN (mo (sg t))) + 1)), .int (ms (4 * (gN (mo (sg t))) + 2)), .int (ms (4 * (gN (mo (sg t))) + 3))])), ((SB (gN (mo (sg t)))), .inl (cI, 5, .inl (fun z9 => if z9 < 5 then mc (5 * (gN (mo (sg t))) + z9) else 0))), ((SA (gN (mo i))), .inr (5, [.int (nI (gN (mo i))), .int (mw (gN (mo i))), .ref (SB (gN (mo i))), .int (ms (4 * (gN (mo i)))), .int (ms (4 * (gN (mo i)) + 1)), .int (ms (4 * (gN (mo i)) + 2)), .int (ms (4 * (gN (mo i)) + 3))])), ((SB (gN (mo i))), .inl (cI, 5, .inl (fun z9 => if z9 < 5 then mc (5 * (gN (mo i)) + z9) else 0)))]) [2, 3, 4, 5] rfl
    have hDc := hD.sub (ws' := [((SA (gN (mo (sg t)))), .inr (5, [.int (nI (gN (mo (sg t)))), .int (mw (gN (mo (sg t)))), .ref (SB (gN (mo (sg t)))), .int (ms (4 * (gN (mo (sg t))))), .int (ms (4 * (gN (mo (sg t))) + 1)), .int (ms (4 * (gN (mo (sg t))) + 2)), .int (ms (4 * (gN (mo (sg t))) + 3))])), ((SB (gN (mo (sg t)))), .inl (cI, 5, .inl (fun z9 => if z9 < 5 then mc (5 * (gN (mo (sg t))) + z9) else 0))), ((SA (gN (mo i))), .inr (5, [.int (nI (gN (mo i))), .int (mw (gN (mo i))), .ref (SB (gN (mo i))), .int (ms (4 * (gN (mo i)))), .int (ms (4 * (gN (mo i)) + 1)), .int (ms (4 * (gN (mo i)) + 2)), .int (ms (4 * (gN (mo i)) + 3))])), ((SB (gN (mo i))), .inl (cI, 5, .inl (fun z9 => if z9 < 5 then mc (5 * (gN (mo i)) + z9) else 0)))]) [2, 3, 4, 5] (by decide) rfl
    have hFc := va_free (wc := [((SA (gN (mo (sg t)))), .inr (5, [.int (nI (gN (mo (sg t)))), .int (mw (gN (mo (sg t)))), .ref (SB (gN (mo (sg t)))), .int (ms (4 * (gN (mo (sg t))))), .int (ms (4 * (gN (mo (sg t))) + 1)), .int (ms (4 * (gN (mo (sg t))) + 2)), .int (ms (4 * (gN (mo (sg t))) + 3))])), ((SB (gN (mo (sg t)))), .inl (cI, 5, .inl (fun z9 => if z9 < 5 then mc (5 * (gN (mo (sg t))) + z9) else 0))), ((SA (gN (mo i))), .inr (5, [.int (nI (gN (mo i))), .int (mw (gN (mo i))), .ref (SB (gN (mo i))), .int (ms (4 * (gN (mo i)))), .int (ms (4 * (gN (mo i)) + 1)), .int (ms (4 * (gN (mo i)) + 2)), .int (ms (4 * (gN (mo i)) + 3))])), ((SB (gN (mo i))), .inl (cI, 5, .inl (fun z9 => if z9 < 5 then mc (5 * (gN (mo i)) + z9) else 0)))]) hD hS hA [2, 3, 4, 5] rfl
    refine g_Vi (As := [.ref (SA (gN (mo i)))]) (rest := []) CF (c_X4_goesAheadOf l D cI cJ cO df H.size (SA (gN (mo (sg t)))) (SB (gN (mo (sg t)))) (nI (gN (mo (sg t)))) (mw (gN (mo (sg t)))) (ms (4 * (gN (mo (sg t))))) (ms (4 * (gN (mo (sg t))) + 1)) (ms (4 * (gN (mo (sg t))) + 2)) (ms (4 * (gN (mo (sg t))) + 3)) (fun z9 => if z9 < 5 then mc (5 * (gN (mo (sg t))) + z9) else 0) (SA (gN (mo i))) (SB (gN (mo i))) (nI (gN (mo i))) (mw (gN (mo i))) (ms (4 * (gN (mo i)))) (ms (4 * (gN (mo i)) + 1)) (ms (4 * (gN (mo i)) + 2)) (ms (4 * (gN (mo i)) + 3)) (fun z9 => if z9 < 5 then mc (5 * (gN (mo i)) + z9) else 0) ) (cwV 1 hts gX0_insert_X4_goesAheadOf rfl rfl rfl (by decide +kernel) ⟨Nat.le_of_ble_eq_true rfl, Nat.le_of_ble_eq_true rfl⟩) (va_recv hK hP (ci := 5) (q0 := 2) rfl rfl) hPc hK hDc hV hH hS hFc rfl hl.1 rfl (Nat.le_of_ble_eq_true rfl) dX0_insert_19 ⟨Nat.le_of_ble_eq_true rfl, Nat.le_of_ble_eq_true rfl⟩ (fun r_19 w1 H1 locs1 hq hP1 hD1 hk hS hz => ?_)
    obtain ⟨rfl, hr_19⟩ := hq
    have hP := g_keepR hP hD [2, 3, 4, 5] rfl hk hP1
    clear hPc hDc hFc hP1 hD1 hk hz
    generalize H1 = H at hP hS ⊢
    have hP : va_P D ccl (([(l2, .inr (0, [.int m2, .ref q2, .int (nI i)])), (q2, .inl (cO, 10, .inr (.inr (.inr (.inr f2))))), (SA (gN (mo (sg t))), .inr (5, [.int (nI (gN (mo (sg t)))), .int (mw (gN (mo (sg t)))), .ref (SB (gN (mo (sg t)))), .int (ms (4 * (gN (mo (sg t))))), .int (ms (4 * (gN (mo (sg t))) + 1)), .int (ms (4 * (gN (mo (sg t))) + 2)), .int (ms (4 * (gN (mo (sg t))) + 3))])), (SB (gN (mo (sg t))), .inl (cI, 5, .inl (fun z9 => if z9 < 5 then mc (5 * (gN (mo (sg t))) + z9) else 0))), (SA (gN (mo i)), .inr (5, [.int (nI (gN (mo i))), .int (mw (gN (mo i))), .ref (SB (gN (mo i))), .int (ms (4 * (gN (mo i)))), .int (ms (4 * (gN (mo i)) + 1)), .int (ms (4 * (gN (mo i)) + 2)), .int (ms (4 * (gN (mo i)) + 3))])), (SB (gN (mo i)), .inl (cI, 5, .inl (fun z9 => if z9 < 5 then mc (5 * (gN (mo i)) + z9) else 0)))] : va_W) ++ scL (scJ cI SA SB mc ms mw) (((List.range N).erase (gN (mo (sg t)))).erase (gN (mo i)))) H := hP
    have hD : va_D A (([(l2, .inr (0, [.int m2, .ref q2, .int (nI i)])), (q2, .inl (cO, 10, .inr (.inr (.inr (.inr f2))))), (SA (gN (mo (sg t))), .inr (5, [.int (nI (gN (mo (sg t)))), .int (mw (gN (mo (sg t)))), .ref (SB (gN (mo (sg t)))), .int (ms (4 * (gN (mo (sg t))))), .int (ms (4 * (gN (mo (sg t))) + 1)), .int (ms (4 * (gN (mo (sg t))) + 2)), .int (ms (4 * (gN (mo (sg t))) + 3))])), (SB (gN (mo (sg t))), .inl (cI, 5, .inl (fun z9 => if z9 < 5 then mc (5 * (gN (mo (sg t))) + z9) else 0))), (SA (gN (mo i)), .inr (5, [.int (nI (gN (mo i))), .int (mw (gN (mo i))), .ref (SB (gN (mo i))), .int (ms (4 * (gN (mo i)))), .int (ms (4 * (gN (mo i)) + 1)), .int (ms (4 * (gN (mo i)) + 2)), .int (ms (4 * (gN (mo i)) + 3))])), (SB (gN (mo i)), .inl (cI, 5, .inl (fun z9 => if z9 < 5 then mc (5 * (gN (mo i)) + z9) else 0)))] : va_W) ++ scL (scJ cI SA SB mc ms mw) (((List.range N).erase (gN (mo (sg t)))).erase (gN (mo i)))) := hD
    subst hr_19
    refine lv_topi (fun f ef => ?_)
    obtain rfl : f = mAh mc (gN (mo (sg t))) (gN (mo i)) := ef.trans (cAh_eq hc (hO8 _ hsg) (hO8 _ hi))
    obtain ⟨hP, hD⟩ := sc_close (X := [(l2, .inr (0, [.int m2, .ref q2, .int (nI i)])), (q2, .inl (cO, 10, .inr (.inr (.inr (.inr f2))))), (SA (gN (mo (sg t))), .inr (5, [.int (nI (gN (mo (sg t)))), .int (mw (gN (mo (sg t)))), .ref (SB (gN (mo (sg t)))), .int (ms (4 * (gN (mo (sg t))))), .int (ms (4 * (gN (mo (sg t))) + 1)), .int (ms (4 * (gN (mo (sg t))) + 2)), .int (ms (4 * (gN (mo (sg t))) + 3))])), (SB (gN (mo (sg t))), .inl (cI, 5, .inl (fun z9 => if z9 < 5 then mc (5 * (gN (mo (sg t))) + z9) else 0)))]) (c2 := [(SA (gN (mo i)), .inr (5, [.int (nI (gN (mo i))), .int (mw (gN (mo i))), .ref (SB (gN (mo i))), .int (ms (4 * (gN (mo i)))), .int (ms (4 * (gN (mo i)) + 1)), .int (ms (4 * (gN (mo i)) + 2)), .int (ms (4 * (gN (mo i)) + 3))])), (SB (gN (mo i)), .inl (cI, 5, .inl (fun z9 => if z9 < 5 then mc (5 * (gN (mo i)) + z9) else 0)))]) (S := (scJ cI SA SB mc ms mw)) (S' := (scJ cI SA SB mc ms mw)) (js := ((List.range N).erase (gN (mo (sg t))))) (gN (mo i)) hP hD ((List.mem_erase_of_ne hne2).mpr (rgm (hO i hi).1)) (rgn.erase _) rfl (fun _ _ _ => rfl)
    have hP : va_P D ccl (([(l2, .inr (0, [.int m2, .ref q2, .int (nI i)])), (q2, .inl (cO, 10, .inr (.inr (.inr (.inr f2))))), (SA (gN (mo (sg t))), .inr (5, [.int (nI (gN (mo (sg t)))), .int (mw (gN (mo (sg t)))), .ref (SB (gN (mo (sg t)))), .int (ms (4 * (gN (mo (sg t))))), .int (ms (4 * (gN (mo (sg t))) + 1)), .int (ms (4 * (gN (mo (sg t))) + 2)), .int (ms (4 * (gN (mo (sg t))) + 3))])), (SB (gN (mo (sg t))), .inl (cI, 5, .inl (fun z9 => if z9 < 5 then mc (5 * (gN (mo (sg t))) + z9) else 0)))] : va_W) ++ scL (scJ cI SA SB mc ms mw) ((List.range N).erase (gN (mo (sg t))))) H := hP
    have hD : va_D A (([(l2, .inr (0, [.int m2, .ref q2, .int (nI i)])), (q2, .inl (cO, 10, .inr (.inr (.inr (.inr f2))))), (SA (gN (mo (sg t))), .inr (5, [.int (nI (gN (mo (sg t)))), .int (mw (gN (mo (sg t)))), .ref (SB (gN (mo (sg t)))), .int (ms (4 * (gN (mo (sg t))))), .int (ms (4 * (gN (mo (sg t))) + 1)), .int (ms (4 * (gN (mo (sg t))) + 2)), .int (ms (4 * (gN (mo (sg t))) + 3))])), (SB (gN (mo (sg t))), .inl (cI, 5, .inl (fun z9 => if z9 < 5 then mc (5 * (gN (mo (sg t))) + z9) else 0)))] : va_W) ++ scL (scJ cI SA SB mc ms mw) ((List.range N).erase (gN (mo (sg t))))) := hD
    obtain ⟨hP, hD⟩ := sc_close (X := [(l2, .inr (0, [.int m2, .ref q2, .int (nI i)])), (q2, .inl (cO, 10, .inr (.inr (.inr (.inr f2)))))]) (c2 := [(SA (gN (mo (sg t))), .inr (5, [.int (nI (gN (mo (sg t)))), .int (mw (gN (mo (sg t)))), .ref (SB (gN (mo (sg t)))), .int (ms (4 * (gN (mo (sg t))))), .int (ms (4 * (gN (mo (sg t))) + 1)), .int (ms (4 * (gN (mo (sg t))) + 2)), .int (ms (4 * (gN (mo (sg t))) + 3))])), (SB (gN (mo (sg t))), .inl (cI, 5, .inl (fun z9 => if z9 < 5 then mc (5 * (gN (mo (sg t))) + z9) else 0)))]) (S := (scJ cI SA SB mc ms mw)) (S' := (scJ cI SA SB mc ms mw)) (js := (List.range N)) (gN (mo (sg t))) hP hD (rgm (hO (sg t) hsg).1) rgn rfl (fun _ _ _ => rfl)
    have hP : va_P D ccl (([(l2, .inr (0, [.int m2, .ref q2, .int (nI i)])), (q2, .inl (cO, 10, .inr (.inr (.inr (.inr f2)))))] : va_W) ++ scL (scJ cI SA SB mc ms mw) (List.range N)) H := hP
    have hD : va_D A (([(l2, .inr (0, [.int m2, .ref q2, .int (nI i)])), (q2, .inl (cO, 10, .inr (.inr (.inr (.inr f2)))))] : va_W) ++ scL (scJ cI SA SB mc ms mw) (List.range N)) := hD
    refine lv_if_eq (tgt := 31) hx hb dX0_insert_22 (by decide) (fun c_22 => ?_) (fun c_22 => ?_)
    · have het : t = rkM mc mo i i := by have := mt (ord_lt hc hO8 hiM hi hs9 c_7).mp (fun h9 => h9 c_22); omega
      have hl : lv_has ls 3 [(0, .ref l2), (1, .ref (SA (gN (mo i)))), (2, .int (nI (rkM mc mo i i)))] := by rw [het] at hl; exact hl
      refine lv_aload_n hx hb dX0_insert_31 rfl (lv_at hl 0 rfl) ?_
      refine lv_iload_n hx hb dX0_insert_32 rfl (lv_at hl 2 rfl) ?_
      refine lv_aload_n hx hb dX0_insert_33 rfl (lv_at hl 1 rfl) ?_
      have hPc := hP.part (X := [(l2, .inr (0, [.int m2, .ref q2, .int (nI i)])), (q2, .inl (cO, 10, .inr (.inr (.inr (.inr f2)))))]) (cx := [(l2, .inr (0, [.int m2, .ref q2, .int (nI i)])), (q2, .inl (cO, 10, .inr (.inr (.inr (.inr f2)))))]) [0, 1] rfl
      have hDc := hD.part (X := [(l2, .inr (0, [.int m2, .ref q2, .int (nI i)])), (q2, .inl (cO, 10, .inr (.inr (.inr (.inr f2)))))]) (cx := [(l2, .inr (0, [.int m2, .ref q2, .int (nI i)])), (q2, .inl (cO, 10, .inr (.inr (.inr (.inr f2)))))]) [0, 1] (by decide) rfl
      have hFc := va_freeP (X := [(l2, .inr (0, [.int m2, .ref q2, .int (nI i)])), (q2, .inl (cO, 10, .inr (.inr (.inr (.inr f2)))))]) (cx := [(l2, .inr (0, [.int m2, .ref q2, .int (nI i)])), (q2, .inl (cO, 10, .inr (.inr (.inr (.inr f2)))))]) hD hS hA [0, 1] rfl
      refine g_Vv (As := [.int (nI (rkM mc mo i i)), .ref (SA (gN (mo i)))]) (rest := []) CF (c_Jx4a65c_add_7a177 l D cI cJ cO df H.size l2 m2 q2 i f2 (scL (scJ cI SA SB mc ms mw) (List.range N)) (rkM mc mo i i) (SA (gN (mo i))) hpi (by omega) (inT_scL (rgm (hO i hi).1)) (fun k hk y hy => by rw [(hs9 k hk).2.2] at hy; cases hy; exact inT_scL (rgm (hO _ (by have := (hs9 k hk).1; omega)).1))) (cwV 2 hts gX0_insert_Jx4a65c_add_7a177 rfl rfl rfl (by decide +kernel) ⟨Nat.le_of_ble_eq_true rfl, Nat.le_of_ble_eq_true rfl⟩) (va_recv hK hP (ci := 0) (q0 := 0) rfl rfl) hPc hK hDc hV hH hS hFc rfl hl.1 rfl (Nat.le_of_ble_eq_true rfl) dX0_insert_34 ⟨Nat.le_of_ble_eq_true rfl, Nat.le_of_ble_eq_true rfl⟩ (fun w1 H1 locs1 hq hP1 hD1 hk hS hz => ?_)
      obtain rfl := hq
      obtain ⟨hP, hD⟩ := g_joinP (X := [(l2, .inr (0, [.int m2, .ref q2, .int (nI i)])), (q2, .inl (cO, 10, .inr (.inr (.inr (.inr f2)))))]) (cx := [(l2, .inr (0, [.int m2, .ref q2, .int (nI i)])), (q2, .inl (cO, 10, .inr (.inr (.inr (.inr f2)))))]) (rx := [(l2, .inr (0, [.int (m2 + 1), .ref q2, .int (nI (i + 1))])), (q2, .inl (cO, 10, .inr (.inr (.inr (.inr (insF f2 (rkM mc mo i i) i (SA (gN (mo i)))))))))]) (X' := [(l2, .inr (0, [.int (m2 + 1), .ref q2, .int (nI (i + 1))])), (q2, .inl (cO, 10, .inr (.inr (.inr (.inr (insF f2 (rkM mc mo i i) i (SA (gN (mo i)))))))))]) hP hD hk hFc hP1 hD1 [0, 1] [] [0, 1] rfl rfl (by decide) (by decide) (by decide) rfl
      clear hPc hDc hFc hP1 hD1 hk hz
      generalize H1 = H at hP hS ⊢
      have hP : va_P D ccl (([(l2, .inr (0, [.int (m2 + 1), .ref q2, .int (nI (i + 1))])), (q2, .inl (cO, 10, .inr (.inr (.inr (.inr (insF f2 (rkM mc mo i i) i (SA (gN (mo i)))))))))] : va_W) ++ (scL (scJ cI SA SB mc ms mw) (List.range N))) H := hP
      have hD : va_D A (([(l2, .inr (0, [.int (m2 + 1), .ref q2, .int (nI (i + 1))])), (q2, .inl (cO, 10, .inr (.inr (.inr (.inr (insF f2 (rkM mc mo i i) i (SA (gN (mo i)))))))))] : va_W) ++ (scL (scJ cI SA SB mc ms mw) (List.range N))) := hD
      refine g_vret hx hb hr hlk hP hK hD hS (Nat.le_of_ble_eq_true rfl) (Nat.le_of_ble_eq_true rfl) dX0_insert_37 ?_
      exact rfl
    · have htp := (ord_lt hc hO8 hiM hi hs9 c_7).mpr c_22
      refine lv_iinc (v := nI (t + 1)) (lv' := [(2, .int (nI (t + 1))), (0, .ref l2), (1, .ref (SA (gN (mo i))))]) hx hb dX0_insert_25 hl (k := 2) rfl (by exact nI_1 _) (by decide) rfl (fun ls hl => ?_)
      refine lv_goto (tgt := 2) hx hb dX0_insert_28 (by decide) ?_
      refine W.widen (k := 0) (n := 0) (Nat.le_refl _) (Nat.le_refl _) ?_
      exact ih_2 (t + 1) _ _ _ (show (t + 1) ≤ rkM mc mo i i from (by exact htp)) (show rkM mc mo i i - (t + 1) < rkM mc mo i i - t by omega) hP hD hS (lv_sub hl [1, 2, 0] rfl)

set_option maxHeartbeats 4000000 in
set_option maxRecDepth 100000 in
theorem c_X0_insert_e (l : Launch) (D : va_G) (cI cJ cO : ClassId) (df sz : Nat) (l2 : Nat) (m2 : Int32) (j : Nat) (SA : Nat → Nat) (SB : Nat → Nat) (mc : Nat → Int32) (ms : Nat → Int32) (mw : Nat → Int32) (N : Nat) (hj : j < N) : MetV l yX0_insert wsX0_insert ({ frames := 4, cells := 1, slots := 10, locals := 97 } : Room) D (gTY cI cJ cO) df (([(l2, .inr (0, [.int m2, .ref df, .int 0]))] : va_W) ++ scL (scJ cI SA SB mc ms mw) (List.range N)) sz [.ref l2, .ref (SA j)] (fun (wZ : va_W) => ∃ (q2 : Nat), wZ = ([(l2, .inr (0, [.int (m2 + 1), .ref q2, .int (nI 1)])), (q2, .inl (cO, 10, .inr (.inr (.inr (.inr (insF (fun _ => none) 0 0 (SA j)))))))] : va_W) ++ scL (scJ cI SA SB mc ms mw) (List.range N)) := by
  refine g_of (cc := cX0_insert) (nL := 3) (ret := none) (D := D) (TY := (gTY cI cJ cO)) (df := df) (Qc := fun A => va_Qv (fun (wZ : va_W) => ∃ (q2 : Nat), wZ = ([(l2, .inr (0, [.int (m2 + 1), .ref q2, .int (nI 1)])), (q2, .inl (cO, 10, .inr (.inr (.inr (.inr (insF (fun _ => none) 0 0 (SA j)))))))] : va_W) ++ scL (scJ cI SA SB mc ms mw) (List.range N)) (gB D (gTY cI cJ cO) A) A) (by decide +kernel) rfl (Nat.le_of_ble_eq_true rfl) ?_
  intro p e s m below meth c ls A hsz C0 hin hl
  obtain ⟨CF, hr, hlk, hA, hS, hP, hK, hD, hV, hH⟩ := C0
  have CF : CallFix p m c cX0_insert 3 s _ wsX0_insert RX0 := CF
  obtain ⟨hx, hb, hml, hown, hts⟩ := id CF
  subst hsz
  have hmethodLink_RX0_18 : (Cond.methodLink RX0 18 yJx4a65c_size_8abf5).before _ s = true := hts _ (List.mem_of_getElem? (i := 2) rfl)
  have hmethodLink_RX0_47 : (Cond.methodLink RX0 47 yJx4a65c_add_7a177).before _ s = true := hts _ (List.mem_of_getElem? (i := 36) rfl)
  have hP : va_P D ccl (([(l2, .inr (0, [.int m2, .ref df, .int 0]))] : va_W) ++ scL (scJ cI SA SB mc ms mw) (List.range N)) s.heap := hP
  have hl : lv_has ls 3 [(0, .ref l2), (1, .ref (SA j))] := hl
  refine lv_iconst (v := 0) hx hb dX0_insert_0 (by decide) ?_
  refine lv_istore_n (lv' := [(2, .int 0), (0, .ref l2), (1, .ref (SA j))]) hx hb dX0_insert_1 rfl hl (by decide) rfl (fun ls hl => ?_)
  refine lv_iload_n hx hb dX0_insert_2 rfl (lv_at hl 0 rfl) ?_
  refine lv_aload_n hx hb dX0_insert_3 rfl (lv_at hl 1 rfl) ?_
  have hPc := hP.sub (ws' := [(l2, .inr (0, [.int m2, .ref df, .int 0]))]) [0] rfl
  have hDc := hD.sub (ws' := [(l2, .inr (0, [.int m2, .ref df, .int 0]))]) [0] (by decide) rfl
  have hFc := va_free (wc := [(l2, .inr (0, [.int m2, .ref df, .int 0]))]) hD hS hA [0] rfl
  refine g_Vi (As := []) (rest := [.int 0]) CF (c_Jx4a65c_size_8abf5 l D cI cJ cO df s.heap.size l2 m2 df 0 ) (cwV 0 hts gX0_insert_Jx4a65c_size_8abf5 rfl rfl rfl (by decide +kernel) ⟨Nat.le_of_ble_eq_true rfl, Nat.le_of_ble_eq_true rfl⟩) (va_recv hK hP (ci := 0) (q0 := 0) rfl rfl) hPc hK hDc hV hH hS hFc rfl hl.1 rfl (Nat.le_of_ble_eq_true rfl) dX0_insert_4 ⟨Nat.le_of_ble_eq_true rfl, Nat.le_of_ble_eq_true rfl⟩ (fun r_4 w1 H1 locs1 hq hP1 hD1 hk hS hz => ?_)
  obtain ⟨rfl, hr_4⟩ := hq
  have hP := g_keepR hP hD [0] rfl hk hP1
  clear hPc hDc hFc hP1 hD1 hk hz
  generalize H1 = H at hP hS ⊢
  have hP : va_P D ccl (([(l2, .inr (0, [.int m2, .ref df, .int 0]))] : va_W) ++ scL (scJ cI SA SB mc ms mw) (List.range N)) H := hP
  have hD : va_D A (([(l2, .inr (0, [.int m2, .ref df, .int 0]))] : va_W) ++ scL (scJ cI SA SB mc ms mw) (List.range N)) := hD
  subst hr_4
  refine lv_icmp_ge (tgt := 31) hx hb dX0_insert_7 (by decide) (fun c_7 => ?_) (fun c_7 => ?_)
  · refine lv_aload_n hx hb dX0_insert_31 rfl (lv_at hl 1 rfl) ?_
    refine lv_iload_n hx hb dX0_insert_32 rfl (lv_at hl 0 rfl) ?_
    refine lv_aload_n hx hb dX0_insert_33 rfl (lv_at hl 2 rfl) ?_
    have hPc := hP.part (X := [(l2, .inr (0, [.int m2, .ref df, .int 0]))]) (cx := [(l2, .inr (0, [.int m2, .ref df, .int (nI 0)]))]) [0] rfl
    have hDc := hD.part (X := [(l2, .inr (0, [.int m2, .ref df, .int 0]))]) (cx := [(l2, .inr (0, [.int m2, .ref df, .int (nI 0)]))]) [0] (by decide) rfl
    have hFc := va_freeP (X := [(l2, .inr (0, [.int m2, .ref df, .int 0]))]) (cx := [(l2, .inr (0, [.int m2, .ref df, .int (nI 0)]))]) hD hS hA [0] rfl
    refine g_Vv (As := [.int 0, .ref (SA j)]) (rest := []) CF (c_Jx4a65c_add_7a177_e l D cI cJ cO df H.size l2 m2 (scL (scJ cI SA SB mc ms mw) (List.range N)) (SA j) (inT_scL (rgm hj))) (cwV 2 hts gX0_insert_Jx4a65c_add_7a177 rfl rfl rfl (by decide +kernel) ⟨Nat.le_of_ble_eq_true rfl, Nat.le_of_ble_eq_true rfl⟩) (va_recv hK hP (ci := 0) (q0 := 0) rfl rfl) hPc hK hDc hV hH hS hFc rfl hl.1 rfl (Nat.le_of_ble_eq_true rfl) dX0_insert_34 ⟨Nat.le_of_ble_eq_true rfl, Nat.le_of_ble_eq_true rfl⟩ (fun w1 H1 locs1 hq hP1 hD1 hk hS hz => ?_)
    obtain ⟨q2, rfl⟩ := hq
    obtain ⟨hP, hD⟩ := g_joinP (X := [(l2, .inr (0, [.int m2, .ref df, .int 0]))]) (cx := [(l2, .inr (0, [.int m2, .ref df, .int (nI 0)]))]) (rx := [(l2, .inr (0, [.int (m2 + 1), .ref q2, .int (nI 1)])), (q2, .inl (cO, 10, .inr (.inr (.inr (.inr (insF (fun _ => none) 0 0 (SA j)))))))]) (X' := [(l2, .inr (0, [.int (m2 + 1), .ref q2, .int (nI 1)])), (q2, .inl (cO, 10, .inr (.inr (.inr (.inr (insF (fun _ => none) 0 0 (SA j)))))))]) hP hD hk hFc hP1 hD1 [0] [] [0, 1] rfl rfl (by decide) (by decide) (by decide) rfl
    clear hPc hDc hFc hP1 hD1 hk hz
    generalize H1 = H at hP hS ⊢
    have hP : va_P D ccl (([(l2, .inr (0, [.int (m2 + 1), .ref q2, .int (nI 1)])), (q2, .inl (cO, 10, .inr (.inr (.inr (.inr (insF (fun _ => none) 0 0 (SA j)))))))] : va_W) ++ (scL (scJ cI SA SB mc ms mw) (List.range N))) H := hP
    have hD : va_D A (([(l2, .inr (0, [.int (m2 + 1), .ref q2, .int (nI 1)])), (q2, .inl (cO, 10, .inr (.inr (.inr (.inr (insF (fun _ => none) 0 0 (SA j)))))))] : va_W) ++ (scL (scJ cI SA SB mc ms mw) (List.range N))) := hD
    refine g_vret hx hb hr hlk hP hK hD hS (Nat.le_of_ble_eq_true rfl) (Nat.le_of_ble_eq_true rfl) dX0_insert_37 ?_
    exact ⟨_, rfl⟩
  · exact absurd c_7 (by decide)

set_option maxHeartbeats 4000000 in
set_option maxRecDepth 100000 in
theorem c_X0_putInOrder (l : Launch) (D : va_G) (cI cJ cO : ClassId) (df sz : Nat) (h0 : Nat) (lh : Nat) (er : Nat) (md : Int32) (C : Nat) (fr : Nat → Option Nat) (mo : Nat → Int32) (SA : Nat → Nat) (SB : Nat → Nat) (mc : Nat → Int32) (ms : Nat → Int32) (mw : Nat → Int32) (N : Nat) (hC : C ≤ 8) (hN : N ≤ 8) (hfr : ∀ k, k < C → fr k = some (SA (gN (mo k)))) (hO : ∀ i, i < C → gN (mo i) < N ∧ mo i = nI (gN (mo i))) (hiM : ∀ i j, i < C → j < C → gN (mo i) = gN (mo j) → i = j) (hc : isC mc) (hC0 : 0 < C) : MetI l yX0_putInOrder wsX0_putInOrder ({ frames := 5, cells := 2, slots := 13, locals := 119 } : Room) D (gTY cI cJ cO) df (([(h0, .inr (1, [.ref lh])), (lh, .inr (0, [.int md, .ref er, .int (nI C)])), (er, .inl (cO, 10, .inr (.inr (.inr (.inr fr)))))] : va_W) ++ scL (scJ cI SA SB mc ms mw) (List.range N)) sz [.ref h0] (fun (r : Int32) (wZ : va_W) => ∃ (l2 : Nat), ∃ (q2 : Nat), ∃ (m2 : Int32), ∃ (f2 : Nat → Option Nat), wZ = ([(h0, .inr (1, [.ref l2])), (l2, .inr (0, [.int m2, .ref q2, .int (nI C)])), (q2, .inl (cO, 10, .inr (.inr (.inr (.inr f2)))))] : va_W) ++ scL (scJ cI SA SB mc ms mw) (List.range N) ∧ r = nI (arN mc mo C C) ∧ (∀ k, k < C → f2 k = some (SA (gN (arO mc mo C C k))) ∧ ∃ j, j < C ∧ arO mc mo C C k = mo j) ∧ (∀ i j, i < C → j < C → gN (arO mc mo C C i) = gN (arO mc mo C C j) → i = j)) := by
  refine g_of (cc := cX0_putInOrder) (nL := 4) (ret := (some .int)) (D := D) (TY := (gTY cI cJ cO)) (df := df) (Qc := fun A => va_Qi (fun (r : Int32) (wZ : va_W) => ∃ (l2 : Nat), ∃ (q2 : Nat), ∃ (m2 : Int32), ∃ (f2 : Nat → Option Nat), wZ = ([(h0, .inr (1, [.ref l2])), (l2, .inr (0, [.int m2, .ref q2, .int (nI C)])), (q2, .inl (cO, 10, .inr (.inr (.inr (.inr f2)))))] : va_W) ++ scL (scJ cI SA SB mc ms mw) (List.range N) ∧ r = nI (arN mc mo C C) ∧ (∀ k, k < C → f2 k = some (SA (gN (arO mc mo C C k))) ∧ ∃ j, j < C ∧ arO mc mo C C k = mo j) ∧ (∀ i j, i < C → j < C → gN (arO mc mo C C i) = gN (arO mc mo C C j) → i = j)) (gB D (gTY cI cJ cO) A) A) (by decide +kernel) rfl (Nat.le_of_ble_eq_true rfl) ?_
  intro p e s m below meth c ls A hsz C0 hin hl
  obtain ⟨CF, hr, hlk, hA, hS, hP, hK, hD, hV, hH⟩ := C0
  have CF : CallFix p m c cX0_putInOrder 4 s _ wsX0_putInOrder RX0 := CF
  obtain ⟨hx, hb, hml, hown, hts⟩ := id CF
  subst hsz
  have hclassLink_RX0_9 : (Cond.classLink RX0 9 RJx4a65c).before _ s = true := hts _ (List.mem_of_getElem? (i := 1) rfl)
  have hinstantiable_RJx4a65c_3 : (Cond.instantiable RJx4a65c 3).before _ s = true := hts _ (List.mem_of_getElem? (i := 2) rfl)
  have hinitialized_RJx4a65c : (Cond.initialized RJx4a65c).before _ s = true := hts _ (List.mem_of_getElem? (i := 3) rfl)
  have hmethodLink_RX0_11 : (Cond.methodLink RX0 11 yJx4a65c_init_da8c8).before _ s = true := hts _ (List.mem_of_getElem? (i := 6) rfl)
  have hinstanceMethod_yJx4a65c_init_da8c8 : (Cond.instanceMethod yJx4a65c_init_da8c8).before _ s = true := hts _ (List.mem_of_getElem? (i := 7) rfl)
  have hfieldLink_RX0_12 : (Cond.fieldLink RX0 12 "TapLoom$Chain" "members" "Ljava/util/ArrayList;").before _ s = true := hts _ (List.mem_of_getElem? (i := 4) rfl)
  have hmethodLink_RX0_18 : (Cond.methodLink RX0 18 yJx4a65c_size_8abf5).before _ s = true := hts _ (List.mem_of_getElem? (i := 23) rfl)
  have hmethodLink_RX0_22 : (Cond.methodLink RX0 22 yJx4a65c_get_915e3).before _ s = true := hts _ (List.mem_of_getElem? (i := 28) rfl)
  have hclassLink_RX0_37 : (Cond.classLink RX0 37 "TapLoom$Section").before _ s = true := hts _ (List.mem_of_getElem? (i := 5) rfl)
  have hmethodLink_RX0_39 : (Cond.methodLink RX0 39 yX0_insert).before _ s = true := hts _ (List.mem_of_getElem? (i := 44) rfl)
  have inJx4a65c : ∀ w ∈ u_ws RJx4a65c TJx4a65c 3, w ∈ wsX0_putInOrder := fun w h => (List.mem_cons_of_mem _ (List.mem_append_left _ (List.mem_append_left _ (List.mem_append_right _ h))))
  have inX0 : ∀ w ∈ u_ws RX0 TX0 1, w ∈ wsX0_putInOrder := fun w h => (List.mem_cons_of_mem _ (List.mem_append_left _ (List.mem_append_right _ h)))
  have hP : va_P D ccl (([(h0, .inr (1, [.ref lh])), (lh, .inr (0, [.int md, .ref er, .int (nI C)])), (er, .inl (cO, 10, .inr (.inr (.inr (.inr fr)))))] : va_W) ++ scL (scJ cI SA SB mc ms mw) (List.range N)) s.heap := hP
  have hl : lv_has ls 4 [(0, .ref h0)] := hl
  have hO8 : ∀ i, i < C → gN (mo i) < 8 := fun i hi => Nat.lt_of_lt_of_le (hO i hi).1 hN
  refine va_new (ci := 0) (fs := [.int 0, .null, .int 0]) (C := RJx4a65c) (T := TJx4a65c) (N := 3) hx hb hts inJx4a65c tyJx4a65c tyJx4a65c_ok hown hclassLink_RX0_9 hinstantiable_RJx4a65c_3 hinitialized_RJx4a65c hK hP hD hS hA rfl (fun j hj => by rcases (show j = 0 ∨ j = 1 ∨ j = 2 by omega) with rfl | rfl | rfl <;> rfl) (Nat.le_of_ble_eq_true rfl) (Nat.le_of_ble_eq_true rfl) dX0_putInOrder_0 (fun l2 H hP hD hS => ?_)
  have hP := hP.perm9 (tl_perm (X := [(h0, .inr (1, [.ref lh])), (lh, .inr (0, [.int md, .ref er, .int (nI C)])), (er, .inl (cO, 10, .inr (.inr (.inr (.inr fr)))))]) (c := [(l2, .inr (0, [.int 0, .null, .int 0]))]))
  have hD := hD.perm9 (tl_perm (X := [(h0, .inr (1, [.ref lh])), (lh, .inr (0, [.int md, .ref er, .int (nI C)])), (er, .inl (cO, 10, .inr (.inr (.inr (.inr fr)))))]) (c := [(l2, .inr (0, [.int 0, .null, .int 0]))]))
  have hP : va_P D ccl (([(h0, .inr (1, [.ref lh])), (lh, .inr (0, [.int md, .ref er, .int (nI C)])), (er, .inl (cO, 10, .inr (.inr (.inr (.inr fr))))), (l2, .inr (0, [.int 0, .null, .int 0]))] : va_W) ++ scL (scJ cI SA SB mc ms mw) (List.range N)) H := hP
  have hD : va_D A (([(h0, .inr (1, [.ref lh])), (lh, .inr (0, [.int md, .ref er, .int (nI C)])), (er, .inl (cO, 10, .inr (.inr (.inr (.inr fr))))), (l2, .inr (0, [.int 0, .null, .int 0]))] : va_W) ++ scL (scJ cI SA SB mc ms mw) (List.range N)) := hD
  refine lv_dup hx hb dX0_putInOrder_3 rfl ?_
  have hPc := hP.sub (ws' := [(l2, .inr (0, [.int 0, va_rf none, .int 0]))]) [3] rfl
  have hDc := hD.sub (ws' := [(l2, .inr (0, [.int 0, va_rf none, .int 0]))]) [3] (by decide) rfl
  have hFc := va_free (wc := [(l2, .inr (0, [.int 0, va_rf none, .int 0]))]) hD hS hA [3] rfl
  refine g_Iv (As := []) (rest := [.ref l2]) CF (c_Jx4a65c_init_da8c8 l D cI cJ cO df H.size l2 0 none 0 ) (cwI 0 hts gX0_putInOrder_Jx4a65c_init_da8c8 rfl rfl rfl hinitialized_RJx4a65c hmethodLink_RX0_11 hinstanceMethod_yJx4a65c_init_da8c8 rfl (by decide +kernel) ⟨Nat.le_of_ble_eq_true rfl, Nat.le_of_ble_eq_true rfl⟩)  hPc hK hDc hV hH hS hFc rfl hl.1 rfl (Nat.le_of_ble_eq_true rfl) dX0_putInOrder_4 ⟨Nat.le_of_ble_eq_true rfl, Nat.le_of_ble_eq_true rfl⟩ (fun w1 H1 locs1 hq hP1 hD1 hk hS hz => ?_)
  obtain rfl := hq
  obtain ⟨hP, hD⟩ := g_joinQ (X := [(h0, .inr (1, [.ref lh])), (lh, .inr (0, [.int md, .ref er, .int (nI C)])), (er, .inl (cO, 10, .inr (.inr (.inr (.inr fr))))), (l2, .inr (0, [.int 0, .null, .int 0]))]) (X' := [(h0, .inr (1, [.ref lh])), (lh, .inr (0, [.int md, .ref er, .int (nI C)])), (er, .inl (cO, 10, .inr (.inr (.inr (.inr fr))))), (l2, .inr (0, [.int 0, .ref df, .int 0]))]) hP hD hk hFc hP1 hD1 [3] [0, 1, 2] [0, 1, 2, 3] rfl rfl (by decide) (by decide) (by decide) rfl
  clear hPc hDc hFc hP1 hD1 hk hz
  generalize H1 = H at hP hS ⊢
  have hP : va_P D ccl (([(h0, .inr (1, [.ref lh])), (lh, .inr (0, [.int md, .ref er, .int (nI C)])), (er, .inl (cO, 10, .inr (.inr (.inr (.inr fr))))), (l2, .inr (0, [.int 0, .ref df, .int 0]))] : va_W) ++ scL (scJ cI SA SB mc ms mw) (List.range N)) H := hP
  have hD : va_D A (([(h0, .inr (1, [.ref lh])), (lh, .inr (0, [.int md, .ref er, .int (nI C)])), (er, .inl (cO, 10, .inr (.inr (.inr (.inr fr))))), (l2, .inr (0, [.int 0, .ref df, .int 0]))] : va_W) ++ scL (scJ cI SA SB mc ms mw) (List.range N)) := hD
  refine lv_astore_n (lv' := [(1, .ref l2), (0, .ref h0)]) hx hb dX0_putInOrder_7 rfl hl (by decide) rfl (fun ls hl => ?_)
  refine lv_iconst (v := 0) hx hb dX0_putInOrder_8 (by decide) ?_
  refine lv_istore_n (lv' := [(2, .int 0), (1, .ref l2), (0, .ref h0)]) hx hb dX0_putInOrder_9 rfl hl (by decide) rfl (fun ls hl => ?_)
  refine lv_iload_n hx hb dX0_putInOrder_10 rfl (lv_at hl 0 rfl) ?_
  refine lv_aload_n hx hb dX0_putInOrder_11 rfl (lv_at hl 2 rfl) ?_
  refine va_get (D := D) (ci := 1) (v := .ref lh) (C := RX0) (T := TX0) (N := 1) hx hb hts inX0 hown hK hP 0 rfl rfl 0 (by decide) hfieldLink_RX0_12 (fun _ h9 => h9) rfl dX0_putInOrder_12 ?_
  have hPc := hP.sub (ws' := [(lh, .inr (0, [.int md, .ref er, .int (nI C)]))]) [1] rfl
  have hDc := hD.sub (ws' := [(lh, .inr (0, [.int md, .ref er, .int (nI C)]))]) [1] (by decide) rfl
  have hFc := va_free (wc := [(lh, .inr (0, [.int md, .ref er, .int (nI C)]))]) hD hS hA [1] rfl
  refine g_Vi (As := []) (rest := [.int 0]) CF (c_Jx4a65c_size_8abf5 l D cI cJ cO df H.size lh md er (nI C) ) (cwV 0 hts gX0_putInOrder_Jx4a65c_size_8abf5 rfl rfl rfl (by decide +kernel) ⟨Nat.le_of_ble_eq_true rfl, Nat.le_of_ble_eq_true rfl⟩) (va_recv hK hP (ci := 0) (q0 := 1) rfl rfl) hPc hK hDc hV hH hS hFc rfl hl.1 rfl (Nat.le_of_ble_eq_true rfl) dX0_putInOrder_15 ⟨Nat.le_of_ble_eq_true rfl, Nat.le_of_ble_eq_true rfl⟩ (fun r_15 w1 H1 locs1 hq hP1 hD1 hk hS hz => ?_)
  obtain ⟨rfl, hr_15⟩ := hq
  have hP := g_keepR hP hD [1] rfl hk hP1
  clear hPc hDc hFc hP1 hD1 hk hz
  generalize H1 = H at hP hS ⊢
  have hP : va_P D ccl (([(h0, .inr (1, [.ref lh])), (lh, .inr (0, [.int md, .ref er, .int (nI C)])), (er, .inl (cO, 10, .inr (.inr (.inr (.inr fr))))), (l2, .inr (0, [.int 0, .ref df, .int 0]))] : va_W) ++ scL (scJ cI SA SB mc ms mw) (List.range N)) H := hP
  have hD : va_D A (([(h0, .inr (1, [.ref lh])), (lh, .inr (0, [.int md, .ref er, .int (nI C)])), (er, .inl (cO, 10, .inr (.inr (.inr (.inr fr))))), (l2, .inr (0, [.int 0, .ref df, .int 0]))] : va_W) ++ scL (scJ cI SA SB mc ms mw) (List.range N)) := hD
  subst hr_15
  refine lv_icmp_ge (tgt := 42) hx hb dX0_putInOrder_18 (by decide) (fun c_18 => ?_) (fun c_18 => ?_)
  · have c_18 : C ≤ 0 := g_le (a := C) (b := 0) c_18 (by omega) (by omega)
    omega
  · have c_18 : 0 < C := g_nle (a := C) (b := 0) c_18 (by omega) (by omega)
    refine lv_aload_n hx hb dX0_putInOrder_21 rfl (lv_at hl 1 rfl) ?_
    refine lv_aload_n hx hb dX0_putInOrder_22 rfl (lv_at hl 2 rfl) ?_
    refine va_get (D := D) (ci := 1) (v := .ref lh) (C := RX0) (T := TX0) (N := 1) hx hb hts inX0 hown hK hP 0 rfl rfl 0 (by decide) hfieldLink_RX0_12 (fun _ h9 => h9) rfl dX0_putInOrder_23 ?_
    refine lv_iload_n hx hb dX0_putInOrder_26 rfl (lv_at hl 0 rfl) ?_
    have hPc := hP.sub (ws' := [(lh, .inr (0, [.int md, .ref er, .int (nI C)])), (er, .inl (cO, 10, .inr (.inr (.inr (.inr fr)))))]) [1, 2] rfl
    have hDc := hD.sub (ws' := [(lh, .inr (0, [.int md, .ref er, .int (nI C)])), (er, .inl (cO, 10, .inr (.inr (.inr (.inr fr)))))]) [1, 2] (by decide) rfl
    have hFc := va_free (wc := [(lh, .inr (0, [.int md, .ref er, .int (nI C)])), (er, .inl (cO, 10, .inr (.inr (.inr (.inr fr)))))]) hD hS hA [1, 2] rfl
    refine g_Vr (As := [.int 0]) (rest := [.ref l2]) CF (c_Jx4a65c_get_915e3 l D cI cJ cO df H.size lh md er C fr 0 (SA (gN (mo 0))) hC0 (by omega) (hfr 0 hC0)) (cwV 1 hts gX0_putInOrder_Jx4a65c_get_915e3 rfl rfl rfl (by decide +kernel) ⟨Nat.le_of_ble_eq_true rfl, Nat.le_of_ble_eq_true rfl⟩) (va_recv hK hP (ci := 0) (q0 := 1) rfl rfl) hPc hK hDc hV hH hS hFc rfl hl.1 rfl (Nat.le_of_ble_eq_true rfl) dX0_putInOrder_27 ⟨Nat.le_of_ble_eq_true rfl, Nat.le_of_ble_eq_true rfl⟩ (fun w1 H1 locs1 hq hP1 hD1 hk hS hz => ?_)
    obtain ⟨w1, a1⟩ := w1
    obtain ⟨ew1, hr_27⟩ := hq
    dsimp only at ew1 hP1 hD1 hr_27
    subst ew1
    have hP := g_keepR hP hD [1, 2] rfl hk hP1
    clear hPc hDc hFc hP1 hD1 hk hz
    generalize H1 = H at hP hS ⊢
    have hP : va_P D ccl (([(h0, .inr (1, [.ref lh])), (lh, .inr (0, [.int md, .ref er, .int (nI C)])), (er, .inl (cO, 10, .inr (.inr (.inr (.inr fr))))), (l2, .inr (0, [.int 0, .ref df, .int 0]))] : va_W) ++ scL (scJ cI SA SB mc ms mw) (List.range N)) H := hP
    have hD : va_D A (([(h0, .inr (1, [.ref lh])), (lh, .inr (0, [.int md, .ref er, .int (nI C)])), (er, .inl (cO, 10, .inr (.inr (.inr (.inr fr))))), (l2, .inr (0, [.int 0, .ref df, .int 0]))] : va_W) ++ scL (scJ cI SA SB mc ms mw) (List.range N)) := hD
    have hr_27 := hr_27.symm
    subst hr_27
    refine va_castS hx hb hown hclassLink_RX0_37 (gS4 hK) ((inT_scL (rgm (hO 0 hC0).1)).recv (X := [(h0, .inr (1, [.ref lh])), (lh, .inr (0, [.int md, .ref er, .int (nI C)])), (er, .inl (cO, 10, .inr (.inr (.inr (.inr fr))))), (l2, .inr (0, [.int 0, .ref df, .int 0]))]) hK hP) dX0_putInOrder_30 ?_
    have hPc := hP.part (X := [(h0, .inr (1, [.ref lh])), (lh, .inr (0, [.int md, .ref er, .int (nI C)])), (er, .inl (cO, 10, .inr (.inr (.inr (.inr fr))))), (l2, .inr (0, [.int 0, .ref df, .int 0]))]) (cx := [(l2, .inr (0, [.int 0, .ref df, .int 0]))]) [3] rfl
    have hDc := hD.part (X := [(h0, .inr (1, [.ref lh])), (lh, .inr (0, [.int md, .ref er, .int (nI C)])), (er, .inl (cO, 10, .inr (.inr (.inr (.inr fr))))), (l2, .inr (0, [.int 0, .ref df, .int 0]))]) (cx := [(l2, .inr (0, [.int 0, .ref df, .int 0]))]) [3] (by decide) rfl
    have hFc := va_freeP (X := [(h0, .inr (1, [.ref lh])), (lh, .inr (0, [.int md, .ref er, .int (nI C)])), (er, .inl (cO, 10, .inr (.inr (.inr (.inr fr))))), (l2, .inr (0, [.int 0, .ref df, .int 0]))]) (cx := [(l2, .inr (0, [.int 0, .ref df, .int 0]))]) hD hS hA [3] rfl
    refine g_Sv (As := [.ref l2, .ref (SA (gN (mo 0)))]) (rest := []) CF (c_X0_insert_e l D cI cJ cO df H.size l2 0 (gN (mo 0)) SA SB mc ms mw N ((hO 0 hC0).1)) (va_cwS 2 hts gX0_putInOrder_X0_insert rfl rfl rfl (by decide +kernel) ⟨Nat.le_of_ble_eq_true rfl, Nat.le_of_ble_eq_true rfl⟩)  hPc hK hDc hV hH hS hFc rfl hl.1 rfl (Nat.le_of_ble_eq_true rfl) dX0_putInOrder_33 ⟨Nat.le_of_ble_eq_true rfl, Nat.le_of_ble_eq_true rfl⟩ (fun w1 H1 locs1 hq hP1 hD1 hk hS hz => ?_)
    obtain ⟨q2, rfl⟩ := hq
    obtain ⟨hP, hD⟩ := g_joinP (X := [(h0, .inr (1, [.ref lh])), (lh, .inr (0, [.int md, .ref er, .int (nI C)])), (er, .inl (cO, 10, .inr (.inr (.inr (.inr fr))))), (l2, .inr (0, [.int 0, .ref df, .int 0]))]) (cx := [(l2, .inr (0, [.int 0, .ref df, .int 0]))]) (rx := [(l2, .inr (0, [.int (0 + 1), .ref q2, .int (nI 1)])), (q2, .inl (cO, 10, .inr (.inr (.inr (.inr (insF (fun _ => none) 0 0 (SA (gN (mo 0)))))))))]) (X' := [(h0, .inr (1, [.ref lh])), (lh, .inr (0, [.int md, .ref er, .int (nI C)])), (er, .inl (cO, 10, .inr (.inr (.inr (.inr fr))))), (l2, .inr (0, [.int (0 + 1), .ref q2, .int (nI 1)])), (q2, .inl (cO, 10, .inr (.inr (.inr (.inr (insF (fun _ => none) 0 0 (SA (gN (mo 0)))))))))]) hP hD hk hFc hP1 hD1 [3] [0, 1, 2] [0, 1, 2, 3, 4] rfl rfl (by decide) (by decide) (by decide) rfl
    clear hPc hDc hFc hP1 hD1 hk hz
    generalize H1 = H at hP hS ⊢
    have hP : va_P D ccl (([(h0, .inr (1, [.ref lh])), (lh, .inr (0, [.int md, .ref er, .int (nI C)])), (er, .inl (cO, 10, .inr (.inr (.inr (.inr fr))))), (l2, .inr (0, [.int (0 + 1), .ref q2, .int (nI 1)])), (q2, .inl (cO, 10, .inr (.inr (.inr (.inr (insF (fun _ => none) 0 0 (SA (gN (mo 0)))))))))] : va_W) ++ scL (scJ cI SA SB mc ms mw) (List.range N)) H := hP
    have hD : va_D A (([(h0, .inr (1, [.ref lh])), (lh, .inr (0, [.int md, .ref er, .int (nI C)])), (er, .inl (cO, 10, .inr (.inr (.inr (.inr fr))))), (l2, .inr (0, [.int (0 + 1), .ref q2, .int (nI 1)])), (q2, .inl (cO, 10, .inr (.inr (.inr (.inr (insF (fun _ => none) 0 0 (SA (gN (mo 0)))))))))] : va_W) ++ scL (scJ cI SA SB mc ms mw) (List.range N)) := hD
    refine lv_iinc (v := nI (0 + 1)) (lv' := [(2, .int (nI (0 + 1))), (1, .ref l2), (0, .ref h0)]) hx hb dX0_putInOrder_36 hl (k := 0) rfl (by exact nI_1 _) (by decide) rfl (fun ls hl => ?_)
    refine lv_goto (tgt := 10) hx hb dX0_putInOrder_39 (by decide) ?_
    refine W.widen (k := 2) (n := 13) (Nat.le_refl _) (Nat.le_refl _) ?_
    refine g_while (σ := Nat × (Nat → Option Nat) × (Nat → Nat) × Int32) (st := []) (nL := 4) (fun z => match z with | (i, f2, sg, m2) => ([(h0, .inr (1, [.ref lh])), (lh, .inr (0, [.int md, .ref er, .int (nI C)])), (er, .inl (cO, 10, .inr (.inr (.inr (.inr fr))))), (l2, .inr (0, [.int m2, .ref q2, .int (nI i)])), (q2, .inl (cO, 10, .inr (.inr (.inr (.inr f2)))))] : va_W) ++ scL (scJ cI SA SB mc ms mw) (List.range N))
      (fun z => match z with | (i, f2, sg, m2) => [(0, .ref h0), (1, .ref l2), (2, .int (nI i))])
      (fun z => match z with | (i, f2, sg, m2) => 0 < i ∧ i ≤ C ∧ ordS mc mo SA f2 sg i)
      (fun z => match z with | (i, f2, sg, m2) => C - i) (fun z => match z with | (i, f2, sg, m2) => 2) (fun z => match z with | (i, f2, sg, m2) => 13)
      ?_ (1, (insF (fun _ => none) 0 0 (SA (gN (mo 0)))), (fun _ => 0), (0 + 1)) ⟨by omega, by omega, ord_1⟩ hP hD hS (lv_sub hl [2, 1, 0] rfl)
    rintro ⟨i, f2, sg, m2⟩ hI H locs ls hP hD hS hl ih
    have hI : 0 < i ∧ i ≤ C ∧ ordS mc mo SA f2 sg i := hI
    have hP : va_P D ccl (([(h0, .inr (1, [.ref lh])), (lh, .inr (0, [.int md, .ref er, .int (nI C)])), (er, .inl (cO, 10, .inr (.inr (.inr (.inr fr))))), (l2, .inr (0, [.int m2, .ref q2, .int (nI i)])), (q2, .inl (cO, 10, .inr (.inr (.inr (.inr f2)))))] : va_W) ++ scL (scJ cI SA SB mc ms mw) (List.range N)) H := hP
    have hD : va_D A (([(h0, .inr (1, [.ref lh])), (lh, .inr (0, [.int md, .ref er, .int (nI C)])), (er, .inl (cO, 10, .inr (.inr (.inr (.inr fr))))), (l2, .inr (0, [.int m2, .ref q2, .int (nI i)])), (q2, .inl (cO, 10, .inr (.inr (.inr (.inr f2)))))] : va_W) ++ scL (scJ cI SA SB mc ms mw) (List.range N)) := hD
    have hl : lv_has ls 4 [(0, .ref h0), (1, .ref l2), (2, .int (nI i))] := hl
    change W p l e _ s m _ below meth c H locs 2 13 _ (F0 m 10 ls [])
    have ih_10 := ih
    clear ih
    obtain ⟨hi0, hi, hs9⟩ := hI
    refine lv_iload_n hx hb dX0_putInOrder_10 rfl (lv_at hl 2 rfl) ?_
    refine lv_aload_n hx hb dX0_putInOrder_11 rfl (lv_at hl 0 rfl) ?_
    refine va_get (D := D) (ci := 1) (v := .ref lh) (C := RX0) (T := TX0) (N := 1) hx hb hts inX0 hown hK hP 0 rfl rfl 0 (by decide) hfieldLink_RX0_12 (fun _ h9 => h9) rfl dX0_putInOrder_12 ?_
    have hPc := hP.sub (ws' := [(lh, .inr (0, [.int md, .ref er, .int (nI C)]))]) [1] rfl
    have hDc := hD.sub (ws' := [(lh, .inr (0, [.int md, .ref er, .int (nI C)]))]) [1] (by decide) rfl
    have hFc := va_free (wc := [(lh, .inr (0, [.int md, .ref er, .int (nI C)]))]) hD hS hA [1] rfl
    refine g_Vi (As := []) (rest := [.int (nI i)]) CF (c_Jx4a65c_size_8abf5 l D cI cJ cO df H.size lh md er (nI C) ) (cwV 0 hts gX0_putInOrder_Jx4a65c_size_8abf5 rfl rfl rfl (by decide +kernel) ⟨Nat.le_of_ble_eq_true rfl, Nat.le_of_ble_eq_true rfl⟩) (va_recv hK hP (ci := 0) (q0 := 1) rfl rfl) hPc hK hDc hV hH hS hFc rfl hl.1 rfl (Nat.le_of_ble_eq_true rfl) dX0_putInOrder_15 ⟨Nat.le_of_ble_eq_true rfl, Nat.le_of_ble_eq_true rfl⟩ (fun r_15 w1 H1 locs1 hq hP1 hD1 hk hS hz => ?_)
    obtain ⟨rfl, hr_15⟩ := hq
    have hP := g_keepR hP hD [1] rfl hk hP1
    clear hPc hDc hFc hP1 hD1 hk hz
    generalize H1 = H at hP hS ⊢
    have hP : va_P D ccl (([(h0, .inr (1, [.ref lh])), (lh, .inr (0, [.int md, .ref er, .int (nI C)])), (er, .inl (cO, 10, .inr (.inr (.inr (.inr fr))))), (l2, .inr (0, [.int m2, .ref q2, .int (nI i)])), (q2, .inl (cO, 10, .inr (.inr (.inr (.inr f2)))))] : va_W) ++ scL (scJ cI SA SB mc ms mw) (List.range N)) H := hP
    have hD : va_D A (([(h0, .inr (1, [.ref lh])), (lh, .inr (0, [.int md, .ref er, .int (nI C)])), (er, .inl (cO, 10, .inr (.inr (.inr (.inr fr))))), (l2, .inr (0, [.int m2, .ref q2, .int (nI i)])), (q2, .inl (cO, 10, .inr (.inr (.inr (.inr f2)))))] : va_W) ++ scL (scJ cI SA SB mc ms mw) (List.range N)) := hD
    subst hr_15
    refine lv_icmp_ge (tgt := 42) hx hb dX0_putInOrder_18 (by decide) (fun c_18 => ?_) (fun c_18 => ?_)
    · have c_18 : C ≤ i := g_le (a := C) (b := i) c_18 (by omega) (by omega)
      have hiC : i = C := by omega
      rw [hiC] at hP hD hs9
      have hP : va_P D ccl (([(h0, .inr (1, [.ref lh])), (lh, .inr (0, [.int md, .ref er, .int (nI C)])), (er, .inl (cO, 10, .inr (.inr (.inr (.inr fr))))), (l2, .inr (0, [.int m2, .ref q2, .int (nI C)])), (q2, .inl (cO, 10, .inr (.inr (.inr (.inr f2)))))] : va_W) ++ scL (scJ cI SA SB mc ms mw) (List.range N)) H := hP
      have hD : va_D A (([(h0, .inr (1, [.ref lh])), (lh, .inr (0, [.int md, .ref er, .int (nI C)])), (er, .inl (cO, 10, .inr (.inr (.inr (.inr fr))))), (l2, .inr (0, [.int m2, .ref q2, .int (nI C)])), (q2, .inl (cO, 10, .inr (.inr (.inr (.inr f2)))))] : va_W) ++ scL (scJ cI SA SB mc ms mw) (List.range N)) := hD
      have hl : lv_has ls 4 [(0, .ref h0), (1, .ref l2), (2, .int (nI C))] := by rw [hiC] at hl; exact hl
      refine lv_iconst (v := 0) hx hb dX0_putInOrder_42 (by decide) ?_
      refine lv_istore_n (lv' := [(2, .int 0), (0, .ref h0), (1, .ref l2)]) hx hb dX0_putInOrder_43 rfl hl (by decide) rfl (fun ls hl => ?_)
      refine lv_iconst (v := 0) hx hb dX0_putInOrder_44 (by decide) ?_
      refine lv_istore_n (lv' := [(3, .int 0), (2, .int 0), (0, .ref h0), (1, .ref l2)]) hx hb dX0_putInOrder_45 rfl hl (by decide) rfl (fun ls hl => ?_)
      refine W.widen (k := 2) (n := 13) (Nat.le_refl _) (Nat.le_refl _) ?_
      refine g_while (σ := Nat) (st := []) (nL := 4) (fun k => ([(h0, .inr (1, [.ref lh])), (lh, .inr (0, [.int md, .ref er, .int (nI C)])), (er, .inl (cO, 10, .inr (.inr (.inr (.inr fr))))), (l2, .inr (0, [.int m2, .ref q2, .int (nI C)])), (q2, .inl (cO, 10, .inr (.inr (.inr (.inr f2)))))] : va_W) ++ scL (scJ cI SA SB mc ms mw) (List.range N))
        (fun k => [(0, .ref h0), (1, .ref l2), (2, .int (nI (arN mc mo C k))), (3, .int (nI k))])
        (fun k => k ≤ C)
        (fun k => C - k) (fun k => 2) (fun k => 13)
        ?_ 0 (Nat.zero_le C) hP hD hS (lv_sub hl [2, 3, 1, 0] rfl)
      intro k hI H locs ls hP hD hS hl ih
      have hI : k ≤ C := hI
      have hP : va_P D ccl (([(h0, .inr (1, [.ref lh])), (lh, .inr (0, [.int md, .ref er, .int (nI C)])), (er, .inl (cO, 10, .inr (.inr (.inr (.inr fr))))), (l2, .inr (0, [.int m2, .ref q2, .int (nI C)])), (q2, .inl (cO, 10, .inr (.inr (.inr (.inr f2)))))] : va_W) ++ scL (scJ cI SA SB mc ms mw) (List.range N)) H := hP
      have hD : va_D A (([(h0, .inr (1, [.ref lh])), (lh, .inr (0, [.int md, .ref er, .int (nI C)])), (er, .inl (cO, 10, .inr (.inr (.inr (.inr fr))))), (l2, .inr (0, [.int m2, .ref q2, .int (nI C)])), (q2, .inl (cO, 10, .inr (.inr (.inr (.inr f2)))))] : va_W) ++ scL (scJ cI SA SB mc ms mw) (List.range N)) := hD
      have hl : lv_has ls 4 [(0, .ref h0), (1, .ref l2), (2, .int (nI (arN mc mo C k))), (3, .int (nI k))] := hl
      change W p l e _ s m _ below meth c H locs 2 13 _ (F0 m 46 ls [])
      have ih_46 := ih
      clear ih
      
      refine lv_iload_n hx hb dX0_putInOrder_46 rfl (lv_at hl 3 rfl) ?_
      refine lv_aload_n hx hb dX0_putInOrder_47 rfl (lv_at hl 0 rfl) ?_
      refine va_get (D := D) (ci := 1) (v := .ref lh) (C := RX0) (T := TX0) (N := 1) hx hb hts inX0 hown hK hP 0 rfl rfl 0 (by decide) hfieldLink_RX0_12 (fun _ h9 => h9) rfl dX0_putInOrder_48 ?_
      have hPc := hP.sub (ws' := [(lh, .inr (0, [.int md, .ref er, .int (nI C)]))]) [1] rfl
      have hDc := hD.sub (ws' := [(lh, .inr (0, [.int md, .ref er, .int (nI C)]))]) [1] (by decide) rfl
      have hFc := va_free (wc := [(lh, .inr (0, [.int md, .ref er, .int (nI C)]))]) hD hS hA [1] rfl
      refine g_Vi (As := []) (rest := [.int (nI k)]) CF (c_Jx4a65c_size_8abf5 l D cI cJ cO df H.size lh md er (nI C) ) (cwV 0 hts gX0_putInOrder_Jx4a65c_size_8abf5 rfl rfl rfl (by decide +kernel) ⟨Nat.le_of_ble_eq_true rfl, Nat.le_of_ble_eq_true rfl⟩) (va_recv hK hP (ci := 0) (q0 := 1) rfl rfl) hPc hK hDc hV hH hS hFc rfl hl.1 rfl (Nat.le_of_ble_eq_true rfl) dX0_putInOrder_51 ⟨Nat.le_of_ble_eq_true rfl, Nat.le_of_ble_eq_true rfl⟩ (fun r_51 w1 H1 locs1 hq hP1 hD1 hk hS hz => ?_)
      obtain ⟨rfl, hr_51⟩ := hq
      have hP := g_keepR hP hD [1] rfl hk hP1
      clear hPc hDc hFc hP1 hD1 hk hz
      generalize H1 = H at hP hS ⊢
      have hP : va_P D ccl (([(h0, .inr (1, [.ref lh])), (lh, .inr (0, [.int md, .ref er, .int (nI C)])), (er, .inl (cO, 10, .inr (.inr (.inr (.inr fr))))), (l2, .inr (0, [.int m2, .ref q2, .int (nI C)])), (q2, .inl (cO, 10, .inr (.inr (.inr (.inr f2)))))] : va_W) ++ scL (scJ cI SA SB mc ms mw) (List.range N)) H := hP
      have hD : va_D A (([(h0, .inr (1, [.ref lh])), (lh, .inr (0, [.int md, .ref er, .int (nI C)])), (er, .inl (cO, 10, .inr (.inr (.inr (.inr fr))))), (l2, .inr (0, [.int m2, .ref q2, .int (nI C)])), (q2, .inl (cO, 10, .inr (.inr (.inr (.inr f2)))))] : va_W) ++ scL (scJ cI SA SB mc ms mw) (List.range N)) := hD
      subst hr_51
      refine lv_icmp_ge (tgt := 90) hx hb dX0_putInOrder_54 (by decide) (fun c_54 => ?_) (fun c_54 => ?_)
      · have c_54 : C ≤ k := g_le (a := C) (b := k) c_54 (by omega) (by omega)
        have hkC : k = C := by omega
        have hl : lv_has ls 4 [(0, .ref h0), (1, .ref l2), (2, .int (nI (arN mc mo C C))), (3, .int (nI C))] := by rw [hkC] at hl; exact hl
        refine lv_aload_n hx hb dX0_putInOrder_90 rfl (lv_at hl 0 rfl) ?_
        refine lv_aload_n hx hb dX0_putInOrder_91 rfl (lv_at hl 1 rfl) ?_
        refine va_put (D := D) (ci := 1) (v := .ref l2) (ty := .object "java/util/ArrayList") (C := RX0) (T := TX0) (N := 1) hx hb hts inX0 tyX0 tyX0_ok nmX0 hown hK hP hD hS 0 rfl rfl 0 (by decide) hfieldLink_RX0_12 (fun _ h9 => h9) rfl (by decide +kernel) rfl rfl (Nat.le_of_ble_eq_true rfl) dX0_putInOrder_92 (fun H locs hP hD hS => ?_)
        have hP : va_P D ccl (([(h0, .inr (1, [.ref l2])), (lh, .inr (0, [.int md, .ref er, .int (nI C)])), (er, .inl (cO, 10, .inr (.inr (.inr (.inr fr))))), (l2, .inr (0, [.int m2, .ref q2, .int (nI C)])), (q2, .inl (cO, 10, .inr (.inr (.inr (.inr f2)))))] : va_W) ++ scL (scJ cI SA SB mc ms mw) (List.range N)) H := hP
        have hD : va_D A (([(h0, .inr (1, [.ref l2])), (lh, .inr (0, [.int md, .ref er, .int (nI C)])), (er, .inl (cO, 10, .inr (.inr (.inr (.inr fr))))), (l2, .inr (0, [.int m2, .ref q2, .int (nI C)])), (q2, .inl (cO, 10, .inr (.inr (.inr (.inr f2)))))] : va_W) ++ scL (scJ cI SA SB mc ms mw) (List.range N)) := hD
        have hP := hP.part (X := [(h0, .inr (1, [.ref l2])), (lh, .inr (0, [.int md, .ref er, .int (nI C)])), (er, .inl (cO, 10, .inr (.inr (.inr (.inr fr))))), (l2, .inr (0, [.int m2, .ref q2, .int (nI C)])), (q2, .inl (cO, 10, .inr (.inr (.inr (.inr f2)))))]) (cx := [(h0, .inr (1, [.ref l2])), (l2, .inr (0, [.int m2, .ref q2, .int (nI C)])), (q2, .inl (cO, 10, .inr (.inr (.inr (.inr f2)))))]) [0, 3, 4] rfl
        have hD := hD.part (X := [(h0, .inr (1, [.ref l2])), (lh, .inr (0, [.int md, .ref er, .int (nI C)])), (er, .inl (cO, 10, .inr (.inr (.inr (.inr fr))))), (l2, .inr (0, [.int m2, .ref q2, .int (nI C)])), (q2, .inl (cO, 10, .inr (.inr (.inr (.inr f2)))))]) (cx := [(h0, .inr (1, [.ref l2])), (l2, .inr (0, [.int m2, .ref q2, .int (nI C)])), (q2, .inl (cO, 10, .inr (.inr (.inr (.inr f2)))))]) [0, 3, 4] (by decide) rfl
        have hP : va_P D ccl (([(h0, .inr (1, [.ref l2])), (l2, .inr (0, [.int m2, .ref q2, .int (nI C)])), (q2, .inl (cO, 10, .inr (.inr (.inr (.inr f2)))))] : va_W) ++ scL (scJ cI SA SB mc ms mw) (List.range N)) H := hP
        have hD : va_D A (([(h0, .inr (1, [.ref l2])), (l2, .inr (0, [.int m2, .ref q2, .int (nI C)])), (q2, .inl (cO, 10, .inr (.inr (.inr (.inr f2)))))] : va_W) ++ scL (scJ cI SA SB mc ms mw) (List.range N)) := hD
        refine lv_iload_n hx hb dX0_putInOrder_95 rfl (lv_at hl 2 rfl) ?_
        refine g_iret (v := nI (arN mc mo C C)) hx hb hr hlk hP hK hD hS (Nat.le_of_ble_eq_true rfl) (Nat.le_of_ble_eq_true rfl) dX0_putInOrder_96 ?_
        exact ⟨_, _, _, _, rfl, rfl, fun k hk => ⟨(ord_end hc hO8 hiM hs9 hk).2.1, sg k, (hs9 k hk).1, (ord_end hc hO8 hiM hs9 hk).1⟩, fun a b ha hb e => ord_inj hc hO8 hiM hs9 ha hb (hiM _ _ (hs9 a ha).1 (hs9 b hb).1 (by rw [(ord_end hc hO8 hiM hs9 ha).1, (ord_end hc hO8 hiM hs9 hb).1] at e; exact e))⟩
      · have c_54 : k < C := g_nle (a := C) (b := k) c_54 (by omega) (by omega)
        refine lv_iload_n hx hb dX0_putInOrder_57 rfl (lv_at hl 3 rfl) ?_
        refine lv_aload_n hx hb dX0_putInOrder_58 rfl (lv_at hl 1 rfl) ?_
        have hPc := hP.sub (ws' := [(l2, .inr (0, [.int m2, .ref q2, .int (nI C)]))]) [3] rfl
        have hDc := hD.sub (ws' := [(l2, .inr (0, [.int m2, .ref q2, .int (nI C)]))]) [3] (by decide) rfl
        have hFc := va_free (wc := [(l2, .inr (0, [.int m2, .ref q2, .int (nI C)]))]) hD hS hA [3] rfl
        refine g_Vi (As := []) (rest := [.int (nI k)]) CF (c_Jx4a65c_size_8abf5 l D cI cJ cO df H.size l2 m2 q2 (nI C) ) (cwV 0 hts gX0_putInOrder_Jx4a65c_size_8abf5 rfl rfl rfl (by decide +kernel) ⟨Nat.le_of_ble_eq_true rfl, Nat.le_of_ble_eq_true rfl⟩) (va_recv hK hP (ci := 0) (q0 := 3) rfl rfl) hPc hK hDc hV hH hS hFc rfl hl.1 rfl (Nat.le_of_ble_eq_true rfl) dX0_putInOrder_59 ⟨Nat.le_of_ble_eq_true rfl, Nat.le_of_ble_eq_true rfl⟩ (fun r_59 w1 H1 locs1 hq hP1 hD1 hk hS hz => ?_)
        obtain ⟨rfl, hr_59⟩ := hq
        have hP := g_keepR hP hD [3] rfl hk hP1
        clear hPc hDc hFc hP1 hD1 hk hz
        generalize H1 = H at hP hS ⊢
        have hP : va_P D ccl (([(h0, .inr (1, [.ref lh])), (lh, .inr (0, [.int md, .ref er, .int (nI C)])), (er, .inl (cO, 10, .inr (.inr (.inr (.inr fr))))), (l2, .inr (0, [.int m2, .ref q2, .int (nI C)])), (q2, .inl (cO, 10, .inr (.inr (.inr (.inr f2)))))] : va_W) ++ scL (scJ cI SA SB mc ms mw) (List.range N)) H := hP
        have hD : va_D A (([(h0, .inr (1, [.ref lh])), (lh, .inr (0, [.int md, .ref er, .int (nI C)])), (er, .inl (cO, 10, .inr (.inr (.inr (.inr fr))))), (l2, .inr (0, [.int m2, .ref q2, .int (nI C)])), (q2, .inl (cO, 10, .inr (.inr (.inr (.inr f2)))))] : va_W) ++ scL (scJ cI SA SB mc ms mw) (List.range N)) := hD
        subst hr_59
        refine lv_icmp_ge (tgt := 90) hx hb dX0_putInOrder_62 (by decide) (fun c_62 => ?_) (fun c_62 => ?_)
        · have c_62 : C ≤ k := g_le (a := C) (b := k) c_62 (by omega) (by omega)
          omega
        · have c_62 : k < C := g_nle (a := C) (b := k) c_62 (by omega) (by omega)
          refine lv_aload_n hx hb dX0_putInOrder_65 rfl (lv_at hl 0 rfl) ?_
          refine va_get (D := D) (ci := 1) (v := .ref lh) (C := RX0) (T := TX0) (N := 1) hx hb hts inX0 hown hK hP 0 rfl rfl 0 (by decide) hfieldLink_RX0_12 (fun _ h9 => h9) rfl dX0_putInOrder_66 ?_
          refine lv_iload_n hx hb dX0_putInOrder_69 rfl (lv_at hl 3 rfl) ?_
          have hPc := hP.sub (ws' := [(lh, .inr (0, [.int md, .ref er, .int (nI C)])), (er, .inl (cO, 10, .inr (.inr (.inr (.inr fr)))))]) [1, 2] rfl
          have hDc := hD.sub (ws' := [(lh, .inr (0, [.int md, .ref er, .int (nI C)])), (er, .inl (cO, 10, .inr (.inr (.inr (.inr fr)))))]) [1, 2] (by decide) rfl
          have hFc := va_free (wc := [(lh, .inr (0, [.int md, .ref er, .int (nI C)])), (er, .inl (cO, 10, .inr (.inr (.inr (.inr fr)))))]) hD hS hA [1, 2] rfl
          refine g_Vr (As := [.int (nI k)]) (rest := []) CF (c_Jx4a65c_get_915e3 l D cI cJ cO df H.size lh md er C fr k (SA (gN (mo k))) c_54 (by omega) (hfr k c_54)) (cwV 1 hts gX0_putInOrder_Jx4a65c_get_915e3 rfl rfl rfl (by decide +kernel) ⟨Nat.le_of_ble_eq_true rfl, Nat.le_of_ble_eq_true rfl⟩) (va_recv hK hP (ci := 0) (q0 := 1) rfl rfl) hPc hK hDc hV hH hS hFc rfl hl.1 rfl (Nat.le_of_ble_eq_true rfl) dX0_putInOrder_70 ⟨Nat.le_of_ble_eq_true rfl, Nat.le_of_ble_eq_true rfl⟩ (fun w1 H1 locs1 hq hP1 hD1 hk hS hz => ?_)
          obtain ⟨w1, a1⟩ := w1
          obtain ⟨ew1, hr_70⟩ := hq
          dsimp only at ew1 hP1 hD1 hr_70
          subst ew1
          have hP := g_keepR hP hD [1, 2] rfl hk hP1
          clear hPc hDc hFc hP1 hD1 hk hz
          generalize H1 = H at hP hS ⊢
          have hP : va_P D ccl (([(h0, .inr (1, [.ref lh])), (lh, .inr (0, [.int md, .ref er, .int (nI C)])), (er, .inl (cO, 10, .inr (.inr (.inr (.inr fr))))), (l2, .inr (0, [.int m2, .ref q2, .int (nI C)])), (q2, .inl (cO, 10, .inr (.inr (.inr (.inr f2)))))] : va_W) ++ scL (scJ cI SA SB mc ms mw) (List.range N)) H := hP
          have hD : va_D A (([(h0, .inr (1, [.ref lh])), (lh, .inr (0, [.int md, .ref er, .int (nI C)])), (er, .inl (cO, 10, .inr (.inr (.inr (.inr fr))))), (l2, .inr (0, [.int m2, .ref q2, .int (nI C)])), (q2, .inl (cO, 10, .inr (.inr (.inr (.inr f2)))))] : va_W) ++ scL (scJ cI SA SB mc ms mw) (List.range N)) := hD
          have hr_70 := hr_70.symm
          subst hr_70
          refine lv_aload_n hx hb dX0_putInOrder_73 rfl (lv_at hl 1 rfl) ?_
          refine lv_iload_n hx hb dX0_putInOrder_74 rfl (lv_at hl 3 rfl) ?_
          have hPc := hP.sub (ws' := [(l2, .inr (0, [.int m2, .ref q2, .int (nI C)])), (q2, .inl (cO, 10, .inr (.inr (.inr (.inr f2)))))]) [3, 4] rfl
          have hDc := hD.sub (ws' := [(l2, .inr (0, [.int m2, .ref q2, .int (nI C)])), (q2, .inl (cO, 10, .inr (.inr (.inr (.inr f2)))))]) [3, 4] (by decide) rfl
          have hFc := va_free (wc := [(l2, .inr (0, [.int m2, .ref q2, .int (nI C)])), (q2, .inl (cO, 10, .inr (.inr (.inr (.inr f2)))))]) hD hS hA [3, 4] rfl
          refine g_Vr (As := [.int (nI k)]) (rest := [.ref (SA (gN (mo k)))]) CF (c_Jx4a65c_get_915e3 l D cI cJ cO df H.size l2 m2 q2 C f2 k (SA (gN (mo (sg k)))) c_54 (by omega) ((hs9 k c_54).2.2)) (cwV 1 hts gX0_putInOrder_Jx4a65c_get_915e3 rfl rfl rfl (by decide +kernel) ⟨Nat.le_of_ble_eq_true rfl, Nat.le_of_ble_eq_true rfl⟩) (va_recv hK hP (ci := 0) (q0 := 3) rfl rfl) hPc hK hDc hV hH hS hFc rfl hl.1 rfl (Nat.le_of_ble_eq_true rfl) dX0_putInOrder_75 ⟨Nat.le_of_ble_eq_true rfl, Nat.le_of_ble_eq_true rfl⟩ (fun w1 H1 locs1 hq hP1 hD1 hk hS hz => ?_)
          obtain ⟨w1, a1⟩ := w1
          obtain ⟨ew1, hr_75⟩ := hq
          dsimp only at ew1 hP1 hD1 hr_75
          subst ew1
          have hP := g_keepR hP hD [3, 4] rfl hk hP1
          clear hPc hDc hFc hP1 hD1 hk hz
          generalize H1 = H at hP hS ⊢
          have hP : va_P D ccl (([(h0, .inr (1, [.ref lh])), (lh, .inr (0, [.int md, .ref er, .int (nI C)])), (er, .inl (cO, 10, .inr (.inr (.inr (.inr fr))))), (l2, .inr (0, [.int m2, .ref q2, .int (nI C)])), (q2, .inl (cO, 10, .inr (.inr (.inr (.inr f2)))))] : va_W) ++ scL (scJ cI SA SB mc ms mw) (List.range N)) H := hP
          have hD : va_D A (([(h0, .inr (1, [.ref lh])), (lh, .inr (0, [.int md, .ref er, .int (nI C)])), (er, .inl (cO, 10, .inr (.inr (.inr (.inr fr))))), (l2, .inr (0, [.int m2, .ref q2, .int (nI C)])), (q2, .inl (cO, 10, .inr (.inr (.inr (.inr f2)))))] : va_W) ++ scL (scJ cI SA SB mc ms mw) (List.range N)) := hD
          have hr_75 := hr_75.symm
          subst hr_75
          refine lv_acmp_eq (rx := some (SA (gN (mo k)))) (ry := some (SA (gN (mo (sg k))))) (tgt := 84) hx hb dX0_putInOrder_78 (by decide) (fun c_78 => ?_) (fun c_78 => ?_)
          · have hmv : rkM mc mo k C = k := (ord_end hc hO8 hiM hs9 c_54).2.2.mp (hiM _ _ (hs9 k c_54).1 c_54 (scJ_inj (X := [(h0, .inr (1, [.ref lh])), (lh, .inr (0, [.int md, .ref er, .int (nI C)])), (er, .inl (cO, 10, .inr (.inr (.inr (.inr fr))))), (l2, .inr (0, [.int m2, .ref q2, .int (nI C)])), (q2, .inl (cO, 10, .inr (.inr (.inr (.inr f2)))))]) hD (rgm (hO _ (hs9 k c_54).1).1) (rgm (hO k c_54).1) (Option.some.inj c_78).symm))
            have e84 : arN mc mo C (k + 1) = arN mc mo C k := by rw [arN_s, if_pos hmv]; rfl
            have hl : lv_has ls 4 [(0, .ref h0), (1, .ref l2), (2, .int (nI (arN mc mo C (k + 1)))), (3, .int (nI k))] := by rw [e84]; exact hl
            refine lv_iinc (v := nI (k + 1)) (lv' := [(3, .int (nI (k + 1))), (0, .ref h0), (1, .ref l2), (2, .int (nI (arN mc mo C (k + 1))))]) hx hb dX0_putInOrder_84 hl (k := 3) rfl (by exact nI_1 _) (by decide) rfl (fun ls hl => ?_)
            refine lv_goto (tgt := 46) hx hb dX0_putInOrder_87 (by decide) ?_
            refine W.widen (k := 2) (n := 13) (Nat.le_refl _) (Nat.le_refl _) ?_
            exact ih_46 (k + 1) _ _ _ (show (k + 1) ≤ C from (by exact c_54)) (show C - (k + 1) < C - k by omega) hP hD hS (lv_sub hl [1, 2, 3, 0] rfl)
          · have hmv : ¬ rkM mc mo k C = k := fun h9 => c_78 (by rw [(ord_end hc hO8 hiM hs9 c_54).2.2.mpr h9])
            refine lv_iinc (v := nI (arN mc mo C (k + 1))) (lv' := [(2, .int (nI (arN mc mo C (k + 1)))), (0, .ref h0), (1, .ref l2), (3, .int (nI k))]) hx hb dX0_putInOrder_81 hl (k := 2) rfl (by exact by rw [arN_s, if_neg hmv]; exact nI_1 _) (by decide) rfl (fun ls hl => ?_)
            refine lv_iinc (v := nI (k + 1)) (lv' := [(3, .int (nI (k + 1))), (2, .int (nI (arN mc mo C (k + 1)))), (0, .ref h0), (1, .ref l2)]) hx hb dX0_putInOrder_84 hl (k := 3) rfl (by exact nI_1 _) (by decide) rfl (fun ls hl => ?_)
            refine lv_goto (tgt := 46) hx hb dX0_putInOrder_87 (by decide) ?_
            refine W.widen (k := 2) (n := 13) (Nat.le_refl _) (Nat.le_refl _) ?_
            exact ih_46 (k + 1) _ _ _ (show (k + 1) ≤ C from (by exact c_54)) (show C - (k + 1) < C - k by omega) hP hD hS (lv_sub hl [2, 3, 1, 0] rfl)
    · have c_18 : i < C := g_nle (a := C) (b := i) c_18 (by omega) (by omega)
      refine lv_aload_n hx hb dX0_putInOrder_21 rfl (lv_at hl 1 rfl) ?_
      refine lv_aload_n hx hb dX0_putInOrder_22 rfl (lv_at hl 0 rfl) ?_
      refine va_get (D := D) (ci := 1) (v := .ref lh) (C := RX0) (T := TX0) (N := 1) hx hb hts inX0 hown hK hP 0 rfl rfl 0 (by decide) hfieldLink_RX0_12 (fun _ h9 => h9) rfl dX0_putInOrder_23 ?_
      refine lv_iload_n hx hb dX0_putInOrder_26 rfl (lv_at hl 2 rfl) ?_
      have hPc := hP.sub (ws' := [(lh, .inr (0, [.int md, .ref er, .int (nI C)])), (er, .inl (cO, 10, .inr (.inr (.inr (.inr fr)))))]) [1, 2] rfl
      have hDc := hD.sub (ws' := [(lh, .inr (0, [.int md, .ref er, .int (nI C)])), (er, .inl (cO, 10, .inr (.inr (.inr (.inr fr)))))]) [1, 2] (by decide) rfl
      have hFc := va_free (wc := [(lh, .inr (0, [.int md, .ref er, .int (nI C)])), (er, .inl (cO, 10, .inr (.inr (.inr (.inr fr)))))]) hD hS hA [1, 2] rfl
      refine g_Vr (As := [.int (nI i)]) (rest := [.ref l2]) CF (c_Jx4a65c_get_915e3 l D cI cJ cO df H.size lh md er C fr i (SA (gN (mo i))) c_18 (by omega) (hfr i c_18)) (cwV 1 hts gX0_putInOrder_Jx4a65c_get_915e3 rfl rfl rfl (by decide +kernel) ⟨Nat.le_of_ble_eq_true rfl, Nat.le_of_ble_eq_true rfl⟩) (va_recv hK hP (ci := 0) (q0 := 1) rfl rfl) hPc hK hDc hV hH hS hFc rfl hl.1 rfl (Nat.le_of_ble_eq_true rfl) dX0_putInOrder_27 ⟨Nat.le_of_ble_eq_true rfl, Nat.le_of_ble_eq_true rfl⟩ (fun w1 H1 locs1 hq hP1 hD1 hk hS hz => ?_)
      obtain ⟨w1, a1⟩ := w1
      obtain ⟨ew1, hr_27⟩ := hq
      dsimp only at ew1 hP1 hD1 hr_27
      subst ew1
      have hP := g_keepR hP hD [1, 2] rfl hk hP1
      clear hPc hDc hFc hP1 hD1 hk hz
      generalize H1 = H at hP hS ⊢
      have hP : va_P D ccl (([(h0, .inr (1, [.ref lh])), (lh, .inr (0, [.int md, .ref er, .int (nI C)])), (er, .inl (cO, 10, .inr (.inr (.inr (.inr fr))))), (l2, .inr (0, [.int m2, .ref q2, .int (nI i)])), (q2, .inl (cO, 10, .inr (.inr (.inr (.inr f2)))))] : va_W) ++ scL (scJ cI SA SB mc ms mw) (List.range N)) H := hP
      have hD : va_D A (([(h0, .inr (1, [.ref lh])), (lh, .inr (0, [.int md, .ref er, .int (nI C)])), (er, .inl (cO, 10, .inr (.inr (.inr (.inr fr))))), (l2, .inr (0, [.int m2, .ref q2, .int (nI i)])), (q2, .inl (cO, 10, .inr (.inr (.inr (.inr f2)))))] : va_W) ++ scL (scJ cI SA SB mc ms mw) (List.range N)) := hD
      have hr_27 := hr_27.symm
      subst hr_27
      refine va_castS hx hb hown hclassLink_RX0_37 (gS4 hK) ((inT_scL (rgm (hO i c_18).1)).recv (X := [(h0, .inr (1, [.ref lh])), (lh, .inr (0, [.int md, .ref er, .int (nI C)])), (er, .inl (cO, 10, .inr (.inr (.inr (.inr fr))))), (l2, .inr (0, [.int m2, .ref q2, .int (nI i)])), (q2, .inl (cO, 10, .inr (.inr (.inr (.inr f2)))))]) hK hP) dX0_putInOrder_30 ?_
      have hPc := hP.part (X := [(h0, .inr (1, [.ref lh])), (lh, .inr (0, [.int md, .ref er, .int (nI C)])), (er, .inl (cO, 10, .inr (.inr (.inr (.inr fr))))), (l2, .inr (0, [.int m2, .ref q2, .int (nI i)])), (q2, .inl (cO, 10, .inr (.inr (.inr (.inr f2)))))]) (cx := [(l2, .inr (0, [.int m2, .ref q2, .int (nI i)])), (q2, .inl (cO, 10, .inr (.inr (.inr (.inr f2)))))]) [3, 4] rfl
      have hDc := hD.part (X := [(h0, .inr (1, [.ref lh])), (lh, .inr (0, [.int md, .ref er, .int (nI C)])), (er, .inl (cO, 10, .inr (.inr (.inr (.inr fr))))), (l2, .inr (0, [.int m2, .ref q2, .int (nI i)])), (q2, .inl (cO, 10, .inr (.inr (.inr (.inr f2)))))]) (cx := [(l2, .inr (0, [.int m2, .ref q2, .int (nI i)])), (q2, .inl (cO, 10, .inr (.inr (.inr (.inr f2)))))]) [3, 4] (by decide) rfl
      have hFc := va_freeP (X := [(h0, .inr (1, [.ref lh])), (lh, .inr (0, [.int md, .ref er, .int (nI C)])), (er, .inl (cO, 10, .inr (.inr (.inr (.inr fr))))), (l2, .inr (0, [.int m2, .ref q2, .int (nI i)])), (q2, .inl (cO, 10, .inr (.inr (.inr (.inr f2)))))]) (cx := [(l2, .inr (0, [.int m2, .ref q2, .int (nI i)])), (q2, .inl (cO, 10, .inr (.inr (.inr (.inr f2)))))]) hD hS hA [3, 4] rfl
      refine g_Sv (As := [.ref l2, .ref (SA (gN (mo i)))]) (rest := []) CF (c_X0_insert l D cI cJ cO df H.size l2 q2 m2 i f2 sg C mo SA SB mc ms mw N hc hN hC hO hiM c_18 hi0 hs9) (va_cwS 2 hts gX0_putInOrder_X0_insert rfl rfl rfl (by decide +kernel) ⟨Nat.le_of_ble_eq_true rfl, Nat.le_of_ble_eq_true rfl⟩)  hPc hK hDc hV hH hS hFc rfl hl.1 rfl (Nat.le_of_ble_eq_true rfl) dX0_putInOrder_33 ⟨Nat.le_of_ble_eq_true rfl, Nat.le_of_ble_eq_true rfl⟩ (fun w1 H1 locs1 hq hP1 hD1 hk hS hz => ?_)
      obtain rfl := hq
      obtain ⟨hP, hD⟩ := g_joinP (X := [(h0, .inr (1, [.ref lh])), (lh, .inr (0, [.int md, .ref er, .int (nI C)])), (er, .inl (cO, 10, .inr (.inr (.inr (.inr fr))))), (l2, .inr (0, [.int m2, .ref q2, .int (nI i)])), (q2, .inl (cO, 10, .inr (.inr (.inr (.inr f2)))))]) (cx := [(l2, .inr (0, [.int m2, .ref q2, .int (nI i)])), (q2, .inl (cO, 10, .inr (.inr (.inr (.inr f2)))))]) (rx := [(l2, .inr (0, [.int (m2 + 1), .ref q2, .int (nI (i + 1))])), (q2, .inl (cO, 10, .inr (.inr (.inr (.inr (insF f2 (rkM mc mo i i) i (SA (gN (mo i)))))))))]) (X' := [(h0, .inr (1, [.ref lh])), (lh, .inr (0, [.int md, .ref er, .int (nI C)])), (er, .inl (cO, 10, .inr (.inr (.inr (.inr fr))))), (l2, .inr (0, [.int (m2 + 1), .ref q2, .int (nI (i + 1))])), (q2, .inl (cO, 10, .inr (.inr (.inr (.inr (insF f2 (rkM mc mo i i) i (SA (gN (mo i)))))))))]) hP hD hk hFc hP1 hD1 [3, 4] [0, 1, 2] [0, 1, 2, 3, 4] rfl rfl (by decide) (by decide) (by decide) rfl
      clear hPc hDc hFc hP1 hD1 hk hz
      generalize H1 = H at hP hS ⊢
      have hP : va_P D ccl (([(h0, .inr (1, [.ref lh])), (lh, .inr (0, [.int md, .ref er, .int (nI C)])), (er, .inl (cO, 10, .inr (.inr (.inr (.inr fr))))), (l2, .inr (0, [.int (m2 + 1), .ref q2, .int (nI (i + 1))])), (q2, .inl (cO, 10, .inr (.inr (.inr (.inr (insF f2 (rkM mc mo i i) i (SA (gN (mo i)))))))))] : va_W) ++ scL (scJ cI SA SB mc ms mw) (List.range N)) H := hP
      have hD : va_D A (([(h0, .inr (1, [.ref lh])), (lh, .inr (0, [.int md, .ref er, .int (nI C)])), (er, .inl (cO, 10, .inr (.inr (.inr (.inr fr))))), (l2, .inr (0, [.int (m2 + 1), .ref q2, .int (nI (i + 1))])), (q2, .inl (cO, 10, .inr (.inr (.inr (.inr (insF f2 (rkM mc mo i i) i (SA (gN (mo i)))))))))] : va_W) ++ scL (scJ cI SA SB mc ms mw) (List.range N)) := hD
      refine lv_iinc (v := nI (i + 1)) (lv' := [(2, .int (nI (i + 1))), (0, .ref h0), (1, .ref l2)]) hx hb dX0_putInOrder_36 hl (k := 2) rfl (by exact nI_1 _) (by decide) rfl (fun ls hl => ?_)
      refine lv_goto (tgt := 10) hx hb dX0_putInOrder_39 (by decide) ?_
      refine W.widen (k := 2) (n := 13) (Nat.le_refl _) (Nat.le_refl _) ?_
      exact ih_10 (i + 1, (insF f2 (rkM mc mo i i) i (SA (gN (mo i)))), (sgS sg (rkM mc mo i i) i), (m2 + 1)) _ _ _ (show 0 < (i + 1) ∧ (i + 1) ≤ C ∧ ordS mc mo SA (insF f2 (rkM mc mo i i) i (SA (gN (mo i)))) (sgS sg (rkM mc mo i i) i) (i + 1) from (by exact ⟨by omega, by omega, ord_s hc hO8 hiM c_18 hs9⟩)) (show C - (i + 1) < C - i by omega) hP hD hS (lv_sub hl [1, 2, 0] rfl)

set_option maxHeartbeats 4000000 in
set_option maxRecDepth 100000 in
theorem c_X0_putInOrder_z (l : Launch) (D : va_G) (cI cJ cO : ClassId) (df sz : Nat) (h0 : Nat) (lh : Nat) (md : Int32) (er : Nat) (fr : Nat → Option Nat)  : MetI l yX0_putInOrder wsX0_putInOrder ({ frames := 4, cells := 1, slots := 3, locals := 90 } : Room) D (gTY cI cJ cO) df [(h0, .inr (1, [.ref lh])), (lh, .inr (0, [.int md, .ref er, .int (nI 0)])), (er, .inl (cO, 10, .inr (.inr (.inr (.inr fr)))))] sz [.ref h0] (fun (r : Int32) (wZ : va_W) => ∃ (l2 : Nat), wZ = [(h0, .inr (1, [.ref l2])), (l2, .inr (0, [.int 0, .ref df, .int 0]))] ∧ r = 0) := by
  refine g_of (cc := cX0_putInOrder) (nL := 4) (ret := (some .int)) (D := D) (TY := (gTY cI cJ cO)) (df := df) (Qc := fun A => va_Qi (fun (r : Int32) (wZ : va_W) => ∃ (l2 : Nat), wZ = [(h0, .inr (1, [.ref l2])), (l2, .inr (0, [.int 0, .ref df, .int 0]))] ∧ r = 0) (gB D (gTY cI cJ cO) A) A) (by decide +kernel) rfl (Nat.le_of_ble_eq_true rfl) ?_
  intro p e s m below meth c ls A hsz C0 hin hl
  obtain ⟨CF, hr, hlk, hA, hS, hP, hK, hD, hV, hH⟩ := C0
  have CF : CallFix p m c cX0_putInOrder 4 s _ wsX0_putInOrder RX0 := CF
  obtain ⟨hx, hb, hml, hown, hts⟩ := id CF
  subst hsz
  have hclassLink_RX0_9 : (Cond.classLink RX0 9 RJx4a65c).before _ s = true := hts _ (List.mem_of_getElem? (i := 1) rfl)
  have hinstantiable_RJx4a65c_3 : (Cond.instantiable RJx4a65c 3).before _ s = true := hts _ (List.mem_of_getElem? (i := 2) rfl)
  have hinitialized_RJx4a65c : (Cond.initialized RJx4a65c).before _ s = true := hts _ (List.mem_of_getElem? (i := 3) rfl)
  have hmethodLink_RX0_11 : (Cond.methodLink RX0 11 yJx4a65c_init_da8c8).before _ s = true := hts _ (List.mem_of_getElem? (i := 6) rfl)
  have hinstanceMethod_yJx4a65c_init_da8c8 : (Cond.instanceMethod yJx4a65c_init_da8c8).before _ s = true := hts _ (List.mem_of_getElem? (i := 7) rfl)
  have hfieldLink_RX0_12 : (Cond.fieldLink RX0 12 "TapLoom$Chain" "members" "Ljava/util/ArrayList;").before _ s = true := hts _ (List.mem_of_getElem? (i := 4) rfl)
  have hmethodLink_RX0_18 : (Cond.methodLink RX0 18 yJx4a65c_size_8abf5).before _ s = true := hts _ (List.mem_of_getElem? (i := 23) rfl)
  have inJx4a65c : ∀ w ∈ u_ws RJx4a65c TJx4a65c 3, w ∈ wsX0_putInOrder := fun w h => (List.mem_cons_of_mem _ (List.mem_append_left _ (List.mem_append_left _ (List.mem_append_right _ h))))
  have inX0 : ∀ w ∈ u_ws RX0 TX0 1, w ∈ wsX0_putInOrder := fun w h => (List.mem_cons_of_mem _ (List.mem_append_left _ (List.mem_append_right _ h)))
  have hP : va_P D ccl [(h0, .inr (1, [.ref lh])), (lh, .inr (0, [.int md, .ref er, .int (nI 0)])), (er, .inl (cO, 10, .inr (.inr (.inr (.inr fr)))))] s.heap := hP
  have hl : lv_has ls 4 [(0, .ref h0)] := hl
  refine va_new (ci := 0) (fs := [.int 0, .null, .int 0]) (C := RJx4a65c) (T := TJx4a65c) (N := 3) hx hb hts inJx4a65c tyJx4a65c tyJx4a65c_ok hown hclassLink_RX0_9 hinstantiable_RJx4a65c_3 hinitialized_RJx4a65c hK hP hD hS hA rfl (fun j hj => by rcases (show j = 0 ∨ j = 1 ∨ j = 2 by omega) with rfl | rfl | rfl <;> rfl) (Nat.le_of_ble_eq_true rfl) (Nat.le_of_ble_eq_true rfl) dX0_putInOrder_0 (fun l2 H hP hD hS => ?_)
  have hP : va_P D ccl [(h0, .inr (1, [.ref lh])), (lh, .inr (0, [.int md, .ref er, .int (nI 0)])), (er, .inl (cO, 10, .inr (.inr (.inr (.inr fr))))), (l2, .inr (0, [.int 0, .null, .int 0]))] H := hP
  have hD : va_D A [(h0, .inr (1, [.ref lh])), (lh, .inr (0, [.int md, .ref er, .int (nI 0)])), (er, .inl (cO, 10, .inr (.inr (.inr (.inr fr))))), (l2, .inr (0, [.int 0, .null, .int 0]))] := hD
  refine lv_dup hx hb dX0_putInOrder_3 rfl ?_
  have hPc := hP.sub (ws' := [(l2, .inr (0, [.int 0, va_rf none, .int 0]))]) [3] rfl
  have hDc := hD.sub (ws' := [(l2, .inr (0, [.int 0, va_rf none, .int 0]))]) [3] (by decide) rfl
  have hFc := va_free (wc := [(l2, .inr (0, [.int 0, va_rf none, .int 0]))]) hD hS hA [3] rfl
  refine g_Iv (As := []) (rest := [.ref l2]) CF (c_Jx4a65c_init_da8c8 l D cI cJ cO df H.size l2 0 none 0 ) (cwI 0 hts gX0_putInOrder_Jx4a65c_init_da8c8 rfl rfl rfl hinitialized_RJx4a65c hmethodLink_RX0_11 hinstanceMethod_yJx4a65c_init_da8c8 rfl (by decide +kernel) ⟨Nat.le_of_ble_eq_true rfl, Nat.le_of_ble_eq_true rfl⟩)  hPc hK hDc hV hH hS hFc rfl hl.1 rfl (Nat.le_of_ble_eq_true rfl) dX0_putInOrder_4 ⟨Nat.le_of_ble_eq_true rfl, Nat.le_of_ble_eq_true rfl⟩ (fun w1 H1 locs1 hq hP1 hD1 hk hS hz => ?_)
  obtain rfl := hq
  obtain ⟨hP, hD⟩ := g_join (ws' := [(h0, .inr (1, [.ref lh])), (lh, .inr (0, [.int md, .ref er, .int (nI 0)])), (er, .inl (cO, 10, .inr (.inr (.inr (.inr fr))))), (l2, .inr (0, [.int 0, .ref df, .int 0]))]) hP hD hk hFc hP1 hD1 [3] [0, 1, 2] [0, 1, 2, 3] rfl rfl (by decide) (by decide) (by decide) rfl
  clear hPc hDc hFc hP1 hD1 hk hz
  generalize H1 = H at hP hS ⊢
  have hP : va_P D ccl [(h0, .inr (1, [.ref lh])), (lh, .inr (0, [.int md, .ref er, .int (nI 0)])), (er, .inl (cO, 10, .inr (.inr (.inr (.inr fr))))), (l2, .inr (0, [.int 0, .ref df, .int 0]))] H := hP
  have hD : va_D A [(h0, .inr (1, [.ref lh])), (lh, .inr (0, [.int md, .ref er, .int (nI 0)])), (er, .inl (cO, 10, .inr (.inr (.inr (.inr fr))))), (l2, .inr (0, [.int 0, .ref df, .int 0]))] := hD
  refine lv_astore_n (lv' := [(1, .ref l2), (0, .ref h0)]) hx hb dX0_putInOrder_7 rfl hl (by decide) rfl (fun ls hl => ?_)
  refine lv_iconst (v := 0) hx hb dX0_putInOrder_8 (by decide) ?_
  refine lv_istore_n (lv' := [(2, .int 0), (1, .ref l2), (0, .ref h0)]) hx hb dX0_putInOrder_9 rfl hl (by decide) rfl (fun ls hl => ?_)
  refine lv_iload_n hx hb dX0_putInOrder_10 rfl (lv_at hl 0 rfl) ?_
  refine lv_aload_n hx hb dX0_putInOrder_11 rfl (lv_at hl 2 rfl) ?_
  refine va_get (D := D) (ci := 1) (v := .ref lh) (C := RX0) (T := TX0) (N := 1) hx hb hts inX0 hown hK hP 0 rfl rfl 0 (by decide) hfieldLink_RX0_12 (fun _ h9 => h9) rfl dX0_putInOrder_12 ?_
  have hPc := hP.sub (ws' := [(lh, .inr (0, [.int md, .ref er, .int (nI 0)]))]) [1] rfl
  have hDc := hD.sub (ws' := [(lh, .inr (0, [.int md, .ref er, .int (nI 0)]))]) [1] (by decide) rfl
  have hFc := va_free (wc := [(lh, .inr (0, [.int md, .ref er, .int (nI 0)]))]) hD hS hA [1] rfl
  refine g_Vi (As := []) (rest := [.int 0]) CF (c_Jx4a65c_size_8abf5 l D cI cJ cO df H.size lh md er (nI 0) ) (cwV 0 hts gX0_putInOrder_Jx4a65c_size_8abf5 rfl rfl rfl (by decide +kernel) ⟨Nat.le_of_ble_eq_true rfl, Nat.le_of_ble_eq_true rfl⟩) (va_recv hK hP (ci := 0) (q0 := 1) rfl rfl) hPc hK hDc hV hH hS hFc rfl hl.1 rfl (Nat.le_of_ble_eq_true rfl) dX0_putInOrder_15 ⟨Nat.le_of_ble_eq_true rfl, Nat.le_of_ble_eq_true rfl⟩ (fun r_15 w1 H1 locs1 hq hP1 hD1 hk hS hz => ?_)
  obtain ⟨rfl, hr_15⟩ := hq
  have hP := g_keepR hP hD [1] rfl hk hP1
  clear hPc hDc hFc hP1 hD1 hk hz
  generalize H1 = H at hP hS ⊢
  have hP : va_P D ccl [(h0, .inr (1, [.ref lh])), (lh, .inr (0, [.int md, .ref er, .int (nI 0)])), (er, .inl (cO, 10, .inr (.inr (.inr (.inr fr))))), (l2, .inr (0, [.int 0, .ref df, .int 0]))] H := hP
  have hD : va_D A [(h0, .inr (1, [.ref lh])), (lh, .inr (0, [.int md, .ref er, .int (nI 0)])), (er, .inl (cO, 10, .inr (.inr (.inr (.inr fr))))), (l2, .inr (0, [.int 0, .ref df, .int 0]))] := hD
  subst hr_15
  refine lv_icmp_ge (tgt := 42) hx hb dX0_putInOrder_18 (by decide) (fun c_18 => ?_) (fun c_18 => ?_)
  · have c_18 : 0 ≤ 0 := g_le (a := 0) (b := 0) c_18 (by omega) (by omega)
    refine lv_iconst (v := 0) hx hb dX0_putInOrder_42 (by decide) ?_
    refine lv_istore_n (lv' := [(2, .int 0), (1, .ref l2), (0, .ref h0)]) hx hb dX0_putInOrder_43 rfl hl (by decide) rfl (fun ls hl => ?_)
    refine lv_iconst (v := 0) hx hb dX0_putInOrder_44 (by decide) ?_
    refine lv_istore_n (lv' := [(3, .int 0), (2, .int 0), (1, .ref l2), (0, .ref h0)]) hx hb dX0_putInOrder_45 rfl hl (by decide) rfl (fun ls hl => ?_)
    refine lv_iload_n hx hb dX0_putInOrder_46 rfl (lv_at hl 0 rfl) ?_
    refine lv_aload_n hx hb dX0_putInOrder_47 rfl (lv_at hl 3 rfl) ?_
    refine va_get (D := D) (ci := 1) (v := .ref lh) (C := RX0) (T := TX0) (N := 1) hx hb hts inX0 hown hK hP 0 rfl rfl 0 (by decide) hfieldLink_RX0_12 (fun _ h9 => h9) rfl dX0_putInOrder_48 ?_
    have hPc := hP.sub (ws' := [(lh, .inr (0, [.int md, .ref er, .int (nI 0)]))]) [1] rfl
    have hDc := hD.sub (ws' := [(lh, .inr (0, [.int md, .ref er, .int (nI 0)]))]) [1] (by decide) rfl
    have hFc := va_free (wc := [(lh, .inr (0, [.int md, .ref er, .int (nI 0)]))]) hD hS hA [1] rfl
    refine g_Vi (As := []) (rest := [.int 0]) CF (c_Jx4a65c_size_8abf5 l D cI cJ cO df H.size lh md er (nI 0) ) (cwV 0 hts gX0_putInOrder_Jx4a65c_size_8abf5 rfl rfl rfl (by decide +kernel) ⟨Nat.le_of_ble_eq_true rfl, Nat.le_of_ble_eq_true rfl⟩) (va_recv hK hP (ci := 0) (q0 := 1) rfl rfl) hPc hK hDc hV hH hS hFc rfl hl.1 rfl (Nat.le_of_ble_eq_true rfl) dX0_putInOrder_51 ⟨Nat.le_of_ble_eq_true rfl, Nat.le_of_ble_eq_true rfl⟩ (fun r_51 w1 H1 locs1 hq hP1 hD1 hk hS hz => ?_)
    obtain ⟨rfl, hr_51⟩ := hq
    have hP := g_keepR hP hD [1] rfl hk hP1
    clear hPc hDc hFc hP1 hD1 hk hz
    generalize H1 = H at hP hS ⊢
    have hP : va_P D ccl [(h0, .inr (1, [.ref lh])), (lh, .inr (0, [.int md, .ref er, .int (nI 0)])), (er, .inl (cO, 10, .inr (.inr (.inr (.inr fr))))), (l2, .inr (0, [.int 0, .ref df, .int 0]))] H := hP
    have hD : va_D A [(h0, .inr (1, [.ref lh])), (lh, .inr (0, [.int md, .ref er, .int (nI 0)])), (er, .inl (cO, 10, .inr (.inr (.inr (.inr fr))))), (l2, .inr (0, [.int 0, .ref df, .int 0]))] := hD
    subst hr_51
    refine lv_icmp_ge (tgt := 90) hx hb dX0_putInOrder_54 (by decide) (fun c_54 => ?_) (fun c_54 => ?_)
    · have c_54 : 0 ≤ 0 := g_le (a := 0) (b := 0) c_54 (by omega) (by omega)
      refine lv_aload_n hx hb dX0_putInOrder_90 rfl (lv_at hl 3 rfl) ?_
      refine lv_aload_n hx hb dX0_putInOrder_91 rfl (lv_at hl 2 rfl) ?_
      refine va_put (D := D) (ci := 1) (v := .ref l2) (ty := .object "java/util/ArrayList") (C := RX0) (T := TX0) (N := 1) hx hb hts inX0 tyX0 tyX0_ok nmX0 hown hK hP hD hS 0 rfl rfl 0 (by decide) hfieldLink_RX0_12 (fun _ h9 => h9) rfl (by decide +kernel) rfl rfl (Nat.le_of_ble_eq_true rfl) dX0_putInOrder_92 (fun H locs hP hD hS => ?_)
      have hP : va_P D ccl [(h0, .inr (1, [.ref l2])), (lh, .inr (0, [.int md, .ref er, .int (nI 0)])), (er, .inl (cO, 10, .inr (.inr (.inr (.inr fr))))), (l2, .inr (0, [.int 0, .ref df, .int 0]))] H := hP
      have hD : va_D A [(h0, .inr (1, [.ref l2])), (lh, .inr (0, [.int md, .ref er, .int (nI 0)])), (er, .inl (cO, 10, .inr (.inr (.inr (.inr fr))))), (l2, .inr (0, [.int 0, .ref df, .int 0]))] := hD
      refine lv_iload_n hx hb dX0_putInOrder_95 rfl (lv_at hl 1 rfl) ?_
      have hP := hP.sub (ws' := [(h0, .inr (1, [.ref l2])), (l2, .inr (0, [.int 0, .ref df, .int 0]))]) [0, 3] rfl
      have hD := hD.sub (ws' := [(h0, .inr (1, [.ref l2])), (l2, .inr (0, [.int 0, .ref df, .int 0]))]) [0, 3] (by decide) rfl
      refine g_iret (v := 0) hx hb hr hlk hP hK hD hS (Nat.le_of_ble_eq_true rfl) (Nat.le_of_ble_eq_true rfl) dX0_putInOrder_96 ?_
      exact ⟨_, rfl, rfl⟩
    · have c_54 : 0 < 0 := g_nle (a := 0) (b := 0) c_54 (by omega) (by omega)
      exact absurd c_54 (by decide)
  · have c_18 : 0 < 0 := g_nle (a := 0) (b := 0) c_18 (by omega) (by omega)
    exact absurd c_18 (by decide)

set_option maxHeartbeats 4000000 in
set_option maxRecDepth 100000 in
theorem c_X0_putInOrder_e (l : Launch) (D : va_G) (cI cJ cO : ClassId) (df sz : Nat) (h0 : Nat) (lh : Nat) (md : Int32)  : MetI l yX0_putInOrder wsX0_putInOrder ({ frames := 4, cells := 1, slots := 3, locals := 90 } : Room) D (gTY cI cJ cO) df [(h0, .inr (1, [.ref lh])), (lh, .inr (0, [.int md, .ref df, .int 0]))] sz [.ref h0] (fun (r : Int32) (wZ : va_W) => ∃ (l2 : Nat), wZ = [(h0, .inr (1, [.ref l2])), (l2, .inr (0, [.int 0, .ref df, .int 0]))] ∧ r = 0) := by
  refine g_of (cc := cX0_putInOrder) (nL := 4) (ret := (some .int)) (D := D) (TY := (gTY cI cJ cO)) (df := df) (Qc := fun A => va_Qi (fun (r : Int32) (wZ : va_W) => ∃ (l2 : Nat), wZ = [(h0, .inr (1, [.ref l2])), (l2, .inr (0, [.int 0, .ref df, .int 0]))] ∧ r = 0) (gB D (gTY cI cJ cO) A) A) (by decide +kernel) rfl (Nat.le_of_ble_eq_true rfl) ?_
  intro p e s m below meth c ls A hsz C0 hin hl
  obtain ⟨CF, hr, hlk, hA, hS, hP, hK, hD, hV, hH⟩ := C0
  have CF : CallFix p m c cX0_putInOrder 4 s _ wsX0_putInOrder RX0 := CF
  obtain ⟨hx, hb, hml, hown, hts⟩ := id CF
  subst hsz
  have hclassLink_RX0_9 : (Cond.classLink RX0 9 RJx4a65c).before _ s = true := hts _ (List.mem_of_getElem? (i := 1) rfl)
  have hinstantiable_RJx4a65c_3 : (Cond.instantiable RJx4a65c 3).before _ s = true := hts _ (List.mem_of_getElem? (i := 2) rfl)
  have hinitialized_RJx4a65c : (Cond.initialized RJx4a65c).before _ s = true := hts _ (List.mem_of_getElem? (i := 3) rfl)
  have hmethodLink_RX0_11 : (Cond.methodLink RX0 11 yJx4a65c_init_da8c8).before _ s = true := hts _ (List.mem_of_getElem? (i := 6) rfl)
  have hinstanceMethod_yJx4a65c_init_da8c8 : (Cond.instanceMethod yJx4a65c_init_da8c8).before _ s = true := hts _ (List.mem_of_getElem? (i := 7) rfl)
  have hfieldLink_RX0_12 : (Cond.fieldLink RX0 12 "TapLoom$Chain" "members" "Ljava/util/ArrayList;").before _ s = true := hts _ (List.mem_of_getElem? (i := 4) rfl)
  have hmethodLink_RX0_18 : (Cond.methodLink RX0 18 yJx4a65c_size_8abf5).before _ s = true := hts _ (List.mem_of_getElem? (i := 23) rfl)
  have inJx4a65c : ∀ w ∈ u_ws RJx4a65c TJx4a65c 3, w ∈ wsX0_putInOrder := fun w h => (List.mem_cons_of_mem _ (List.mem_append_left _ (List.mem_append_left _ (List.mem_append_right _ h))))
  have inX0 : ∀ w ∈ u_ws RX0 TX0 1, w ∈ wsX0_putInOrder := fun w h => (List.mem_cons_of_mem _ (List.mem_append_left _ (List.mem_append_right _ h)))
  have hP : va_P D ccl [(h0, .inr (1, [.ref lh])), (lh, .inr (0, [.int md, .ref df, .int 0]))] s.heap := hP
  have hl : lv_has ls 4 [(0, .ref h0)] := hl
  refine va_new (ci := 0) (fs := [.int 0, .null, .int 0]) (C := RJx4a65c) (T := TJx4a65c) (N := 3) hx hb hts inJx4a65c tyJx4a65c tyJx4a65c_ok hown hclassLink_RX0_9 hinstantiable_RJx4a65c_3 hinitialized_RJx4a65c hK hP hD hS hA rfl (fun j hj => by rcases (show j = 0 ∨ j = 1 ∨ j = 2 by omega) with rfl | rfl | rfl <;> rfl) (Nat.le_of_ble_eq_true rfl) (Nat.le_of_ble_eq_true rfl) dX0_putInOrder_0 (fun l2 H hP hD hS => ?_)
  have hP : va_P D ccl [(h0, .inr (1, [.ref lh])), (lh, .inr (0, [.int md, .ref df, .int 0])), (l2, .inr (0, [.int 0, .null, .int 0]))] H := hP
  have hD : va_D A [(h0, .inr (1, [.ref lh])), (lh, .inr (0, [.int md, .ref df, .int 0])), (l2, .inr (0, [.int 0, .null, .int 0]))] := hD
  refine lv_dup hx hb dX0_putInOrder_3 rfl ?_
  have hPc := hP.sub (ws' := [(l2, .inr (0, [.int 0, va_rf none, .int 0]))]) [2] rfl
  have hDc := hD.sub (ws' := [(l2, .inr (0, [.int 0, va_rf none, .int 0]))]) [2] (by decide) rfl
  have hFc := va_free (wc := [(l2, .inr (0, [.int 0, va_rf none, .int 0]))]) hD hS hA [2] rfl
  refine g_Iv (As := []) (rest := [.ref l2]) CF (c_Jx4a65c_init_da8c8 l D cI cJ cO df H.size l2 0 none 0 ) (cwI 0 hts gX0_putInOrder_Jx4a65c_init_da8c8 rfl rfl rfl hinitialized_RJx4a65c hmethodLink_RX0_11 hinstanceMethod_yJx4a65c_init_da8c8 rfl (by decide +kernel) ⟨Nat.le_of_ble_eq_true rfl, Nat.le_of_ble_eq_true rfl⟩)  hPc hK hDc hV hH hS hFc rfl hl.1 rfl (Nat.le_of_ble_eq_true rfl) dX0_putInOrder_4 ⟨Nat.le_of_ble_eq_true rfl, Nat.le_of_ble_eq_true rfl⟩ (fun w1 H1 locs1 hq hP1 hD1 hk hS hz => ?_)
  obtain rfl := hq
  obtain ⟨hP, hD⟩ := g_join (ws' := [(h0, .inr (1, [.ref lh])), (lh, .inr (0, [.int md, .ref df, .int 0])), (l2, .inr (0, [.int 0, .ref df, .int 0]))]) hP hD hk hFc hP1 hD1 [2] [0, 1] [0, 1, 2] rfl rfl (by decide) (by decide) (by decide) rfl
  clear hPc hDc hFc hP1 hD1 hk hz
  generalize H1 = H at hP hS ⊢
  have hP : va_P D ccl [(h0, .inr (1, [.ref lh])), (lh, .inr (0, [.int md, .ref df, .int 0])), (l2, .inr (0, [.int 0, .ref df, .int 0]))] H := hP
  have hD : va_D A [(h0, .inr (1, [.ref lh])), (lh, .inr (0, [.int md, .ref df, .int 0])), (l2, .inr (0, [.int 0, .ref df, .int 0]))] := hD
  refine lv_astore_n (lv' := [(1, .ref l2), (0, .ref h0)]) hx hb dX0_putInOrder_7 rfl hl (by decide) rfl (fun ls hl => ?_)
  refine lv_iconst (v := 0) hx hb dX0_putInOrder_8 (by decide) ?_
  refine lv_istore_n (lv' := [(2, .int 0), (1, .ref l2), (0, .ref h0)]) hx hb dX0_putInOrder_9 rfl hl (by decide) rfl (fun ls hl => ?_)
  refine lv_iload_n hx hb dX0_putInOrder_10 rfl (lv_at hl 0 rfl) ?_
  refine lv_aload_n hx hb dX0_putInOrder_11 rfl (lv_at hl 2 rfl) ?_
  refine va_get (D := D) (ci := 1) (v := .ref lh) (C := RX0) (T := TX0) (N := 1) hx hb hts inX0 hown hK hP 0 rfl rfl 0 (by decide) hfieldLink_RX0_12 (fun _ h9 => h9) rfl dX0_putInOrder_12 ?_
  have hPc := hP.sub (ws' := [(lh, .inr (0, [.int md, .ref df, .int 0]))]) [1] rfl
  have hDc := hD.sub (ws' := [(lh, .inr (0, [.int md, .ref df, .int 0]))]) [1] (by decide) rfl
  have hFc := va_free (wc := [(lh, .inr (0, [.int md, .ref df, .int 0]))]) hD hS hA [1] rfl
  refine g_Vi (As := []) (rest := [.int 0]) CF (c_Jx4a65c_size_8abf5 l D cI cJ cO df H.size lh md df 0 ) (cwV 0 hts gX0_putInOrder_Jx4a65c_size_8abf5 rfl rfl rfl (by decide +kernel) ⟨Nat.le_of_ble_eq_true rfl, Nat.le_of_ble_eq_true rfl⟩) (va_recv hK hP (ci := 0) (q0 := 1) rfl rfl) hPc hK hDc hV hH hS hFc rfl hl.1 rfl (Nat.le_of_ble_eq_true rfl) dX0_putInOrder_15 ⟨Nat.le_of_ble_eq_true rfl, Nat.le_of_ble_eq_true rfl⟩ (fun r_15 w1 H1 locs1 hq hP1 hD1 hk hS hz => ?_)
  obtain ⟨rfl, hr_15⟩ := hq
  have hP := g_keepR hP hD [1] rfl hk hP1
  clear hPc hDc hFc hP1 hD1 hk hz
  generalize H1 = H at hP hS ⊢
  have hP : va_P D ccl [(h0, .inr (1, [.ref lh])), (lh, .inr (0, [.int md, .ref df, .int 0])), (l2, .inr (0, [.int 0, .ref df, .int 0]))] H := hP
  have hD : va_D A [(h0, .inr (1, [.ref lh])), (lh, .inr (0, [.int md, .ref df, .int 0])), (l2, .inr (0, [.int 0, .ref df, .int 0]))] := hD
  subst hr_15
  refine lv_icmp_ge (tgt := 42) hx hb dX0_putInOrder_18 (by decide) (fun c_18 => ?_) (fun c_18 => ?_)
  · refine lv_iconst (v := 0) hx hb dX0_putInOrder_42 (by decide) ?_
    refine lv_istore_n (lv' := [(2, .int 0), (1, .ref l2), (0, .ref h0)]) hx hb dX0_putInOrder_43 rfl hl (by decide) rfl (fun ls hl => ?_)
    refine lv_iconst (v := 0) hx hb dX0_putInOrder_44 (by decide) ?_
    refine lv_istore_n (lv' := [(3, .int 0), (2, .int 0), (1, .ref l2), (0, .ref h0)]) hx hb dX0_putInOrder_45 rfl hl (by decide) rfl (fun ls hl => ?_)
    refine lv_iload_n hx hb dX0_putInOrder_46 rfl (lv_at hl 0 rfl) ?_
    refine lv_aload_n hx hb dX0_putInOrder_47 rfl (lv_at hl 3 rfl) ?_
    refine va_get (D := D) (ci := 1) (v := .ref lh) (C := RX0) (T := TX0) (N := 1) hx hb hts inX0 hown hK hP 0 rfl rfl 0 (by decide) hfieldLink_RX0_12 (fun _ h9 => h9) rfl dX0_putInOrder_48 ?_
    have hPc := hP.sub (ws' := [(lh, .inr (0, [.int md, .ref df, .int 0]))]) [1] rfl
    have hDc := hD.sub (ws' := [(lh, .inr (0, [.int md, .ref df, .int 0]))]) [1] (by decide) rfl
    have hFc := va_free (wc := [(lh, .inr (0, [.int md, .ref df, .int 0]))]) hD hS hA [1] rfl
    refine g_Vi (As := []) (rest := [.int 0]) CF (c_Jx4a65c_size_8abf5 l D cI cJ cO df H.size lh md df 0 ) (cwV 0 hts gX0_putInOrder_Jx4a65c_size_8abf5 rfl rfl rfl (by decide +kernel) ⟨Nat.le_of_ble_eq_true rfl, Nat.le_of_ble_eq_true rfl⟩) (va_recv hK hP (ci := 0) (q0 := 1) rfl rfl) hPc hK hDc hV hH hS hFc rfl hl.1 rfl (Nat.le_of_ble_eq_true rfl) dX0_putInOrder_51 ⟨Nat.le_of_ble_eq_true rfl, Nat.le_of_ble_eq_true rfl⟩ (fun r_51 w1 H1 locs1 hq hP1 hD1 hk hS hz => ?_)
    obtain ⟨rfl, hr_51⟩ := hq
    have hP := g_keepR hP hD [1] rfl hk hP1
    clear hPc hDc hFc hP1 hD1 hk hz
    generalize H1 = H at hP hS ⊢
    have hP : va_P D ccl [(h0, .inr (1, [.ref lh])), (lh, .inr (0, [.int md, .ref df, .int 0])), (l2, .inr (0, [.int 0, .ref df, .int 0]))] H := hP
    have hD : va_D A [(h0, .inr (1, [.ref lh])), (lh, .inr (0, [.int md, .ref df, .int 0])), (l2, .inr (0, [.int 0, .ref df, .int 0]))] := hD
    subst hr_51
    refine lv_icmp_ge (tgt := 90) hx hb dX0_putInOrder_54 (by decide) (fun c_54 => ?_) (fun c_54 => ?_)
    · refine lv_aload_n hx hb dX0_putInOrder_90 rfl (lv_at hl 3 rfl) ?_
      refine lv_aload_n hx hb dX0_putInOrder_91 rfl (lv_at hl 2 rfl) ?_
      refine va_put (D := D) (ci := 1) (v := .ref l2) (ty := .object "java/util/ArrayList") (C := RX0) (T := TX0) (N := 1) hx hb hts inX0 tyX0 tyX0_ok nmX0 hown hK hP hD hS 0 rfl rfl 0 (by decide) hfieldLink_RX0_12 (fun _ h9 => h9) rfl (by decide +kernel) rfl rfl (Nat.le_of_ble_eq_true rfl) dX0_putInOrder_92 (fun H locs hP hD hS => ?_)
      have hP : va_P D ccl [(h0, .inr (1, [.ref l2])), (lh, .inr (0, [.int md, .ref df, .int 0])), (l2, .inr (0, [.int 0, .ref df, .int 0]))] H := hP
      have hD : va_D A [(h0, .inr (1, [.ref l2])), (lh, .inr (0, [.int md, .ref df, .int 0])), (l2, .inr (0, [.int 0, .ref df, .int 0]))] := hD
      refine lv_iload_n hx hb dX0_putInOrder_95 rfl (lv_at hl 1 rfl) ?_
      have hP := hP.sub (ws' := [(h0, .inr (1, [.ref l2])), (l2, .inr (0, [.int 0, .ref df, .int 0]))]) [0, 2] rfl
      have hD := hD.sub (ws' := [(h0, .inr (1, [.ref l2])), (l2, .inr (0, [.int 0, .ref df, .int 0]))]) [0, 2] (by decide) rfl
      refine g_iret (v := 0) hx hb hr hlk hP hK hD hS (Nat.le_of_ble_eq_true rfl) (Nat.le_of_ble_eq_true rfl) dX0_putInOrder_96 ?_
      exact ⟨_, rfl, rfl⟩
    · exact absurd c_54 (by decide)
  · exact absurd c_18 (by decide)

set_option maxHeartbeats 4000000 in
set_option maxRecDepth 100000 in
theorem c_X0_gainAt (l : Launch) (D : va_G) (cI cJ cO : ClassId) (df sz : Nat) (h0 : Nat) (lh : Nat) (er : Nat) (md : Int32) (C : Nat) (fr : Nat → Option Nat) (mo : Nat → Int32) (SA : Nat → Nat) (SB : Nat → Nat) (mc : Nat → Int32) (ms : Nat → Int32) (mw : Nat → Int32) (N : Nat) (w : Nat) (hC : C ≤ 8) (hN : N ≤ 8) (hfr : ∀ k, k < C → fr k = some (SA (gN (mo k)))) (hO : ∀ i, i < C → gN (mo i) < N ∧ mo i = nI (gN (mo i))) (hc : isC mc) (hw2 : w ≤ 2) (hCw : C ≤ (if w = 2 then 2 else 4)) : MetR l yX0_gainAt wsX0_gainAt ({ frames := 3, cells := 1, slots := 2, locals := 64 } : Room) D (gTY cI cJ cO) df (([(h0, .inr (1, [.ref lh])), (lh, .inr (0, [.int md, .ref er, .int (nI C)])), (er, .inl (cO, 10, .inr (.inr (.inr (.inr fr)))))] : va_W) ++ scL (scJ cI SA SB mc ms mw) (List.range N)) sz [.ref h0, .int (nI w)] (fun (wZ : va_W × Nat) => ∃ (qf : Nat), ∃ (rn : Int64), ∃ (rd : Int64), wZ.1 = ([(h0, .inr (1, [.ref lh])), (lh, .inr (0, [.int md, .ref er, .int (nI C)])), (er, .inl (cO, 10, .inr (.inr (.inr (.inr fr))))), (qf, .inr (3, [.long rn, .long rd]))] : va_W) ++ scL (scJ cI SA SB mc ms mw) (List.range N) ∧ wZ.2 = qf ∧ rn.toInt = gnR (zO mc mo w C) (zU mc mo w C) 0 ∧ rd.toInt = gnR (zO mc mo w C) (zU mc mo w C) 1) := by
  refine g_of (cc := cX0_gainAt) (nL := 5) (ret := (some (.object "TapLoom$Fraction"))) (D := D) (TY := (gTY cI cJ cO)) (df := df) (Qc := fun A => va_Qr (fun (wZ : va_W × Nat) => ∃ (qf : Nat), ∃ (rn : Int64), ∃ (rd : Int64), wZ.1 = ([(h0, .inr (1, [.ref lh])), (lh, .inr (0, [.int md, .ref er, .int (nI C)])), (er, .inl (cO, 10, .inr (.inr (.inr (.inr fr))))), (qf, .inr (3, [.long rn, .long rd]))] : va_W) ++ scL (scJ cI SA SB mc ms mw) (List.range N) ∧ wZ.2 = qf ∧ rn.toInt = gnR (zO mc mo w C) (zU mc mo w C) 0 ∧ rd.toInt = gnR (zO mc mo w C) (zU mc mo w C) 1) (gBr D (gTY cI cJ cO) A) A) (by decide +kernel) rfl (Nat.le_of_ble_eq_true rfl) ?_
  intro p e s m below meth c ls A hsz C0 hin hl
  obtain ⟨CF, hr, hlk, hA, hS, hP, hK, hD, hV, hH⟩ := C0
  have CF : CallFix p m c cX0_gainAt 5 s _ wsX0_gainAt RX0 := CF
  obtain ⟨hx, hb, hml, hown, hts⟩ := id CF
  subst hsz
  have hclassLink_RX0_58 : (Cond.classLink RX0 58 RX2).before _ s = true := hts _ (List.mem_of_getElem? (i := 1) rfl)
  have hinstantiable_RX2_2 : (Cond.instantiable RX2 2).before _ s = true := hts _ (List.mem_of_getElem? (i := 2) rfl)
  have hinitialized_RX2 : (Cond.initialized RX2).before _ s = true := hts _ (List.mem_of_getElem? (i := 3) rfl)
  have hmethodLink_RX0_60 : (Cond.methodLink RX0 60 yX2_init).before _ s = true := hts _ (List.mem_of_getElem? (i := 6) rfl)
  have hinstanceMethod_yX2_init : (Cond.instanceMethod yX2_init).before _ s = true := hts _ (List.mem_of_getElem? (i := 7) rfl)
  have hfieldLink_RX0_12 : (Cond.fieldLink RX0 12 "TapLoom$Chain" "members" "Ljava/util/ArrayList;").before _ s = true := hts _ (List.mem_of_getElem? (i := 4) rfl)
  have hmethodLink_RX0_18 : (Cond.methodLink RX0 18 yJx4a65c_size_8abf5).before _ s = true := hts _ (List.mem_of_getElem? (i := 14) rfl)
  have hmethodLink_RX0_72 : (Cond.methodLink RX0 72 yX2_makeSmall).before _ s = true := hts _ (List.mem_of_getElem? (i := 55) rfl)
  have hmethodLink_RX0_22 : (Cond.methodLink RX0 22 yJx4a65c_get_915e3).before _ s = true := hts _ (List.mem_of_getElem? (i := 20) rfl)
  have hclassLink_RX0_37 : (Cond.classLink RX0 37 "TapLoom$Section").before _ s = true := hts _ (List.mem_of_getElem? (i := 5) rfl)
  have hmethodLink_RX0_61 : (Cond.methodLink RX0 61 yX4_gainNumber).before _ s = true := hts _ (List.mem_of_getElem? (i := 37) rfl)
  have hmethodLink_RX0_65 : (Cond.methodLink RX0 65 yX4_gainDivisor).before _ s = true := hts _ (List.mem_of_getElem? (i := 46) rfl)
  have hmethodLink_RX0_68 : (Cond.methodLink RX0 68 yX2_multiply).before _ s = true := hts _ (List.mem_of_getElem? (i := 51) rfl)
  have inX0 : ∀ w ∈ u_ws RX0 TX0 1, w ∈ wsX0_gainAt := fun w h => (List.mem_cons_of_mem _ (List.mem_append_left _ (List.mem_append_left _ (List.mem_append_right _ h))))
  have inX2 : ∀ w ∈ u_ws RX2 TX2 2, w ∈ wsX0_gainAt := fun w h => (List.mem_cons_of_mem _ (List.mem_append_left _ (List.mem_append_left _ (List.mem_append_left _ (List.mem_append_right _ h)))))
  have hP : va_P D ccl (([(h0, .inr (1, [.ref lh])), (lh, .inr (0, [.int md, .ref er, .int (nI C)])), (er, .inl (cO, 10, .inr (.inr (.inr (.inr fr)))))] : va_W) ++ scL (scJ cI SA SB mc ms mw) (List.range N)) s.heap := hP
  have hl : lv_has ls 5 [(0, .ref h0), (1, .int (nI w))] := hl
  have hO8 : ∀ i, i < C → gN (mo i) < 8 := fun i hi => Nat.lt_of_lt_of_le (hO i hi).1 hN
  have hq9 : (if w = 2 then 6503616025 else 21071715921) ≤ 21071715921 := by split <;> decide
  refine va_new (ci := 3) (fs := [.long 0, .long 0]) (C := RX2) (T := TX2) (N := 2) hx hb hts inX2 tyX2 tyX2_ok hown hclassLink_RX0_58 hinstantiable_RX2_2 hinitialized_RX2 hK hP hD hS hA rfl (fun j hj => by rcases (show j = 0 ∨ j = 1 by omega) with rfl | rfl <;> rfl) (Nat.le_of_ble_eq_true rfl) (Nat.le_of_ble_eq_true rfl) dX0_gainAt_0 (fun qf H hP hD hS => ?_)
  have hP := hP.perm9 (tl_perm (X := [(h0, .inr (1, [.ref lh])), (lh, .inr (0, [.int md, .ref er, .int (nI C)])), (er, .inl (cO, 10, .inr (.inr (.inr (.inr fr)))))]) (c := [(qf, .inr (3, [.long 0, .long 0]))]))
  have hD := hD.perm9 (tl_perm (X := [(h0, .inr (1, [.ref lh])), (lh, .inr (0, [.int md, .ref er, .int (nI C)])), (er, .inl (cO, 10, .inr (.inr (.inr (.inr fr)))))]) (c := [(qf, .inr (3, [.long 0, .long 0]))]))
  have hP : va_P D ccl (([(h0, .inr (1, [.ref lh])), (lh, .inr (0, [.int md, .ref er, .int (nI C)])), (er, .inl (cO, 10, .inr (.inr (.inr (.inr fr))))), (qf, .inr (3, [.long 0, .long 0]))] : va_W) ++ scL (scJ cI SA SB mc ms mw) (List.range N)) H := hP
  have hD : va_D A (([(h0, .inr (1, [.ref lh])), (lh, .inr (0, [.int md, .ref er, .int (nI C)])), (er, .inl (cO, 10, .inr (.inr (.inr (.inr fr))))), (qf, .inr (3, [.long 0, .long 0]))] : va_W) ++ scL (scJ cI SA SB mc ms mw) (List.range N)) := hD
  refine lv_dup hx hb dX0_gainAt_3 rfl ?_
  have hPc := hP.sub (ws' := [(qf, .inr (3, [.long 0, .long 0]))]) [3] rfl
  have hDc := hD.sub (ws' := [(qf, .inr (3, [.long 0, .long 0]))]) [3] (by decide) rfl
  have hFc := va_free (wc := [(qf, .inr (3, [.long 0, .long 0]))]) hD hS hA [3] rfl
  refine g_Iv (As := []) (rest := [.ref qf]) CF (c_X2_init l D cI cJ cO df H.size qf ) (cwI 0 hts gX0_gainAt_X2_init rfl rfl rfl hinitialized_RX2 hmethodLink_RX0_60 hinstanceMethod_yX2_init rfl (by decide +kernel) ⟨Nat.le_of_ble_eq_true rfl, Nat.le_of_ble_eq_true rfl⟩)  hPc hK hDc hV hH hS hFc rfl hl.1 rfl (Nat.le_of_ble_eq_true rfl) dX0_gainAt_4 ⟨Nat.le_of_ble_eq_true rfl, Nat.le_of_ble_eq_true rfl⟩ (fun w1 H1 locs1 hq hP1 hD1 hk hS hz => ?_)
  obtain rfl := hq
  obtain ⟨hP, hD⟩ := g_joinQ (X := [(h0, .inr (1, [.ref lh])), (lh, .inr (0, [.int md, .ref er, .int (nI C)])), (er, .inl (cO, 10, .inr (.inr (.inr (.inr fr))))), (qf, .inr (3, [.long 0, .long 0]))]) (X' := [(h0, .inr (1, [.ref lh])), (lh, .inr (0, [.int md, .ref er, .int (nI C)])), (er, .inl (cO, 10, .inr (.inr (.inr (.inr fr))))), (qf, .inr (3, [.long 1, .long 1]))]) hP hD hk hFc hP1 hD1 [3] [0, 1, 2] [0, 1, 2, 3] rfl rfl (by decide) (by decide) (by decide) rfl
  clear hPc hDc hFc hP1 hD1 hk hz
  generalize H1 = H at hP hS ⊢
  have hP : va_P D ccl (([(h0, .inr (1, [.ref lh])), (lh, .inr (0, [.int md, .ref er, .int (nI C)])), (er, .inl (cO, 10, .inr (.inr (.inr (.inr fr))))), (qf, .inr (3, [.long 1, .long 1]))] : va_W) ++ scL (scJ cI SA SB mc ms mw) (List.range N)) H := hP
  have hD : va_D A (([(h0, .inr (1, [.ref lh])), (lh, .inr (0, [.int md, .ref er, .int (nI C)])), (er, .inl (cO, 10, .inr (.inr (.inr (.inr fr))))), (qf, .inr (3, [.long 1, .long 1]))] : va_W) ++ scL (scJ cI SA SB mc ms mw) (List.range N)) := hD
  refine lv_astore_n (lv' := [(2, .ref qf), (0, .ref h0), (1, .int (nI w))]) hx hb dX0_gainAt_7 rfl hl (by decide) rfl (fun ls hl => ?_)
  refine lv_iconst (v := 0) hx hb dX0_gainAt_8 (by decide) ?_
  refine lv_istore_n (lv' := [(3, .int 0), (2, .ref qf), (0, .ref h0), (1, .int (nI w))]) hx hb dX0_gainAt_9 rfl hl (by decide) rfl (fun ls hl => ?_)
  refine W.widen (k := 1) (n := 2) (Nat.le_refl _) (Nat.le_refl _) ?_
  refine g_while (σ := Nat × Int64 × Int64) (st := []) (nL := 5) (fun z => match z with | (k, o1, u1) => ([(h0, .inr (1, [.ref lh])), (lh, .inr (0, [.int md, .ref er, .int (nI C)])), (er, .inl (cO, 10, .inr (.inr (.inr (.inr fr))))), (qf, .inr (3, [.long o1, .long u1]))] : va_W) ++ scL (scJ cI SA SB mc ms mw) (List.range N))
    (fun z => match z with | (k, o1, u1) => [(0, .ref h0), (1, .int (nI w)), (2, .ref qf), (3, .int (nI k))])
    (fun z => match z with | (k, o1, u1) => k ≤ C ∧ o1.toInt = zO mc mo w k ∧ u1.toInt = zU mc mo w k)
    (fun z => match z with | (k, o1, u1) => C - k) (fun z => match z with | (k, o1, u1) => 1) (fun z => match z with | (k, o1, u1) => 2)
    ?_ (0, 1, 1) ⟨Nat.zero_le _, rfl, rfl⟩ hP hD hS (lv_sub hl [2, 3, 1, 0] rfl)
  rintro ⟨k, o1, u1⟩ hI H locs ls hP hD hS hl ih
  have hI : k ≤ C ∧ o1.toInt = zO mc mo w k ∧ u1.toInt = zU mc mo w k := hI
  have hP : va_P D ccl (([(h0, .inr (1, [.ref lh])), (lh, .inr (0, [.int md, .ref er, .int (nI C)])), (er, .inl (cO, 10, .inr (.inr (.inr (.inr fr))))), (qf, .inr (3, [.long o1, .long u1]))] : va_W) ++ scL (scJ cI SA SB mc ms mw) (List.range N)) H := hP
  have hD : va_D A (([(h0, .inr (1, [.ref lh])), (lh, .inr (0, [.int md, .ref er, .int (nI C)])), (er, .inl (cO, 10, .inr (.inr (.inr (.inr fr))))), (qf, .inr (3, [.long o1, .long u1]))] : va_W) ++ scL (scJ cI SA SB mc ms mw) (List.range N)) := hD
  have hl : lv_has ls 5 [(0, .ref h0), (1, .int (nI w)), (2, .ref qf), (3, .int (nI k))] := hl
  change W p l e _ s m _ below meth c H locs 1 2 _ (F0 m 10 ls [])
  have ih_10 := ih
  clear ih
  obtain ⟨hk9, eo, eu⟩ := hI
  refine lv_iload_n hx hb dX0_gainAt_10 rfl (lv_at hl 3 rfl) ?_
  refine lv_aload_n hx hb dX0_gainAt_11 rfl (lv_at hl 0 rfl) ?_
  refine va_get (D := D) (ci := 1) (v := .ref lh) (C := RX0) (T := TX0) (N := 1) hx hb hts inX0 hown hK hP 0 rfl rfl 0 (by decide) hfieldLink_RX0_12 (fun _ h9 => h9) rfl dX0_gainAt_12 ?_
  have hPc := hP.sub (ws' := [(lh, .inr (0, [.int md, .ref er, .int (nI C)]))]) [1] rfl
  have hDc := hD.sub (ws' := [(lh, .inr (0, [.int md, .ref er, .int (nI C)]))]) [1] (by decide) rfl
  have hFc := va_free (wc := [(lh, .inr (0, [.int md, .ref er, .int (nI C)]))]) hD hS hA [1] rfl
  refine g_Vi (As := []) (rest := [.int (nI k)]) CF (c_Jx4a65c_size_8abf5 l D cI cJ cO df H.size lh md er (nI C) ) (cwV 0 hts gX0_gainAt_Jx4a65c_size_8abf5 rfl rfl rfl (by decide +kernel) ⟨Nat.le_of_ble_eq_true rfl, Nat.le_of_ble_eq_true rfl⟩) (va_recv hK hP (ci := 0) (q0 := 1) rfl rfl) hPc hK hDc hV hH hS hFc rfl hl.1 rfl (Nat.le_of_ble_eq_true rfl) dX0_gainAt_15 ⟨Nat.le_of_ble_eq_true rfl, Nat.le_of_ble_eq_true rfl⟩ (fun r_15 w1 H1 locs1 hq hP1 hD1 hk hS hz => ?_)
  obtain ⟨rfl, hr_15⟩ := hq
  have hP := g_keepR hP hD [1] rfl hk hP1
  clear hPc hDc hFc hP1 hD1 hk hz
  generalize H1 = H at hP hS ⊢
  have hP : va_P D ccl (([(h0, .inr (1, [.ref lh])), (lh, .inr (0, [.int md, .ref er, .int (nI C)])), (er, .inl (cO, 10, .inr (.inr (.inr (.inr fr))))), (qf, .inr (3, [.long o1, .long u1]))] : va_W) ++ scL (scJ cI SA SB mc ms mw) (List.range N)) H := hP
  have hD : va_D A (([(h0, .inr (1, [.ref lh])), (lh, .inr (0, [.int md, .ref er, .int (nI C)])), (er, .inl (cO, 10, .inr (.inr (.inr (.inr fr))))), (qf, .inr (3, [.long o1, .long u1]))] : va_W) ++ scL (scJ cI SA SB mc ms mw) (List.range N)) := hD
  subst hr_15
  refine lv_icmp_ge (tgt := 56) hx hb dX0_gainAt_18 (by decide) (fun c_18 => ?_) (fun c_18 => ?_)
  · have c_18 : C ≤ k := g_le (a := C) (b := k) c_18 (by omega) (by omega)
    have hkC : k = C := by omega
    rw [hkC] at eo eu
    have hb8 := zOU_le (k := C) hc hCw (Nat.le_refl C) (fun j hj => hO8 j hj)
    refine lv_aload_n hx hb dX0_gainAt_56 rfl (lv_at hl 2 rfl) ?_
    have hPc := hP.sub (ws' := [(qf, .inr (3, [.long o1, .long u1]))]) [3] rfl
    have hDc := hD.sub (ws' := [(qf, .inr (3, [.long o1, .long u1]))]) [3] (by decide) rfl
    have hFc := va_free (wc := [(qf, .inr (3, [.long o1, .long u1]))]) hD hS hA [3] rfl
    refine g_Vv (As := []) (rest := []) CF (c_X2_makeSmall l D cI cJ cO df H.size qf o1 u1 (by omega) (by omega)) (cwV 0 hts gX0_gainAt_X2_makeSmall rfl rfl rfl (by decide +kernel) ⟨Nat.le_of_ble_eq_true rfl, Nat.le_of_ble_eq_true rfl⟩) (va_recv hK hP (ci := 3) (q0 := 3) rfl rfl) hPc hK hDc hV hH hS hFc rfl hl.1 rfl (Nat.le_of_ble_eq_true rfl) dX0_gainAt_57 ⟨Nat.le_of_ble_eq_true rfl, Nat.le_of_ble_eq_true rfl⟩ (fun w1 H1 locs1 hq hP1 hD1 hk hS hz => ?_)
    obtain ⟨rn9, rd9, rfl, hq_57⟩ := hq
    obtain ⟨hP, hD⟩ := g_joinQ (X := [(h0, .inr (1, [.ref lh])), (lh, .inr (0, [.int md, .ref er, .int (nI C)])), (er, .inl (cO, 10, .inr (.inr (.inr (.inr fr))))), (qf, .inr (3, [.long o1, .long u1]))]) (X' := [(h0, .inr (1, [.ref lh])), (lh, .inr (0, [.int md, .ref er, .int (nI C)])), (er, .inl (cO, 10, .inr (.inr (.inr (.inr fr))))), (qf, .inr (3, [.long rn9, .long rd9]))]) hP hD hk hFc hP1 hD1 [3] [0, 1, 2] [0, 1, 2, 3] rfl rfl (by decide) (by decide) (by decide) rfl
    clear hPc hDc hFc hP1 hD1 hk hz
    generalize H1 = H at hP hS ⊢
    have hP : va_P D ccl (([(h0, .inr (1, [.ref lh])), (lh, .inr (0, [.int md, .ref er, .int (nI C)])), (er, .inl (cO, 10, .inr (.inr (.inr (.inr fr))))), (qf, .inr (3, [.long rn9, .long rd9]))] : va_W) ++ scL (scJ cI SA SB mc ms mw) (List.range N)) H := hP
    have hD : va_D A (([(h0, .inr (1, [.ref lh])), (lh, .inr (0, [.int md, .ref er, .int (nI C)])), (er, .inl (cO, 10, .inr (.inr (.inr (.inr fr))))), (qf, .inr (3, [.long rn9, .long rd9]))] : va_W) ++ scL (scJ cI SA SB mc ms mw) (List.range N)) := hD
    refine lv_aload_n hx hb dX0_gainAt_60 rfl (lv_at hl 2 rfl) ?_
    refine g_rret (a := qf) hx hb hr hlk (Or.inl ⟨_, rfl⟩) hP hK hD hS (Nat.le_of_ble_eq_true rfl) (Nat.le_of_ble_eq_true rfl) dX0_gainAt_61 ?_
    exact ⟨_, _, _, rfl, rfl, by rw [← eo, ← eu]; exact hq_57⟩
  · have c_18 : k < C := g_nle (a := C) (b := k) c_18 (by omega) (by omega)
    refine lv_aload_n hx hb dX0_gainAt_21 rfl (lv_at hl 0 rfl) ?_
    refine va_get (D := D) (ci := 1) (v := .ref lh) (C := RX0) (T := TX0) (N := 1) hx hb hts inX0 hown hK hP 0 rfl rfl 0 (by decide) hfieldLink_RX0_12 (fun _ h9 => h9) rfl dX0_gainAt_22 ?_
    refine lv_iload_n hx hb dX0_gainAt_25 rfl (lv_at hl 3 rfl) ?_
    have hPc := hP.sub (ws' := [(lh, .inr (0, [.int md, .ref er, .int (nI C)])), (er, .inl (cO, 10, .inr (.inr (.inr (.inr fr)))))]) [1, 2] rfl
    have hDc := hD.sub (ws' := [(lh, .inr (0, [.int md, .ref er, .int (nI C)])), (er, .inl (cO, 10, .inr (.inr (.inr (.inr fr)))))]) [1, 2] (by decide) rfl
    have hFc := va_free (wc := [(lh, .inr (0, [.int md, .ref er, .int (nI C)])), (er, .inl (cO, 10, .inr (.inr (.inr (.inr fr)))))]) hD hS hA [1, 2] rfl
    refine g_Vr (As := [.int (nI k)]) (rest := []) CF (c_Jx4a65c_get_915e3 l D cI cJ cO df H.size lh md er C fr k (SA (gN (mo k))) c_18 (by omega) (hfr k c_18)) (cwV 1 hts gX0_gainAt_Jx4a65c_get_915e3 rfl rfl rfl (by decide +kernel) ⟨Nat.le_of_ble_eq_true rfl, Nat.le_of_ble_eq_true rfl⟩) (va_recv hK hP (ci := 0) (q0 := 1) rfl rfl) hPc hK hDc hV hH hS hFc rfl hl.1 rfl (Nat.le_of_ble_eq_true rfl) dX0_gainAt_26 ⟨Nat.le_of_ble_eq_true rfl, Nat.le_of_ble_eq_true rfl⟩ (fun w1 H1 locs1 hq hP1 hD1 hk hS hz => ?_)
    obtain ⟨w1, a1⟩ := w1
    obtain ⟨ew1, hr_26⟩ := hq
    dsimp only at ew1 hP1 hD1 hr_26
    subst ew1
    have hP := g_keepR hP hD [1, 2] rfl hk hP1
    clear hPc hDc hFc hP1 hD1 hk hz
    generalize H1 = H at hP hS ⊢
    have hP : va_P D ccl (([(h0, .inr (1, [.ref lh])), (lh, .inr (0, [.int md, .ref er, .int (nI C)])), (er, .inl (cO, 10, .inr (.inr (.inr (.inr fr))))), (qf, .inr (3, [.long o1, .long u1]))] : va_W) ++ scL (scJ cI SA SB mc ms mw) (List.range N)) H := hP
    have hD : va_D A (([(h0, .inr (1, [.ref lh])), (lh, .inr (0, [.int md, .ref er, .int (nI C)])), (er, .inl (cO, 10, .inr (.inr (.inr (.inr fr))))), (qf, .inr (3, [.long o1, .long u1]))] : va_W) ++ scL (scJ cI SA SB mc ms mw) (List.range N)) := hD
    have hr_26 := hr_26.symm
    subst hr_26
    refine va_castS hx hb hown hclassLink_RX0_37 (gS4 hK) ((inT_scL (rgm (hO k c_18).1)).recv (X := [(h0, .inr (1, [.ref lh])), (lh, .inr (0, [.int md, .ref er, .int (nI C)])), (er, .inl (cO, 10, .inr (.inr (.inr (.inr fr))))), (qf, .inr (3, [.long o1, .long u1]))]) hK hP) dX0_gainAt_29 ?_
    refine lv_astore (lv' := [(4, .ref (SA (gN (mo k)))), (0, .ref h0), (1, .int (nI w)), (2, .ref qf), (3, .int (nI k))]) hx hb dX0_gainAt_32 hl (by decide) rfl (fun ls hl => ?_)
    refine lv_aload_n hx hb dX0_gainAt_34 rfl (lv_at hl 3 rfl) ?_
    refine lv_aload hx hb dX0_gainAt_35 (lv_at hl 0 rfl) ?_
    refine lv_iload_n hx hb dX0_gainAt_37 rfl (lv_at hl 2 rfl) ?_
    obtain ⟨hP, hD⟩ := sc_open (X := [(h0, .inr (1, [.ref lh])), (lh, .inr (0, [.int md, .ref er, .int (nI C)])), (er, .inl (cO, 10, .inr (.inr (.inr (.inr fr))))), (qf, .inr (3, [.long o1, .long u1]))]) (gN (mo k)) hP hD (rgm (hO k c_18).1)
    have hP : va_P D ccl (([(h0, .inr (1, [.ref lh])), (lh, .inr (0, [.int md, .ref er, .int (nI C)])), (er, .inl (cO, 10, .inr (.inr (.inr (.inr fr))))), (qf, .inr (3, [.long o1, .long u1])), (SA (gN (mo k)), .inr (5, [.int (nI (gN (mo k))), .int (mw (gN (mo k))), .ref (SB (gN (mo k))), .int (ms (4 * (gN (mo k)))), .int (ms (4 * (gN (mo k)) + 1)), .int (ms (4 * (gN (mo k)) + 2)), .int (ms (4 * (gN (mo k)) + 3))])), (SB (gN (mo k)), .inl (cI, 5, .inl (fun z9 => if z9 < 5 then mc (5 * (gN (mo k)) + z9) else 0)))] : va_W) ++ scL (scJ cI SA SB mc ms mw) ((List.range N).erase (gN (mo k)))) H := hP
    have hD : va_D A (([(h0, .inr (1, [.ref lh])), (lh, .inr (0, [.int md, .ref er, .int (nI C)])), (er, .inl (cO, 10, .inr (.inr (.inr (.inr fr))))), (qf, .inr (3, [.long o1, .long u1])), (SA (gN (mo k)), .inr (5, [.int (nI (gN (mo k))), .int (mw (gN (mo k))), .ref (SB (gN (mo k))), .int (ms (4 * (gN (mo k)))), .int (ms (4 * (gN (mo k)) + 1)), .int (ms (4 * (gN (mo k)) + 2)), .int (ms (4 * (gN (mo k)) + 3))])), (SB (gN (mo k)), .inl (cI, 5, .inl (fun z9 => if z9 < 5 then mc (5 * (gN (mo k)) + z9) else 0)))] : va_W) ++ scL (scJ cI SA SB mc ms mw) ((List.range N).erase (gN (mo k)))) := hD
    have hPc := hP.sub (ws' := [((SA (gN (mo k))), .inr (5, [.int (nI (gN (mo k))), .int (mw (gN (mo k))), .ref (SB (gN (mo k))), .int (ms (4 * (gN (mo k)))), .int (ms (4 * (gN (mo k)) + 1)), .int (ms (4 * (gN (mo k)) + 2)), .int (ms (4 * (gN (mo k)) + 3))])), ((SB (gN (mo k))), .inl (cI, 5, .inl (fun z9 => if z9 < 5 then mc (5 * (gN (mo k)) + z9) else 0)))]) [4, 5] rfl
    have hDc := hD.sub (ws' := [((SA (gN (mo k))), .inr (5, [.int (nI (gN (mo k))), .int (mw (gN (mo k))), .ref (SB (gN (mo k))), .int (ms (4 * (gN (mo k)))), .int (ms (4 * (gN (mo k)) + 1)), .int (ms (4 * (gN (mo k)) + 2)), .int (ms (4 * (gN (mo k)) + 3))])), ((SB (gN (mo k))), .inl (cI, 5, .inl (fun z9 => if z9 < 5 then mc (5 * (gN (mo k)) + z9) else 0)))]) [4, 5] (by decide) rfl
    have hFc := va_free (wc := [((SA (gN (mo k))), .inr (5, [.int (nI (gN (mo k))), .int (mw (gN (mo k))), .ref (SB (gN (mo k))), .int (ms (4 * (gN (mo k)))), .int (ms (4 * (gN (mo k)) + 1)), .int (ms (4 * (gN (mo k)) + 2)), .int (ms (4 * (gN (mo k)) + 3))])), ((SB (gN (mo k))), .inl (cI, 5, .inl (fun z9 => if z9 < 5 then mc (5 * (gN (mo k)) + z9) else 0)))]) hD hS hA [4, 5] rfl
    refine g_Vl (As := [.int (nI w)]) (rest := [.ref qf]) CF (c_X4_gainNumber l D cI cJ cO df H.size (SA (gN (mo k))) (SB (gN (mo k))) (nI (gN (mo k))) (mw (gN (mo k))) (ms (4 * (gN (mo k)))) (ms (4 * (gN (mo k)) + 1)) (ms (4 * (gN (mo k)) + 2)) (ms (4 * (gN (mo k)) + 3)) (fun z9 => if z9 < 5 then mc (5 * (gN (mo k)) + z9) else 0) w hw2) (cwV 1 hts gX0_gainAt_X4_gainNumber rfl rfl rfl (by decide +kernel) ⟨Nat.le_of_ble_eq_true rfl, Nat.le_of_ble_eq_true rfl⟩) (va_recv hK hP (ci := 5) (q0 := 4) rfl rfl) hPc hK hDc hV hH hS hFc rfl hl.1 rfl (Nat.le_of_ble_eq_true rfl) dX0_gainAt_38 ⟨Nat.le_of_ble_eq_true rfl, Nat.le_of_ble_eq_true rfl⟩ (fun r_38 w1 H1 locs1 hq hP1 hD1 hk hS hz => ?_)
    obtain ⟨rfl, hr_38⟩ := hq
    have hP := g_keepR hP hD [4, 5] rfl hk hP1
    clear hPc hDc hFc hP1 hD1 hk hz
    generalize H1 = H at hP hS ⊢
    have hP : va_P D ccl (([(h0, .inr (1, [.ref lh])), (lh, .inr (0, [.int md, .ref er, .int (nI C)])), (er, .inl (cO, 10, .inr (.inr (.inr (.inr fr))))), (qf, .inr (3, [.long o1, .long u1])), (SA (gN (mo k)), .inr (5, [.int (nI (gN (mo k))), .int (mw (gN (mo k))), .ref (SB (gN (mo k))), .int (ms (4 * (gN (mo k)))), .int (ms (4 * (gN (mo k)) + 1)), .int (ms (4 * (gN (mo k)) + 2)), .int (ms (4 * (gN (mo k)) + 3))])), (SB (gN (mo k)), .inl (cI, 5, .inl (fun z9 => if z9 < 5 then mc (5 * (gN (mo k)) + z9) else 0)))] : va_W) ++ scL (scJ cI SA SB mc ms mw) ((List.range N).erase (gN (mo k)))) H := hP
    have hD : va_D A (([(h0, .inr (1, [.ref lh])), (lh, .inr (0, [.int md, .ref er, .int (nI C)])), (er, .inl (cO, 10, .inr (.inr (.inr (.inr fr))))), (qf, .inr (3, [.long o1, .long u1])), (SA (gN (mo k)), .inr (5, [.int (nI (gN (mo k))), .int (mw (gN (mo k))), .ref (SB (gN (mo k))), .int (ms (4 * (gN (mo k)))), .int (ms (4 * (gN (mo k)) + 1)), .int (ms (4 * (gN (mo k)) + 2)), .int (ms (4 * (gN (mo k)) + 3))])), (SB (gN (mo k)), .inl (cI, 5, .inl (fun z9 => if z9 < 5 then mc (5 * (gN (mo k)) + z9) else 0)))] : va_W) ++ scL (scJ cI SA SB mc ms mw) ((List.range N).erase (gN (mo k)))) := hD
    subst hr_38
    refine lv_topl (fun F1 eF1 => ?_)
    obtain ⟨hP, hD⟩ := sc_close (X := [(h0, .inr (1, [.ref lh])), (lh, .inr (0, [.int md, .ref er, .int (nI C)])), (er, .inl (cO, 10, .inr (.inr (.inr (.inr fr))))), (qf, .inr (3, [.long o1, .long u1]))]) (c2 := [(SA (gN (mo k)), .inr (5, [.int (nI (gN (mo k))), .int (mw (gN (mo k))), .ref (SB (gN (mo k))), .int (ms (4 * (gN (mo k)))), .int (ms (4 * (gN (mo k)) + 1)), .int (ms (4 * (gN (mo k)) + 2)), .int (ms (4 * (gN (mo k)) + 3))])), (SB (gN (mo k)), .inl (cI, 5, .inl (fun z9 => if z9 < 5 then mc (5 * (gN (mo k)) + z9) else 0)))]) (S := (scJ cI SA SB mc ms mw)) (S' := (scJ cI SA SB mc ms mw)) (js := (List.range N)) (gN (mo k)) hP hD (rgm (hO k c_18).1) rgn rfl (fun _ _ _ => rfl)
    have hP : va_P D ccl (([(h0, .inr (1, [.ref lh])), (lh, .inr (0, [.int md, .ref er, .int (nI C)])), (er, .inl (cO, 10, .inr (.inr (.inr (.inr fr))))), (qf, .inr (3, [.long o1, .long u1]))] : va_W) ++ scL (scJ cI SA SB mc ms mw) (List.range N)) H := hP
    have hD : va_D A (([(h0, .inr (1, [.ref lh])), (lh, .inr (0, [.int md, .ref er, .int (nI C)])), (er, .inl (cO, 10, .inr (.inr (.inr (.inr fr))))), (qf, .inr (3, [.long o1, .long u1]))] : va_W) ++ scL (scJ cI SA SB mc ms mw) (List.range N)) := hD
    refine lv_aload hx hb dX0_gainAt_41 (lv_at hl 0 rfl) ?_
    refine lv_iload_n hx hb dX0_gainAt_43 rfl (lv_at hl 2 rfl) ?_
    obtain ⟨hP, hD⟩ := sc_open (X := [(h0, .inr (1, [.ref lh])), (lh, .inr (0, [.int md, .ref er, .int (nI C)])), (er, .inl (cO, 10, .inr (.inr (.inr (.inr fr))))), (qf, .inr (3, [.long o1, .long u1]))]) (gN (mo k)) hP hD (rgm (hO k c_18).1)
    have hP : va_P D ccl (([(h0, .inr (1, [.ref lh])), (lh, .inr (0, [.int md, .ref er, .int (nI C)])), (er, .inl (cO, 10, .inr (.inr (.inr (.inr fr))))), (qf, .inr (3, [.long o1, .long u1])), (SA (gN (mo k)), .inr (5, [.int (nI (gN (mo k))), .int (mw (gN (mo k))), .ref (SB (gN (mo k))), .int (ms (4 * (gN (mo k)))), .int (ms (4 * (gN (mo k)) + 1)), .int (ms (4 * (gN (mo k)) + 2)), .int (ms (4 * (gN (mo k)) + 3))])), (SB (gN (mo k)), .inl (cI, 5, .inl (fun z9 => if z9 < 5 then mc (5 * (gN (mo k)) + z9) else 0)))] : va_W) ++ scL (scJ cI SA SB mc ms mw) ((List.range N).erase (gN (mo k)))) H := hP
    have hD : va_D A (([(h0, .inr (1, [.ref lh])), (lh, .inr (0, [.int md, .ref er, .int (nI C)])), (er, .inl (cO, 10, .inr (.inr (.inr (.inr fr))))), (qf, .inr (3, [.long o1, .long u1])), (SA (gN (mo k)), .inr (5, [.int (nI (gN (mo k))), .int (mw (gN (mo k))), .ref (SB (gN (mo k))), .int (ms (4 * (gN (mo k)))), .int (ms (4 * (gN (mo k)) + 1)), .int (ms (4 * (gN (mo k)) + 2)), .int (ms (4 * (gN (mo k)) + 3))])), (SB (gN (mo k)), .inl (cI, 5, .inl (fun z9 => if z9 < 5 then mc (5 * (gN (mo k)) + z9) else 0)))] : va_W) ++ scL (scJ cI SA SB mc ms mw) ((List.range N).erase (gN (mo k)))) := hD
    have hPc := hP.sub (ws' := [((SA (gN (mo k))), .inr (5, [.int (nI (gN (mo k))), .int (mw (gN (mo k))), .ref (SB (gN (mo k))), .int (ms (4 * (gN (mo k)))), .int (ms (4 * (gN (mo k)) + 1)), .int (ms (4 * (gN (mo k)) + 2)), .int (ms (4 * (gN (mo k)) + 3))])), ((SB (gN (mo k))), .inl (cI, 5, .inl (fun z9 => if z9 < 5 then mc (5 * (gN (mo k)) + z9) else 0)))]) [4, 5] rfl
    have hDc := hD.sub (ws' := [((SA (gN (mo k))), .inr (5, [.int (nI (gN (mo k))), .int (mw (gN (mo k))), .ref (SB (gN (mo k))), .int (ms (4 * (gN (mo k)))), .int (ms (4 * (gN (mo k)) + 1)), .int (ms (4 * (gN (mo k)) + 2)), .int (ms (4 * (gN (mo k)) + 3))])), ((SB (gN (mo k))), .inl (cI, 5, .inl (fun z9 => if z9 < 5 then mc (5 * (gN (mo k)) + z9) else 0)))]) [4, 5] (by decide) rfl
    have hFc := va_free (wc := [((SA (gN (mo k))), .inr (5, [.int (nI (gN (mo k))), .int (mw (gN (mo k))), .ref (SB (gN (mo k))), .int (ms (4 * (gN (mo k)))), .int (ms (4 * (gN (mo k)) + 1)), .int (ms (4 * (gN (mo k)) + 2)), .int (ms (4 * (gN (mo k)) + 3))])), ((SB (gN (mo k))), .inl (cI, 5, .inl (fun z9 => if z9 < 5 then mc (5 * (gN (mo k)) + z9) else 0)))]) hD hS hA [4, 5] rfl
    refine g_Vl (As := [.int (nI w)]) (rest := [.long F1, .ref qf]) CF (c_X4_gainDivisor l D cI cJ cO df H.size (SA (gN (mo k))) (SB (gN (mo k))) (nI (gN (mo k))) (mw (gN (mo k))) (ms (4 * (gN (mo k)))) (ms (4 * (gN (mo k)) + 1)) (ms (4 * (gN (mo k)) + 2)) (ms (4 * (gN (mo k)) + 3)) (fun z9 => if z9 < 5 then mc (5 * (gN (mo k)) + z9) else 0) w hw2) (cwV 1 hts gX0_gainAt_X4_gainDivisor rfl rfl rfl (by decide +kernel) ⟨Nat.le_of_ble_eq_true rfl, Nat.le_of_ble_eq_true rfl⟩) (va_recv hK hP (ci := 5) (q0 := 4) rfl rfl) hPc hK hDc hV hH hS hFc rfl hl.1 rfl (Nat.le_of_ble_eq_true rfl) dX0_gainAt_44 ⟨Nat.le_of_ble_eq_true rfl, Nat.le_of_ble_eq_true rfl⟩ (fun r_44 w1 H1 locs1 hq hP1 hD1 hk hS hz => ?_)
    obtain ⟨rfl, hr_44⟩ := hq
    have hP := g_keepR hP hD [4, 5] rfl hk hP1
    clear hPc hDc hFc hP1 hD1 hk hz
    generalize H1 = H at hP hS ⊢
    have hP : va_P D ccl (([(h0, .inr (1, [.ref lh])), (lh, .inr (0, [.int md, .ref er, .int (nI C)])), (er, .inl (cO, 10, .inr (.inr (.inr (.inr fr))))), (qf, .inr (3, [.long o1, .long u1])), (SA (gN (mo k)), .inr (5, [.int (nI (gN (mo k))), .int (mw (gN (mo k))), .ref (SB (gN (mo k))), .int (ms (4 * (gN (mo k)))), .int (ms (4 * (gN (mo k)) + 1)), .int (ms (4 * (gN (mo k)) + 2)), .int (ms (4 * (gN (mo k)) + 3))])), (SB (gN (mo k)), .inl (cI, 5, .inl (fun z9 => if z9 < 5 then mc (5 * (gN (mo k)) + z9) else 0)))] : va_W) ++ scL (scJ cI SA SB mc ms mw) ((List.range N).erase (gN (mo k)))) H := hP
    have hD : va_D A (([(h0, .inr (1, [.ref lh])), (lh, .inr (0, [.int md, .ref er, .int (nI C)])), (er, .inl (cO, 10, .inr (.inr (.inr (.inr fr))))), (qf, .inr (3, [.long o1, .long u1])), (SA (gN (mo k)), .inr (5, [.int (nI (gN (mo k))), .int (mw (gN (mo k))), .ref (SB (gN (mo k))), .int (ms (4 * (gN (mo k)))), .int (ms (4 * (gN (mo k)) + 1)), .int (ms (4 * (gN (mo k)) + 2)), .int (ms (4 * (gN (mo k)) + 3))])), (SB (gN (mo k)), .inl (cI, 5, .inl (fun z9 => if z9 < 5 then mc (5 * (gN (mo k)) + z9) else 0)))] : va_W) ++ scL (scJ cI SA SB mc ms mw) ((List.range N).erase (gN (mo k)))) := hD
    subst hr_44
    refine lv_topl (fun G1 eG1 => ?_)
    obtain ⟨hP, hD⟩ := sc_close (X := [(h0, .inr (1, [.ref lh])), (lh, .inr (0, [.int md, .ref er, .int (nI C)])), (er, .inl (cO, 10, .inr (.inr (.inr (.inr fr))))), (qf, .inr (3, [.long o1, .long u1]))]) (c2 := [(SA (gN (mo k)), .inr (5, [.int (nI (gN (mo k))), .int (mw (gN (mo k))), .ref (SB (gN (mo k))), .int (ms (4 * (gN (mo k)))), .int (ms (4 * (gN (mo k)) + 1)), .int (ms (4 * (gN (mo k)) + 2)), .int (ms (4 * (gN (mo k)) + 3))])), (SB (gN (mo k)), .inl (cI, 5, .inl (fun z9 => if z9 < 5 then mc (5 * (gN (mo k)) + z9) else 0)))]) (S := (scJ cI SA SB mc ms mw)) (S' := (scJ cI SA SB mc ms mw)) (js := (List.range N)) (gN (mo k)) hP hD (rgm (hO k c_18).1) rgn rfl (fun _ _ _ => rfl)
    have hP : va_P D ccl (([(h0, .inr (1, [.ref lh])), (lh, .inr (0, [.int md, .ref er, .int (nI C)])), (er, .inl (cO, 10, .inr (.inr (.inr (.inr fr))))), (qf, .inr (3, [.long o1, .long u1]))] : va_W) ++ scL (scJ cI SA SB mc ms mw) (List.range N)) H := hP
    have hD : va_D A (([(h0, .inr (1, [.ref lh])), (lh, .inr (0, [.int md, .ref er, .int (nI C)])), (er, .inl (cO, 10, .inr (.inr (.inr (.inr fr))))), (qf, .inr (3, [.long o1, .long u1]))] : va_W) ++ scL (scJ cI SA SB mc ms mw) (List.range N)) := hD
    have hPc := hP.sub (ws' := [(qf, .inr (3, [.long o1, .long u1]))]) [3] rfl
    have hDc := hD.sub (ws' := [(qf, .inr (3, [.long o1, .long u1]))]) [3] (by decide) rfl
    have hFc := va_free (wc := [(qf, .inr (3, [.long o1, .long u1]))]) hD hS hA [3] rfl
    refine g_Vv (As := [.long F1, .long G1]) (rest := []) CF (c_X2_multiply l D cI cJ cO df H.size qf o1 u1 F1 G1 ) (cwV 2 hts gX0_gainAt_X2_multiply rfl rfl rfl (by decide +kernel) ⟨Nat.le_of_ble_eq_true rfl, Nat.le_of_ble_eq_true rfl⟩) (va_recv hK hP (ci := 3) (q0 := 3) rfl rfl) hPc hK hDc hV hH hS hFc rfl hl.1 rfl (Nat.le_of_ble_eq_true rfl) dX0_gainAt_47 ⟨Nat.le_of_ble_eq_true rfl, Nat.le_of_ble_eq_true rfl⟩ (fun w1 H1 locs1 hq hP1 hD1 hk hS hz => ?_)
    obtain rfl := hq
    obtain ⟨hP, hD⟩ := g_joinQ (X := [(h0, .inr (1, [.ref lh])), (lh, .inr (0, [.int md, .ref er, .int (nI C)])), (er, .inl (cO, 10, .inr (.inr (.inr (.inr fr))))), (qf, .inr (3, [.long o1, .long u1]))]) (X' := [(h0, .inr (1, [.ref lh])), (lh, .inr (0, [.int md, .ref er, .int (nI C)])), (er, .inl (cO, 10, .inr (.inr (.inr (.inr fr))))), (qf, .inr (3, [.long (o1 * F1), .long (u1 * G1)]))]) hP hD hk hFc hP1 hD1 [3] [0, 1, 2] [0, 1, 2, 3] rfl rfl (by decide) (by decide) (by decide) rfl
    clear hPc hDc hFc hP1 hD1 hk hz
    generalize H1 = H at hP hS ⊢
    have hP : va_P D ccl (([(h0, .inr (1, [.ref lh])), (lh, .inr (0, [.int md, .ref er, .int (nI C)])), (er, .inl (cO, 10, .inr (.inr (.inr (.inr fr))))), (qf, .inr (3, [.long (o1 * F1), .long (u1 * G1)]))] : va_W) ++ scL (scJ cI SA SB mc ms mw) (List.range N)) H := hP
    have hD : va_D A (([(h0, .inr (1, [.ref lh])), (lh, .inr (0, [.int md, .ref er, .int (nI C)])), (er, .inl (cO, 10, .inr (.inr (.inr (.inr fr))))), (qf, .inr (3, [.long (o1 * F1), .long (u1 * G1)]))] : va_W) ++ scL (scJ cI SA SB mc ms mw) (List.range N)) := hD
    have hJ8 := hO8 k c_18
    have hb8 := zOU_le (k := k + 1) hc hCw c_18 (fun j hj => hO8 j hj)
    have eF : F1.toInt = zN w (mc (5 * gN (mo k))).toInt (mc (5 * gN (mo k) + 1)).toInt (mc (5 * gN (mo k) + 2)).toInt := (congrArg Int64.toInt eF1).trans (zN1 hc hw2 hJ8)
    have eG : G1.toInt = zN w 64 (mc (5 * gN (mo k) + 3)).toInt (mc (5 * gN (mo k) + 4)).toInt := (congrArg Int64.toInt eG1).trans (zU1 hc hw2 hJ8)
    have eo2 : (o1 * F1).toInt = zO mc mo w (k + 1) := by
      have e9 : o1.toInt * F1.toInt = zO mc mo w (k + 1) := by rw [eo, eF]; rfl
      rw [fb_mulL (by rw [e9]; omega) (by rw [e9]; omega), e9]
    have eu2 : (u1 * G1).toInt = zU mc mo w (k + 1) := by
      have e9 : u1.toInt * G1.toInt = zU mc mo w (k + 1) := by rw [eu, eG]; rfl
      rw [fb_mulL (by rw [e9]; omega) (by rw [e9]; omega), e9]
    refine lv_iinc (v := nI (k + 1)) (lv' := [(3, .int (nI (k + 1))), (4, .ref (SA (gN (mo k)))), (0, .ref h0), (1, .int (nI w)), (2, .ref qf)]) hx hb dX0_gainAt_50 hl (k := 4) rfl (by exact nI_1 _) (by decide) rfl (fun ls hl => ?_)
    refine lv_goto (tgt := 10) hx hb dX0_gainAt_53 (by decide) ?_
    refine W.widen (k := 1) (n := 2) (Nat.le_refl _) (Nat.le_refl _) ?_
    exact ih_10 (k + 1, (o1 * F1), (u1 * G1)) _ _ _ (show (k + 1) ≤ C ∧ (o1 * F1).toInt = zO mc mo w (k + 1) ∧ (u1 * G1).toInt = zU mc mo w (k + 1) from (by exact ⟨c_18, eo2, eu2⟩)) (show C - (k + 1) < C - k by omega) hP hD hS (lv_sub hl [2, 3, 4, 0] rfl)

set_option maxHeartbeats 4000000 in
set_option maxRecDepth 100000 in
theorem c_X0_gainAt_e (l : Launch) (D : va_G) (cI cJ cO : ClassId) (df sz : Nat) (h0 : Nat) (lh : Nat) (md : Int32) (w : Nat)  : MetR l yX0_gainAt wsX0_gainAt ({ frames := 2, cells := 1, slots := 2, locals := 54 } : Room) D (gTY cI cJ cO) df [(h0, .inr (1, [.ref lh])), (lh, .inr (0, [.int md, .ref df, .int 0]))] sz [.ref h0, .int (nI w)] (fun (wZ : va_W × Nat) => ∃ (qf : Nat), ∃ (rn : Int64), ∃ (rd : Int64), wZ.1 = [(h0, .inr (1, [.ref lh])), (lh, .inr (0, [.int md, .ref df, .int 0])), (qf, .inr (3, [.long rn, .long rd]))] ∧ wZ.2 = qf ∧ rn.toInt = gnR 1 1 0 ∧ rd.toInt = gnR 1 1 1) := by
  refine g_of (cc := cX0_gainAt) (nL := 5) (ret := (some (.object "TapLoom$Fraction"))) (D := D) (TY := (gTY cI cJ cO)) (df := df) (Qc := fun A => va_Qr (fun (wZ : va_W × Nat) => ∃ (qf : Nat), ∃ (rn : Int64), ∃ (rd : Int64), wZ.1 = [(h0, .inr (1, [.ref lh])), (lh, .inr (0, [.int md, .ref df, .int 0])), (qf, .inr (3, [.long rn, .long rd]))] ∧ wZ.2 = qf ∧ rn.toInt = gnR 1 1 0 ∧ rd.toInt = gnR 1 1 1) (gBr D (gTY cI cJ cO) A) A) (by decide +kernel) rfl (Nat.le_of_ble_eq_true rfl) ?_
  intro p e s m below meth c ls A hsz C0 hin hl
  obtain ⟨CF, hr, hlk, hA, hS, hP, hK, hD, hV, hH⟩ := C0
  have CF : CallFix p m c cX0_gainAt 5 s _ wsX0_gainAt RX0 := CF
  obtain ⟨hx, hb, hml, hown, hts⟩ := id CF
  subst hsz
  have hclassLink_RX0_58 : (Cond.classLink RX0 58 RX2).before _ s = true := hts _ (List.mem_of_getElem? (i := 1) rfl)
  have hinstantiable_RX2_2 : (Cond.instantiable RX2 2).before _ s = true := hts _ (List.mem_of_getElem? (i := 2) rfl)
  have hinitialized_RX2 : (Cond.initialized RX2).before _ s = true := hts _ (List.mem_of_getElem? (i := 3) rfl)
  have hmethodLink_RX0_60 : (Cond.methodLink RX0 60 yX2_init).before _ s = true := hts _ (List.mem_of_getElem? (i := 6) rfl)
  have hinstanceMethod_yX2_init : (Cond.instanceMethod yX2_init).before _ s = true := hts _ (List.mem_of_getElem? (i := 7) rfl)
  have hfieldLink_RX0_12 : (Cond.fieldLink RX0 12 "TapLoom$Chain" "members" "Ljava/util/ArrayList;").before _ s = true := hts _ (List.mem_of_getElem? (i := 4) rfl)
  have hmethodLink_RX0_18 : (Cond.methodLink RX0 18 yJx4a65c_size_8abf5).before _ s = true := hts _ (List.mem_of_getElem? (i := 14) rfl)
  have hmethodLink_RX0_72 : (Cond.methodLink RX0 72 yX2_makeSmall).before _ s = true := hts _ (List.mem_of_getElem? (i := 55) rfl)
  have inX0 : ∀ w ∈ u_ws RX0 TX0 1, w ∈ wsX0_gainAt := fun w h => (List.mem_cons_of_mem _ (List.mem_append_left _ (List.mem_append_left _ (List.mem_append_right _ h))))
  have inX2 : ∀ w ∈ u_ws RX2 TX2 2, w ∈ wsX0_gainAt := fun w h => (List.mem_cons_of_mem _ (List.mem_append_left _ (List.mem_append_left _ (List.mem_append_left _ (List.mem_append_right _ h)))))
  have hP : va_P D ccl [(h0, .inr (1, [.ref lh])), (lh, .inr (0, [.int md, .ref df, .int 0]))] s.heap := hP
  have hl : lv_has ls 5 [(0, .ref h0), (1, .int (nI w))] := hl
  refine va_new (ci := 3) (fs := [.long 0, .long 0]) (C := RX2) (T := TX2) (N := 2) hx hb hts inX2 tyX2 tyX2_ok hown hclassLink_RX0_58 hinstantiable_RX2_2 hinitialized_RX2 hK hP hD hS hA rfl (fun j hj => by rcases (show j = 0 ∨ j = 1 by omega) with rfl | rfl <;> rfl) (Nat.le_of_ble_eq_true rfl) (Nat.le_of_ble_eq_true rfl) dX0_gainAt_0 (fun qf H hP hD hS => ?_)
  have hP : va_P D ccl [(h0, .inr (1, [.ref lh])), (lh, .inr (0, [.int md, .ref df, .int 0])), (qf, .inr (3, [.long 0, .long 0]))] H := hP
  have hD : va_D A [(h0, .inr (1, [.ref lh])), (lh, .inr (0, [.int md, .ref df, .int 0])), (qf, .inr (3, [.long 0, .long 0]))] := hD
  refine lv_dup hx hb dX0_gainAt_3 rfl ?_
  have hPc := hP.sub (ws' := [(qf, .inr (3, [.long 0, .long 0]))]) [2] rfl
  have hDc := hD.sub (ws' := [(qf, .inr (3, [.long 0, .long 0]))]) [2] (by decide) rfl
  have hFc := va_free (wc := [(qf, .inr (3, [.long 0, .long 0]))]) hD hS hA [2] rfl
  refine g_Iv (As := []) (rest := [.ref qf]) CF (c_X2_init l D cI cJ cO df H.size qf ) (cwI 0 hts gX0_gainAt_X2_init rfl rfl rfl hinitialized_RX2 hmethodLink_RX0_60 hinstanceMethod_yX2_init rfl (by decide +kernel) ⟨Nat.le_of_ble_eq_true rfl, Nat.le_of_ble_eq_true rfl⟩)  hPc hK hDc hV hH hS hFc rfl hl.1 rfl (Nat.le_of_ble_eq_true rfl) dX0_gainAt_4 ⟨Nat.le_of_ble_eq_true rfl, Nat.le_of_ble_eq_true rfl⟩ (fun w1 H1 locs1 hq hP1 hD1 hk hS hz => ?_)
  obtain rfl := hq
  obtain ⟨hP, hD⟩ := g_join (ws' := [(h0, .inr (1, [.ref lh])), (lh, .inr (0, [.int md, .ref df, .int 0])), (qf, .inr (3, [.long 1, .long 1]))]) hP hD hk hFc hP1 hD1 [2] [0, 1] [0, 1, 2] rfl rfl (by decide) (by decide) (by decide) rfl
  clear hPc hDc hFc hP1 hD1 hk hz
  generalize H1 = H at hP hS ⊢
  have hP : va_P D ccl [(h0, .inr (1, [.ref lh])), (lh, .inr (0, [.int md, .ref df, .int 0])), (qf, .inr (3, [.long 1, .long 1]))] H := hP
  have hD : va_D A [(h0, .inr (1, [.ref lh])), (lh, .inr (0, [.int md, .ref df, .int 0])), (qf, .inr (3, [.long 1, .long 1]))] := hD
  refine lv_astore_n (lv' := [(2, .ref qf), (0, .ref h0), (1, .int (nI w))]) hx hb dX0_gainAt_7 rfl hl (by decide) rfl (fun ls hl => ?_)
  refine lv_iconst (v := 0) hx hb dX0_gainAt_8 (by decide) ?_
  refine lv_istore_n (lv' := [(3, .int 0), (2, .ref qf), (0, .ref h0), (1, .int (nI w))]) hx hb dX0_gainAt_9 rfl hl (by decide) rfl (fun ls hl => ?_)
  refine lv_iload_n hx hb dX0_gainAt_10 rfl (lv_at hl 0 rfl) ?_
  refine lv_aload_n hx hb dX0_gainAt_11 rfl (lv_at hl 2 rfl) ?_
  refine va_get (D := D) (ci := 1) (v := .ref lh) (C := RX0) (T := TX0) (N := 1) hx hb hts inX0 hown hK hP 0 rfl rfl 0 (by decide) hfieldLink_RX0_12 (fun _ h9 => h9) rfl dX0_gainAt_12 ?_
  have hPc := hP.sub (ws' := [(lh, .inr (0, [.int md, .ref df, .int 0]))]) [1] rfl
  have hDc := hD.sub (ws' := [(lh, .inr (0, [.int md, .ref df, .int 0]))]) [1] (by decide) rfl
  have hFc := va_free (wc := [(lh, .inr (0, [.int md, .ref df, .int 0]))]) hD hS hA [1] rfl
  refine g_Vi (As := []) (rest := [.int 0]) CF (c_Jx4a65c_size_8abf5 l D cI cJ cO df H.size lh md df 0 ) (cwV 0 hts gX0_gainAt_Jx4a65c_size_8abf5 rfl rfl rfl (by decide +kernel) ⟨Nat.le_of_ble_eq_true rfl, Nat.le_of_ble_eq_true rfl⟩) (va_recv hK hP (ci := 0) (q0 := 1) rfl rfl) hPc hK hDc hV hH hS hFc rfl hl.1 rfl (Nat.le_of_ble_eq_true rfl) dX0_gainAt_15 ⟨Nat.le_of_ble_eq_true rfl, Nat.le_of_ble_eq_true rfl⟩ (fun r_15 w1 H1 locs1 hq hP1 hD1 hk hS hz => ?_)
  obtain ⟨rfl, hr_15⟩ := hq
  have hP := g_keepR hP hD [1] rfl hk hP1
  clear hPc hDc hFc hP1 hD1 hk hz
  generalize H1 = H at hP hS ⊢
  have hP : va_P D ccl [(h0, .inr (1, [.ref lh])), (lh, .inr (0, [.int md, .ref df, .int 0])), (qf, .inr (3, [.long 1, .long 1]))] H := hP
  have hD : va_D A [(h0, .inr (1, [.ref lh])), (lh, .inr (0, [.int md, .ref df, .int 0])), (qf, .inr (3, [.long 1, .long 1]))] := hD
  subst hr_15
  refine lv_icmp_ge (tgt := 56) hx hb dX0_gainAt_18 (by decide) (fun c_18 => ?_) (fun c_18 => ?_)
  · refine lv_aload_n hx hb dX0_gainAt_56 rfl (lv_at hl 1 rfl) ?_
    have hPc := hP.sub (ws' := [(qf, .inr (3, [.long 1, .long 1]))]) [2] rfl
    have hDc := hD.sub (ws' := [(qf, .inr (3, [.long 1, .long 1]))]) [2] (by decide) rfl
    have hFc := va_free (wc := [(qf, .inr (3, [.long 1, .long 1]))]) hD hS hA [2] rfl
    refine g_Vv (As := []) (rest := []) CF (c_X2_makeSmall l D cI cJ cO df H.size qf 1 1 (by decide) (by decide)) (cwV 0 hts gX0_gainAt_X2_makeSmall rfl rfl rfl (by decide +kernel) ⟨Nat.le_of_ble_eq_true rfl, Nat.le_of_ble_eq_true rfl⟩) (va_recv hK hP (ci := 3) (q0 := 2) rfl rfl) hPc hK hDc hV hH hS hFc rfl hl.1 rfl (Nat.le_of_ble_eq_true rfl) dX0_gainAt_57 ⟨Nat.le_of_ble_eq_true rfl, Nat.le_of_ble_eq_true rfl⟩ (fun w1 H1 locs1 hq hP1 hD1 hk hS hz => ?_)
    obtain ⟨rn9, rd9, rfl, hq_57⟩ := hq
    obtain ⟨hP, hD⟩ := g_join (ws' := [(h0, .inr (1, [.ref lh])), (lh, .inr (0, [.int md, .ref df, .int 0])), (qf, .inr (3, [.long rn9, .long rd9]))]) hP hD hk hFc hP1 hD1 [2] [0, 1] [0, 1, 2] rfl rfl (by decide) (by decide) (by decide) rfl
    clear hPc hDc hFc hP1 hD1 hk hz
    generalize H1 = H at hP hS ⊢
    have hP : va_P D ccl [(h0, .inr (1, [.ref lh])), (lh, .inr (0, [.int md, .ref df, .int 0])), (qf, .inr (3, [.long rn9, .long rd9]))] H := hP
    have hD : va_D A [(h0, .inr (1, [.ref lh])), (lh, .inr (0, [.int md, .ref df, .int 0])), (qf, .inr (3, [.long rn9, .long rd9]))] := hD
    refine lv_aload_n hx hb dX0_gainAt_60 rfl (lv_at hl 1 rfl) ?_
    refine g_rret (a := qf) hx hb hr hlk (Or.inl ⟨_, rfl⟩) hP hK hD hS (Nat.le_of_ble_eq_true rfl) (Nat.le_of_ble_eq_true rfl) dX0_gainAt_61 ?_
    exact ⟨_, _, _, rfl, rfl, hq_57⟩
  · exact absurd c_18 (by decide)
