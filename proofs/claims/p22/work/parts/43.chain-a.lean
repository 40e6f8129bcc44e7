set_option maxHeartbeats 4000000 in
set_option maxRecDepth 100000 in
theorem c_X0_init (l : Launch) (D : va_G) (cI cJ cO : ClassId) (df sz : Nat) (h0 : Nat)  : MetV l yX0_init wsX0_init ({ frames := 4, cells := 1, slots := 3, locals := 90 } : Room) D (gTY cI cJ cO) df [(h0, .inr (1, [.null]))] sz [.ref h0] (fun (wZ : va_W) => ∃ (lh : Nat), wZ = [(h0, .inr (1, [.ref lh])), (lh, .inr (0, [.int 0, .ref df, .int 0]))]) := by
  refine g_of (cc := cX0_init) (nL := 1) (ret := none) (D := D) (TY := (gTY cI cJ cO)) (df := df) (Qc := fun A => va_Qv (fun (wZ : va_W) => ∃ (lh : Nat), wZ = [(h0, .inr (1, [.ref lh])), (lh, .inr (0, [.int 0, .ref df, .int 0]))]) (gB D (gTY cI cJ cO) A) A) (by decide +kernel) rfl (Nat.le_of_ble_eq_true rfl) ?_
  intro p e s m below meth c ls A hsz C0 hin hl
  obtain ⟨CF, hr, hlk, hA, hS, hP, hK, hD, hV, hH⟩ := C0
  have CF : CallFix p m c cX0_init 1 s _ wsX0_init RX0 := CF
  obtain ⟨hx, hb, hml, hown, hts⟩ := id CF
  subst hsz
  have hmethodLink_RX0_3 : (Cond.methodLink RX0 3 objectInit).before _ s = true := hts _ (List.mem_of_getElem? (i := 1) rfl)
  have hinstanceMethod_objectInit : (Cond.instanceMethod objectInit).before _ s = true := hts _ (List.mem_of_getElem? (i := 2) rfl)
  have hcode_objectInit : (Cond.code objectInit ⟨#[0xb1]⟩ 1 none).before _ s = true := hts _ (List.mem_of_getElem? (i := 3) rfl)
  have hclassLink_RX0_9 : (Cond.classLink RX0 9 RJx4a65c).before _ s = true := hts _ (List.mem_of_getElem? (i := 4) rfl)
  have hinstantiable_RJx4a65c_3 : (Cond.instantiable RJx4a65c 3).before _ s = true := hts _ (List.mem_of_getElem? (i := 5) rfl)
  have hinitialized_RJx4a65c : (Cond.initialized RJx4a65c).before _ s = true := hts _ (List.mem_of_getElem? (i := 6) rfl)
  have hmethodLink_RX0_11 : (Cond.methodLink RX0 11 yJx4a65c_init_da8c8).before _ s = true := hts _ (List.mem_of_getElem? (i := 8) rfl)
  have hinstanceMethod_yJx4a65c_init_da8c8 : (Cond.instanceMethod yJx4a65c_init_da8c8).before _ s = true := hts _ (List.mem_of_getElem? (i := 9) rfl)
  have hfieldLink_RX0_12 : (Cond.fieldLink RX0 12 "TapLoom$Chain" "members" "Ljava/util/ArrayList;").before _ s = true := hts _ (List.mem_of_getElem? (i := 7) rfl)
  have inJx4a65c : ∀ w ∈ u_ws RJx4a65c TJx4a65c 3, w ∈ wsX0_init := fun w h => (List.mem_cons_of_mem _ (List.mem_append_left _ (List.mem_append_right _ h)))
  have inX0 : ∀ w ∈ u_ws RX0 TX0 1, w ∈ wsX0_init := fun w h => (List.mem_cons_of_mem _ (List.mem_append_right _ h))
  have hP : va_P D ccl [(h0, .inr (1, [.null]))] s.heap := hP
  have hl : lv_has ls 1 [(0, .ref h0)] := hl
  refine lv_aload_n hx hb dX0_init_0 rfl (lv_at hl 0 rfl) ?_
  refine W.objInit hx hb hown hmethodLink_RX0_3 hinstanceMethod_objectInit hcode_objectInit rfl (by rw [hml]; exact hl.1) rfl dX0_init_1 (Nat.le_of_ble_eq_true rfl) (Nat.le_of_ble_eq_true rfl) ?_
  refine W.eq (g2 := F0 m 4 ls []) rfl ?_
  refine lv_aload_n hx hb dX0_init_4 rfl (lv_at hl 0 rfl) ?_
  refine va_new (ci := 0) (fs := [.int 0, .null, .int 0]) (C := RJx4a65c) (T := TJx4a65c) (N := 3) hx hb hts inJx4a65c tyJx4a65c tyJx4a65c_ok hown hclassLink_RX0_9 hinstantiable_RJx4a65c_3 hinitialized_RJx4a65c hK hP hD hS hA rfl (fun j hj => by rcases (show j = 0 ∨ j = 1 ∨ j = 2 by omega) with rfl | rfl | rfl <;> rfl) (Nat.le_of_ble_eq_true rfl) (Nat.le_of_ble_eq_true rfl) dX0_init_5 (fun q1 H hP hD hS => ?_)
  have hP : va_P D ccl [(h0, .inr (1, [.null])), (q1, .inr (0, [.int 0, .null, .int 0]))] H := hP
  have hD : va_D A [(h0, .inr (1, [.null])), (q1, .inr (0, [.int 0, .null, .int 0]))] := hD
  refine lv_dup hx hb dX0_init_8 rfl ?_
  have hPc := hP.sub (ws' := [(q1, .inr (0, [.int 0, va_rf none, .int 0]))]) [1] rfl
  have hDc := hD.sub (ws' := [(q1, .inr (0, [.int 0, va_rf none, .int 0]))]) [1] (by decide) rfl
  have hFc := va_free (wc := [(q1, .inr (0, [.int 0, va_rf none, .int 0]))]) hD hS hA [1] rfl
  refine g_Iv (As := []) (rest := [.ref q1, .ref h0]) CF (c_Jx4a65c_init_da8c8 l D cI cJ cO df H.size q1 0 none 0 ) (cwI 0 hts gX0_init_Jx4a65c_init_da8c8 rfl rfl rfl hinitialized_RJx4a65c hmethodLink_RX0_11 hinstanceMethod_yJx4a65c_init_da8c8 rfl (by decide +kernel) ⟨Nat.le_of_ble_eq_true rfl, Nat.le_of_ble_eq_true rfl⟩)  hPc hK hDc hV hH hS hFc rfl hl.1 rfl (Nat.le_of_ble_eq_true rfl) dX0_init_9 ⟨Nat.le_of_ble_eq_true rfl, Nat.le_of_ble_eq_true rfl⟩ (fun w1 H1 locs1 hq hP1 hD1 hk hS hz => ?_)
  obtain rfl := hq
  obtain ⟨hP, hD⟩ := g_join (ws' := [(h0, .inr (1, [.null])), (q1, .inr (0, [.int 0, .ref df, .int 0]))]) hP hD hk hFc hP1 hD1 [1] [0] [0, 1] rfl rfl (by decide) (by decide) (by decide) rfl
  clear hPc hDc hFc hP1 hD1 hk hz
  generalize H1 = H at hP hS ⊢
  have hP : va_P D ccl [(h0, .inr (1, [.null])), (q1, .inr (0, [.int 0, .ref df, .int 0]))] H := hP
  have hD : va_D A [(h0, .inr (1, [.null])), (q1, .inr (0, [.int 0, .ref df, .int 0]))] := hD
  refine va_put (D := D) (ci := 1) (v := .ref q1) (ty := .object "java/util/ArrayList") (C := RX0) (T := TX0) (N := 1) hx hb hts inX0 tyX0 tyX0_ok nmX0 hown hK hP hD hS 0 rfl rfl 0 (by decide) hfieldLink_RX0_12 (fun _ h9 => h9) rfl (by decide +kernel) rfl rfl (Nat.le_of_ble_eq_true rfl) dX0_init_12 (fun H locs hP hD hS => ?_)
  have hP : va_P D ccl [(h0, .inr (1, [.ref q1])), (q1, .inr (0, [.int 0, .ref df, .int 0]))] H := hP
  have hD : va_D A [(h0, .inr (1, [.ref q1])), (q1, .inr (0, [.int 0, .ref df, .int 0]))] := hD
  refine g_vret hx hb hr hlk hP hK hD hS (Nat.le_of_ble_eq_true rfl) (Nat.le_of_ble_eq_true rfl) dX0_init_15 ?_
  exact ⟨_, rfl⟩

set_option maxHeartbeats 4000000 in
set_option maxRecDepth 100000 in
theorem c_X0_length (l : Launch) (D : va_G) (cI cJ cO : ClassId) (df sz : Nat) (h0 : Nat) (lh : Nat) (er : Nat) (md : Int32) (C : Nat)  : MetI l yX0_length wsX0_length ({ frames := 1, cells := 0, slots := 0, locals := 20 } : Room) D (gTY cI cJ cO) df [(h0, .inr (1, [.ref lh])), (lh, .inr (0, [.int md, .ref er, .int (nI C)]))] sz [.ref h0] (fun (r : Int32) (wZ : va_W) => wZ = [(h0, .inr (1, [.ref lh])), (lh, .inr (0, [.int md, .ref er, .int (nI C)]))] ∧ r = nI C) := by
  refine g_of (cc := cX0_length) (nL := 1) (ret := (some .int)) (D := D) (TY := (gTY cI cJ cO)) (df := df) (Qc := fun A => va_Qi (fun (r : Int32) (wZ : va_W) => wZ = [(h0, .inr (1, [.ref lh])), (lh, .inr (0, [.int md, .ref er, .int (nI C)]))] ∧ r = nI C) (gB D (gTY cI cJ cO) A) A) (by decide +kernel) rfl (Nat.le_of_ble_eq_true rfl) ?_
  intro p e s m below meth c ls A hsz C0 hin hl
  obtain ⟨CF, hr, hlk, hA, hS, hP, hK, hD, hV, hH⟩ := C0
  have CF : CallFix p m c cX0_length 1 s _ wsX0_length RX0 := CF
  obtain ⟨hx, hb, hml, hown, hts⟩ := id CF
  subst hsz
  have hfieldLink_RX0_12 : (Cond.fieldLink RX0 12 "TapLoom$Chain" "members" "Ljava/util/ArrayList;").before _ s = true := hts _ (List.mem_of_getElem? (i := 1) rfl)
  have hmethodLink_RX0_18 : (Cond.methodLink RX0 18 yJx4a65c_size_8abf5).before _ s = true := hts _ (List.mem_of_getElem? (i := 2) rfl)
  have inX0 : ∀ w ∈ u_ws RX0 TX0 1, w ∈ wsX0_length := fun w h => (List.mem_cons_of_mem _ (List.mem_append_left _ (List.mem_append_right _ h)))
  have hP : va_P D ccl [(h0, .inr (1, [.ref lh])), (lh, .inr (0, [.int md, .ref er, .int (nI C)]))] s.heap := hP
  have hl : lv_has ls 1 [(0, .ref h0)] := hl
  refine lv_aload_n hx hb dX0_length_0 rfl (lv_at hl 0 rfl) ?_
  refine va_get (D := D) (ci := 1) (v := .ref lh) (C := RX0) (T := TX0) (N := 1) hx hb hts inX0 hown hK hP 0 rfl rfl 0 (by decide) hfieldLink_RX0_12 (fun _ h9 => h9) rfl dX0_length_1 ?_
  have hPc := hP.sub (ws' := [(lh, .inr (0, [.int md, .ref er, .int (nI C)]))]) [1] rfl
  have hDc := hD.sub (ws' := [(lh, .inr (0, [.int md, .ref er, .int (nI C)]))]) [1] (by decide) rfl
  have hFc := va_free (wc := [(lh, .inr (0, [.int md, .ref er, .int (nI C)]))]) hD hS hA [1] rfl
  refine g_Vi (As := []) (rest := []) CF (c_Jx4a65c_size_8abf5 l D cI cJ cO df s.heap.size lh md er (nI C) ) (cwV 0 hts gX0_length_Jx4a65c_size_8abf5 rfl rfl rfl (by decide +kernel) ⟨Nat.le_of_ble_eq_true rfl, Nat.le_of_ble_eq_true rfl⟩) (va_recv hK hP (ci := 0) (q0 := 1) rfl rfl) hPc hK hDc hV hH hS hFc rfl hl.1 rfl (Nat.le_of_ble_eq_true rfl) dX0_length_4 ⟨Nat.le_of_ble_eq_true rfl, Nat.le_of_ble_eq_true rfl⟩ (fun r_4 w1 H1 locs1 hq hP1 hD1 hk hS hz => ?_)
  obtain ⟨rfl, hr_4⟩ := hq
  have hP := g_keepR hP hD [1] rfl hk hP1
  clear hPc hDc hFc hP1 hD1 hk hz
  generalize H1 = H at hP hS ⊢
  have hP : va_P D ccl [(h0, .inr (1, [.ref lh])), (lh, .inr (0, [.int md, .ref er, .int (nI C)]))] H := hP
  have hD : va_D A [(h0, .inr (1, [.ref lh])), (lh, .inr (0, [.int md, .ref er, .int (nI C)]))] := hD
  subst hr_4
  refine g_iret (v := nI C) hx hb hr hlk hP hK hD hS (Nat.le_of_ble_eq_true rfl) (Nat.le_of_ble_eq_true rfl) dX0_length_7 ?_
  exact ⟨rfl, rfl⟩

set_option maxHeartbeats 4000000 in
set_option maxRecDepth 100000 in
theorem c_X0_placeOf (l : Launch) (D : va_G) (cI cJ cO : ClassId) (df sz : Nat) (h0 : Nat) (lh : Nat) (er : Nat) (md : Int32) (C : Nat) (fr : Nat → Option Nat) (SA : Nat → Nat) (mo : Nat → Int32) (N : Nat) (J : Nat) (hC : C ≤ 8) (hN : N ≤ 8) (hfr : ∀ k, k < C → fr k = some (SA (gN (mo k)))) (hO : ∀ i, i < C → gN (mo i) < N ∧ mo i = nI (gN (mo i))) (hiS : ∀ i j, i < N → j < N → SA i = SA j → i = j) (hiM : ∀ i j, i < C → j < C → gN (mo i) = gN (mo j) → i = j) (hJ : J < N) : MetI l yX0_placeOf wsX0_placeOf ({ frames := 3, cells := 0, slots := 0, locals := 64 } : Room) D (gTY cI cJ cO) df [(h0, .inr (1, [.ref lh])), (lh, .inr (0, [.int md, .ref er, .int (nI C)])), (er, .inl (cO, 10, .inr (.inr (.inr (.inr fr)))))] sz [.ref h0, .ref (SA J)] (fun (r : Int32) (wZ : va_W) => wZ = [(h0, .inr (1, [.ref lh])), (lh, .inr (0, [.int md, .ref er, .int (nI C)])), (er, .inl (cO, 10, .inr (.inr (.inr (.inr fr)))))] ∧ r = lastAt mo (nI J) C) := by
  refine g_of (cc := cX0_placeOf) (nL := 3) (ret := (some .int)) (D := D) (TY := (gTY cI cJ cO)) (df := df) (Qc := fun A => va_Qi (fun (r : Int32) (wZ : va_W) => wZ = [(h0, .inr (1, [.ref lh])), (lh, .inr (0, [.int md, .ref er, .int (nI C)])), (er, .inl (cO, 10, .inr (.inr (.inr (.inr fr)))))] ∧ r = lastAt mo (nI J) C) (gB D (gTY cI cJ cO) A) A) (by decide +kernel) rfl (Nat.le_of_ble_eq_true rfl) ?_
  intro p e s m below meth c ls A hsz C0 hin hl
  obtain ⟨CF, hr, hlk, hA, hS, hP, hK, hD, hV, hH⟩ := C0
  have CF : CallFix p m c cX0_placeOf 3 s _ wsX0_placeOf RX0 := CF
  obtain ⟨hx, hb, hml, hown, hts⟩ := id CF
  subst hsz
  have hfieldLink_RX0_12 : (Cond.fieldLink RX0 12 "TapLoom$Chain" "members" "Ljava/util/ArrayList;").before _ s = true := hts _ (List.mem_of_getElem? (i := 1) rfl)
  have hmethodLink_RX0_18 : (Cond.methodLink RX0 18 yJx4a65c_size_8abf5).before _ s = true := hts _ (List.mem_of_getElem? (i := 2) rfl)
  have hmethodLink_RX0_22 : (Cond.methodLink RX0 22 yJx4a65c_get_915e3).before _ s = true := hts _ (List.mem_of_getElem? (i := 8) rfl)
  have inX0 : ∀ w ∈ u_ws RX0 TX0 1, w ∈ wsX0_placeOf := fun w h => (List.mem_cons_of_mem _ (List.mem_append_left _ (List.mem_append_right _ h)))
  have hP : va_P D ccl [(h0, .inr (1, [.ref lh])), (lh, .inr (0, [.int md, .ref er, .int (nI C)])), (er, .inl (cO, 10, .inr (.inr (.inr (.inr fr)))))] s.heap := hP
  have hl : lv_has ls 3 [(0, .ref h0), (1, .ref (SA J))] := hl
  refine lv_iconst (v := 0) hx hb dX0_placeOf_0 (by decide) ?_
  refine lv_istore_n (lv' := [(2, .int 0), (0, .ref h0), (1, .ref (SA J))]) hx hb dX0_placeOf_1 rfl hl (by decide) rfl (fun ls hl => ?_)
  refine W.widen (k := 0) (n := 0) (Nat.le_refl _) (Nat.le_refl _) ?_
  refine g_while (σ := Nat) (st := []) (nL := 3) (fun k => [(h0, .inr (1, [.ref lh])), (lh, .inr (0, [.int md, .ref er, .int (nI C)])), (er, .inl (cO, 10, .inr (.inr (.inr (.inr fr)))))])
    (fun k => [(0, .ref h0), (1, .ref (SA J)), (2, .int (nI k))])
    (fun k => k ≤ C ∧ ∀ i, i < k → gN (mo i) ≠ J)
    (fun k => C - k) (fun k => 0) (fun k => 0)
    ?_ 0 ⟨Nat.zero_le C, fun i hi => absurd hi (Nat.not_lt_zero i)⟩ hP hD hS (lv_sub hl [1, 2, 0] rfl)
  intro k hI H locs ls hP hD hS hl ih
  have hI : k ≤ C ∧ ∀ i, i < k → gN (mo i) ≠ J := hI
  have hP : va_P D ccl [(h0, .inr (1, [.ref lh])), (lh, .inr (0, [.int md, .ref er, .int (nI C)])), (er, .inl (cO, 10, .inr (.inr (.inr (.inr fr)))))] H := hP
  have hD : va_D A [(h0, .inr (1, [.ref lh])), (lh, .inr (0, [.int md, .ref er, .int (nI C)])), (er, .inl (cO, 10, .inr (.inr (.inr (.inr fr)))))] := hD
  have hl : lv_has ls 3 [(0, .ref h0), (1, .ref (SA J)), (2, .int (nI k))] := hl
  change W p l e _ s m _ below meth c H locs 0 0 _ (F0 m 2 ls [])
  have ih_2 := ih
  clear ih
  obtain ⟨hk9, hno⟩ := hI
  refine lv_iload_n hx hb dX0_placeOf_2 rfl (lv_at hl 2 rfl) ?_
  refine lv_aload_n hx hb dX0_placeOf_3 rfl (lv_at hl 0 rfl) ?_
  refine va_get (D := D) (ci := 1) (v := .ref lh) (C := RX0) (T := TX0) (N := 1) hx hb hts inX0 hown hK hP 0 rfl rfl 0 (by decide) hfieldLink_RX0_12 (fun _ h9 => h9) rfl dX0_placeOf_4 ?_
  have hPc := hP.sub (ws' := [(lh, .inr (0, [.int md, .ref er, .int (nI C)]))]) [1] rfl
  have hDc := hD.sub (ws' := [(lh, .inr (0, [.int md, .ref er, .int (nI C)]))]) [1] (by decide) rfl
  have hFc := va_free (wc := [(lh, .inr (0, [.int md, .ref er, .int (nI C)]))]) hD hS hA [1] rfl
  refine g_Vi (As := []) (rest := [.int (nI k)]) CF (c_Jx4a65c_size_8abf5 l D cI cJ cO df H.size lh md er (nI C) ) (cwV 0 hts gX0_placeOf_Jx4a65c_size_8abf5 rfl rfl rfl (by decide +kernel) ⟨Nat.le_of_ble_eq_true rfl, Nat.le_of_ble_eq_true rfl⟩) (va_recv hK hP (ci := 0) (q0 := 1) rfl rfl) hPc hK hDc hV hH hS hFc rfl hl.1 rfl (Nat.le_of_ble_eq_true rfl) dX0_placeOf_7 ⟨Nat.le_of_ble_eq_true rfl, Nat.le_of_ble_eq_true rfl⟩ (fun r_7 w1 H1 locs1 hq hP1 hD1 hk hS hz => ?_)
  obtain ⟨rfl, hr_7⟩ := hq
  have hP := g_keepR hP hD [1] rfl hk hP1
  clear hPc hDc hFc hP1 hD1 hk hz
  generalize H1 = H at hP hS ⊢
  have hP : va_P D ccl [(h0, .inr (1, [.ref lh])), (lh, .inr (0, [.int md, .ref er, .int (nI C)])), (er, .inl (cO, 10, .inr (.inr (.inr (.inr fr)))))] H := hP
  have hD : va_D A [(h0, .inr (1, [.ref lh])), (lh, .inr (0, [.int md, .ref er, .int (nI C)])), (er, .inl (cO, 10, .inr (.inr (.inr (.inr fr)))))] := hD
  subst hr_7
  refine lv_icmp_ge (tgt := 33) hx hb dX0_placeOf_10 (by decide) (fun c_10 => ?_) (fun c_10 => ?_)
  · have c_10 : C ≤ k := g_le (a := C) (b := k) c_10 (by omega) (by omega)
    obtain rfl : k = C := by omega
    refine lv_iconst (v := (-1)) hx hb dX0_placeOf_33 (by decide) ?_
    refine g_iret (v := (-1)) hx hb hr hlk hP hK hD hS (Nat.le_of_ble_eq_true rfl) (Nat.le_of_ble_eq_true rfl) dX0_placeOf_34 ?_
    exact ⟨rfl, (lastAt_none (fun i hi h9 => hno i hi (by rw [h9, gN_nI (by omega)]))).symm⟩
  · have c_10 : k < C := g_nle (a := C) (b := k) c_10 (by omega) (by omega)
    refine lv_aload_n hx hb dX0_placeOf_13 rfl (lv_at hl 0 rfl) ?_
    refine va_get (D := D) (ci := 1) (v := .ref lh) (C := RX0) (T := TX0) (N := 1) hx hb hts inX0 hown hK hP 0 rfl rfl 0 (by decide) hfieldLink_RX0_12 (fun _ h9 => h9) rfl dX0_placeOf_14 ?_
    refine lv_iload_n hx hb dX0_placeOf_17 rfl (lv_at hl 2 rfl) ?_
    have hPc := hP.sub (ws' := [(lh, .inr (0, [.int md, .ref er, .int (nI C)])), (er, .inl (cO, 10, .inr (.inr (.inr (.inr fr)))))]) [1, 2] rfl
    have hDc := hD.sub (ws' := [(lh, .inr (0, [.int md, .ref er, .int (nI C)])), (er, .inl (cO, 10, .inr (.inr (.inr (.inr fr)))))]) [1, 2] (by decide) rfl
    have hFc := va_free (wc := [(lh, .inr (0, [.int md, .ref er, .int (nI C)])), (er, .inl (cO, 10, .inr (.inr (.inr (.inr fr)))))]) hD hS hA [1, 2] rfl
    refine g_Vr (As := [.int (nI k)]) (rest := []) CF (c_Jx4a65c_get_915e3 l D cI cJ cO df H.size lh md er C fr k (SA (gN (mo k))) c_10 (by omega) (hfr k c_10)) (cwV 1 hts gX0_placeOf_Jx4a65c_get_915e3 rfl rfl rfl (by decide +kernel) ⟨Nat.le_of_ble_eq_true rfl, Nat.le_of_ble_eq_true rfl⟩) (va_recv hK hP (ci := 0) (q0 := 1) rfl rfl) hPc hK hDc hV hH hS hFc rfl hl.1 rfl (Nat.le_of_ble_eq_true rfl) dX0_placeOf_18 ⟨Nat.le_of_ble_eq_true rfl, Nat.le_of_ble_eq_true rfl⟩ (fun w1 H1 locs1 hq hP1 hD1 hk hS hz => ?_)
    obtain ⟨w1, a1⟩ := w1
    obtain ⟨ew1, hr_18⟩ := hq
    dsimp only at ew1 hP1 hD1 hr_18
    subst ew1
    have hP := g_keepR hP hD [1, 2] rfl hk hP1
    clear hPc hDc hFc hP1 hD1 hk hz
    generalize H1 = H at hP hS ⊢
    have hP : va_P D ccl [(h0, .inr (1, [.ref lh])), (lh, .inr (0, [.int md, .ref er, .int (nI C)])), (er, .inl (cO, 10, .inr (.inr (.inr (.inr fr)))))] H := hP
    have hD : va_D A [(h0, .inr (1, [.ref lh])), (lh, .inr (0, [.int md, .ref er, .int (nI C)])), (er, .inl (cO, 10, .inr (.inr (.inr (.inr fr)))))] := hD
    have hr_18 := hr_18.symm
    subst hr_18
    refine lv_aload_n hx hb dX0_placeOf_21 rfl (lv_at hl 1 rfl) ?_
    refine lv_acmp_ne (rx := some (SA (gN (mo k)))) (ry := some (SA J)) (tgt := 27) hx hb dX0_placeOf_22 (by decide) (fun c_22 => ?_) (fun c_22 => ?_)
    · have hne : gN (mo k) ≠ J := fun h9 => c_22 (by rw [h9])
      refine lv_iinc (v := nI (k + 1)) (lv' := [(2, .int (nI (k + 1))), (0, .ref h0), (1, .ref (SA J))]) hx hb dX0_placeOf_27 hl (k := 2) rfl (by exact nI_1 _) (by decide) rfl (fun ls hl => ?_)
      refine lv_goto (tgt := 2) hx hb dX0_placeOf_30 (by decide) ?_
      refine W.widen (k := 0) (n := 0) (Nat.le_refl _) (Nat.le_refl _) ?_
      exact ih_2 (k + 1) _ _ _ (show (k + 1) ≤ C ∧ ∀ i, i < (k + 1) → gN (mo i) ≠ J from (by exact ⟨c_10, fun i hi => by rcases Nat.lt_succ_iff_lt_or_eq.mp hi with h9 | h9; exact hno i h9; subst h9; exact hne⟩)) (show C - (k + 1) < C - k by omega) hP hD hS (lv_sub hl [1, 2, 0] rfl)
    · have heq : gN (mo k) = J := hiS _ _ (hO k c_10).1 hJ (Option.some.inj c_22)
      refine lv_iload_n hx hb dX0_placeOf_25 rfl (lv_at hl 2 rfl) ?_
      refine g_iret (v := nI k) hx hb hr hlk hP hK hD hS (Nat.le_of_ble_eq_true rfl) (Nat.le_of_ble_eq_true rfl) dX0_placeOf_26 ?_
      exact ⟨rfl, (lastAt_first c_10 ((hO k c_10).2.trans (congrArg nI heq)) (fun i hi h9 => hiM i k hi c_10 (by rw [h9, heq, gN_nI (by omega)]))).symm⟩

set_option maxHeartbeats 4000000 in
set_option maxRecDepth 100000 in
theorem c_X0_placeOf_e (l : Launch) (D : va_G) (cI cJ cO : ClassId) (df sz : Nat) (h0 : Nat) (lh : Nat) (md : Int32) (v : Nat)  : MetI l yX0_placeOf wsX0_placeOf ({ frames := 1, cells := 0, slots := 0, locals := 20 } : Room) D (gTY cI cJ cO) df [(h0, .inr (1, [.ref lh])), (lh, .inr (0, [.int md, .ref df, .int 0]))] sz [.ref h0, .ref v] (fun (r : Int32) (wZ : va_W) => wZ = [(h0, .inr (1, [.ref lh])), (lh, .inr (0, [.int md, .ref df, .int 0]))] ∧ r = (-1)) := by
  refine g_of (cc := cX0_placeOf) (nL := 3) (ret := (some .int)) (D := D) (TY := (gTY cI cJ cO)) (df := df) (Qc := fun A => va_Qi (fun (r : Int32) (wZ : va_W) => wZ = [(h0, .inr (1, [.ref lh])), (lh, .inr (0, [.int md, .ref df, .int 0]))] ∧ r = (-1)) (gB D (gTY cI cJ cO) A) A) (by decide +kernel) rfl (Nat.le_of_ble_eq_true rfl) ?_
  intro p e s m below meth c ls A hsz C0 hin hl
  obtain ⟨CF, hr, hlk, hA, hS, hP, hK, hD, hV, hH⟩ := C0
  have CF : CallFix p m c cX0_placeOf 3 s _ wsX0_placeOf RX0 := CF
  obtain ⟨hx, hb, hml, hown, hts⟩ := id CF
  subst hsz
  have hfieldLink_RX0_12 : (Cond.fieldLink RX0 12 "TapLoom$Chain" "members" "Ljava/util/ArrayList;").before _ s = true := hts _ (List.mem_of_getElem? (i := 1) rfl)
  have hmethodLink_RX0_18 : (Cond.methodLink RX0 18 yJx4a65c_size_8abf5).before _ s = true := hts _ (List.mem_of_getElem? (i := 2) rfl)
  have inX0 : ∀ w ∈ u_ws RX0 TX0 1, w ∈ wsX0_placeOf := fun w h => (List.mem_cons_of_mem _ (List.mem_append_left _ (List.mem_append_right _ h)))
  have hP : va_P D ccl [(h0, .inr (1, [.ref lh])), (lh, .inr (0, [.int md, .ref df, .int 0]))] s.heap := hP
  have hl : lv_has ls 3 [(0, .ref h0), (1, .ref v)] := hl
  refine lv_iconst (v := 0) hx hb dX0_placeOf_0 (by decide) ?_
  refine lv_istore_n (lv' := [(2, .int 0), (0, .ref h0), (1, .ref v)]) hx hb dX0_placeOf_1 rfl hl (by decide) rfl (fun ls hl => ?_)
  refine lv_iload_n hx hb dX0_placeOf_2 rfl (lv_at hl 0 rfl) ?_
  refine lv_aload_n hx hb dX0_placeOf_3 rfl (lv_at hl 1 rfl) ?_
  refine va_get (D := D) (ci := 1) (v := .ref lh) (C := RX0) (T := TX0) (N := 1) hx hb hts inX0 hown hK hP 0 rfl rfl 0 (by decide) hfieldLink_RX0_12 (fun _ h9 => h9) rfl dX0_placeOf_4 ?_
  have hPc := hP.sub (ws' := [(lh, .inr (0, [.int md, .ref df, .int 0]))]) [1] rfl
  have hDc := hD.sub (ws' := [(lh, .inr (0, [.int md, .ref df, .int 0]))]) [1] (by decide) rfl
  have hFc := va_free (wc := [(lh, .inr (0, [.int md, .ref df, .int 0]))]) hD hS hA [1] rfl
  refine g_Vi (As := []) (rest := [.int 0]) CF (c_Jx4a65c_size_8abf5 l D cI cJ cO df s.heap.size lh md df 0 ) (cwV 0 hts gX0_placeOf_Jx4a65c_size_8abf5 rfl rfl rfl (by decide +kernel) ⟨Nat.le_of_ble_eq_true rfl, Nat.le_of_ble_eq_true rfl⟩) (va_recv hK hP (ci := 0) (q0 := 1) rfl rfl) hPc hK hDc hV hH hS hFc rfl hl.1 rfl (Nat.le_of_ble_eq_true rfl) dX0_placeOf_7 ⟨Nat.le_of_ble_eq_true rfl, Nat.le_of_ble_eq_true rfl⟩ (fun r_7 w1 H1 locs1 hq hP1 hD1 hk hS hz => ?_)
  obtain ⟨rfl, hr_7⟩ := hq
  have hP := g_keepR hP hD [1] rfl hk hP1
  clear hPc hDc hFc hP1 hD1 hk hz
  generalize H1 = H at hP hS ⊢
  have hP : va_P D ccl [(h0, .inr (1, [.ref lh])), (lh, .inr (0, [.int md, .ref df, .int 0]))] H := hP
  have hD : va_D A [(h0, .inr (1, [.ref lh])), (lh, .inr (0, [.int md, .ref df, .int 0]))] := hD
  subst hr_7
  refine lv_icmp_ge (tgt := 33) hx hb dX0_placeOf_10 (by decide) (fun c_10 => ?_) (fun c_10 => ?_)
  · refine lv_iconst (v := (-1)) hx hb dX0_placeOf_33 (by decide) ?_
    refine g_iret (v := (-1)) hx hb hr hlk hP hK hD hS (Nat.le_of_ble_eq_true rfl) (Nat.le_of_ble_eq_true rfl) dX0_placeOf_34 ?_
    exact ⟨rfl, rfl⟩
  · exact absurd c_10 (by decide)

set_option maxHeartbeats 4000000 in
set_option maxRecDepth 100000 in
theorem c_X0_toggle (l : Launch) (D : va_G) (cI cJ cO : ClassId) (df sz : Nat) (h0 : Nat) (lh : Nat) (er : Nat) (md : Int32) (C : Nat) (fr : Nat → Option Nat) (mo : Nat → Int32) (SA : Nat → Nat) (SB : Nat → Nat) (mc : Nat → Int32) (ms : Nat → Int32) (mw : Nat → Int32) (N : Nat) (J : Nat) (hC : C ≤ 8) (hN : N ≤ 8) (hfr : ∀ k, k < C → fr k = some (SA (gN (mo k)))) (hO : ∀ i, i < C → gN (mo i) < N ∧ mo i = nI (gN (mo i))) (hiM : ∀ i j, i < C → j < C → gN (mo i) = gN (mo j) → i = j) (hJ : J < N) : MetI l yX0_toggle wsX0_toggle ({ frames := 4, cells := 0, slots := 0, locals := 106 } : Room) D (gTY cI cJ cO) df (([(h0, .inr (1, [.ref lh])), (lh, .inr (0, [.int md, .ref er, .int (nI C)])), (er, .inl (cO, 10, .inr (.inr (.inr (.inr fr)))))] : va_W) ++ scL (scJ cI SA SB mc ms mw) (List.range N)) sz [.ref h0, .ref (SA J)] (fun (r : Int32) (wZ : va_W) => ∃ (md1 : Int32), ∃ (C1 : Nat), ∃ (fr1 : Nat → Option Nat), wZ = ([(h0, .inr (1, [.ref lh])), (lh, .inr (0, [.int md1, .ref er, .int (nI C1)])), (er, .inl (cO, 10, .inr (.inr (.inr (.inr fr1)))))] : va_W) ++ scL (scJ cI SA SB mc ms mw) (List.range N) ∧ (lastAt mo (nI J) C = -1 → C1 = C + 1 ∧ fr1 = va_up fr C (some (SA J))) ∧ (∀ Q, Q < C → lastAt mo (nI J) C = nI Q → C1 = C - 1 ∧ fr1 = rmF fr Q C) ∧ r = nI C1) := by
  refine g_of (cc := cX0_toggle) (nL := 3) (ret := (some .int)) (D := D) (TY := (gTY cI cJ cO)) (df := df) (Qc := fun A => va_Qi (fun (r : Int32) (wZ : va_W) => ∃ (md1 : Int32), ∃ (C1 : Nat), ∃ (fr1 : Nat → Option Nat), wZ = ([(h0, .inr (1, [.ref lh])), (lh, .inr (0, [.int md1, .ref er, .int (nI C1)])), (er, .inl (cO, 10, .inr (.inr (.inr (.inr fr1)))))] : va_W) ++ scL (scJ cI SA SB mc ms mw) (List.range N) ∧ (lastAt mo (nI J) C = -1 → C1 = C + 1 ∧ fr1 = va_up fr C (some (SA J))) ∧ (∀ Q, Q < C → lastAt mo (nI J) C = nI Q → C1 = C - 1 ∧ fr1 = rmF fr Q C) ∧ r = nI C1) (gB D (gTY cI cJ cO) A) A) (by decide +kernel) rfl (Nat.le_of_ble_eq_true rfl) ?_
  intro p e s m below meth c ls A hsz C0 hin hl
  obtain ⟨CF, hr, hlk, hA, hS, hP, hK, hD, hV, hH⟩ := C0
  have CF : CallFix p m c cX0_toggle 3 s _ wsX0_toggle RX0 := CF
  obtain ⟨hx, hb, hml, hown, hts⟩ := id CF
  subst hsz
  have hmethodLink_RX0_26 : (Cond.methodLink RX0 26 yX0_placeOf).before _ s = true := hts _ (List.mem_of_getElem? (i := 2) rfl)
  have hfieldLink_RX0_12 : (Cond.fieldLink RX0 12 "TapLoom$Chain" "members" "Ljava/util/ArrayList;").before _ s = true := hts _ (List.mem_of_getElem? (i := 1) rfl)
  have hmethodLink_RX0_34 : (Cond.methodLink RX0 34 yJx4a65c_remove_915e3).before _ s = true := hts _ (List.mem_of_getElem? (i := 83) rfl)
  have hmethodLink_RX0_18 : (Cond.methodLink RX0 18 yJx4a65c_size_8abf5).before _ s = true := hts _ (List.mem_of_getElem? (i := 7) rfl)
  have hmethodLink_RX0_30 : (Cond.methodLink RX0 30 yJx4a65c_add_9ea2d).before _ s = true := hts _ (List.mem_of_getElem? (i := 30) rfl)
  have inX0 : ∀ w ∈ u_ws RX0 TX0 1, w ∈ wsX0_toggle := fun w h => (List.mem_cons_of_mem _ (List.mem_append_left _ (List.mem_append_right _ h)))
  have hP : va_P D ccl (([(h0, .inr (1, [.ref lh])), (lh, .inr (0, [.int md, .ref er, .int (nI C)])), (er, .inl (cO, 10, .inr (.inr (.inr (.inr fr)))))] : va_W) ++ scL (scJ cI SA SB mc ms mw) (List.range N)) s.heap := hP
  have hl : lv_has ls 3 [(0, .ref h0), (1, .ref (SA J))] := hl
  have hiS : ∀ i j, i < N → j < N → SA i = SA j → i = j := fun i j hi hj e => scJ_inj (X := [(h0, .inr (1, [.ref lh])), (lh, .inr (0, [.int md, .ref er, .int (nI C)])), (er, .inl (cO, 10, .inr (.inr (.inr (.inr fr)))))]) hD (rgm hi) (rgm hj) e
  refine lv_aload_n hx hb dX0_toggle_0 rfl (lv_at hl 0 rfl) ?_
  refine lv_aload_n hx hb dX0_toggle_1 rfl (lv_at hl 1 rfl) ?_
  have hPc := hP.sub (ws' := [(h0, .inr (1, [.ref lh])), (lh, .inr (0, [.int md, .ref er, .int (nI C)])), (er, .inl (cO, 10, .inr (.inr (.inr (.inr fr)))))]) [0, 1, 2] rfl
  have hDc := hD.sub (ws' := [(h0, .inr (1, [.ref lh])), (lh, .inr (0, [.int md, .ref er, .int (nI C)])), (er, .inl (cO, 10, .inr (.inr (.inr (.inr fr)))))]) [0, 1, 2] (by decide) rfl
  have hFc := va_free (wc := [(h0, .inr (1, [.ref lh])), (lh, .inr (0, [.int md, .ref er, .int (nI C)])), (er, .inl (cO, 10, .inr (.inr (.inr (.inr fr)))))]) hD hS hA [0, 1, 2] rfl
  refine g_Vi (As := [.ref (SA J)]) (rest := []) CF (c_X0_placeOf l D cI cJ cO df s.heap.size h0 lh er md C fr SA mo N J hC hN hfr hO hiS hiM hJ) (cwV 1 hts gX0_toggle_X0_placeOf rfl rfl rfl (by decide +kernel) ⟨Nat.le_of_ble_eq_true rfl, Nat.le_of_ble_eq_true rfl⟩) (va_recv hK hP (ci := 1) (q0 := 0) rfl rfl) hPc hK hDc hV hH hS hFc rfl hl.1 rfl (Nat.le_of_ble_eq_true rfl) dX0_toggle_2 ⟨Nat.le_of_ble_eq_true rfl, Nat.le_of_ble_eq_true rfl⟩ (fun r_2 w1 H1 locs1 hq hP1 hD1 hk hS hz => ?_)
  obtain ⟨rfl, hr_2⟩ := hq
  have hP := g_keepR hP hD [0, 1, 2] rfl hk hP1
  clear hPc hDc hFc hP1 hD1 hk hz
  generalize H1 = H at hP hS ⊢
  have hP : va_P D ccl (([(h0, .inr (1, [.ref lh])), (lh, .inr (0, [.int md, .ref er, .int (nI C)])), (er, .inl (cO, 10, .inr (.inr (.inr (.inr fr)))))] : va_W) ++ scL (scJ cI SA SB mc ms mw) (List.range N)) H := hP
  have hD : va_D A (([(h0, .inr (1, [.ref lh])), (lh, .inr (0, [.int md, .ref er, .int (nI C)])), (er, .inl (cO, 10, .inr (.inr (.inr (.inr fr)))))] : va_W) ++ scL (scJ cI SA SB mc ms mw) (List.range N)) := hD
  subst hr_2
  refine lv_topi (fun pl epl => ?_)
  refine lv_istore_n (lv' := [(2, .int pl), (0, .ref h0), (1, .ref (SA J))]) hx hb dX0_toggle_5 rfl hl (by decide) rfl (fun ls hl => ?_)
  refine lv_iload_n hx hb dX0_toggle_6 rfl (lv_at hl 0 rfl) ?_
  refine lv_iconst (v := (-1)) hx hb dX0_toggle_7 (by decide) ?_
  refine lv_icmp_ne (tgt := 23) hx hb dX0_toggle_8 (by decide) (fun c_8 => ?_) (fun c_8 => ?_)
  · obtain ⟨Q, hQ, eQ, hfQ⟩ := lastAt_get (by omega) (fun h => c_8 (epl.trans h))
    obtain rfl : pl = nI Q := epl.trans eQ
    refine lv_aload_n hx hb dX0_toggle_23 rfl (lv_at hl 1 rfl) ?_
    refine va_get (D := D) (ci := 1) (v := .ref lh) (C := RX0) (T := TX0) (N := 1) hx hb hts inX0 hown hK hP 0 rfl rfl 0 (by decide) hfieldLink_RX0_12 (fun _ h9 => h9) rfl dX0_toggle_24 ?_
    refine lv_iload_n hx hb dX0_toggle_27 rfl (lv_at hl 0 rfl) ?_
    have hPc := hP.part (X := [(h0, .inr (1, [.ref lh])), (lh, .inr (0, [.int md, .ref er, .int (nI C)])), (er, .inl (cO, 10, .inr (.inr (.inr (.inr fr)))))]) (cx := [(lh, .inr (0, [.int md, .ref er, .int (nI C)])), (er, .inl (cO, 10, .inr (.inr (.inr (.inr fr)))))]) [1, 2] rfl
    have hDc := hD.part (X := [(h0, .inr (1, [.ref lh])), (lh, .inr (0, [.int md, .ref er, .int (nI C)])), (er, .inl (cO, 10, .inr (.inr (.inr (.inr fr)))))]) (cx := [(lh, .inr (0, [.int md, .ref er, .int (nI C)])), (er, .inl (cO, 10, .inr (.inr (.inr (.inr fr)))))]) [1, 2] (by decide) rfl
    have hFc := va_freeP (X := [(h0, .inr (1, [.ref lh])), (lh, .inr (0, [.int md, .ref er, .int (nI C)])), (er, .inl (cO, 10, .inr (.inr (.inr (.inr fr)))))]) (cx := [(lh, .inr (0, [.int md, .ref er, .int (nI C)])), (er, .inl (cO, 10, .inr (.inr (.inr (.inr fr)))))]) hD hS hA [1, 2] rfl
    refine g_Vr (As := [.int (nI Q)]) (rest := []) CF (c_Jx4a65c_remove_915e3 l D cI cJ cO df H.size lh md er C fr (scL (scJ cI SA SB mc ms mw) (List.range N)) Q (SA (gN (mo Q))) hQ (by omega) (fun k hk y hy => by rw [hfr k hk] at hy; cases hy; exact inT_scL (rgm (hO k hk).1)) (hfr Q hQ)) (cwV 1 hts gX0_toggle_Jx4a65c_remove_915e3 rfl rfl rfl (by decide +kernel) ⟨Nat.le_of_ble_eq_true rfl, Nat.le_of_ble_eq_true rfl⟩) (va_recv hK hP (ci := 0) (q0 := 1) rfl rfl) hPc hK hDc hV hH hS hFc rfl hl.1 rfl (Nat.le_of_ble_eq_true rfl) dX0_toggle_28 ⟨Nat.le_of_ble_eq_true rfl, Nat.le_of_ble_eq_true rfl⟩ (fun w1 H1 locs1 hq hP1 hD1 hk hS hz => ?_)
    obtain ⟨w1, a1⟩ := w1
    obtain ⟨ew1, hr_28⟩ := hq
    dsimp only at ew1 hP1 hD1 hr_28
    subst ew1
    obtain ⟨hP, hD⟩ := g_joinP (X := [(h0, .inr (1, [.ref lh])), (lh, .inr (0, [.int md, .ref er, .int (nI C)])), (er, .inl (cO, 10, .inr (.inr (.inr (.inr fr)))))]) (cx := [(lh, .inr (0, [.int md, .ref er, .int (nI C)])), (er, .inl (cO, 10, .inr (.inr (.inr (.inr fr)))))]) (rx := [(lh, .inr (0, [.int (md + 1), .ref er, .int (nI (C - 1))])), (er, .inl (cO, 10, .inr (.inr (.inr (.inr (rmF fr Q C))))))]) (X' := [(h0, .inr (1, [.ref lh])), (lh, .inr (0, [.int (md + 1), .ref er, .int (nI (C - 1))])), (er, .inl (cO, 10, .inr (.inr (.inr (.inr (rmF fr Q C))))))]) hP hD hk hFc hP1 hD1 [1, 2] [0] [0, 1, 2] rfl rfl (by decide) (by decide) (by decide) rfl
    clear hPc hDc hFc hP1 hD1 hk hz
    generalize H1 = H at hP hS ⊢
    have hP : va_P D ccl (([(h0, .inr (1, [.ref lh])), (lh, .inr (0, [.int (md + 1), .ref er, .int (nI (C - 1))])), (er, .inl (cO, 10, .inr (.inr (.inr (.inr (rmF fr Q C))))))] : va_W) ++ (scL (scJ cI SA SB mc ms mw) (List.range N))) H := hP
    have hD : va_D A (([(h0, .inr (1, [.ref lh])), (lh, .inr (0, [.int (md + 1), .ref er, .int (nI (C - 1))])), (er, .inl (cO, 10, .inr (.inr (.inr (.inr (rmF fr Q C))))))] : va_W) ++ (scL (scJ cI SA SB mc ms mw) (List.range N))) := hD
    have hr_28 := hr_28.symm
    subst hr_28
    refine lv_pop hx hb dX0_toggle_31 rfl ?_
    refine lv_aload_n hx hb dX0_toggle_32 rfl (lv_at hl 1 rfl) ?_
    refine va_get (D := D) (ci := 1) (v := .ref lh) (C := RX0) (T := TX0) (N := 1) hx hb hts inX0 hown hK hP 0 rfl rfl 0 (by decide) hfieldLink_RX0_12 (fun _ h9 => h9) rfl dX0_toggle_33 ?_
    have hPc := hP.sub (ws' := [(lh, .inr (0, [.int (md + 1), .ref er, .int (nI (C - 1))]))]) [1] rfl
    have hDc := hD.sub (ws' := [(lh, .inr (0, [.int (md + 1), .ref er, .int (nI (C - 1))]))]) [1] (by decide) rfl
    have hFc := va_free (wc := [(lh, .inr (0, [.int (md + 1), .ref er, .int (nI (C - 1))]))]) hD hS hA [1] rfl
    refine g_Vi (As := []) (rest := []) CF (c_Jx4a65c_size_8abf5 l D cI cJ cO df H.size lh (md + 1) er (nI (C - 1)) ) (cwV 0 hts gX0_toggle_Jx4a65c_size_8abf5 rfl rfl rfl (by decide +kernel) ⟨Nat.le_of_ble_eq_true rfl, Nat.le_of_ble_eq_true rfl⟩) (va_recv hK hP (ci := 0) (q0 := 1) rfl rfl) hPc hK hDc hV hH hS hFc rfl hl.1 rfl (Nat.le_of_ble_eq_true rfl) dX0_toggle_36 ⟨Nat.le_of_ble_eq_true rfl, Nat.le_of_ble_eq_true rfl⟩ (fun r_36 w1 H1 locs1 hq hP1 hD1 hk hS hz => ?_)
    obtain ⟨rfl, hr_36⟩ := hq
    have hP := g_keepR hP hD [1] rfl hk hP1
    clear hPc hDc hFc hP1 hD1 hk hz
    generalize H1 = H at hP hS ⊢
    have hP : va_P D ccl (([(h0, .inr (1, [.ref lh])), (lh, .inr (0, [.int (md + 1), .ref er, .int (nI (C - 1))])), (er, .inl (cO, 10, .inr (.inr (.inr (.inr (rmF fr Q C))))))] : va_W) ++ (scL (scJ cI SA SB mc ms mw) (List.range N))) H := hP
    have hD : va_D A (([(h0, .inr (1, [.ref lh])), (lh, .inr (0, [.int (md + 1), .ref er, .int (nI (C - 1))])), (er, .inl (cO, 10, .inr (.inr (.inr (.inr (rmF fr Q C))))))] : va_W) ++ (scL (scJ cI SA SB mc ms mw) (List.range N))) := hD
    subst hr_36
    refine g_iret (v := nI (C - 1)) hx hb hr hlk hP hK hD hS (Nat.le_of_ble_eq_true rfl) (Nat.le_of_ble_eq_true rfl) dX0_toggle_39 ?_
    exact ⟨_, _, _, rfl, fun h => (nI_ne_m1 (by omega) (eQ.symm.trans h)).elim, fun Q2 hQ2 h => by
      obtain rfl : Q = Q2 := g_eq (eQ.symm.trans h) (by omega) (by omega)
      exact ⟨rfl, rfl⟩, rfl⟩
  · refine lv_aload_n hx hb dX0_toggle_11 rfl (lv_at hl 1 rfl) ?_
    refine va_get (D := D) (ci := 1) (v := .ref lh) (C := RX0) (T := TX0) (N := 1) hx hb hts inX0 hown hK hP 0 rfl rfl 0 (by decide) hfieldLink_RX0_12 (fun _ h9 => h9) rfl dX0_toggle_12 ?_
    refine lv_aload_n hx hb dX0_toggle_15 rfl (lv_at hl 2 rfl) ?_
    have hPc := hP.part (X := [(h0, .inr (1, [.ref lh])), (lh, .inr (0, [.int md, .ref er, .int (nI C)])), (er, .inl (cO, 10, .inr (.inr (.inr (.inr fr)))))]) (cx := [(lh, .inr (0, [.int md, .ref er, .int (nI C)])), (er, .inl (cO, 10, .inr (.inr (.inr (.inr fr)))))]) [1, 2] rfl
    have hDc := hD.part (X := [(h0, .inr (1, [.ref lh])), (lh, .inr (0, [.int md, .ref er, .int (nI C)])), (er, .inl (cO, 10, .inr (.inr (.inr (.inr fr)))))]) (cx := [(lh, .inr (0, [.int md, .ref er, .int (nI C)])), (er, .inl (cO, 10, .inr (.inr (.inr (.inr fr)))))]) [1, 2] (by decide) rfl
    have hFc := va_freeP (X := [(h0, .inr (1, [.ref lh])), (lh, .inr (0, [.int md, .ref er, .int (nI C)])), (er, .inl (cO, 10, .inr (.inr (.inr (.inr fr)))))]) (cx := [(lh, .inr (0, [.int md, .ref er, .int (nI C)])), (er, .inl (cO, 10, .inr (.inr (.inr (.inr fr)))))]) hD hS hA [1, 2] rfl
    refine g_Vi (As := [.ref (SA J)]) (rest := []) CF (c_Jx4a65c_add_9ea2d l D cI cJ cO df H.size lh md er C fr (scL (scJ cI SA SB mc ms mw) (List.range N)) (SA J) (by omega) (inT_scL (rgm hJ))) (cwV 1 hts gX0_toggle_Jx4a65c_add_9ea2d rfl rfl rfl (by decide +kernel) ⟨Nat.le_of_ble_eq_true rfl, Nat.le_of_ble_eq_true rfl⟩) (va_recv hK hP (ci := 0) (q0 := 1) rfl rfl) hPc hK hDc hV hH hS hFc rfl hl.1 rfl (Nat.le_of_ble_eq_true rfl) dX0_toggle_16 ⟨Nat.le_of_ble_eq_true rfl, Nat.le_of_ble_eq_true rfl⟩ (fun r_16 w1 H1 locs1 hq hP1 hD1 hk hS hz => ?_)
    obtain ⟨rfl, hr_16⟩ := hq
    obtain ⟨hP, hD⟩ := g_joinP (X := [(h0, .inr (1, [.ref lh])), (lh, .inr (0, [.int md, .ref er, .int (nI C)])), (er, .inl (cO, 10, .inr (.inr (.inr (.inr fr)))))]) (cx := [(lh, .inr (0, [.int md, .ref er, .int (nI C)])), (er, .inl (cO, 10, .inr (.inr (.inr (.inr fr)))))]) (rx := [(lh, .inr (0, [.int (md + 1), .ref er, .int (nI (C + 1))])), (er, .inl (cO, 10, .inr (.inr (.inr (.inr (va_up fr C (some (SA J))))))))]) (X' := [(h0, .inr (1, [.ref lh])), (lh, .inr (0, [.int (md + 1), .ref er, .int (nI (C + 1))])), (er, .inl (cO, 10, .inr (.inr (.inr (.inr (va_up fr C (some (SA J))))))))]) hP hD hk hFc hP1 hD1 [1, 2] [0] [0, 1, 2] rfl rfl (by decide) (by decide) (by decide) rfl
    clear hPc hDc hFc hP1 hD1 hk hz
    generalize H1 = H at hP hS ⊢
    have hP : va_P D ccl (([(h0, .inr (1, [.ref lh])), (lh, .inr (0, [.int (md + 1), .ref er, .int (nI (C + 1))])), (er, .inl (cO, 10, .inr (.inr (.inr (.inr (va_up fr C (some (SA J))))))))] : va_W) ++ (scL (scJ cI SA SB mc ms mw) (List.range N))) H := hP
    have hD : va_D A (([(h0, .inr (1, [.ref lh])), (lh, .inr (0, [.int (md + 1), .ref er, .int (nI (C + 1))])), (er, .inl (cO, 10, .inr (.inr (.inr (.inr (va_up fr C (some (SA J))))))))] : va_W) ++ (scL (scJ cI SA SB mc ms mw) (List.range N))) := hD
    subst hr_16
    refine lv_pop hx hb dX0_toggle_19 rfl ?_
    refine lv_goto (tgt := 32) hx hb dX0_toggle_20 (by decide) ?_
    refine lv_aload_n hx hb dX0_toggle_32 rfl (lv_at hl 1 rfl) ?_
    refine va_get (D := D) (ci := 1) (v := .ref lh) (C := RX0) (T := TX0) (N := 1) hx hb hts inX0 hown hK hP 0 rfl rfl 0 (by decide) hfieldLink_RX0_12 (fun _ h9 => h9) rfl dX0_toggle_33 ?_
    have hPc := hP.sub (ws' := [(lh, .inr (0, [.int (md + 1), .ref er, .int (nI (C + 1))]))]) [1] rfl
    have hDc := hD.sub (ws' := [(lh, .inr (0, [.int (md + 1), .ref er, .int (nI (C + 1))]))]) [1] (by decide) rfl
    have hFc := va_free (wc := [(lh, .inr (0, [.int (md + 1), .ref er, .int (nI (C + 1))]))]) hD hS hA [1] rfl
    refine g_Vi (As := []) (rest := []) CF (c_Jx4a65c_size_8abf5 l D cI cJ cO df H.size lh (md + 1) er (nI (C + 1)) ) (cwV 0 hts gX0_toggle_Jx4a65c_size_8abf5 rfl rfl rfl (by decide +kernel) ⟨Nat.le_of_ble_eq_true rfl, Nat.le_of_ble_eq_true rfl⟩) (va_recv hK hP (ci := 0) (q0 := 1) rfl rfl) hPc hK hDc hV hH hS hFc rfl hl.1 rfl (Nat.le_of_ble_eq_true rfl) dX0_toggle_36 ⟨Nat.le_of_ble_eq_true rfl, Nat.le_of_ble_eq_true rfl⟩ (fun r_36 w1 H1 locs1 hq hP1 hD1 hk hS hz => ?_)
    obtain ⟨rfl, hr_36⟩ := hq
    have hP := g_keepR hP hD [1] rfl hk hP1
    clear hPc hDc hFc hP1 hD1 hk hz
    generalize H1 = H at hP hS ⊢
    have hP : va_P D ccl (([(h0, .inr (1, [.ref lh])), (lh, .inr (0, [.int (md + 1), .ref er, .int (nI (C + 1))])), (er, .inl (cO, 10, .inr (.inr (.inr (.inr (va_up fr C (some (SA J))))))))] : va_W) ++ (scL (scJ cI SA SB mc ms mw) (List.range N))) H := hP
    have hD : va_D A (([(h0, .inr (1, [.ref lh])), (lh, .inr (0, [.int (md + 1), .ref er, .int (nI (C + 1))])), (er, .inl (cO, 10, .inr (.inr (.inr (.inr (va_up fr C (some (SA J))))))))] : va_W) ++ (scL (scJ cI SA SB mc ms mw) (List.range N))) := hD
    subst hr_36
    refine g_iret (v := nI (C + 1)) hx hb hr hlk hP hK hD hS (Nat.le_of_ble_eq_true rfl) (Nat.le_of_ble_eq_true rfl) dX0_toggle_39 ?_
    exact ⟨_, _, _, rfl, fun _ => ⟨rfl, rfl⟩, fun Q hQ h => (nI_ne_m1 (by omega) (h.symm.trans (epl.symm.trans c_8))).elim, rfl⟩

set_option maxHeartbeats 4000000 in
set_option maxRecDepth 100000 in
theorem c_X0_toggle_e (l : Launch) (D : va_G) (cI cJ cO : ClassId) (df sz : Nat) (h0 : Nat) (lh : Nat) (md : Int32) (SA : Nat → Nat) (SB : Nat → Nat) (mc : Nat → Int32) (ms : Nat → Int32) (mw : Nat → Int32) (N : Nat) (J : Nat) (hN : N ≤ 8) (hJ : J < N) : MetI l yX0_toggle wsX0_toggle ({ frames := 5, cells := 1, slots := 10, locals := 117 } : Room) D (gTY cI cJ cO) df (([(h0, .inr (1, [.ref lh])), (lh, .inr (0, [.int md, .ref df, .int 0]))] : va_W) ++ scL (scJ cI SA SB mc ms mw) (List.range N)) sz [.ref h0, .ref (SA J)] (fun (r : Int32) (wZ : va_W) => ∃ (q1 : Nat), wZ = ([(h0, .inr (1, [.ref lh])), (lh, .inr (0, [.int (md + 1), .ref q1, .int (nI 1)])), (q1, .inl (cO, 10, .inr (.inr (.inr (.inr (va_up (fun _ => none) 0 (some (SA J))))))))] : va_W) ++ scL (scJ cI SA SB mc ms mw) (List.range N) ∧ r = 1) := by
  refine g_of (cc := cX0_toggle) (nL := 3) (ret := (some .int)) (D := D) (TY := (gTY cI cJ cO)) (df := df) (Qc := fun A => va_Qi (fun (r : Int32) (wZ : va_W) => ∃ (q1 : Nat), wZ = ([(h0, .inr (1, [.ref lh])), (lh, .inr (0, [.int (md + 1), .ref q1, .int (nI 1)])), (q1, .inl (cO, 10, .inr (.inr (.inr (.inr (va_up (fun _ => none) 0 (some (SA J))))))))] : va_W) ++ scL (scJ cI SA SB mc ms mw) (List.range N) ∧ r = 1) (gB D (gTY cI cJ cO) A) A) (by decide +kernel) rfl (Nat.le_of_ble_eq_true rfl) ?_
  intro p e s m below meth c ls A hsz C0 hin hl
  obtain ⟨CF, hr, hlk, hA, hS, hP, hK, hD, hV, hH⟩ := C0
  have CF : CallFix p m c cX0_toggle 3 s _ wsX0_toggle RX0 := CF
  obtain ⟨hx, hb, hml, hown, hts⟩ := id CF
  subst hsz
  have hmethodLink_RX0_26 : (Cond.methodLink RX0 26 yX0_placeOf).before _ s = true := hts _ (List.mem_of_getElem? (i := 2) rfl)
  have hfieldLink_RX0_12 : (Cond.fieldLink RX0 12 "TapLoom$Chain" "members" "Ljava/util/ArrayList;").before _ s = true := hts _ (List.mem_of_getElem? (i := 1) rfl)
  have hmethodLink_RX0_30 : (Cond.methodLink RX0 30 yJx4a65c_add_9ea2d).before _ s = true := hts _ (List.mem_of_getElem? (i := 30) rfl)
  have hmethodLink_RX0_18 : (Cond.methodLink RX0 18 yJx4a65c_size_8abf5).before _ s = true := hts _ (List.mem_of_getElem? (i := 7) rfl)
  have inX0 : ∀ w ∈ u_ws RX0 TX0 1, w ∈ wsX0_toggle := fun w h => (List.mem_cons_of_mem _ (List.mem_append_left _ (List.mem_append_right _ h)))
  have hP : va_P D ccl (([(h0, .inr (1, [.ref lh])), (lh, .inr (0, [.int md, .ref df, .int 0]))] : va_W) ++ scL (scJ cI SA SB mc ms mw) (List.range N)) s.heap := hP
  have hl : lv_has ls 3 [(0, .ref h0), (1, .ref (SA J))] := hl
  refine lv_aload_n hx hb dX0_toggle_0 rfl (lv_at hl 0 rfl) ?_
  refine lv_aload_n hx hb dX0_toggle_1 rfl (lv_at hl 1 rfl) ?_
  have hPc := hP.sub (ws' := [(h0, .inr (1, [.ref lh])), (lh, .inr (0, [.int md, .ref df, .int 0]))]) [0, 1] rfl
  have hDc := hD.sub (ws' := [(h0, .inr (1, [.ref lh])), (lh, .inr (0, [.int md, .ref df, .int 0]))]) [0, 1] (by decide) rfl
  have hFc := va_free (wc := [(h0, .inr (1, [.ref lh])), (lh, .inr (0, [.int md, .ref df, .int 0]))]) hD hS hA [0, 1] rfl
  refine g_Vi (As := [.ref (SA J)]) (rest := []) CF (c_X0_placeOf_e l D cI cJ cO df s.heap.size h0 lh md (SA J) ) (cwV 1 hts gX0_toggle_X0_placeOf rfl rfl rfl (by decide +kernel) ⟨Nat.le_of_ble_eq_true rfl, Nat.le_of_ble_eq_true rfl⟩) (va_recv hK hP (ci := 1) (q0 := 0) rfl rfl) hPc hK hDc hV hH hS hFc rfl hl.1 rfl (Nat.le_of_ble_eq_true rfl) dX0_toggle_2 ⟨Nat.le_of_ble_eq_true rfl, Nat.le_of_ble_eq_true rfl⟩ (fun r_2 w1 H1 locs1 hq hP1 hD1 hk hS hz => ?_)
  obtain ⟨rfl, hr_2⟩ := hq
  have hP := g_keepR hP hD [0, 1] rfl hk hP1
  clear hPc hDc hFc hP1 hD1 hk hz
  generalize H1 = H at hP hS ⊢
  have hP : va_P D ccl (([(h0, .inr (1, [.ref lh])), (lh, .inr (0, [.int md, .ref df, .int 0]))] : va_W) ++ scL (scJ cI SA SB mc ms mw) (List.range N)) H := hP
  have hD : va_D A (([(h0, .inr (1, [.ref lh])), (lh, .inr (0, [.int md, .ref df, .int 0]))] : va_W) ++ scL (scJ cI SA SB mc ms mw) (List.range N)) := hD
  subst hr_2
  refine lv_istore_n (lv' := [(2, .int (-1)), (0, .ref h0), (1, .ref (SA J))]) hx hb dX0_toggle_5 rfl hl (by decide) rfl (fun ls hl => ?_)
  refine lv_iload_n hx hb dX0_toggle_6 rfl (lv_at hl 0 rfl) ?_
  refine lv_iconst (v := (-1)) hx hb dX0_toggle_7 (by decide) ?_
  refine lv_icmp_ne (tgt := 23) hx hb dX0_toggle_8 (by decide) (fun c_8 => ?_) (fun c_8 => ?_)
  · exact absurd c_8 (by decide)
  · refine lv_aload_n hx hb dX0_toggle_11 rfl (lv_at hl 1 rfl) ?_
    refine va_get (D := D) (ci := 1) (v := .ref lh) (C := RX0) (T := TX0) (N := 1) hx hb hts inX0 hown hK hP 0 rfl rfl 0 (by decide) hfieldLink_RX0_12 (fun _ h9 => h9) rfl dX0_toggle_12 ?_
    refine lv_aload_n hx hb dX0_toggle_15 rfl (lv_at hl 2 rfl) ?_
    have hPc := hP.part (X := [(h0, .inr (1, [.ref lh])), (lh, .inr (0, [.int md, .ref df, .int 0]))]) (cx := [(lh, .inr (0, [.int md, .ref df, .int (nI 0)]))]) [1] rfl
    have hDc := hD.part (X := [(h0, .inr (1, [.ref lh])), (lh, .inr (0, [.int md, .ref df, .int 0]))]) (cx := [(lh, .inr (0, [.int md, .ref df, .int (nI 0)]))]) [1] (by decide) rfl
    have hFc := va_freeP (X := [(h0, .inr (1, [.ref lh])), (lh, .inr (0, [.int md, .ref df, .int 0]))]) (cx := [(lh, .inr (0, [.int md, .ref df, .int (nI 0)]))]) hD hS hA [1] rfl
    refine g_Vi (As := [.ref (SA J)]) (rest := []) CF (c_Jx4a65c_add_9ea2d_e l D cI cJ cO df H.size lh md (scL (scJ cI SA SB mc ms mw) (List.range N)) (SA J) (inT_scL (rgm hJ))) (cwV 1 hts gX0_toggle_Jx4a65c_add_9ea2d rfl rfl rfl (by decide +kernel) ⟨Nat.le_of_ble_eq_true rfl, Nat.le_of_ble_eq_true rfl⟩) (va_recv hK hP (ci := 0) (q0 := 1) rfl rfl) hPc hK hDc hV hH hS hFc rfl hl.1 rfl (Nat.le_of_ble_eq_true rfl) dX0_toggle_16 ⟨Nat.le_of_ble_eq_true rfl, Nat.le_of_ble_eq_true rfl⟩ (fun r_16 w1 H1 locs1 hq hP1 hD1 hk hS hz => ?_)
    obtain ⟨q1, rfl, hr_16⟩ := hq
    obtain ⟨hP, hD⟩ := g_joinP (X := [(h0, .inr (1, [.ref lh])), (lh, .inr (0, [.int md, .ref df, .int 0]))]) (cx := [(lh, .inr (0, [.int md, .ref df, .int (nI 0)]))]) (rx := [(lh, .inr (0, [.int (md + 1), .ref q1, .int (nI 1)])), (q1, .inl (cO, 10, .inr (.inr (.inr (.inr (va_up (fun _ => none) 0 (some (SA J))))))))]) (X' := [(h0, .inr (1, [.ref lh])), (lh, .inr (0, [.int (md + 1), .ref q1, .int (nI 1)])), (q1, .inl (cO, 10, .inr (.inr (.inr (.inr (va_up (fun _ => none) 0 (some (SA J))))))))]) hP hD hk hFc hP1 hD1 [1] [0] [0, 1, 2] rfl rfl (by decide) (by decide) (by decide) rfl
    clear hPc hDc hFc hP1 hD1 hk hz
    generalize H1 = H at hP hS ⊢
    have hP : va_P D ccl (([(h0, .inr (1, [.ref lh])), (lh, .inr (0, [.int (md + 1), .ref q1, .int (nI 1)])), (q1, .inl (cO, 10, .inr (.inr (.inr (.inr (va_up (fun _ => none) 0 (some (SA J))))))))] : va_W) ++ (scL (scJ cI SA SB mc ms mw) (List.range N))) H := hP
    have hD : va_D A (([(h0, .inr (1, [.ref lh])), (lh, .inr (0, [.int (md + 1), .ref q1, .int (nI 1)])), (q1, .inl (cO, 10, .inr (.inr (.inr (.inr (va_up (fun _ => none) 0 (some (SA J))))))))] : va_W) ++ (scL (scJ cI SA SB mc ms mw) (List.range N))) := hD
    subst hr_16
    refine lv_pop hx hb dX0_toggle_19 rfl ?_
    refine lv_goto (tgt := 32) hx hb dX0_toggle_20 (by decide) ?_
    refine lv_aload_n hx hb dX0_toggle_32 rfl (lv_at hl 1 rfl) ?_
    refine va_get (D := D) (ci := 1) (v := .ref lh) (C := RX0) (T := TX0) (N := 1) hx hb hts inX0 hown hK hP 0 rfl rfl 0 (by decide) hfieldLink_RX0_12 (fun _ h9 => h9) rfl dX0_toggle_33 ?_
    have hPc := hP.sub (ws' := [(lh, .inr (0, [.int (md + 1), .ref q1, .int (nI 1)]))]) [1] rfl
    have hDc := hD.sub (ws' := [(lh, .inr (0, [.int (md + 1), .ref q1, .int (nI 1)]))]) [1] (by decide) rfl
    have hFc := va_free (wc := [(lh, .inr (0, [.int (md + 1), .ref q1, .int (nI 1)]))]) hD hS hA [1] rfl
    refine g_Vi (As := []) (rest := []) CF (c_Jx4a65c_size_8abf5 l D cI cJ cO df H.size lh (md + 1) q1 (nI 1) ) (cwV 0 hts gX0_toggle_Jx4a65c_size_8abf5 rfl rfl rfl (by decide +kernel) ⟨Nat.le_of_ble_eq_true rfl, Nat.le_of_ble_eq_true rfl⟩) (va_recv hK hP (ci := 0) (q0 := 1) rfl rfl) hPc hK hDc hV hH hS hFc rfl hl.1 rfl (Nat.le_of_ble_eq_true rfl) dX0_toggle_36 ⟨Nat.le_of_ble_eq_true rfl, Nat.le_of_ble_eq_true rfl⟩ (fun r_36 w1 H1 locs1 hq hP1 hD1 hk hS hz => ?_)
    obtain ⟨rfl, hr_36⟩ := hq
    have hP := g_keepR hP hD [1] rfl hk hP1
    clear hPc hDc hFc hP1 hD1 hk hz
    generalize H1 = H at hP hS ⊢
    have hP : va_P D ccl (([(h0, .inr (1, [.ref lh])), (lh, .inr (0, [.int (md + 1), .ref q1, .int (nI 1)])), (q1, .inl (cO, 10, .inr (.inr (.inr (.inr (va_up (fun _ => none) 0 (some (SA J))))))))] : va_W) ++ (scL (scJ cI SA SB mc ms mw) (List.range N))) H := hP
    have hD : va_D A (([(h0, .inr (1, [.ref lh])), (lh, .inr (0, [.int (md + 1), .ref q1, .int (nI 1)])), (q1, .inl (cO, 10, .inr (.inr (.inr (.inr (va_up (fun _ => none) 0 (some (SA J))))))))] : va_W) ++ (scL (scJ cI SA SB mc ms mw) (List.range N))) := hD
    subst hr_36
    refine g_iret (v := nI 1) hx hb hr hlk hP hK hD hS (Nat.le_of_ble_eq_true rfl) (Nat.le_of_ble_eq_true rfl) dX0_toggle_39 ?_
    exact ⟨_, rfl, rfl⟩

set_option maxHeartbeats 4000000 in
set_option maxRecDepth 100000 in
theorem c_X0_letThrough (l : Launch) (D : va_G) (cI cJ cO : ClassId) (df sz : Nat) (h0 : Nat) (lh : Nat) (er : Nat) (md : Int32) (C : Nat) (fr : Nat → Option Nat) (mo : Nat → Int32) (SA : Nat → Nat) (SB : Nat → Nat) (mc : Nat → Int32) (ms : Nat → Int32) (mw : Nat → Int32) (N : Nat) (x : Int32) (hC : C ≤ 8) (hN : N ≤ 8) (hfr : ∀ k, k < C → fr k = some (SA (gN (mo k)))) (hO : ∀ i, i < C → gN (mo i) < N ∧ mo i = nI (gN (mo i))) (hc : isC mc) (hw : ∀ j, j < 8 → isW (mw j)) (hs : isS ms) (hx9 : -32767 ≤ x.toInt ∧ x.toInt ≤ 32767) : MetI l yX0_letThrough wsX0_letThrough ({ frames := 4, cells := 0, slots := 0, locals := 90 } : Room) D (gTY cI cJ cO) df (([(h0, .inr (1, [.ref lh])), (lh, .inr (0, [.int md, .ref er, .int (nI C)])), (er, .inl (cO, 10, .inr (.inr (.inr (.inr fr)))))] : va_W) ++ scL (scJ cI SA SB mc ms mw) (List.range N)) sz [.ref h0, .int x] (fun (r : Int32) (wZ : va_W) => wZ = ([(h0, .inr (1, [.ref lh])), (lh, .inr (0, [.int md, .ref er, .int (nI C)])), (er, .inl (cO, 10, .inr (.inr (.inr (.inr fr)))))] : va_W) ++ scL (scJ cI SA SB mc ((rnM mc mw mo ms x C).1) mw) (List.range N) ∧ r = (rnM mc mw mo ms x C).2) := by
  refine g_of (cc := cX0_letThrough) (nL := 4) (ret := (some .int)) (D := D) (TY := (gTY cI cJ cO)) (df := df) (Qc := fun A => va_Qi (fun (r : Int32) (wZ : va_W) => wZ = ([(h0, .inr (1, [.ref lh])), (lh, .inr (0, [.int md, .ref er, .int (nI C)])), (er, .inl (cO, 10, .inr (.inr (.inr (.inr fr)))))] : va_W) ++ scL (scJ cI SA SB mc ((rnM mc mw mo ms x C).1) mw) (List.range N) ∧ r = (rnM mc mw mo ms x C).2) (gB D (gTY cI cJ cO) A) A) (by decide +kernel) rfl (Nat.le_of_ble_eq_true rfl) ?_
  intro p e s m below meth c ls A hsz C0 hin hl
  obtain ⟨CF, hr, hlk, hA, hS, hP, hK, hD, hV, hH⟩ := C0
  have CF : CallFix p m c cX0_letThrough 4 s _ wsX0_letThrough RX0 := CF
  obtain ⟨hx, hb, hml, hown, hts⟩ := id CF
  subst hsz
  have hfieldLink_RX0_12 : (Cond.fieldLink RX0 12 "TapLoom$Chain" "members" "Ljava/util/ArrayList;").before _ s = true := hts _ (List.mem_of_getElem? (i := 1) rfl)
  have hmethodLink_RX0_18 : (Cond.methodLink RX0 18 yJx4a65c_size_8abf5).before _ s = true := hts _ (List.mem_of_getElem? (i := 3) rfl)
  have hmethodLink_RX0_22 : (Cond.methodLink RX0 22 yJx4a65c_get_915e3).before _ s = true := hts _ (List.mem_of_getElem? (i := 9) rfl)
  have hclassLink_RX0_37 : (Cond.classLink RX0 37 "TapLoom$Section").before _ s = true := hts _ (List.mem_of_getElem? (i := 2) rfl)
  have hmethodLink_RX0_50 : (Cond.methodLink RX0 50 yX4_take).before _ s = true := hts _ (List.mem_of_getElem? (i := 26) rfl)
  have inX0 : ∀ w ∈ u_ws RX0 TX0 1, w ∈ wsX0_letThrough := fun w h => (List.mem_cons_of_mem _ (List.mem_append_left _ (List.mem_append_left _ (List.mem_append_right _ h))))
  have hP : va_P D ccl (([(h0, .inr (1, [.ref lh])), (lh, .inr (0, [.int md, .ref er, .int (nI C)])), (er, .inl (cO, 10, .inr (.inr (.inr (.inr fr)))))] : va_W) ++ scL (scJ cI SA SB mc ms mw) (List.range N)) s.heap := hP
  have hl : lv_has ls 4 [(0, .ref h0), (1, .int x)] := hl
  refine lv_iload_n hx hb dX0_letThrough_0 rfl (lv_at hl 1 rfl) ?_
  refine lv_istore_n (lv' := [(2, .int x), (0, .ref h0), (1, .int x)]) hx hb dX0_letThrough_1 rfl hl (by decide) rfl (fun ls hl => ?_)
  refine lv_iconst (v := 0) hx hb dX0_letThrough_2 (by decide) ?_
  refine lv_istore_n (lv' := [(3, .int 0), (2, .int x), (0, .ref h0), (1, .int x)]) hx hb dX0_letThrough_3 rfl hl (by decide) rfl (fun ls hl => ?_)
  refine W.widen (k := 0) (n := 0) (Nat.le_refl _) (Nat.le_refl _) ?_
  refine g_while (σ := Nat) (st := []) (nL := 4) (fun k => ([(h0, .inr (1, [.ref lh])), (lh, .inr (0, [.int md, .ref er, .int (nI C)])), (er, .inl (cO, 10, .inr (.inr (.inr (.inr fr)))))] : va_W) ++ scL (scJ cI SA SB mc ((rnM mc mw mo ms x k).1) mw) (List.range N))
    (fun k => [(0, .ref h0), (1, .int x), (2, .int ((rnM mc mw mo ms x k).2)), (3, .int (nI k))])
    (fun k => k ≤ C)
    (fun k => C - k) (fun k => 0) (fun k => 0)
    ?_ 0 (Nat.zero_le C) hP hD hS (lv_sub hl [2, 3, 1, 0] rfl)
  intro k hI H locs ls hP hD hS hl ih
  have hI : k ≤ C := hI
  have hP : va_P D ccl (([(h0, .inr (1, [.ref lh])), (lh, .inr (0, [.int md, .ref er, .int (nI C)])), (er, .inl (cO, 10, .inr (.inr (.inr (.inr fr)))))] : va_W) ++ scL (scJ cI SA SB mc ((rnM mc mw mo ms x k).1) mw) (List.range N)) H := hP
  have hD : va_D A (([(h0, .inr (1, [.ref lh])), (lh, .inr (0, [.int md, .ref er, .int (nI C)])), (er, .inl (cO, 10, .inr (.inr (.inr (.inr fr)))))] : va_W) ++ scL (scJ cI SA SB mc ((rnM mc mw mo ms x k).1) mw) (List.range N)) := hD
  have hl : lv_has ls 4 [(0, .ref h0), (1, .int x), (2, .int ((rnM mc mw mo ms x k).2)), (3, .int (nI k))] := hl
  change W p l e _ s m _ below meth c H locs 0 0 _ (F0 m 4 ls [])
  have ih_4 := ih
  clear ih
  have hr9 := rn_ok (mc := mc) (mw := mw) (mo := mo) hs hx9 (fun i hi => Nat.lt_of_lt_of_le (hO i hi).1 hN) hI
  refine lv_iload_n hx hb dX0_letThrough_4 rfl (lv_at hl 3 rfl) ?_
  refine lv_aload_n hx hb dX0_letThrough_5 rfl (lv_at hl 0 rfl) ?_
  refine va_get (D := D) (ci := 1) (v := .ref lh) (C := RX0) (T := TX0) (N := 1) hx hb hts inX0 hown hK hP 0 rfl rfl 0 (by decide) hfieldLink_RX0_12 (fun _ h9 => h9) rfl dX0_letThrough_6 ?_
  have hPc := hP.sub (ws' := [(lh, .inr (0, [.int md, .ref er, .int (nI C)]))]) [1] rfl
  have hDc := hD.sub (ws' := [(lh, .inr (0, [.int md, .ref er, .int (nI C)]))]) [1] (by decide) rfl
  have hFc := va_free (wc := [(lh, .inr (0, [.int md, .ref er, .int (nI C)]))]) hD hS hA [1] rfl
  refine g_Vi (As := []) (rest := [.int (nI k)]) CF (c_Jx4a65c_size_8abf5 l D cI cJ cO df H.size lh md er (nI C) ) (cwV 0 hts gX0_letThrough_Jx4a65c_size_8abf5 rfl rfl rfl (by decide +kernel) ⟨Nat.le_of_ble_eq_true rfl, Nat.le_of_ble_eq_true rfl⟩) (va_recv hK hP (ci := 0) (q0 := 1) rfl rfl) hPc hK hDc hV hH hS hFc rfl hl.1 rfl (Nat.le_of_ble_eq_true rfl) dX0_letThrough_9 ⟨Nat.le_of_ble_eq_true rfl, Nat.le_of_ble_eq_true rfl⟩ (fun r_9 w1 H1 locs1 hq hP1 hD1 hk hS hz => ?_)
  obtain ⟨rfl, hr_9⟩ := hq
  have hP := g_keepR hP hD [1] rfl hk hP1
  clear hPc hDc hFc hP1 hD1 hk hz
  generalize H1 = H at hP hS ⊢
  have hP : va_P D ccl (([(h0, .inr (1, [.ref lh])), (lh, .inr (0, [.int md, .ref er, .int (nI C)])), (er, .inl (cO, 10, .inr (.inr (.inr (.inr fr)))))] : va_W) ++ scL (scJ cI SA SB mc ((rnM mc mw mo ms x k).1) mw) (List.range N)) H := hP
  have hD : va_D A (([(h0, .inr (1, [.ref lh])), (lh, .inr (0, [.int md, .ref er, .int (nI C)])), (er, .inl (cO, 10, .inr (.inr (.inr (.inr fr)))))] : va_W) ++ scL (scJ cI SA SB mc ((rnM mc mw mo ms x k).1) mw) (List.range N)) := hD
  subst hr_9
  refine lv_icmp_ge (tgt := 37) hx hb dX0_letThrough_12 (by decide) (fun c_12 => ?_) (fun c_12 => ?_)
  · have c_12 : C ≤ k := g_le (a := C) (b := k) c_12 (by omega) (by omega)
    obtain rfl : C = k := by omega
    refine lv_iload_n hx hb dX0_letThrough_37 rfl (lv_at hl 2 rfl) ?_
    refine g_iret (v := (rnM mc mw mo ms x C).2) hx hb hr hlk hP hK hD hS (Nat.le_of_ble_eq_true rfl) (Nat.le_of_ble_eq_true rfl) dX0_letThrough_38 ?_
    exact ⟨rfl, (by first | rfl | (simp [c_12]; done))⟩
  · have c_12 : k < C := g_nle (a := C) (b := k) c_12 (by omega) (by omega)
    refine lv_aload_n hx hb dX0_letThrough_15 rfl (lv_at hl 0 rfl) ?_
    refine va_get (D := D) (ci := 1) (v := .ref lh) (C := RX0) (T := TX0) (N := 1) hx hb hts inX0 hown hK hP 0 rfl rfl 0 (by decide) hfieldLink_RX0_12 (fun _ h9 => h9) rfl dX0_letThrough_16 ?_
    refine lv_iload_n hx hb dX0_letThrough_19 rfl (lv_at hl 3 rfl) ?_
    have hPc := hP.sub (ws' := [(lh, .inr (0, [.int md, .ref er, .int (nI C)])), (er, .inl (cO, 10, .inr (.inr (.inr (.inr fr)))))]) [1, 2] rfl
    have hDc := hD.sub (ws' := [(lh, .inr (0, [.int md, .ref er, .int (nI C)])), (er, .inl (cO, 10, .inr (.inr (.inr (.inr fr)))))]) [1, 2] (by decide) rfl
    have hFc := va_free (wc := [(lh, .inr (0, [.int md, .ref er, .int (nI C)])), (er, .inl (cO, 10, .inr (.inr (.inr (.inr fr)))))]) hD hS hA [1, 2] rfl
    refine g_Vr (As := [.int (nI k)]) (rest := []) CF (c_Jx4a65c_get_915e3 l D cI cJ cO df H.size lh md er C fr k (SA (gN (mo k))) c_12 (by omega) (hfr k c_12)) (cwV 1 hts gX0_letThrough_Jx4a65c_get_915e3 rfl rfl rfl (by decide +kernel) ⟨Nat.le_of_ble_eq_true rfl, Nat.le_of_ble_eq_true rfl⟩) (va_recv hK hP (ci := 0) (q0 := 1) rfl rfl) hPc hK hDc hV hH hS hFc rfl hl.1 rfl (Nat.le_of_ble_eq_true rfl) dX0_letThrough_20 ⟨Nat.le_of_ble_eq_true rfl, Nat.le_of_ble_eq_true rfl⟩ (fun w1 H1 locs1 hq hP1 hD1 hk hS hz => ?_)
    obtain ⟨w1, a1⟩ := w1
    obtain ⟨ew1, hr_20⟩ := hq
    dsimp only at ew1 hP1 hD1 hr_20
    subst ew1
    have hP := g_keepR hP hD [1, 2] rfl hk hP1
    clear hPc hDc hFc hP1 hD1 hk hz
    generalize H1 = H at hP hS ⊢
    have hP : va_P D ccl (([(h0, .inr (1, [.ref lh])), (lh, .inr (0, [.int md, .ref er, .int (nI C)])), (er, .inl (cO, 10, .inr (.inr (.inr (.inr fr)))))] : va_W) ++ scL (scJ cI SA SB mc ((rnM mc mw mo ms x k).1) mw) (List.range N)) H := hP
    have hD : va_D A (([(h0, .inr (1, [.ref lh])), (lh, .inr (0, [.int md, .ref er, .int (nI C)])), (er, .inl (cO, 10, .inr (.inr (.inr (.inr fr)))))] : va_W) ++ scL (scJ cI SA SB mc ((rnM mc mw mo ms x k).1) mw) (List.range N)) := hD
    have hr_20 := hr_20.symm
    subst hr_20
    refine va_castS hx hb hown hclassLink_RX0_37 (gS4 hK) ((inT_scL (rgm (hO k c_12).1)).recv (X := [(h0, .inr (1, [.ref lh])), (lh, .inr (0, [.int md, .ref er, .int (nI C)])), (er, .inl (cO, 10, .inr (.inr (.inr (.inr fr)))))]) hK hP) dX0_letThrough_23 ?_
    refine lv_iload_n hx hb dX0_letThrough_26 rfl (lv_at hl 2 rfl) ?_
    obtain ⟨hP, hD⟩ := sc_open (X := [(h0, .inr (1, [.ref lh])), (lh, .inr (0, [.int md, .ref er, .int (nI C)])), (er, .inl (cO, 10, .inr (.inr (.inr (.inr fr)))))]) (gN (mo k)) hP hD (rgm (hO k c_12).1)
    have hP : va_P D ccl (([(h0, .inr (1, [.ref lh])), (lh, .inr (0, [.int md, .ref er, .int (nI C)])), (er, .inl (cO, 10, .inr (.inr (.inr (.inr fr))))), (SA (gN (mo k)), .inr (5, [.int (nI (gN (mo k))), .int (mw (gN (mo k))), .ref (SB (gN (mo k))), .int (((rnM mc mw mo ms x k).1) (4 * (gN (mo k)))), .int (((rnM mc mw mo ms x k).1) (4 * (gN (mo k)) + 1)), .int (((rnM mc mw mo ms x k).1) (4 * (gN (mo k)) + 2)), .int (((rnM mc mw mo ms x k).1) (4 * (gN (mo k)) + 3))])), (SB (gN (mo k)), .inl (cI, 5, .inl (fun z9 => if z9 < 5 then mc (5 * (gN (mo k)) + z9) else 0)))] : va_W) ++ scL (scJ cI SA SB mc ((rnM mc mw mo ms x k).1) mw) ((List.range N).erase (gN (mo k)))) H := hP
    have hD : va_D A (([(h0, .inr (1, [.ref lh])), (lh, .inr (0, [.int md, .ref er, .int (nI C)])), (er, .inl (cO, 10, .inr (.inr (.inr (.inr fr))))), (SA (gN (mo k)), .inr (5, [.int (nI (gN (mo k))), .int (mw (gN (mo k))), .ref (SB (gN (mo k))), .int (((rnM mc mw mo ms x k).1) (4 * (gN (mo k)))), .int (((rnM mc mw mo ms x k).1) (4 * (gN (mo k)) + 1)), .int (((rnM mc mw mo ms x k).1) (4 * (gN (mo k)) + 2)), .int (((rnM mc mw mo ms x k).1) (4 * (gN (mo k)) + 3))])), (SB (gN (mo k)), .inl (cI, 5, .inl (fun z9 => if z9 < 5 then mc (5 * (gN (mo k)) + z9) else 0)))] : va_W) ++ scL (scJ cI SA SB mc ((rnM mc mw mo ms x k).1) mw) ((List.range N).erase (gN (mo k)))) := hD
    have hPc := hP.sub (ws' := [((SA (gN (mo k))), .inr (5, [.int (nI (gN (mo k))), .int (mw (gN (mo k))), .ref (SB (gN (mo k))), .int (((rnM mc mw mo ms x k).1) (4 * (gN (mo k)))), .int (((rnM mc mw mo ms x k).1) (4 * (gN (mo k)) + 1)), .int (((rnM mc mw mo ms x k).1) (4 * (gN (mo k)) + 2)), .int (((rnM mc mw mo ms x k).1) (4 * (gN (mo k)) + 3))])), ((SB (gN (mo k))), .inl (cI, 5, .inl (fun z9 => if z9 < 5 then mc (5 * (gN (mo k)) + z9) else 0)))]) [3, 4] rfl
    have hDc := hD.sub (ws' := [((SA (gN (mo k))), .inr (5, [.int (nI (gN (mo k))), .int (mw (gN (mo k))), .ref (SB (gN (mo k))), .int (((rnM mc mw mo ms x k).1) (4 * (gN (mo k)))), .int (((rnM mc mw mo ms x k).1) (4 * (gN (mo k)) + 1)), .int (((rnM mc mw mo ms x k).1) (4 * (gN (mo k)) + 2)), .int (((rnM mc mw mo ms x k).1) (4 * (gN (mo k)) + 3))])), ((SB (gN (mo k))), .inl (cI, 5, .inl (fun z9 => if z9 < 5 then mc (5 * (gN (mo k)) + z9) else 0)))]) [3, 4] (by decide) rfl
    have hFc := va_free (wc := [((SA (gN (mo k))), .inr (5, [.int (nI (gN (mo k))), .int (mw (gN (mo k))), .ref (SB (gN (mo k))), .int (((rnM mc mw mo ms x k).1) (4 * (gN (mo k)))), .int (((rnM mc mw mo ms x k).1) (4 * (gN (mo k)) + 1)), .int (((rnM mc mw mo ms x k).1) (4 * (gN (mo k)) + 2)), .int (((rnM mc mw mo ms x k).1) (4 * (gN (mo k)) + 3))])), ((SB (gN (mo k))), .inl (cI, 5, .inl (fun z9 => if z9 < 5 then mc (5 * (gN (mo k)) + z9) else 0)))]) hD hS hA [3, 4] rfl
    refine g_Vi (As := [.int ((rnM mc mw mo ms x k).2)]) (rest := []) CF (c_X4_take l D cI cJ cO df H.size (SA (gN (mo k))) (SB (gN (mo k))) (nI (gN (mo k))) (mw (gN (mo k))) (((rnM mc mw mo ms x k).1) (4 * (gN (mo k)))) (((rnM mc mw mo ms x k).1) (4 * (gN (mo k)) + 1)) (((rnM mc mw mo ms x k).1) (4 * (gN (mo k)) + 2)) (((rnM mc mw mo ms x k).1) (4 * (gN (mo k)) + 3)) (fun z9 => if z9 < 5 then mc (5 * (gN (mo k)) + z9) else 0) ((rnM mc mw mo ms x k).2) ) (cwV 1 hts gX0_letThrough_X4_take rfl rfl rfl (by decide +kernel) ⟨Nat.le_of_ble_eq_true rfl, Nat.le_of_ble_eq_true rfl⟩) (va_recv hK hP (ci := 5) (q0 := 3) rfl rfl) hPc hK hDc hV hH hS hFc rfl hl.1 rfl (Nat.le_of_ble_eq_true rfl) dX0_letThrough_27 ⟨Nat.le_of_ble_eq_true rfl, Nat.le_of_ble_eq_true rfl⟩ (fun r_27 w1 H1 locs1 hq hP1 hD1 hk hS hz => ?_)
    obtain ⟨rfl, hr_27⟩ := hq
    obtain ⟨hP, hD⟩ := g_joinQ (X := [(h0, .inr (1, [.ref lh])), (lh, .inr (0, [.int md, .ref er, .int (nI C)])), (er, .inl (cO, 10, .inr (.inr (.inr (.inr fr))))), (SA (gN (mo k)), .inr (5, [.int (nI (gN (mo k))), .int (mw (gN (mo k))), .ref (SB (gN (mo k))), .int (((rnM mc mw mo ms x k).1) (4 * (gN (mo k)))), .int (((rnM mc mw mo ms x k).1) (4 * (gN (mo k)) + 1)), .int (((rnM mc mw mo ms x k).1) (4 * (gN (mo k)) + 2)), .int (((rnM mc mw mo ms x k).1) (4 * (gN (mo k)) + 3))])), (SB (gN (mo k)), .inl (cI, 5, .inl (fun z9 => if z9 < 5 then mc (5 * (gN (mo k)) + z9) else 0)))]) (X' := [(h0, .inr (1, [.ref lh])), (lh, .inr (0, [.int md, .ref er, .int (nI C)])), (er, .inl (cO, 10, .inr (.inr (.inr (.inr fr))))), ((SA (gN (mo k))), .inr (5, [.int (nI (gN (mo k))), .int (mw (gN (mo k))), .ref (SB (gN (mo k))), .int ((rnM mc mw mo ms x k).2), .int (((rnM mc mw mo ms x k).1) (4 * (gN (mo k)))), .int (mClamp (cRnd (tkS (fun z9 => if z9 < 5 then mc (5 * (gN (mo k)) + z9) else 0) (((rnM mc mw mo ms x k).1) (4 * (gN (mo k)))) (((rnM mc mw mo ms x k).1) (4 * (gN (mo k)) + 1)) (((rnM mc mw mo ms x k).1) (4 * (gN (mo k)) + 2)) (((rnM mc mw mo ms x k).1) (4 * (gN (mo k)) + 3)) ((rnM mc mw mo ms x k).2)) (mw (gN (mo k))))), .int (((rnM mc mw mo ms x k).1) (4 * (gN (mo k)) + 2))])), ((SB (gN (mo k))), .inl (cI, 5, .inl (fun z9 => if z9 < 5 then mc (5 * (gN (mo k)) + z9) else 0)))]) hP hD hk hFc hP1 hD1 [3, 4] [0, 1, 2] [0, 1, 2, 3, 4] rfl rfl (by decide) (by decide) (by decide) rfl
    clear hPc hDc hFc hP1 hD1 hk hz
    generalize H1 = H at hP hS ⊢
    have hP : va_P D ccl (([(h0, .inr (1, [.ref lh])), (lh, .inr (0, [.int md, .ref er, .int (nI C)])), (er, .inl (cO, 10, .inr (.inr (.inr (.inr fr))))), ((SA (gN (mo k))), .inr (5, [.int (nI (gN (mo k))), .int (mw (gN (mo k))), .ref (SB (gN (mo k))), .int ((rnM mc mw mo ms x k).2), .int (((rnM mc mw mo ms x k).1) (4 * (gN (mo k)))), .int (mClamp (cRnd (tkS (fun z9 => if z9 < 5 then mc (5 * (gN (mo k)) + z9) else 0) (((rnM mc mw mo ms x k).1) (4 * (gN (mo k)))) (((rnM mc mw mo ms x k).1) (4 * (gN (mo k)) + 1)) (((rnM mc mw mo ms x k).1) (4 * (gN (mo k)) + 2)) (((rnM mc mw mo ms x k).1) (4 * (gN (mo k)) + 3)) ((rnM mc mw mo ms x k).2)) (mw (gN (mo k))))), .int (((rnM mc mw mo ms x k).1) (4 * (gN (mo k)) + 2))])), ((SB (gN (mo k))), .inl (cI, 5, .inl (fun z9 => if z9 < 5 then mc (5 * (gN (mo k)) + z9) else 0)))] : va_W) ++ scL (scJ cI SA SB mc ((rnM mc mw mo ms x k).1) mw) ((List.range N).erase (gN (mo k)))) H := hP
    have hD : va_D A (([(h0, .inr (1, [.ref lh])), (lh, .inr (0, [.int md, .ref er, .int (nI C)])), (er, .inl (cO, 10, .inr (.inr (.inr (.inr fr))))), ((SA (gN (mo k))), .inr (5, [.int (nI (gN (mo k))), .int (mw (gN (mo k))), .ref (SB (gN (mo k))), .int ((rnM mc mw mo ms x k).2), .int (((rnM mc mw mo ms x k).1) (4 * (gN (mo k)))), .int (mClamp (cRnd (tkS (fun z9 => if z9 < 5 then mc (5 * (gN (mo k)) + z9) else 0) (((rnM mc mw mo ms x k).1) (4 * (gN (mo k)))) (((rnM mc mw mo ms x k).1) (4 * (gN (mo k)) + 1)) (((rnM mc mw mo ms x k).1) (4 * (gN (mo k)) + 2)) (((rnM mc mw mo ms x k).1) (4 * (gN (mo k)) + 3)) ((rnM mc mw mo ms x k).2)) (mw (gN (mo k))))), .int (((rnM mc mw mo ms x k).1) (4 * (gN (mo k)) + 2))])), ((SB (gN (mo k))), .inl (cI, 5, .inl (fun z9 => if z9 < 5 then mc (5 * (gN (mo k)) + z9) else 0)))] : va_W) ++ scL (scJ cI SA SB mc ((rnM mc mw mo ms x k).1) mw) ((List.range N).erase (gN (mo k)))) := hD
    subst hr_27
    refine lv_topi (fun f ef => ?_)
    obtain rfl : f = (rnM mc mw mo ms x (k + 1)).2 := ef.trans (goY_eq (by have := (hO k c_12).1; omega) hc (hw _ (by have := (hO k c_12).1; omega)) hr9.1 hr9.2)
    obtain ⟨hP, hD⟩ := sc_close (X := [(h0, .inr (1, [.ref lh])), (lh, .inr (0, [.int md, .ref er, .int (nI C)])), (er, .inl (cO, 10, .inr (.inr (.inr (.inr fr)))))]) (c2 := [((SA (gN (mo k))), .inr (5, [.int (nI (gN (mo k))), .int (mw (gN (mo k))), .ref (SB (gN (mo k))), .int ((rnM mc mw mo ms x k).2), .int (((rnM mc mw mo ms x k).1) (4 * (gN (mo k)))), .int (mClamp (cRnd (tkS (fun z9 => if z9 < 5 then mc (5 * (gN (mo k)) + z9) else 0) (((rnM mc mw mo ms x k).1) (4 * (gN (mo k)))) (((rnM mc mw mo ms x k).1) (4 * (gN (mo k)) + 1)) (((rnM mc mw mo ms x k).1) (4 * (gN (mo k)) + 2)) (((rnM mc mw mo ms x k).1) (4 * (gN (mo k)) + 3)) ((rnM mc mw mo ms x k).2)) (mw (gN (mo k))))), .int (((rnM mc mw mo ms x k).1) (4 * (gN (mo k)) + 2))])), ((SB (gN (mo k))), .inl (cI, 5, .inl (fun z9 => if z9 < 5 then mc (5 * (gN (mo k)) + z9) else 0)))]) (S := (scJ cI SA SB mc ((rnM mc mw mo ms x k).1) mw)) (S' := (scJ cI SA SB mc ((rnM mc mw mo ms x (k + 1)).1) mw)) (js := (List.range N)) (gN (mo k)) hP hD (rgm (hO k c_12).1) rgn (scJ_goJ.trans (by rw [← goY_eq (by have := (hO k c_12).1; omega) hc (hw _ (by have := (hO k c_12).1; omega)) hr9.1 hr9.2])) (fun i _ h9 => scJ_go h9)
    have hP : va_P D ccl (([(h0, .inr (1, [.ref lh])), (lh, .inr (0, [.int md, .ref er, .int (nI C)])), (er, .inl (cO, 10, .inr (.inr (.inr (.inr fr)))))] : va_W) ++ scL (scJ cI SA SB mc ((rnM mc mw mo ms x (k + 1)).1) mw) (List.range N)) H := hP
    have hD : va_D A (([(h0, .inr (1, [.ref lh])), (lh, .inr (0, [.int md, .ref er, .int (nI C)])), (er, .inl (cO, 10, .inr (.inr (.inr (.inr fr)))))] : va_W) ++ scL (scJ cI SA SB mc ((rnM mc mw mo ms x (k + 1)).1) mw) (List.range N)) := hD
    refine lv_istore_n (lv' := [(2, .int ((rnM mc mw mo ms x (k + 1)).2)), (0, .ref h0), (1, .int x), (3, .int (nI k))]) hx hb dX0_letThrough_30 rfl hl (by decide) rfl (fun ls hl => ?_)
    refine lv_iinc (v := nI (k + 1)) (lv' := [(3, .int (nI (k + 1))), (2, .int ((rnM mc mw mo ms x (k + 1)).2)), (0, .ref h0), (1, .int x)]) hx hb dX0_letThrough_31 hl (k := 3) rfl (by exact nI_1 _) (by decide) rfl (fun ls hl => ?_)
    refine lv_goto (tgt := 4) hx hb dX0_letThrough_34 (by decide) ?_
    refine W.widen (k := 0) (n := 0) (Nat.le_refl _) (Nat.le_refl _) ?_
    exact ih_4 (k + 1) _ _ _ (show (k + 1) ≤ C from (by exact c_12)) (show C - (k + 1) < C - k by omega) hP hD hS (lv_sub hl [2, 3, 1, 0] rfl)

set_option maxHeartbeats 4000000 in
set_option maxRecDepth 100000 in
theorem c_X0_letThrough_e (l : Launch) (D : va_G) (cI cJ cO : ClassId) (df sz : Nat) (h0 : Nat) (lh : Nat) (md : Int32) (x : Int32)  : MetI l yX0_letThrough wsX0_letThrough ({ frames := 1, cells := 0, slots := 0, locals := 20 } : Room) D (gTY cI cJ cO) df [(h0, .inr (1, [.ref lh])), (lh, .inr (0, [.int md, .ref df, .int 0]))] sz [.ref h0, .int x] (fun (r : Int32) (wZ : va_W) => wZ = [(h0, .inr (1, [.ref lh])), (lh, .inr (0, [.int md, .ref df, .int 0]))] ∧ r = x) := by
  refine g_of (cc := cX0_letThrough) (nL := 4) (ret := (some .int)) (D := D) (TY := (gTY cI cJ cO)) (df := df) (Qc := fun A => va_Qi (fun (r : Int32) (wZ : va_W) => wZ = [(h0, .inr (1, [.ref lh])), (lh, .inr (0, [.int md, .ref df, .int 0]))] ∧ r = x) (gB D (gTY cI cJ cO) A) A) (by decide +kernel) rfl (Nat.le_of_ble_eq_true rfl) ?_
  intro p e s m below meth c ls A hsz C0 hin hl
  obtain ⟨CF, hr, hlk, hA, hS, hP, hK, hD, hV, hH⟩ := C0
  have CF : CallFix p m c cX0_letThrough 4 s _ wsX0_letThrough RX0 := CF
  obtain ⟨hx, hb, hml, hown, hts⟩ := id CF
  subst hsz
  have hfieldLink_RX0_12 : (Cond.fieldLink RX0 12 "TapLoom$Chain" "members" "Ljava/util/ArrayList;").before _ s = true := hts _ (List.mem_of_getElem? (i := 1) rfl)
  have hmethodLink_RX0_18 : (Cond.methodLink RX0 18 yJx4a65c_size_8abf5).before _ s = true := hts _ (List.mem_of_getElem? (i := 3) rfl)
  have inX0 : ∀ w ∈ u_ws RX0 TX0 1, w ∈ wsX0_letThrough := fun w h => (List.mem_cons_of_mem _ (List.mem_append_left _ (List.mem_append_left _ (List.mem_append_right _ h))))
  have hP : va_P D ccl [(h0, .inr (1, [.ref lh])), (lh, .inr (0, [.int md, .ref df, .int 0]))] s.heap := hP
  have hl : lv_has ls 4 [(0, .ref h0), (1, .int x)] := hl
  refine lv_iload_n hx hb dX0_letThrough_0 rfl (lv_at hl 1 rfl) ?_
  refine lv_istore_n (lv' := [(2, .int x), (0, .ref h0), (1, .int x)]) hx hb dX0_letThrough_1 rfl hl (by decide) rfl (fun ls hl => ?_)
  refine lv_iconst (v := 0) hx hb dX0_letThrough_2 (by decide) ?_
  refine lv_istore_n (lv' := [(3, .int 0), (2, .int x), (0, .ref h0), (1, .int x)]) hx hb dX0_letThrough_3 rfl hl (by decide) rfl (fun ls hl => ?_)
  refine lv_iload_n hx hb dX0_letThrough_4 rfl (lv_at hl 0 rfl) ?_
  refine lv_aload_n hx hb dX0_letThrough_5 rfl (lv_at hl 2 rfl) ?_
  refine va_get (D := D) (ci := 1) (v := .ref lh) (C := RX0) (T := TX0) (N := 1) hx hb hts inX0 hown hK hP 0 rfl rfl 0 (by decide) hfieldLink_RX0_12 (fun _ h9 => h9) rfl dX0_letThrough_6 ?_
  have hPc := hP.sub (ws' := [(lh, .inr (0, [.int md, .ref df, .int 0]))]) [1] rfl
  have hDc := hD.sub (ws' := [(lh, .inr (0, [.int md, .ref df, .int 0]))]) [1] (by decide) rfl
  have hFc := va_free (wc := [(lh, .inr (0, [.int md, .ref df, .int 0]))]) hD hS hA [1] rfl
  refine g_Vi (As := []) (rest := [.int 0]) CF (c_Jx4a65c_size_8abf5 l D cI cJ cO df s.heap.size lh md df 0 ) (cwV 0 hts gX0_letThrough_Jx4a65c_size_8abf5 rfl rfl rfl (by decide +kernel) ⟨Nat.le_of_ble_eq_true rfl, Nat.le_of_ble_eq_true rfl⟩) (va_recv hK hP (ci := 0) (q0 := 1) rfl rfl) hPc hK hDc hV hH hS hFc rfl hl.1 rfl (Nat.le_of_ble_eq_true rfl) dX0_letThrough_9 ⟨Nat.le_of_ble_eq_true rfl, Nat.le_of_ble_eq_true rfl⟩ (fun r_9 w1 H1 locs1 hq hP1 hD1 hk hS hz => ?_)
  obtain ⟨rfl, hr_9⟩ := hq
  have hP := g_keepR hP hD [1] rfl hk hP1
  clear hPc hDc hFc hP1 hD1 hk hz
  generalize H1 = H at hP hS ⊢
  have hP : va_P D ccl [(h0, .inr (1, [.ref lh])), (lh, .inr (0, [.int md, .ref df, .int 0]))] H := hP
  have hD : va_D A [(h0, .inr (1, [.ref lh])), (lh, .inr (0, [.int md, .ref df, .int 0]))] := hD
  subst hr_9
  refine lv_icmp_ge (tgt := 37) hx hb dX0_letThrough_12 (by decide) (fun c_12 => ?_) (fun c_12 => ?_)
  · refine lv_iload_n hx hb dX0_letThrough_37 rfl (lv_at hl 1 rfl) ?_
    refine g_iret (v := x) hx hb hr hlk hP hK hD hS (Nat.le_of_ble_eq_true rfl) (Nat.le_of_ble_eq_true rfl) dX0_letThrough_38 ?_
    exact ⟨rfl, rfl⟩
  · exact absurd c_12 (by decide)

set_option maxHeartbeats 4000000 in
set_option maxRecDepth 100000 in
theorem c_X0_isStable (l : Launch) (D : va_G) (cI cJ cO : ClassId) (df sz : Nat) (h0 : Nat) (lh : Nat) (er : Nat) (md : Int32) (C : Nat) (fr : Nat → Option Nat) (mo : Nat → Int32) (SA : Nat → Nat) (SB : Nat → Nat) (mc : Nat → Int32) (ms : Nat → Int32) (mw : Nat → Int32) (N : Nat) (hC : C ≤ 8) (hN : N ≤ 8) (hfr : ∀ k, k < C → fr k = some (SA (gN (mo k)))) (hO : ∀ i, i < C → gN (mo i) < N ∧ mo i = nI (gN (mo i))) : MetI l yX0_isStable wsX0_isStable ({ frames := 3, cells := 0, slots := 0, locals := 64 } : Room) D (gTY cI cJ cO) df (([(h0, .inr (1, [.ref lh])), (lh, .inr (0, [.int md, .ref er, .int (nI C)])), (er, .inl (cO, 10, .inr (.inr (.inr (.inr fr)))))] : va_W) ++ scL (scJ cI SA SB mc ms mw) (List.range N)) sz [.ref h0] (fun (r : Int32) (wZ : va_W) => wZ = ([(h0, .inr (1, [.ref lh])), (lh, .inr (0, [.int md, .ref er, .int (nI C)])), (er, .inl (cO, 10, .inr (.inr (.inr (.inr fr)))))] : va_W) ++ scL (scJ cI SA SB mc ms mw) (List.range N) ∧ r = stM mc mo C) := by
  refine g_of (cc := cX0_isStable) (nL := 2) (ret := (some .boolean)) (D := D) (TY := (gTY cI cJ cO)) (df := df) (Qc := fun A => va_Qi (fun (r : Int32) (wZ : va_W) => wZ = ([(h0, .inr (1, [.ref lh])), (lh, .inr (0, [.int md, .ref er, .int (nI C)])), (er, .inl (cO, 10, .inr (.inr (.inr (.inr fr)))))] : va_W) ++ scL (scJ cI SA SB mc ms mw) (List.range N) ∧ r = stM mc mo C) (gB D (gTY cI cJ cO) A) A) (by decide +kernel) rfl (Nat.le_of_ble_eq_true rfl) ?_
  intro p e s m below meth c ls A hsz C0 hin hl
  obtain ⟨CF, hr, hlk, hA, hS, hP, hK, hD, hV, hH⟩ := C0
  have CF : CallFix p m c cX0_isStable 2 s _ wsX0_isStable RX0 := CF
  obtain ⟨hx, hb, hml, hown, hts⟩ := id CF
  subst hsz
  have hfieldLink_RX0_12 : (Cond.fieldLink RX0 12 "TapLoom$Chain" "members" "Ljava/util/ArrayList;").before _ s = true := hts _ (List.mem_of_getElem? (i := 1) rfl)
  have hmethodLink_RX0_18 : (Cond.methodLink RX0 18 yJx4a65c_size_8abf5).before _ s = true := hts _ (List.mem_of_getElem? (i := 3) rfl)
  have hmethodLink_RX0_22 : (Cond.methodLink RX0 22 yJx4a65c_get_915e3).before _ s = true := hts _ (List.mem_of_getElem? (i := 9) rfl)
  have hclassLink_RX0_37 : (Cond.classLink RX0 37 "TapLoom$Section").before _ s = true := hts _ (List.mem_of_getElem? (i := 2) rfl)
  have hmethodLink_RX0_54 : (Cond.methodLink RX0 54 yX4_isStable).before _ s = true := hts _ (List.mem_of_getElem? (i := 26) rfl)
  have inX0 : ∀ w ∈ u_ws RX0 TX0 1, w ∈ wsX0_isStable := fun w h => (List.mem_cons_of_mem _ (List.mem_append_left _ (List.mem_append_left _ (List.mem_append_right _ h))))
  have hP : va_P D ccl (([(h0, .inr (1, [.ref lh])), (lh, .inr (0, [.int md, .ref er, .int (nI C)])), (er, .inl (cO, 10, .inr (.inr (.inr (.inr fr)))))] : va_W) ++ scL (scJ cI SA SB mc ms mw) (List.range N)) s.heap := hP
  have hl : lv_has ls 2 [(0, .ref h0)] := hl
  refine lv_iconst (v := 0) hx hb dX0_isStable_0 (by decide) ?_
  refine lv_istore_n (lv' := [(1, .int 0), (0, .ref h0)]) hx hb dX0_isStable_1 rfl hl (by decide) rfl (fun ls hl => ?_)
  refine W.widen (k := 0) (n := 0) (Nat.le_refl _) (Nat.le_refl _) ?_
  refine g_while (σ := Nat) (st := []) (nL := 2) (fun k => ([(h0, .inr (1, [.ref lh])), (lh, .inr (0, [.int md, .ref er, .int (nI C)])), (er, .inl (cO, 10, .inr (.inr (.inr (.inr fr)))))] : va_W) ++ scL (scJ cI SA SB mc ms mw) (List.range N))
    (fun k => [(0, .ref h0), (1, .int (nI k))])
    (fun k => k ≤ C ∧ stM mc mo k = 1)
    (fun k => C - k) (fun k => 0) (fun k => 0)
    ?_ 0 ⟨Nat.zero_le C, rfl⟩ hP hD hS (lv_sub hl [1, 0] rfl)
  intro k hI H locs ls hP hD hS hl ih
  have hI : k ≤ C ∧ stM mc mo k = 1 := hI
  have hP : va_P D ccl (([(h0, .inr (1, [.ref lh])), (lh, .inr (0, [.int md, .ref er, .int (nI C)])), (er, .inl (cO, 10, .inr (.inr (.inr (.inr fr)))))] : va_W) ++ scL (scJ cI SA SB mc ms mw) (List.range N)) H := hP
  have hD : va_D A (([(h0, .inr (1, [.ref lh])), (lh, .inr (0, [.int md, .ref er, .int (nI C)])), (er, .inl (cO, 10, .inr (.inr (.inr (.inr fr)))))] : va_W) ++ scL (scJ cI SA SB mc ms mw) (List.range N)) := hD
  have hl : lv_has ls 2 [(0, .ref h0), (1, .int (nI k))] := hl
  change W p l e _ s m _ below meth c H locs 0 0 _ (F0 m 2 ls [])
  have ih_2 := ih
  clear ih
  obtain ⟨hk9, hst9⟩ := hI
  refine lv_iload_n hx hb dX0_isStable_2 rfl (lv_at hl 1 rfl) ?_
  refine lv_aload_n hx hb dX0_isStable_3 rfl (lv_at hl 0 rfl) ?_
  refine va_get (D := D) (ci := 1) (v := .ref lh) (C := RX0) (T := TX0) (N := 1) hx hb hts inX0 hown hK hP 0 rfl rfl 0 (by decide) hfieldLink_RX0_12 (fun _ h9 => h9) rfl dX0_isStable_4 ?_
  have hPc := hP.sub (ws' := [(lh, .inr (0, [.int md, .ref er, .int (nI C)]))]) [1] rfl
  have hDc := hD.sub (ws' := [(lh, .inr (0, [.int md, .ref er, .int (nI C)]))]) [1] (by decide) rfl
  have hFc := va_free (wc := [(lh, .inr (0, [.int md, .ref er, .int (nI C)]))]) hD hS hA [1] rfl
  refine g_Vi (As := []) (rest := [.int (nI k)]) CF (c_Jx4a65c_size_8abf5 l D cI cJ cO df H.size lh md er (nI C) ) (cwV 0 hts gX0_isStable_Jx4a65c_size_8abf5 rfl rfl rfl (by decide +kernel) ⟨Nat.le_of_ble_eq_true rfl, Nat.le_of_ble_eq_true rfl⟩) (va_recv hK hP (ci := 0) (q0 := 1) rfl rfl) hPc hK hDc hV hH hS hFc rfl hl.1 rfl (Nat.le_of_ble_eq_true rfl) dX0_isStable_7 ⟨Nat.le_of_ble_eq_true rfl, Nat.le_of_ble_eq_true rfl⟩ (fun r_7 w1 H1 locs1 hq hP1 hD1 hk hS hz => ?_)
  obtain ⟨rfl, hr_7⟩ := hq
  have hP := g_keepR hP hD [1] rfl hk hP1
  clear hPc hDc hFc hP1 hD1 hk hz
  generalize H1 = H at hP hS ⊢
  have hP : va_P D ccl (([(h0, .inr (1, [.ref lh])), (lh, .inr (0, [.int md, .ref er, .int (nI C)])), (er, .inl (cO, 10, .inr (.inr (.inr (.inr fr)))))] : va_W) ++ scL (scJ cI SA SB mc ms mw) (List.range N)) H := hP
  have hD : va_D A (([(h0, .inr (1, [.ref lh])), (lh, .inr (0, [.int md, .ref er, .int (nI C)])), (er, .inl (cO, 10, .inr (.inr (.inr (.inr fr)))))] : va_W) ++ scL (scJ cI SA SB mc ms mw) (List.range N)) := hD
  subst hr_7
  refine lv_icmp_ge (tgt := 38) hx hb dX0_isStable_10 (by decide) (fun c_10 => ?_) (fun c_10 => ?_)
  · have c_10 : C ≤ k := g_le (a := C) (b := k) c_10 (by omega) (by omega)
    obtain rfl : C = k := by omega
    refine lv_iconst (v := 1) hx hb dX0_isStable_38 (by decide) ?_
    refine g_zret (v := 1) hx hb hr hlk hP hK hD hS (Nat.le_of_ble_eq_true rfl) (Nat.le_of_ble_eq_true rfl) dX0_isStable_39 (by decide +kernel) ?_
    exact ⟨rfl, hst9.symm⟩
  · have c_10 : k < C := g_nle (a := C) (b := k) c_10 (by omega) (by omega)
    refine lv_aload_n hx hb dX0_isStable_13 rfl (lv_at hl 0 rfl) ?_
    refine va_get (D := D) (ci := 1) (v := .ref lh) (C := RX0) (T := TX0) (N := 1) hx hb hts inX0 hown hK hP 0 rfl rfl 0 (by decide) hfieldLink_RX0_12 (fun _ h9 => h9) rfl dX0_isStable_14 ?_
    refine lv_iload_n hx hb dX0_isStable_17 rfl (lv_at hl 1 rfl) ?_
    have hPc := hP.sub (ws' := [(lh, .inr (0, [.int md, .ref er, .int (nI C)])), (er, .inl (cO, 10, .inr (.inr (.inr (.inr fr)))))]) [1, 2] rfl
    have hDc := hD.sub (ws' := [(lh, .inr (0, [.int md, .ref er, .int (nI C)])), (er, .inl (cO, 10, .inr (.inr (.inr (.inr fr)))))]) [1, 2] (by decide) rfl
    have hFc := va_free (wc := [(lh, .inr (0, [.int md, .ref er, .int (nI C)])), (er, .inl (cO, 10, .inr (.inr (.inr (.inr fr)))))]) hD hS hA [1, 2] rfl
    refine g_Vr (As := [.int (nI k)]) (rest := []) CF (c_Jx4a65c_get_915e3 l D cI cJ cO df H.size lh md er C fr k (SA (gN (mo k))) c_10 (by omega) (hfr k c_10)) (cwV 1 hts gX0_isStable_Jx4a65c_get_915e3 rfl rfl rfl (by decide +kernel) ⟨Nat.le_of_ble_eq_true rfl, Nat.le_of_ble_eq_true rfl⟩) (va_recv hK hP (ci := 0) (q0 := 1) rfl rfl) hPc hK hDc hV hH hS hFc rfl hl.1 rfl (Nat.le_of_ble_eq_true rfl) dX0_isStable_18 ⟨Nat.le_of_ble_eq_true rfl, Nat.le_of_ble_eq_true rfl⟩ (fun w1 H1 locs1 hq hP1 hD1 hk hS hz => ?_)
    obtain ⟨w1, a1⟩ := w1
    obtain ⟨ew1, hr_18⟩ := hq
    dsimp only at ew1 hP1 hD1 hr_18
    subst ew1
    have hP := g_keepR hP hD [1, 2] rfl hk hP1
    clear hPc hDc hFc hP1 hD1 hk hz
    generalize H1 = H at hP hS ⊢
    have hP : va_P D ccl (([(h0, .inr (1, [.ref lh])), (lh, .inr (0, [.int md, .ref er, .int (nI C)])), (er, .inl (cO, 10, .inr (.inr (.inr (.inr fr)))))] : va_W) ++ scL (scJ cI SA SB mc ms mw) (List.range N)) H := hP
    have hD : va_D A (([(h0, .inr (1, [.ref lh])), (lh, .inr (0, [.int md, .ref er, .int (nI C)])), (er, .inl (cO, 10, .inr (.inr (.inr (.inr fr)))))] : va_W) ++ scL (scJ cI SA SB mc ms mw) (List.range N)) := hD
    have hr_18 := hr_18.symm
    subst hr_18
    refine va_castS hx hb hown hclassLink_RX0_37 (gS4 hK) ((inT_scL (rgm (hO k c_10).1)).recv (X := [(h0, .inr (1, [.ref lh])), (lh, .inr (0, [.int md, .ref er, .int (nI C)])), (er, .inl (cO, 10, .inr (.inr (.inr (.inr fr)))))]) hK hP) dX0_isStable_21 ?_
    obtain ⟨hP, hD⟩ := sc_open (X := [(h0, .inr (1, [.ref lh])), (lh, .inr (0, [.int md, .ref er, .int (nI C)])), (er, .inl (cO, 10, .inr (.inr (.inr (.inr fr)))))]) (gN (mo k)) hP hD (rgm (hO k c_10).1)
    have hP : va_P D ccl (([(h0, .inr (1, [.ref lh])), (lh, .inr (0, [.int md, .ref er, .int (nI C)])), (er, .inl (cO, 10, .inr (.inr (.inr (.inr fr))))), (SA (gN (mo k)), .inr (5, [.int (nI (gN (mo k))), .int (mw (gN (mo k))), .ref (SB (gN (mo k))), .int (ms (4 * (gN (mo k)))), .int (ms (4 * (gN (mo k)) + 1)), .int (ms (4 * (gN (mo k)) + 2)), .int (ms (4 * (gN (mo k)) + 3))])), (SB (gN (mo k)), .inl (cI, 5, .inl (fun z9 => if z9 < 5 then mc (5 * (gN (mo k)) + z9) else 0)))] : va_W) ++ scL (scJ cI SA SB mc ms mw) ((List.range N).erase (gN (mo k)))) H := hP
    have hD : va_D A (([(h0, .inr (1, [.ref lh])), (lh, .inr (0, [.int md, .ref er, .int (nI C)])), (er, .inl (cO, 10, .inr (.inr (.inr (.inr fr))))), (SA (gN (mo k)), .inr (5, [.int (nI (gN (mo k))), .int (mw (gN (mo k))), .ref (SB (gN (mo k))), .int (ms (4 * (gN (mo k)))), .int (ms (4 * (gN (mo k)) + 1)), .int (ms (4 * (gN (mo k)) + 2)), .int (ms (4 * (gN (mo k)) + 3))])), (SB (gN (mo k)), .inl (cI, 5, .inl (fun z9 => if z9 < 5 then mc (5 * (gN (mo k)) + z9) else 0)))] : va_W) ++ scL (scJ cI SA SB mc ms mw) ((List.range N).erase (gN (mo k)))) := hD
    have hPc := hP.sub (ws' := [((SA (gN (mo k))), .inr (5, [.int (nI (gN (mo k))), .int (mw (gN (mo k))), .ref (SB (gN (mo k))), .int (ms (4 * (gN (mo k)))), .int (ms (4 * (gN (mo k)) + 1)), .int (ms (4 * (gN (mo k)) + 2)), .int (ms (4 * (gN (mo k)) + 3))])), ((SB (gN (mo k))), .inl (cI, 5, .inl (fun z9 => if z9 < 5 then mc (5 * (gN (mo k)) + z9) else 0)))]) [3, 4] rfl
    have hDc := hD.sub (ws' := [((SA (gN (mo k))), .inr (5, [.int (nI (gN (mo k))), .int (mw (gN (mo k))), .ref (SB (gN (mo k))), .int (ms (4 * (gN (mo k)))), .int (ms (4 * (gN (mo k)) + 1)), .int (ms (4 * (gN (mo k)) + 2)), .int (ms (4 * (gN (mo k)) + 3))])), ((SB (gN (mo k))), .inl (cI, 5, .inl (fun z9 => if z9 < 5 then mc (5 * (gN (mo k)) + z9) else 0)))]) [3, 4] (by decide) rfl
    have hFc := va_free (wc := [((SA (gN (mo k))), .inr (5, [.int (nI (gN (mo k))), .int (mw (gN (mo k))), .ref (SB (gN (mo k))), .int (ms (4 * (gN (mo k)))), .int (ms (4 * (gN (mo k)) + 1)), .int (ms (4 * (gN (mo k)) + 2)), .int (ms (4 * (gN (mo k)) + 3))])), ((SB (gN (mo k))), .inl (cI, 5, .inl (fun z9 => if z9 < 5 then mc (5 * (gN (mo k)) + z9) else 0)))]) hD hS hA [3, 4] rfl
    refine g_Vi (As := []) (rest := []) CF (c_X4_isStable l D cI cJ cO df H.size (SA (gN (mo k))) (SB (gN (mo k))) (nI (gN (mo k))) (mw (gN (mo k))) (ms (4 * (gN (mo k)))) (ms (4 * (gN (mo k)) + 1)) (ms (4 * (gN (mo k)) + 2)) (ms (4 * (gN (mo k)) + 3)) (fun z9 => if z9 < 5 then mc (5 * (gN (mo k)) + z9) else 0) ) (cwV 0 hts gX0_isStable_X4_isStable rfl rfl rfl (by decide +kernel) ⟨Nat.le_of_ble_eq_true rfl, Nat.le_of_ble_eq_true rfl⟩) (va_recv hK hP (ci := 5) (q0 := 3) rfl rfl) hPc hK hDc hV hH hS hFc rfl hl.1 rfl (Nat.le_of_ble_eq_true rfl) dX0_isStable_24 ⟨Nat.le_of_ble_eq_true rfl, Nat.le_of_ble_eq_true rfl⟩ (fun r_24 w1 H1 locs1 hq hP1 hD1 hk hS hz => ?_)
    obtain ⟨rfl, hr_24⟩ := hq
    have hP := g_keepR hP hD [3, 4] rfl hk hP1
    clear hPc hDc hFc hP1 hD1 hk hz
    generalize H1 = H at hP hS ⊢
    have hP : va_P D ccl (([(h0, .inr (1, [.ref lh])), (lh, .inr (0, [.int md, .ref er, .int (nI C)])), (er, .inl (cO, 10, .inr (.inr (.inr (.inr fr))))), (SA (gN (mo k)), .inr (5, [.int (nI (gN (mo k))), .int (mw (gN (mo k))), .ref (SB (gN (mo k))), .int (ms (4 * (gN (mo k)))), .int (ms (4 * (gN (mo k)) + 1)), .int (ms (4 * (gN (mo k)) + 2)), .int (ms (4 * (gN (mo k)) + 3))])), (SB (gN (mo k)), .inl (cI, 5, .inl (fun z9 => if z9 < 5 then mc (5 * (gN (mo k)) + z9) else 0)))] : va_W) ++ scL (scJ cI SA SB mc ms mw) ((List.range N).erase (gN (mo k)))) H := hP
    have hD : va_D A (([(h0, .inr (1, [.ref lh])), (lh, .inr (0, [.int md, .ref er, .int (nI C)])), (er, .inl (cO, 10, .inr (.inr (.inr (.inr fr))))), (SA (gN (mo k)), .inr (5, [.int (nI (gN (mo k))), .int (mw (gN (mo k))), .ref (SB (gN (mo k))), .int (ms (4 * (gN (mo k)))), .int (ms (4 * (gN (mo k)) + 1)), .int (ms (4 * (gN (mo k)) + 2)), .int (ms (4 * (gN (mo k)) + 3))])), (SB (gN (mo k)), .inl (cI, 5, .inl (fun z9 => if z9 < 5 then mc (5 * (gN (mo k)) + z9) else 0)))] : va_W) ++ scL (scJ cI SA SB mc ms mw) ((List.range N).erase (gN (mo k)))) := hD
    subst hr_24
    refine lv_topi (fun f ef => ?_)
    obtain rfl : f = mStab mc (gN (mo k)) := ef.trans (sStab_eq)
    obtain ⟨hP, hD⟩ := sc_close (X := [(h0, .inr (1, [.ref lh])), (lh, .inr (0, [.int md, .ref er, .int (nI C)])), (er, .inl (cO, 10, .inr (.inr (.inr (.inr fr)))))]) (c2 := [(SA (gN (mo k)), .inr (5, [.int (nI (gN (mo k))), .int (mw (gN (mo k))), .ref (SB (gN (mo k))), .int (ms (4 * (gN (mo k)))), .int (ms (4 * (gN (mo k)) + 1)), .int (ms (4 * (gN (mo k)) + 2)), .int (ms (4 * (gN (mo k)) + 3))])), (SB (gN (mo k)), .inl (cI, 5, .inl (fun z9 => if z9 < 5 then mc (5 * (gN (mo k)) + z9) else 0)))]) (S := (scJ cI SA SB mc ms mw)) (S' := (scJ cI SA SB mc ms mw)) (js := (List.range N)) (gN (mo k)) hP hD (rgm (hO k c_10).1) rgn rfl (fun _ _ _ => rfl)
    have hP : va_P D ccl (([(h0, .inr (1, [.ref lh])), (lh, .inr (0, [.int md, .ref er, .int (nI C)])), (er, .inl (cO, 10, .inr (.inr (.inr (.inr fr)))))] : va_W) ++ scL (scJ cI SA SB mc ms mw) (List.range N)) H := hP
    have hD : va_D A (([(h0, .inr (1, [.ref lh])), (lh, .inr (0, [.int md, .ref er, .int (nI C)])), (er, .inl (cO, 10, .inr (.inr (.inr (.inr fr)))))] : va_W) ++ scL (scJ cI SA SB mc ms mw) (List.range N)) := hD
    refine lv_if_ne (tgt := 32) hx hb dX0_isStable_27 (by decide) (fun c_27 => ?_) (fun c_27 => ?_)
    · have hs1 : stM mc mo (k + 1) = mStab mc (gN (mo k)) := by rw [stM_s, if_neg (by rw [hst9]; decide)]
      refine lv_iinc (v := nI (k + 1)) (lv' := [(1, .int (nI (k + 1))), (0, .ref h0)]) hx hb dX0_isStable_32 hl (k := 1) rfl (by exact nI_1 _) (by decide) rfl (fun ls hl => ?_)
      refine lv_goto (tgt := 2) hx hb dX0_isStable_35 (by decide) ?_
      refine W.widen (k := 0) (n := 0) (Nat.le_refl _) (Nat.le_refl _) ?_
      exact ih_2 (k + 1) _ _ _ (show (k + 1) ≤ C ∧ stM mc mo (k + 1) = 1 from (by exact ⟨c_10, (hs1.trans ((mStab_01 mc _).resolve_left c_27))⟩)) (show C - (k + 1) < C - k by omega) hP hD hS (lv_sub hl [1, 0] rfl)
    · have hs1 : stM mc mo (k + 1) = 0 := by rw [stM_s, if_neg (by rw [hst9]; decide)]; exact c_27
      refine lv_iconst (v := 0) hx hb dX0_isStable_30 (by decide) ?_
      refine g_zret (v := 0) hx hb hr hlk hP hK hD hS (Nat.le_of_ble_eq_true rfl) (Nat.le_of_ble_eq_true rfl) dX0_isStable_31 (by decide +kernel) ?_
      exact ⟨rfl, by have h9 := stM_stop hs1 (C - (k + 1)); rw [show k + 1 + (C - (k + 1)) = C by omega] at h9; exact h9.symm⟩

set_option maxHeartbeats 4000000 in
set_option maxRecDepth 100000 in
theorem c_X0_isStable_e (l : Launch) (D : va_G) (cI cJ cO : ClassId) (df sz : Nat) (h0 : Nat) (lh : Nat) (md : Int32)  : MetI l yX0_isStable wsX0_isStable ({ frames := 1, cells := 0, slots := 0, locals := 20 } : Room) D (gTY cI cJ cO) df [(h0, .inr (1, [.ref lh])), (lh, .inr (0, [.int md, .ref df, .int 0]))] sz [.ref h0] (fun (r : Int32) (wZ : va_W) => wZ = [(h0, .inr (1, [.ref lh])), (lh, .inr (0, [.int md, .ref df, .int 0]))] ∧ r = 1) := by
  refine g_of (cc := cX0_isStable) (nL := 2) (ret := (some .boolean)) (D := D) (TY := (gTY cI cJ cO)) (df := df) (Qc := fun A => va_Qi (fun (r : Int32) (wZ : va_W) => wZ = [(h0, .inr (1, [.ref lh])), (lh, .inr (0, [.int md, .ref df, .int 0]))] ∧ r = 1) (gB D (gTY cI cJ cO) A) A) (by decide +kernel) rfl (Nat.le_of_ble_eq_true rfl) ?_
  intro p e s m below meth c ls A hsz C0 hin hl
  obtain ⟨CF, hr, hlk, hA, hS, hP, hK, hD, hV, hH⟩ := C0
  have CF : CallFix p m c cX0_isStable 2 s _ wsX0_isStable RX0 := CF
  obtain ⟨hx, hb, hml, hown, hts⟩ := id CF
  subst hsz
  have hfieldLink_RX0_12 : (Cond.fieldLink RX0 12 "TapLoom$Chain" "members" "Ljava/util/ArrayList;").before _ s = true := hts _ (List.mem_of_getElem? (i := 1) rfl)
  have hmethodLink_RX0_18 : (Cond.methodLink RX0 18 yJx4a65c_size_8abf5).before _ s = true := hts _ (List.mem_of_getElem? (i := 3) rfl)
  have inX0 : ∀ w ∈ u_ws RX0 TX0 1, w ∈ wsX0_isStable := fun w h => (List.mem_cons_of_mem _ (List.mem_append_left _ (List.mem_append_left _ (List.mem_append_right _ h))))
  have hP : va_P D ccl [(h0, .inr (1, [.ref lh])), (lh, .inr (0, [.int md, .ref df, .int 0]))] s.heap := hP
  have hl : lv_has ls 2 [(0, .ref h0)] := hl
  refine lv_iconst (v := 0) hx hb dX0_isStable_0 (by decide) ?_
  refine lv_istore_n (lv' := [(1, .int 0), (0, .ref h0)]) hx hb dX0_isStable_1 rfl hl (by decide) rfl (fun ls hl => ?_)
  refine lv_iload_n hx hb dX0_isStable_2 rfl (lv_at hl 0 rfl) ?_
  refine lv_aload_n hx hb dX0_isStable_3 rfl (lv_at hl 1 rfl) ?_
  refine va_get (D := D) (ci := 1) (v := .ref lh) (C := RX0) (T := TX0) (N := 1) hx hb hts inX0 hown hK hP 0 rfl rfl 0 (by decide) hfieldLink_RX0_12 (fun _ h9 => h9) rfl dX0_isStable_4 ?_
  have hPc := hP.sub (ws' := [(lh, .inr (0, [.int md, .ref df, .int 0]))]) [1] rfl
  have hDc := hD.sub (ws' := [(lh, .inr (0, [.int md, .ref df, .int 0]))]) [1] (by decide) rfl
  have hFc := va_free (wc := [(lh, .inr (0, [.int md, .ref df, .int 0]))]) hD hS hA [1] rfl
  refine g_Vi (As := []) (rest := [.int 0]) CF (c_Jx4a65c_size_8abf5 l D cI cJ cO df s.heap.size lh md df 0 ) (cwV 0 hts gX0_isStable_Jx4a65c_size_8abf5 rfl rfl rfl (by decide +kernel) ⟨Nat.le_of_ble_eq_true rfl, Nat.le_of_ble_eq_true rfl⟩) (va_recv hK hP (ci := 0) (q0 := 1) rfl rfl) hPc hK hDc hV hH hS hFc rfl hl.1 rfl (Nat.le_of_ble_eq_true rfl) dX0_isStable_7 ⟨Nat.le_of_ble_eq_true rfl, Nat.le_of_ble_eq_true rfl⟩ (fun r_7 w1 H1 locs1 hq hP1 hD1 hk hS hz => ?_)
  obtain ⟨rfl, hr_7⟩ := hq
  have hP := g_keepR hP hD [1] rfl hk hP1
  clear hPc hDc hFc hP1 hD1 hk hz
  generalize H1 = H at hP hS ⊢
  have hP : va_P D ccl [(h0, .inr (1, [.ref lh])), (lh, .inr (0, [.int md, .ref df, .int 0]))] H := hP
  have hD : va_D A [(h0, .inr (1, [.ref lh])), (lh, .inr (0, [.int md, .ref df, .int 0]))] := hD
  subst hr_7
  refine lv_icmp_ge (tgt := 38) hx hb dX0_isStable_10 (by decide) (fun c_10 => ?_) (fun c_10 => ?_)
  · refine lv_iconst (v := 1) hx hb dX0_isStable_38 (by decide) ?_
    refine g_zret (v := 1) hx hb hr hlk hP hK hD hS (Nat.le_of_ble_eq_true rfl) (Nat.le_of_ble_eq_true rfl) dX0_isStable_39 (by decide +kernel) ?_
    exact ⟨rfl, rfl⟩
  · exact absurd c_10 (by decide)
