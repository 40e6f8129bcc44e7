set_option maxHeartbeats 4000000 in
set_option maxRecDepth 100000 in
theorem c_Jxa1e45_init_da8c8 (l : Launch) (D : va_G) (cI cJ cO : ClassId) (df sz : Nat) (h0 : Nat)  : MetV l yJxa1e45_init_da8c8 wsJxa1e45_init_da8c8 ({ frames := 1, cells := 0, slots := 0, locals := 30 } : Room) D (gTY cI cJ cO) df [] sz [.ref h0] (fun (wZ : va_W) => wZ = []) := by
  refine g_of (cc := cJxa1e45_init_da8c8) (nL := 1) (ret := none) (D := D) (TY := (gTY cI cJ cO)) (df := df) (Qc := fun A => va_Qv (fun (wZ : va_W) => wZ = []) (gB D (gTY cI cJ cO) A) A) (by decide +kernel) rfl (Nat.le_of_ble_eq_true rfl) ?_
  intro p e s m below meth c ls A hsz C0 hin hl
  obtain ⟨CF, hr, hlk, hA, hS, hP, hK, hD, hV, hH⟩ := C0
  have CF : CallFix p m c cJxa1e45_init_da8c8 1 s _ wsJxa1e45_init_da8c8 RJxa1e45 := CF
  obtain ⟨hx, hb, hml, hown, hts⟩ := id CF
  subst hsz
  have hmethodLink_RJxa1e45_1 : (Cond.methodLink RJxa1e45 1 objectInit).before _ s = true := hts _ (List.mem_of_getElem? (i := 1) rfl)
  have hinstanceMethod_objectInit : (Cond.instanceMethod objectInit).before _ s = true := hts _ (List.mem_of_getElem? (i := 2) rfl)
  have hcode_objectInit : (Cond.code objectInit ⟨#[0xb1]⟩ 1 none).before _ s = true := hts _ (List.mem_of_getElem? (i := 3) rfl)
  have hP : va_P D ccl [] s.heap := hP
  have hl : lv_has ls 1 [(0, .ref h0)] := hl
  refine lv_aload_n hx hb dJxa1e45_init_da8c8_0 rfl (lv_at hl 0 rfl) ?_
  refine W.objInit hx hb hown hmethodLink_RJxa1e45_1 hinstanceMethod_objectInit hcode_objectInit rfl (by rw [hml]; exact hl.1) rfl dJxa1e45_init_da8c8_1 (Nat.le_of_ble_eq_true rfl) (Nat.le_of_ble_eq_true rfl) ?_
  refine W.eq (g2 := F0 m 4 ls []) rfl ?_
  refine g_vret hx hb hr hlk hP hK hD hS (Nat.le_of_ble_eq_true rfl) (Nat.le_of_ble_eq_true rfl) dJxa1e45_init_da8c8_4 ?_
  exact rfl

set_option maxHeartbeats 4000000 in
set_option maxRecDepth 100000 in
theorem c_Jxc12de_init_da8c8 (l : Launch) (D : va_G) (cI cJ cO : ClassId) (df sz : Nat) (lh : Nat) (f0 : Int32) (f1 : Option Nat) (f2 : Int32)  : MetV l yJxc12de_init_da8c8 wsJxc12de_init_da8c8 ({ frames := 2, cells := 0, slots := 0, locals := 50 } : Room) D (gTY cI cJ cO) df [(lh, .inr (0, [.int f0, va_rf f1, .int f2]))] sz [.ref lh] (fun (wZ : va_W) => wZ = [(lh, .inr (0, [.int 0, va_rf f1, .int f2]))]) := by
  refine g_of (cc := cJxc12de_init_da8c8) (nL := 1) (ret := none) (D := D) (TY := (gTY cI cJ cO)) (df := df) (Qc := fun A => va_Qv (fun (wZ : va_W) => wZ = [(lh, .inr (0, [.int 0, va_rf f1, .int f2]))]) (gB D (gTY cI cJ cO) A) A) (by decide +kernel) rfl (Nat.le_of_ble_eq_true rfl) ?_
  intro p e s m below meth c ls A hsz C0 hin hl
  obtain ⟨CF, hr, hlk, hA, hS, hP, hK, hD, hV, hH⟩ := C0
  have CF : CallFix p m c cJxc12de_init_da8c8 1 s _ wsJxc12de_init_da8c8 RJxc12de := CF
  obtain ⟨hx, hb, hml, hown, hts⟩ := id CF
  subst hsz
  have hmethodLink_RJxc12de_1 : (Cond.methodLink RJxc12de 1 yJxa1e45_init_da8c8).before _ s = true := hts _ (List.mem_of_getElem? (i := 2) rfl)
  have hinitialized_RJxa1e45 : (Cond.initialized RJxa1e45).before _ s = true := hts _ (List.mem_of_getElem? (i := 4) rfl)
  have hinstanceMethod_yJxa1e45_init_da8c8 : (Cond.instanceMethod yJxa1e45_init_da8c8).before _ s = true := hts _ (List.mem_of_getElem? (i := 3) rfl)
  have hfieldLink_RJxc12de_7 : (Cond.fieldLink RJxc12de 7 "java/util/AbstractList" "modCount" "I").before _ s = true := hts _ (List.mem_of_getElem? (i := 1) rfl)
  have inJx4a65c : ∀ w ∈ u_ws RJx4a65c TJx4a65c 3, w ∈ wsJxc12de_init_da8c8 := fun w h => (List.mem_cons_of_mem _ (List.mem_append_right _ h))
  have hP : va_P D ccl [(lh, .inr (0, [.int f0, va_rf f1, .int f2]))] s.heap := hP
  have hl : lv_has ls 1 [(0, .ref lh)] := hl
  refine lv_aload_n hx hb dJxc12de_init_da8c8_0 rfl (lv_at hl 0 rfl) ?_
  have hPc : va_P D ccl [] s.heap := fun k q h => by simp at h
  have hDc : va_D A [] := ⟨fun i j p q h => by simp at h, fun k q h => by simp at h⟩
  have hFc := va_free (wc := []) hD hS hA [] rfl
  refine g_Iv (As := []) (rest := []) CF (c_Jxa1e45_init_da8c8 l D cI cJ cO df s.heap.size lh ) (cwI 0 hts gJxc12de_init_da8c8_Jxa1e45_init_da8c8 rfl rfl rfl hinitialized_RJxa1e45 hmethodLink_RJxc12de_1 hinstanceMethod_yJxa1e45_init_da8c8 rfl (by decide +kernel) ⟨Nat.le_of_ble_eq_true rfl, Nat.le_of_ble_eq_true rfl⟩)  hPc hK hDc hV hH hS hFc rfl hl.1 rfl (Nat.le_of_ble_eq_true rfl) dJxc12de_init_da8c8_1 ⟨Nat.le_of_ble_eq_true rfl, Nat.le_of_ble_eq_true rfl⟩ (fun w1 H1 locs1 hq hP1 hD1 hk hS hz => ?_)
  obtain rfl := hq
  have hP := g_keep0 hP hk
  clear hPc hDc hFc hP1 hD1 hk hz
  generalize H1 = H at hP hS ⊢
  have hP : va_P D ccl [(lh, .inr (0, [.int f0, va_rf f1, .int f2]))] H := hP
  have hD : va_D A [(lh, .inr (0, [.int f0, va_rf f1, .int f2]))] := hD
  refine lv_aload_n hx hb dJxc12de_init_da8c8_4 rfl (lv_at hl 0 rfl) ?_
  refine lv_iconst (v := 0) hx hb dJxc12de_init_da8c8_5 (by decide) ?_
  refine va_put (D := D) (ci := 0) (v := .int 0) (ty := .int) (C := RJx4a65c) (T := TJx4a65c) (N := 3) hx hb hts inJx4a65c tyJx4a65c tyJx4a65c_ok nmJx4a65c hown hK hP hD hS 0 rfl rfl 0 (by decide) hfieldLink_RJxc12de_7 (fun _ h9 => h9) rfl (by decide +kernel) rfl rfl (Nat.le_of_ble_eq_true rfl) dJxc12de_init_da8c8_6 (fun H locs hP hD hS => ?_)
  have hP : va_P D ccl [(lh, .inr (0, [.int 0, va_rf f1, .int f2]))] H := hP
  have hD : va_D A [(lh, .inr (0, [.int 0, va_rf f1, .int f2]))] := hD
  refine g_vret hx hb hr hlk hP hK hD hS (Nat.le_of_ble_eq_true rfl) (Nat.le_of_ble_eq_true rfl) dJxc12de_init_da8c8_9 ?_
  exact rfl

set_option maxHeartbeats 4000000 in
set_option maxRecDepth 100000 in
theorem c_Jx4a65c_init_da8c8 (l : Launch) (D : va_G) (cI cJ cO : ClassId) (df sz : Nat) (lh : Nat) (f0 : Int32) (f1 : Option Nat) (f2 : Int32)  : MetV l yJx4a65c_init_da8c8 wsJx4a65c_init_da8c8 ({ frames := 3, cells := 0, slots := 0, locals := 70 } : Room) D (gTY cI cJ cO) df [(lh, .inr (0, [.int f0, va_rf f1, .int f2]))] sz [.ref lh] (fun (wZ : va_W) => wZ = [(lh, .inr (0, [.int 0, .ref df, .int f2]))]) := by
  refine g_of (cc := cJx4a65c_init_da8c8) (nL := 1) (ret := none) (D := D) (TY := (gTY cI cJ cO)) (df := df) (Qc := fun A => va_Qv (fun (wZ : va_W) => wZ = [(lh, .inr (0, [.int 0, .ref df, .int f2]))]) (gB D (gTY cI cJ cO) A) A) (by decide +kernel) rfl (Nat.le_of_ble_eq_true rfl) ?_
  intro p e s m below meth c ls A hsz C0 hin hl
  obtain ⟨CF, hr, hlk, hA, hS, hP, hK, hD, hV, hH⟩ := C0
  have CF : CallFix p m c cJx4a65c_init_da8c8 1 s _ wsJx4a65c_init_da8c8 RJx4a65c := CF
  obtain ⟨hx, hb, hml, hown, hts⟩ := id CF
  subst hsz
  have hmethodLink_RJx4a65c_1 : (Cond.methodLink RJx4a65c 1 yJxc12de_init_da8c8).before _ s = true := hts _ (List.mem_of_getElem? (i := 3) rfl)
  have hinitialized_RJxc12de : (Cond.initialized RJxc12de).before _ s = true := hts _ (List.mem_of_getElem? (i := 5) rfl)
  have hinstanceMethod_yJxc12de_init_da8c8 : (Cond.instanceMethod yJxc12de_init_da8c8).before _ s = true := hts _ (List.mem_of_getElem? (i := 4) rfl)
  have hfieldLink_RJx4a65c_39 : (Cond.fieldLink RJx4a65c 39 "java/util/ArrayList" "DEFAULTCAPACITY_EMPTY_ELEMENTDATA" "[Ljava/lang/Object;").before _ s = true := hts _ (List.mem_of_getElem? (i := 1) rfl)
  have hfieldLink_RJx4a65c_9 : (Cond.fieldLink RJx4a65c 9 "java/util/ArrayList" "elementData" "[Ljava/lang/Object;").before _ s = true := hts _ (List.mem_of_getElem? (i := 2) rfl)
  have inJx4a65c : ∀ w ∈ u_ws RJx4a65c TJx4a65c 3, w ∈ wsJx4a65c_init_da8c8 := fun w h => (List.mem_cons_of_mem _ (List.mem_append_right _ h))
  have hP : va_P D ccl [(lh, .inr (0, [.int f0, va_rf f1, .int f2]))] s.heap := hP
  have hl : lv_has ls 1 [(0, .ref lh)] := hl
  refine lv_aload_n hx hb dJx4a65c_init_da8c8_0 rfl (lv_at hl 0 rfl) ?_
  have hPc := hP.sub (ws' := [(lh, .inr (0, [.int f0, va_rf f1, .int f2]))]) [0] rfl
  have hDc := hD.sub (ws' := [(lh, .inr (0, [.int f0, va_rf f1, .int f2]))]) [0] (by decide) rfl
  have hFc := va_free (wc := [(lh, .inr (0, [.int f0, va_rf f1, .int f2]))]) hD hS hA [0] rfl
  refine g_Iv (As := []) (rest := []) CF (c_Jxc12de_init_da8c8 l D cI cJ cO df s.heap.size lh f0 f1 f2 ) (cwI 0 hts gJx4a65c_init_da8c8_Jxc12de_init_da8c8 rfl rfl rfl hinitialized_RJxc12de hmethodLink_RJx4a65c_1 hinstanceMethod_yJxc12de_init_da8c8 rfl (by decide +kernel) ⟨Nat.le_of_ble_eq_true rfl, Nat.le_of_ble_eq_true rfl⟩)  hPc hK hDc hV hH hS hFc rfl hl.1 rfl (Nat.le_of_ble_eq_true rfl) dJx4a65c_init_da8c8_1 ⟨Nat.le_of_ble_eq_true rfl, Nat.le_of_ble_eq_true rfl⟩ (fun w1 H1 locs1 hq hP1 hD1 hk hS hz => ?_)
  obtain rfl := hq
  obtain ⟨hP, hD⟩ := g_join (ws' := [(lh, .inr (0, [.int 0, va_rf f1, .int f2]))]) hP hD hk hFc hP1 hD1 [0] [] [0] rfl rfl (by decide) (by decide) (by decide) rfl
  clear hPc hDc hFc hP1 hD1 hk hz
  generalize H1 = H at hP hS ⊢
  have hP : va_P D ccl [(lh, .inr (0, [.int 0, va_rf f1, .int f2]))] H := hP
  have hD : va_D A [(lh, .inr (0, [.int 0, va_rf f1, .int f2]))] := hD
  refine lv_aload_n hx hb dJx4a65c_init_da8c8_4 rfl (lv_at hl 0 rfl) ?_
  refine va_gets hx hb hH.2.2.1 hS hown hfieldLink_RJx4a65c_39 (fun _ h9 => h9) dJx4a65c_init_da8c8_5 ?_
  refine va_put (D := D) (ci := 0) (v := .ref df) (ty := .array (.object "java/lang/Object")) (C := RJx4a65c) (T := TJx4a65c) (N := 3) hx hb hts inJx4a65c tyJx4a65c tyJx4a65c_ok nmJx4a65c hown hK hP hD hS 0 rfl rfl 1 (by decide) hfieldLink_RJx4a65c_9 (fun _ h9 => h9) rfl (by decide +kernel) rfl rfl (Nat.le_of_ble_eq_true rfl) dJx4a65c_init_da8c8_8 (fun H locs hP hD hS => ?_)
  have hP : va_P D ccl [(lh, .inr (0, [.int 0, .ref df, .int f2]))] H := hP
  have hD : va_D A [(lh, .inr (0, [.int 0, .ref df, .int f2]))] := hD
  refine g_vret hx hb hr hlk hP hK hD hS (Nat.le_of_ble_eq_true rfl) (Nat.le_of_ble_eq_true rfl) dJx4a65c_init_da8c8_11 ?_
  exact rfl

set_option maxHeartbeats 4000000 in
set_option maxRecDepth 100000 in
theorem c_Jx4a65c_size_8abf5 (l : Launch) (D : va_G) (cI cJ cO : ClassId) (df sz : Nat) (lh : Nat) (md : Int32) (er : Nat) (n : Int32)  : MetI l yJx4a65c_size_8abf5 wsJx4a65c_size_8abf5 ({ frames := 0, cells := 0, slots := 0, locals := 0 } : Room) D (gTY cI cJ cO) df [(lh, .inr (0, [.int md, .ref er, .int n]))] sz [.ref lh] (fun (r : Int32) (wZ : va_W) => wZ = [(lh, .inr (0, [.int md, .ref er, .int n]))] ∧ r = n) := by
  refine g_of (cc := cJx4a65c_size_8abf5) (nL := 1) (ret := (some .int)) (D := D) (TY := (gTY cI cJ cO)) (df := df) (Qc := fun A => va_Qi (fun (r : Int32) (wZ : va_W) => wZ = [(lh, .inr (0, [.int md, .ref er, .int n]))] ∧ r = n) (gB D (gTY cI cJ cO) A) A) (by decide +kernel) rfl (Nat.le_of_ble_eq_true rfl) ?_
  intro p e s m below meth c ls A hsz C0 hin hl
  obtain ⟨CF, hr, hlk, hA, hS, hP, hK, hD, hV, hH⟩ := C0
  have CF : CallFix p m c cJx4a65c_size_8abf5 1 s _ wsJx4a65c_size_8abf5 RJx4a65c := CF
  obtain ⟨hx, hb, hml, hown, hts⟩ := id CF
  subst hsz
  have hfieldLink_RJx4a65c_48 : (Cond.fieldLink RJx4a65c 48 "java/util/ArrayList" "size" "I").before _ s = true := hts _ (List.mem_of_getElem? (i := 1) rfl)
  have inJx4a65c : ∀ w ∈ u_ws RJx4a65c TJx4a65c 3, w ∈ wsJx4a65c_size_8abf5 := fun w h => (List.mem_cons_of_mem _ (List.mem_append_right _ h))
  have hP : va_P D ccl [(lh, .inr (0, [.int md, .ref er, .int n]))] s.heap := hP
  have hl : lv_has ls 1 [(0, .ref lh)] := hl
  refine lv_aload_n hx hb dJx4a65c_size_8abf5_0 rfl (lv_at hl 0 rfl) ?_
  refine va_get (D := D) (ci := 0) (v := .int n) (C := RJx4a65c) (T := TJx4a65c) (N := 3) hx hb hts inJx4a65c hown hK hP 0 rfl rfl 2 (by decide) hfieldLink_RJx4a65c_48 (fun _ h9 => h9) rfl dJx4a65c_size_8abf5_1 ?_
  refine g_iret (v := n) hx hb hr hlk hP hK hD hS (Nat.le_of_ble_eq_true rfl) (Nat.le_of_ble_eq_true rfl) dJx4a65c_size_8abf5_4 ?_
  exact ⟨rfl, rfl⟩

set_option maxHeartbeats 4000000 in
set_option maxRecDepth 100000 in
theorem c_J3_checkIndex_8e157 (l : Launch) (D : va_G) (cI cJ cO : ClassId) (df sz : Nat) (i : Nat) (n : Nat) (hi : i < n) (hn : n < 2147483648) : MetI l yJ3_checkIndex_8e157 wsJ3_checkIndex_8e157 ({ frames := 0, cells := 0, slots := 0, locals := 0 } : Room) D (gTY cI cJ cO) df [] sz [.int (nI i), .int (nI n), .null] (fun (r : Int32) (wZ : va_W) => wZ = [] ∧ r = nI i) := by
  refine g_of (cc := cJ3_checkIndex_8e157) (nL := 3) (ret := (some .int)) (D := D) (TY := (gTY cI cJ cO)) (df := df) (Qc := fun A => va_Qi (fun (r : Int32) (wZ : va_W) => wZ = [] ∧ r = nI i) (gB D (gTY cI cJ cO) A) A) (by decide +kernel) rfl (Nat.le_of_ble_eq_true rfl) ?_
  intro p e s m below meth c ls A hsz C0 hin hl
  obtain ⟨CF, hr, hlk, hA, hS, hP, hK, hD, hV, hH⟩ := C0
  have CF : CallFix p m c cJ3_checkIndex_8e157 3 s _ wsJ3_checkIndex_8e157 RJ3 := CF
  obtain ⟨hx, hb, hml, hown, hts⟩ := id CF
  subst hsz
  have hP : va_P D ccl [] s.heap := hP
  have hl : lv_has ls 3 [(0, .int (nI i)), (1, .int (nI n)), (2, .null)] := hl
  refine lv_iload_n hx hb dJ3_checkIndex_8e157_0 rfl (lv_at hl 0 rfl) ?_
  refine lv_if_lt (tgt := 9) hx hb dJ3_checkIndex_8e157_1 (by decide) (fun c_1 => ?_) (fun c_1 => ?_)
  · have c_1 : i < 0 := g_lt (a := i) (b := 0) c_1 (by omega) (by omega)
    omega
  · have c_1 : 0 ≤ i := g_nlt (a := i) (b := 0) c_1 (by omega) (by omega)
    refine lv_iload_n hx hb dJ3_checkIndex_8e157_4 rfl (lv_at hl 0 rfl) ?_
    refine lv_iload_n hx hb dJ3_checkIndex_8e157_5 rfl (lv_at hl 1 rfl) ?_
    refine lv_icmp_lt (tgt := 16) hx hb dJ3_checkIndex_8e157_6 (by decide) (fun c_6 => ?_) (fun c_6 => ?_)
    · have c_6 : i < n := g_lt (a := i) (b := n) c_6 (by omega) (by omega)
      refine lv_iload_n hx hb dJ3_checkIndex_8e157_16 rfl (lv_at hl 0 rfl) ?_
      refine g_iret (v := nI i) hx hb hr hlk hP hK hD hS (Nat.le_of_ble_eq_true rfl) (Nat.le_of_ble_eq_true rfl) dJ3_checkIndex_8e157_17 ?_
      exact ⟨rfl, (by first | rfl | (simp [c_1, c_6]; done))⟩
    · have c_6 : n ≤ i := g_nlt (a := i) (b := n) c_6 (by omega) (by omega)
      omega

set_option maxHeartbeats 4000000 in
set_option maxRecDepth 100000 in
theorem c_J15_checkIndex_7cf53 (l : Launch) (D : va_G) (cI cJ cO : ClassId) (df sz : Nat) (i : Nat) (n : Nat) (hi : i < n) (hn : n < 2147483648) : MetI l yJ15_checkIndex_7cf53 wsJ15_checkIndex_7cf53 ({ frames := 1, cells := 0, slots := 0, locals := 22 } : Room) D (gTY cI cJ cO) df [] sz [.int (nI i), .int (nI n)] (fun (r : Int32) (wZ : va_W) => wZ = [] ∧ r = nI i) := by
  refine g_of (cc := cJ15_checkIndex_7cf53) (nL := 2) (ret := (some .int)) (D := D) (TY := (gTY cI cJ cO)) (df := df) (Qc := fun A => va_Qi (fun (r : Int32) (wZ : va_W) => wZ = [] ∧ r = nI i) (gB D (gTY cI cJ cO) A) A) (by decide +kernel) rfl (Nat.le_of_ble_eq_true rfl) ?_
  intro p e s m below meth c ls A hsz C0 hin hl
  obtain ⟨CF, hr, hlk, hA, hS, hP, hK, hD, hV, hH⟩ := C0
  have CF : CallFix p m c cJ15_checkIndex_7cf53 2 s _ wsJ15_checkIndex_7cf53 RJ15 := CF
  obtain ⟨hx, hb, hml, hown, hts⟩ := id CF
  subst hsz
  have hmethodLink_RJ15_105 : (Cond.methodLink RJ15 105 yJ3_checkIndex_8e157).before _ s = true := hts _ (List.mem_of_getElem? (i := 1) rfl)
  have hP : va_P D ccl [] s.heap := hP
  have hl : lv_has ls 2 [(0, .int (nI i)), (1, .int (nI n))] := hl
  refine lv_iload_n hx hb dJ15_checkIndex_7cf53_0 rfl (lv_at hl 0 rfl) ?_
  refine lv_iload_n hx hb dJ15_checkIndex_7cf53_1 rfl (lv_at hl 1 rfl) ?_
  refine lv_null hx hb dJ15_checkIndex_7cf53_2 ?_
  have hPc : va_P D ccl [] s.heap := fun k q h => by simp at h
  have hDc : va_D A [] := ⟨fun i j p q h => by simp at h, fun k q h => by simp at h⟩
  have hFc := va_free (wc := []) hD hS hA [] rfl
  refine g_Si (As := [.int (nI i), .int (nI n), .null]) (rest := []) CF (c_J3_checkIndex_8e157 l D cI cJ cO df s.heap.size i n (by omega) (by omega)) (va_cwS 3 hts gJ15_checkIndex_7cf53_J3_checkIndex_8e157 rfl rfl rfl (by decide +kernel) ⟨Nat.le_of_ble_eq_true rfl, Nat.le_of_ble_eq_true rfl⟩)  hPc hK hDc hV hH hS hFc rfl hl.1 rfl (Nat.le_of_ble_eq_true rfl) dJ15_checkIndex_7cf53_3 ⟨Nat.le_of_ble_eq_true rfl, Nat.le_of_ble_eq_true rfl⟩ (fun r_3 w1 H1 locs1 hq hP1 hD1 hk hS hz => ?_)
  obtain ⟨rfl, hr_3⟩ := hq
  have hP := g_keep0 hP hk
  clear hPc hDc hFc hP1 hD1 hk hz
  generalize H1 = H at hP hS ⊢
  have hP : va_P D ccl [] H := hP
  have hD : va_D A [] := hD
  subst hr_3
  refine g_iret (v := nI i) hx hb hr hlk hP hK hD hS (Nat.le_of_ble_eq_true rfl) (Nat.le_of_ble_eq_true rfl) dJ15_checkIndex_7cf53_6 ?_
  exact ⟨rfl, rfl⟩

set_option maxHeartbeats 4000000 in
set_option maxRecDepth 100000 in
theorem c_Jx4a65c_elementData_915e3 (l : Launch) (D : va_G) (cI cJ cO : ClassId) (df sz : Nat) (lh : Nat) (md : Int32) (er : Nat) (n : Nat) (f : Nat → Option Nat) (i : Nat) (q : Nat) (hi : i < n) (hn : n ≤ 10) (hq : f i = some q) : MetR l yJx4a65c_elementData_915e3 wsJx4a65c_elementData_915e3 ({ frames := 0, cells := 0, slots := 0, locals := 0 } : Room) D (gTY cI cJ cO) df [(lh, .inr (0, [.int md, .ref er, .int (nI n)])), (er, .inl (cO, 10, .inr (.inr (.inr (.inr f)))))] sz [.ref lh, .int (nI i)] (fun (wZ : va_W × Nat) => wZ.1 = [(lh, .inr (0, [.int md, .ref er, .int (nI n)])), (er, .inl (cO, 10, .inr (.inr (.inr (.inr f)))))] ∧ wZ.2 = q) := by
  refine g_of (cc := cJx4a65c_elementData_915e3) (nL := 2) (ret := (some (.object "java/lang/Object"))) (D := D) (TY := (gTY cI cJ cO)) (df := df) (Qc := fun A => va_Qr (fun (wZ : va_W × Nat) => wZ.1 = [(lh, .inr (0, [.int md, .ref er, .int (nI n)])), (er, .inl (cO, 10, .inr (.inr (.inr (.inr f)))))] ∧ wZ.2 = q) (gBr D (gTY cI cJ cO) A) A) (by decide +kernel) rfl (Nat.le_of_ble_eq_true rfl) ?_
  intro p e s m below meth c ls A hsz C0 hin hl
  obtain ⟨CF, hr, hlk, hA, hS, hP, hK, hD, hV, hH⟩ := C0
  have CF : CallFix p m c cJx4a65c_elementData_915e3 2 s _ wsJx4a65c_elementData_915e3 RJx4a65c := CF
  obtain ⟨hx, hb, hml, hown, hts⟩ := id CF
  subst hsz
  have hfieldLink_RJx4a65c_9 : (Cond.fieldLink RJx4a65c 9 "java/util/ArrayList" "elementData" "[Ljava/lang/Object;").before _ s = true := hts _ (List.mem_of_getElem? (i := 1) rfl)
  have inJx4a65c : ∀ w ∈ u_ws RJx4a65c TJx4a65c 3, w ∈ wsJx4a65c_elementData_915e3 := fun w h => (List.mem_cons_of_mem _ (List.mem_append_right _ h))
  have hP : va_P D ccl [(lh, .inr (0, [.int md, .ref er, .int (nI n)])), (er, .inl (cO, 10, .inr (.inr (.inr (.inr f)))))] s.heap := hP
  have hl : lv_has ls 2 [(0, .ref lh), (1, .int (nI i))] := hl
  refine lv_aload_n hx hb dJx4a65c_elementData_915e3_0 rfl (lv_at hl 0 rfl) ?_
  refine va_get (D := D) (ci := 0) (v := .ref er) (C := RJx4a65c) (T := TJx4a65c) (N := 3) hx hb hts inJx4a65c hown hK hP 0 rfl rfl 1 (by decide) hfieldLink_RJx4a65c_9 (fun _ h9 => h9) rfl dJx4a65c_elementData_915e3_1 ?_
  refine lv_iload_n hx hb dJx4a65c_elementData_915e3_4 rfl (lv_at hl 1 rfl) ?_
  refine va_aldq hx hb hK hP 1 2 rfl rfl (vp_in_nI (by omega) (by omega)) dJx4a65c_elementData_915e3_5 ?_
  refine W.eq (g2 := F0 m 6 ls (.ref q :: [])) (by rw [show (nI i).toNatClampNeg = i from nI_clamp (n := i) (by omega), hq]; rfl) ?_
  refine g_rret (a := q) hx hb hr hlk (Or.inl ⟨_, rfl⟩) hP hK hD hS (Nat.le_of_ble_eq_true rfl) (Nat.le_of_ble_eq_true rfl) dJx4a65c_elementData_915e3_6 ?_
  exact ⟨rfl, rfl⟩

set_option maxHeartbeats 4000000 in
set_option maxRecDepth 100000 in
theorem c_Jx4a65c_get_915e3 (l : Launch) (D : va_G) (cI cJ cO : ClassId) (df sz : Nat) (lh : Nat) (md : Int32) (er : Nat) (n : Nat) (f : Nat → Option Nat) (i : Nat) (q : Nat) (hi : i < n) (hn : n ≤ 10) (hq : f i = some q) : MetR l yJx4a65c_get_915e3 wsJx4a65c_get_915e3 ({ frames := 2, cells := 0, slots := 0, locals := 43 } : Room) D (gTY cI cJ cO) df [(lh, .inr (0, [.int md, .ref er, .int (nI n)])), (er, .inl (cO, 10, .inr (.inr (.inr (.inr f)))))] sz [.ref lh, .int (nI i)] (fun (wZ : va_W × Nat) => wZ.1 = [(lh, .inr (0, [.int md, .ref er, .int (nI n)])), (er, .inl (cO, 10, .inr (.inr (.inr (.inr f)))))] ∧ wZ.2 = q) := by
  refine g_of (cc := cJx4a65c_get_915e3) (nL := 2) (ret := (some (.object "java/lang/Object"))) (D := D) (TY := (gTY cI cJ cO)) (df := df) (Qc := fun A => va_Qr (fun (wZ : va_W × Nat) => wZ.1 = [(lh, .inr (0, [.int md, .ref er, .int (nI n)])), (er, .inl (cO, 10, .inr (.inr (.inr (.inr f)))))] ∧ wZ.2 = q) (gBr D (gTY cI cJ cO) A) A) (by decide +kernel) rfl (Nat.le_of_ble_eq_true rfl) ?_
  intro p e s m below meth c ls A hsz C0 hin hl
  obtain ⟨CF, hr, hlk, hA, hS, hP, hK, hD, hV, hH⟩ := C0
  have CF : CallFix p m c cJx4a65c_get_915e3 2 s _ wsJx4a65c_get_915e3 RJx4a65c := CF
  obtain ⟨hx, hb, hml, hown, hts⟩ := id CF
  subst hsz
  have hfieldLink_RJx4a65c_48 : (Cond.fieldLink RJx4a65c 48 "java/util/ArrayList" "size" "I").before _ s = true := hts _ (List.mem_of_getElem? (i := 1) rfl)
  have hmethodLink_RJx4a65c_118 : (Cond.methodLink RJx4a65c 118 yJ15_checkIndex_7cf53).before _ s = true := hts _ (List.mem_of_getElem? (i := 2) rfl)
  have hmethodLink_RJx4a65c_123 : (Cond.methodLink RJx4a65c 123 yJx4a65c_elementData_915e3).before _ s = true := hts _ (List.mem_of_getElem? (i := 10) rfl)
  have inJx4a65c : ∀ w ∈ u_ws RJx4a65c TJx4a65c 3, w ∈ wsJx4a65c_get_915e3 := fun w h => (List.mem_cons_of_mem _ (List.mem_append_right _ h))
  have hP : va_P D ccl [(lh, .inr (0, [.int md, .ref er, .int (nI n)])), (er, .inl (cO, 10, .inr (.inr (.inr (.inr f)))))] s.heap := hP
  have hl : lv_has ls 2 [(0, .ref lh), (1, .int (nI i))] := hl
  refine lv_iload_n hx hb dJx4a65c_get_915e3_0 rfl (lv_at hl 1 rfl) ?_
  refine lv_aload_n hx hb dJx4a65c_get_915e3_1 rfl (lv_at hl 0 rfl) ?_
  refine va_get (D := D) (ci := 0) (v := .int (nI n)) (C := RJx4a65c) (T := TJx4a65c) (N := 3) hx hb hts inJx4a65c hown hK hP 0 rfl rfl 2 (by decide) hfieldLink_RJx4a65c_48 (fun _ h9 => h9) rfl dJx4a65c_get_915e3_2 ?_
  have hPc : va_P D ccl [] s.heap := fun k q h => by simp at h
  have hDc : va_D A [] := ⟨fun i j p q h => by simp at h, fun k q h => by simp at h⟩
  have hFc := va_free (wc := []) hD hS hA [] rfl
  refine g_Si (As := [.int (nI i), .int (nI n)]) (rest := []) CF (c_J15_checkIndex_7cf53 l D cI cJ cO df s.heap.size i n hi (by omega)) (va_cwS 2 hts gJx4a65c_get_915e3_J15_checkIndex_7cf53 rfl rfl rfl (by decide +kernel) ⟨Nat.le_of_ble_eq_true rfl, Nat.le_of_ble_eq_true rfl⟩)  hPc hK hDc hV hH hS hFc rfl hl.1 rfl (Nat.le_of_ble_eq_true rfl) dJx4a65c_get_915e3_5 ⟨Nat.le_of_ble_eq_true rfl, Nat.le_of_ble_eq_true rfl⟩ (fun r_5 w1 H1 locs1 hq hP1 hD1 hk hS hz => ?_)
  obtain ⟨rfl, hr_5⟩ := hq
  have hP := g_keep0 hP hk
  clear hPc hDc hFc hP1 hD1 hk hz
  generalize H1 = H at hP hS ⊢
  have hP : va_P D ccl [(lh, .inr (0, [.int md, .ref er, .int (nI n)])), (er, .inl (cO, 10, .inr (.inr (.inr (.inr f)))))] H := hP
  have hD : va_D A [(lh, .inr (0, [.int md, .ref er, .int (nI n)])), (er, .inl (cO, 10, .inr (.inr (.inr (.inr f)))))] := hD
  subst hr_5
  refine lv_pop hx hb dJx4a65c_get_915e3_8 rfl ?_
  refine lv_aload_n hx hb dJx4a65c_get_915e3_9 rfl (lv_at hl 0 rfl) ?_
  refine lv_iload_n hx hb dJx4a65c_get_915e3_10 rfl (lv_at hl 1 rfl) ?_
  have hPc := hP.sub (ws' := [(lh, .inr (0, [.int md, .ref er, .int (nI n)])), (er, .inl (cO, 10, .inr (.inr (.inr (.inr f)))))]) [0, 1] rfl
  have hDc := hD.sub (ws' := [(lh, .inr (0, [.int md, .ref er, .int (nI n)])), (er, .inl (cO, 10, .inr (.inr (.inr (.inr f)))))]) [0, 1] (by decide) rfl
  have hFc := va_free (wc := [(lh, .inr (0, [.int md, .ref er, .int (nI n)])), (er, .inl (cO, 10, .inr (.inr (.inr (.inr f)))))]) hD hS hA [0, 1] rfl
  refine g_Vr (As := [.int (nI i)]) (rest := []) CF (c_Jx4a65c_elementData_915e3 l D cI cJ cO df H.size lh md er n f i q hi hn hq) (cwV 1 hts gJx4a65c_get_915e3_Jx4a65c_elementData_915e3 rfl rfl rfl (by decide +kernel) ⟨Nat.le_of_ble_eq_true rfl, Nat.le_of_ble_eq_true rfl⟩) (va_recv hK hP (ci := 0) (q0 := 0) rfl rfl) hPc hK hDc hV hH hS hFc rfl hl.1 rfl (Nat.le_of_ble_eq_true rfl) dJx4a65c_get_915e3_11 ⟨Nat.le_of_ble_eq_true rfl, Nat.le_of_ble_eq_true rfl⟩ (fun w1 H1 locs1 hq hP1 hD1 hk hS hz => ?_)
  obtain ⟨w1, a1⟩ := w1
  obtain ⟨ew1, hr_11⟩ := hq
  dsimp only at ew1 hP1 hD1 hr_11
  subst ew1
  have hP := g_keepR hP hD [0, 1] rfl hk hP1
  clear hPc hDc hFc hP1 hD1 hk hz
  generalize H1 = H at hP hS ⊢
  have hP : va_P D ccl [(lh, .inr (0, [.int md, .ref er, .int (nI n)])), (er, .inl (cO, 10, .inr (.inr (.inr (.inr f)))))] H := hP
  have hD : va_D A [(lh, .inr (0, [.int md, .ref er, .int (nI n)])), (er, .inl (cO, 10, .inr (.inr (.inr (.inr f)))))] := hD
  have hr_11 := hr_11.symm
  subst hr_11
  refine g_rret (a := q) hx hb hr hlk (Or.inl ⟨_, rfl⟩) hP hK hD hS (Nat.le_of_ble_eq_true rfl) (Nat.le_of_ble_eq_true rfl) dJx4a65c_get_915e3_14 ?_
  exact ⟨rfl, rfl⟩

set_option maxHeartbeats 4000000 in
set_option maxRecDepth 100000 in
theorem c_Jx4a65c_grow_92f84 (l : Launch) (D : va_G) (cI cJ cO : ClassId) (df sz : Nat) (lh : Nat) (md : Int32) (c0 : Int32) (k : Nat) (hk9 : k ≤ 10) : MetR l yJx4a65c_grow_92f84 wsJx4a65c_grow_92f84 ({ frames := 1, cells := 1, slots := 10, locals := 30 } : Room) D (gTY cI cJ cO) df [(lh, .inr (0, [.int md, .ref df, .int c0]))] sz [.ref lh, .int (nI k)] (fun (wZ : va_W × Nat) => ∃ (q1 : Nat), wZ.1 = [(lh, .inr (0, [.int md, .ref q1, .int c0])), (q1, .inl (cO, 10, .inr (.inr (.inr (.inr (fun _ => none))))))] ∧ wZ.2 = q1) := by
  refine g_of (cc := cJx4a65c_grow_92f84) (nL := 4) (ret := (some (.array (.object "java/lang/Object")))) (D := D) (TY := (gTY cI cJ cO)) (df := df) (Qc := fun A => va_Qr (fun (wZ : va_W × Nat) => ∃ (q1 : Nat), wZ.1 = [(lh, .inr (0, [.int md, .ref q1, .int c0])), (q1, .inl (cO, 10, .inr (.inr (.inr (.inr (fun _ => none))))))] ∧ wZ.2 = q1) (gBr D (gTY cI cJ cO) A) A) (by decide +kernel) rfl (Nat.le_of_ble_eq_true rfl) ?_
  intro p e s m below meth c ls A hsz C0 hin hl
  obtain ⟨CF, hr, hlk, hA, hS, hP, hK, hD, hV, hH⟩ := C0
  have CF : CallFix p m c cJx4a65c_grow_92f84 4 s _ wsJx4a65c_grow_92f84 RJx4a65c := CF
  obtain ⟨hx, hb, hml, hown, hts⟩ := id CF
  subst hsz
  have hfieldLink_RJx4a65c_9 : (Cond.fieldLink RJx4a65c 9 "java/util/ArrayList" "elementData" "[Ljava/lang/Object;").before _ s = true := hts _ (List.mem_of_getElem? (i := 1) rfl)
  have hfieldLink_RJx4a65c_39 : (Cond.fieldLink RJx4a65c 39 "java/util/ArrayList" "DEFAULTCAPACITY_EMPTY_ELEMENTDATA" "[Ljava/lang/Object;").before _ s = true := hts _ (List.mem_of_getElem? (i := 2) rfl)
  have hmethodLink_RJx4a65c_79 : (Cond.methodLink RJx4a65c 79 Lib.Math.max.name).before _ s = true := hts _ (List.mem_of_getElem? (i := 3) rfl)
  have hinitialized_java_lang_Math : (Cond.initialized "java/lang/Math").before _ s = true := hts _ (List.mem_of_getElem? (i := 5) rfl)
  have hstatic_Lib_Math_max_name : (Cond.static Lib.Math.max.name).before _ s = true := hts _ (List.mem_of_getElem? (i := 4) rfl)
  have hcode_Lib_Math_max_name : (Cond.code Lib.Math.max.name Lib.Math.max.code 2 (some .int)).before _ s = true := hts _ (List.mem_of_getElem? (i := 6) rfl)
  have hclassLink_RJx4a65c_7 : (Cond.classLink RJx4a65c 7 "java/lang/Object").before _ s = true := hts _ (List.mem_of_getElem? (i := 7) rfl)
  have inJx4a65c : ∀ w ∈ u_ws RJx4a65c TJx4a65c 3, w ∈ wsJx4a65c_grow_92f84 := fun w h => (List.mem_cons_of_mem _ (List.mem_append_right _ h))
  have hP : va_P D ccl [(lh, .inr (0, [.int md, .ref df, .int c0]))] s.heap := hP
  have hl : lv_has ls 4 [(0, .ref lh), (1, .int (nI k))] := hl
  refine lv_aload_n hx hb dJx4a65c_grow_92f84_0 rfl (lv_at hl 0 rfl) ?_
  refine va_get (D := D) (ci := 0) (v := .ref df) (C := RJx4a65c) (T := TJx4a65c) (N := 3) hx hb hts inJx4a65c hown hK hP 0 rfl rfl 1 (by decide) hfieldLink_RJx4a65c_9 (fun _ h9 => h9) rfl dJx4a65c_grow_92f84_1 ?_
  refine va_tlen (v := 0) hx hb hH.2.2.2 hS rfl dJx4a65c_grow_92f84_4 ?_
  refine lv_istore_n (lv' := [(2, .int 0), (0, .ref lh), (1, .int (nI k))]) hx hb dJx4a65c_grow_92f84_5 rfl hl (by decide) rfl (fun ls hl => ?_)
  refine lv_iload_n hx hb dJx4a65c_grow_92f84_6 rfl (lv_at hl 0 rfl) ?_
  refine lv_if_gt (tgt := 20) hx hb dJx4a65c_grow_92f84_7 (by decide) (fun c_7 => ?_) (fun c_7 => ?_)
  · exact absurd c_7 (by decide)
  · refine lv_aload_n hx hb dJx4a65c_grow_92f84_10 rfl (lv_at hl 1 rfl) ?_
    refine va_get (D := D) (ci := 0) (v := .ref df) (C := RJx4a65c) (T := TJx4a65c) (N := 3) hx hb hts inJx4a65c hown hK hP 0 rfl rfl 1 (by decide) hfieldLink_RJx4a65c_9 (fun _ h9 => h9) rfl dJx4a65c_grow_92f84_11 ?_
    refine va_gets hx hb hH.2.2.1 hS hown hfieldLink_RJx4a65c_39 (fun _ h9 => h9) dJx4a65c_grow_92f84_14 ?_
    refine lv_acmp_eq (rx := some df) (ry := some df) (tgt := 45) hx hb dJx4a65c_grow_92f84_17 (by decide) (fun c_17 => ?_) (fun c_17 => ?_)
    · refine lv_aload_n hx hb dJx4a65c_grow_92f84_45 rfl (lv_at hl 1 rfl) ?_
      refine lv_bipush (v := 10) hx hb dJx4a65c_grow_92f84_46 (by decide) ?_
      refine lv_iload_n hx hb dJx4a65c_grow_92f84_48 rfl (lv_at hl 2 rfl) ?_
      refine va_mmax hx hb (by rw [hml]; exact hl.1.symm) hown hmethodLink_RJx4a65c_79 hstatic_Lib_Math_max_name hinitialized_java_lang_Math hcode_Lib_Math_max_name (Nat.le_of_ble_eq_true rfl) (Nat.le_of_ble_eq_true rfl) (Nat.le_of_ble_eq_true rfl) (Nat.le_of_ble_eq_true rfl) dJx4a65c_grow_92f84_49 ?_
      refine lv_topi (fun f ef => ?_)
      obtain rfl : f = 10 := ef.trans (if_neg (nI_nlt (a := 10) (b := k) hk9 (by decide)))
      refine g_newq (N := 10) hx hb hown hclassLink_RJx4a65c_7 hV hK hP hD hS hA (by decide) (by decide) (Nat.le_of_ble_eq_true rfl) (Nat.le_of_ble_eq_true rfl) (Nat.le_of_ble_eq_true rfl) dJx4a65c_grow_92f84_52 (fun q1 H hP hD hS => ?_)
      have hP : va_P D ccl [(lh, .inr (0, [.int md, .ref df, .int c0])), (q1, .inl (cO, 10, .inr (.inr (.inr (.inr (fun _ => none))))))] H := hP
      have hD : va_D A [(lh, .inr (0, [.int md, .ref df, .int c0])), (q1, .inl (cO, 10, .inr (.inr (.inr (.inr (fun _ => none))))))] := hD
      refine lv_dup_x1 hx hb dJx4a65c_grow_92f84_55 rfl rfl ?_
      refine va_put (D := D) (ci := 0) (v := .ref q1) (ty := .array (.object "java/lang/Object")) (C := RJx4a65c) (T := TJx4a65c) (N := 3) hx hb hts inJx4a65c tyJx4a65c tyJx4a65c_ok nmJx4a65c hown hK hP hD hS 0 rfl rfl 1 (by decide) hfieldLink_RJx4a65c_9 (fun _ h9 => h9) rfl (by decide +kernel) rfl rfl (Nat.le_of_ble_eq_true rfl) dJx4a65c_grow_92f84_56 (fun H locs hP hD hS => ?_)
      have hP : va_P D ccl [(lh, .inr (0, [.int md, .ref q1, .int c0])), (q1, .inl (cO, 10, .inr (.inr (.inr (.inr (fun _ => none))))))] H := hP
      have hD : va_D A [(lh, .inr (0, [.int md, .ref q1, .int c0])), (q1, .inl (cO, 10, .inr (.inr (.inr (.inr (fun _ => none))))))] := hD
      refine g_rret (a := q1) hx hb hr hlk (Or.inr ⟨_, rfl⟩) hP hK hD hS (Nat.le_of_ble_eq_true rfl) (Nat.le_of_ble_eq_true rfl) dJx4a65c_grow_92f84_59 ?_
      exact ⟨_, rfl, rfl⟩
    · exact absurd rfl c_17

set_option maxHeartbeats 4000000 in
set_option maxRecDepth 100000 in
theorem c_Jx4a65c_grow_d5877 (l : Launch) (D : va_G) (cI cJ cO : ClassId) (df sz : Nat) (lh : Nat) (md : Int32)  : MetR l yJx4a65c_grow_d5877 wsJx4a65c_grow_d5877 ({ frames := 2, cells := 1, slots := 10, locals := 53 } : Room) D (gTY cI cJ cO) df [(lh, .inr (0, [.int md, .ref df, .int (nI 0)]))] sz [.ref lh] (fun (wZ : va_W × Nat) => ∃ (q1 : Nat), wZ.1 = [(lh, .inr (0, [.int md, .ref q1, .int (nI 0)])), (q1, .inl (cO, 10, .inr (.inr (.inr (.inr (fun _ => none))))))] ∧ wZ.2 = q1) := by
  refine g_of (cc := cJx4a65c_grow_d5877) (nL := 1) (ret := (some (.array (.object "java/lang/Object")))) (D := D) (TY := (gTY cI cJ cO)) (df := df) (Qc := fun A => va_Qr (fun (wZ : va_W × Nat) => ∃ (q1 : Nat), wZ.1 = [(lh, .inr (0, [.int md, .ref q1, .int (nI 0)])), (q1, .inl (cO, 10, .inr (.inr (.inr (.inr (fun _ => none))))))] ∧ wZ.2 = q1) (gBr D (gTY cI cJ cO) A) A) (by decide +kernel) rfl (Nat.le_of_ble_eq_true rfl) ?_
  intro p e s m below meth c ls A hsz C0 hin hl
  obtain ⟨CF, hr, hlk, hA, hS, hP, hK, hD, hV, hH⟩ := C0
  have CF : CallFix p m c cJx4a65c_grow_d5877 1 s _ wsJx4a65c_grow_d5877 RJx4a65c := CF
  obtain ⟨hx, hb, hml, hown, hts⟩ := id CF
  subst hsz
  have hfieldLink_RJx4a65c_48 : (Cond.fieldLink RJx4a65c 48 "java/util/ArrayList" "size" "I").before _ s = true := hts _ (List.mem_of_getElem? (i := 1) rfl)
  have hmethodLink_RJx4a65c_69 : (Cond.methodLink RJx4a65c 69 yJx4a65c_grow_92f84).before _ s = true := hts _ (List.mem_of_getElem? (i := 2) rfl)
  have inJx4a65c : ∀ w ∈ u_ws RJx4a65c TJx4a65c 3, w ∈ wsJx4a65c_grow_d5877 := fun w h => (List.mem_cons_of_mem _ (List.mem_append_right _ h))
  have hP : va_P D ccl [(lh, .inr (0, [.int md, .ref df, .int (nI 0)]))] s.heap := hP
  have hl : lv_has ls 1 [(0, .ref lh)] := hl
  refine lv_aload_n hx hb dJx4a65c_grow_d5877_0 rfl (lv_at hl 0 rfl) ?_
  refine lv_aload_n hx hb dJx4a65c_grow_d5877_1 rfl (lv_at hl 0 rfl) ?_
  refine va_get (D := D) (ci := 0) (v := .int (nI 0)) (C := RJx4a65c) (T := TJx4a65c) (N := 3) hx hb hts inJx4a65c hown hK hP 0 rfl rfl 2 (by decide) hfieldLink_RJx4a65c_48 (fun _ h9 => h9) rfl dJx4a65c_grow_d5877_2 ?_
  refine lv_iconst (v := 1) hx hb dJx4a65c_grow_d5877_5 (by decide) ?_
  refine lv_iadd hx hb dJx4a65c_grow_d5877_6 ?_
  refine lv_topi (fun f ef => ?_)
  obtain rfl : f = nI (0 + 1) := ef.trans (nI_add _ _)
  have hPc := hP.sub (ws' := [(lh, .inr (0, [.int md, .ref df, .int (nI 0)]))]) [0] rfl
  have hDc := hD.sub (ws' := [(lh, .inr (0, [.int md, .ref df, .int (nI 0)]))]) [0] (by decide) rfl
  have hFc := va_free (wc := [(lh, .inr (0, [.int md, .ref df, .int (nI 0)]))]) hD hS hA [0] rfl
  refine g_Vr (As := [.int (nI (0 + 1))]) (rest := []) CF (c_Jx4a65c_grow_92f84 l D cI cJ cO df s.heap.size lh md (nI 0) (0 + 1) (by decide)) (cwV 1 hts gJx4a65c_grow_d5877_Jx4a65c_grow_92f84 rfl rfl rfl (by decide +kernel) ⟨Nat.le_of_ble_eq_true rfl, Nat.le_of_ble_eq_true rfl⟩) (va_recv hK hP (ci := 0) (q0 := 0) rfl rfl) hPc hK hDc hV hH hS hFc rfl hl.1 rfl (Nat.le_of_ble_eq_true rfl) dJx4a65c_grow_d5877_7 ⟨Nat.le_of_ble_eq_true rfl, Nat.le_of_ble_eq_true rfl⟩ (fun w1 H1 locs1 hq hP1 hD1 hk hS hz => ?_)
  obtain ⟨w1, a1⟩ := w1
  obtain ⟨q1, ew1, hr_7⟩ := hq
  dsimp only at ew1 hP1 hD1 hr_7
  subst ew1
  obtain ⟨hP, hD⟩ := g_join (ws' := [(lh, .inr (0, [.int md, .ref q1, .int (nI 0)])), (q1, .inl (cO, 10, .inr (.inr (.inr (.inr (fun _ => none))))))]) hP hD hk hFc hP1 hD1 [0] [] [0, 1] rfl rfl (by decide) (by decide) (by decide) rfl
  clear hPc hDc hFc hP1 hD1 hk hz
  generalize H1 = H at hP hS ⊢
  have hP : va_P D ccl [(lh, .inr (0, [.int md, .ref q1, .int (nI 0)])), (q1, .inl (cO, 10, .inr (.inr (.inr (.inr (fun _ => none))))))] H := hP
  have hD : va_D A [(lh, .inr (0, [.int md, .ref q1, .int (nI 0)])), (q1, .inl (cO, 10, .inr (.inr (.inr (.inr (fun _ => none))))))] := hD
  have hr_7 := hr_7.symm
  subst hr_7
  refine g_rret (a := q1) hx hb hr hlk (Or.inr ⟨_, rfl⟩) hP hK hD hS (Nat.le_of_ble_eq_true rfl) (Nat.le_of_ble_eq_true rfl) dJx4a65c_grow_d5877_10 ?_
  exact ⟨_, rfl, rfl⟩

set_option maxHeartbeats 4000000 in
set_option maxRecDepth 100000 in
theorem c_Jx4a65c_add_72be8 (l : Launch) (D : va_G) (cI cJ cO : ClassId) (df sz : Nat) (lh : Nat) (md : Int32) (er : Nat) (n : Nat) (f : Nat → Option Nat) (tl : va_W) (v : Nat) (hn : n < 10) (hv : inT tl v) : MetV l yJx4a65c_add_72be8 wsJx4a65c_add_72be8 ({ frames := 0, cells := 0, slots := 0, locals := 0 } : Room) D (gTY cI cJ cO) df (([(lh, .inr (0, [.int md, .ref er, .int (nI n)])), (er, .inl (cO, 10, .inr (.inr (.inr (.inr f)))))] : va_W) ++ tl) sz [.ref lh, .ref v, .ref er, .int (nI n)] (fun (wZ : va_W) => wZ = ([(lh, .inr (0, [.int md, .ref er, .int (nI (n + 1))])), (er, .inl (cO, 10, .inr (.inr (.inr (.inr (va_up f n (some v)))))))] : va_W) ++ tl) := by
  refine g_of (cc := cJx4a65c_add_72be8) (nL := 4) (ret := none) (D := D) (TY := (gTY cI cJ cO)) (df := df) (Qc := fun A => va_Qv (fun (wZ : va_W) => wZ = ([(lh, .inr (0, [.int md, .ref er, .int (nI (n + 1))])), (er, .inl (cO, 10, .inr (.inr (.inr (.inr (va_up f n (some v)))))))] : va_W) ++ tl) (gB D (gTY cI cJ cO) A) A) (by decide +kernel) rfl (Nat.le_of_ble_eq_true rfl) ?_
  intro p e s m below meth c ls A hsz C0 hin hl
  obtain ⟨CF, hr, hlk, hA, hS, hP, hK, hD, hV, hH⟩ := C0
  have CF : CallFix p m c cJx4a65c_add_72be8 4 s _ wsJx4a65c_add_72be8 RJx4a65c := CF
  obtain ⟨hx, hb, hml, hown, hts⟩ := id CF
  subst hsz
  have hfieldLink_RJx4a65c_48 : (Cond.fieldLink RJx4a65c 48 "java/util/ArrayList" "size" "I").before _ s = true := hts _ (List.mem_of_getElem? (i := 1) rfl)
  have inJx4a65c : ∀ w ∈ u_ws RJx4a65c TJx4a65c 3, w ∈ wsJx4a65c_add_72be8 := fun w h => (List.mem_cons_of_mem _ (List.mem_append_right _ h))
  have hP : va_P D ccl (([(lh, .inr (0, [.int md, .ref er, .int (nI n)])), (er, .inl (cO, 10, .inr (.inr (.inr (.inr f)))))] : va_W) ++ tl) s.heap := hP
  have hl : lv_has ls 4 [(0, .ref lh), (1, .ref v), (2, .ref er), (3, .int (nI n))] := hl
  refine lv_iload_n hx hb dJx4a65c_add_72be8_0 rfl (lv_at hl 3 rfl) ?_
  refine lv_aload_n hx hb dJx4a65c_add_72be8_1 rfl (lv_at hl 2 rfl) ?_
  refine va_alen (v := 10) hx hb hK hP 1 2 rfl rfl rfl dJx4a65c_add_72be8_2 ?_
  refine lv_icmp_ne (tgt := 11) hx hb dJx4a65c_add_72be8_3 (by decide) (fun c_3 => ?_) (fun c_3 => ?_)
  · have c_3 : n ≠ 10 := g_ne (a := n) (b := 10) c_3 (by omega) (by omega)
    refine lv_aload_n hx hb dJx4a65c_add_72be8_11 rfl (lv_at hl 2 rfl) ?_
    refine lv_iload_n hx hb dJx4a65c_add_72be8_12 rfl (lv_at hl 3 rfl) ?_
    refine lv_aload_n hx hb dJx4a65c_add_72be8_13 rfl (lv_at hl 1 rfl) ?_
    refine va_astqM (E := "java/lang/Object") hx hb hK hP hD hS 1 2 rfl rfl (hv.any hV hK hP) (vp_in_nI (by omega) (by omega)) dJx4a65c_add_72be8_14 (fun H locs hP hD hS => ?_)
    rw [show (nI n).toNatClampNeg = n from (nI_clamp (by omega))] at hP hD
    have hP : va_P D ccl (([(lh, .inr (0, [.int md, .ref er, .int (nI n)])), (er, .inl (cO, 10, .inr (.inr (.inr (.inr (va_up f n (some v)))))))] : va_W) ++ tl) H := hP
    have hD : va_D A (([(lh, .inr (0, [.int md, .ref er, .int (nI n)])), (er, .inl (cO, 10, .inr (.inr (.inr (.inr (va_up f n (some v)))))))] : va_W) ++ tl) := hD
    refine lv_aload_n hx hb dJx4a65c_add_72be8_15 rfl (lv_at hl 0 rfl) ?_
    refine lv_iload_n hx hb dJx4a65c_add_72be8_16 rfl (lv_at hl 3 rfl) ?_
    refine lv_iconst (v := 1) hx hb dJx4a65c_add_72be8_17 (by decide) ?_
    refine lv_iadd hx hb dJx4a65c_add_72be8_18 ?_
    refine lv_topi (fun f ef => ?_)
    obtain rfl : f = nI (n + 1) := ef.trans (nI_add _ _)
    refine va_put (D := D) (ci := 0) (v := .int (nI (n + 1))) (ty := .int) (C := RJx4a65c) (T := TJx4a65c) (N := 3) hx hb hts inJx4a65c tyJx4a65c tyJx4a65c_ok nmJx4a65c hown hK hP hD hS 0 rfl rfl 2 (by decide) hfieldLink_RJx4a65c_48 (fun _ h9 => h9) rfl (by decide +kernel) rfl rfl (Nat.le_of_ble_eq_true rfl) dJx4a65c_add_72be8_19 (fun H locs hP hD hS => ?_)
    have hP : va_P D ccl (([(lh, .inr (0, [.int md, .ref er, .int (nI (n + 1))])), (er, .inl (cO, 10, .inr (.inr (.inr (.inr (va_up f n (some v)))))))] : va_W) ++ tl) H := hP
    have hD : va_D A (([(lh, .inr (0, [.int md, .ref er, .int (nI (n + 1))])), (er, .inl (cO, 10, .inr (.inr (.inr (.inr (va_up f n (some v)))))))] : va_W) ++ tl) := hD
    refine g_vret hx hb hr hlk hP hK hD hS (Nat.le_of_ble_eq_true rfl) (Nat.le_of_ble_eq_true rfl) dJx4a65c_add_72be8_22 ?_
    exact rfl
  · have c_3 : n = 10 := g_eq (a := n) (b := 10) c_3 (by omega) (by omega)
    omega

set_option maxHeartbeats 4000000 in
set_option maxRecDepth 100000 in
theorem c_Jx4a65c_add_72be8_e (l : Launch) (D : va_G) (cI cJ cO : ClassId) (df sz : Nat) (lh : Nat) (md : Int32) (tl : va_W) (v : Nat) (hv : inT tl v) : MetV l yJx4a65c_add_72be8 wsJx4a65c_add_72be8 ({ frames := 3, cells := 1, slots := 10, locals := 73 } : Room) D (gTY cI cJ cO) df (([(lh, .inr (0, [.int md, .ref df, .int (nI 0)]))] : va_W) ++ tl) sz [.ref lh, .ref v, .ref df, .int (nI 0)] (fun (wZ : va_W) => ∃ (q1 : Nat), wZ = ([(lh, .inr (0, [.int md, .ref q1, .int (nI 1)])), (q1, .inl (cO, 10, .inr (.inr (.inr (.inr (va_up (fun _ => none) 0 (some v)))))))] : va_W) ++ tl) := by
  refine g_of (cc := cJx4a65c_add_72be8) (nL := 4) (ret := none) (D := D) (TY := (gTY cI cJ cO)) (df := df) (Qc := fun A => va_Qv (fun (wZ : va_W) => ∃ (q1 : Nat), wZ = ([(lh, .inr (0, [.int md, .ref q1, .int (nI 1)])), (q1, .inl (cO, 10, .inr (.inr (.inr (.inr (va_up (fun _ => none) 0 (some v)))))))] : va_W) ++ tl) (gB D (gTY cI cJ cO) A) A) (by decide +kernel) rfl (Nat.le_of_ble_eq_true rfl) ?_
  intro p e s m below meth c ls A hsz C0 hin hl
  obtain ⟨CF, hr, hlk, hA, hS, hP, hK, hD, hV, hH⟩ := C0
  have CF : CallFix p m c cJx4a65c_add_72be8 4 s _ wsJx4a65c_add_72be8 RJx4a65c := CF
  obtain ⟨hx, hb, hml, hown, hts⟩ := id CF
  subst hsz
  have hmethodLink_RJx4a65c_129 : (Cond.methodLink RJx4a65c 129 yJx4a65c_grow_d5877).before _ s = true := hts _ (List.mem_of_getElem? (i := 2) rfl)
  have hfieldLink_RJx4a65c_48 : (Cond.fieldLink RJx4a65c 48 "java/util/ArrayList" "size" "I").before _ s = true := hts _ (List.mem_of_getElem? (i := 1) rfl)
  have inJx4a65c : ∀ w ∈ u_ws RJx4a65c TJx4a65c 3, w ∈ wsJx4a65c_add_72be8 := fun w h => (List.mem_cons_of_mem _ (List.mem_append_right _ h))
  have hP : va_P D ccl (([(lh, .inr (0, [.int md, .ref df, .int (nI 0)]))] : va_W) ++ tl) s.heap := hP
  have hl : lv_has ls 4 [(0, .ref lh), (1, .ref v), (2, .ref df), (3, .int (nI 0))] := hl
  refine lv_iload_n hx hb dJx4a65c_add_72be8_0 rfl (lv_at hl 3 rfl) ?_
  refine lv_aload_n hx hb dJx4a65c_add_72be8_1 rfl (lv_at hl 2 rfl) ?_
  refine va_tlen (v := 0) hx hb hH.2.2.2 hS rfl dJx4a65c_add_72be8_2 ?_
  refine lv_icmp_ne (tgt := 11) hx hb dJx4a65c_add_72be8_3 (by decide) (fun c_3 => ?_) (fun c_3 => ?_)
  · have c_3 : 0 ≠ 0 := g_ne (a := 0) (b := 0) c_3 (by omega) (by omega)
    exact absurd rfl c_3
  · have c_3 : 0 = 0 := g_eq (a := 0) (b := 0) c_3 (by omega) (by omega)
    refine lv_aload_n hx hb dJx4a65c_add_72be8_6 rfl (lv_at hl 0 rfl) ?_
    have hPc := hP.sub (ws' := [(lh, .inr (0, [.int md, .ref df, .int (nI 0)]))]) [0] rfl
    have hDc := hD.sub (ws' := [(lh, .inr (0, [.int md, .ref df, .int (nI 0)]))]) [0] (by decide) rfl
    have hFc := va_free (wc := [(lh, .inr (0, [.int md, .ref df, .int (nI 0)]))]) hD hS hA [0] rfl
    refine g_Vr (As := []) (rest := []) CF (c_Jx4a65c_grow_d5877 l D cI cJ cO df s.heap.size lh md ) (cwV 0 hts gJx4a65c_add_72be8_Jx4a65c_grow_d5877 rfl rfl rfl (by decide +kernel) ⟨Nat.le_of_ble_eq_true rfl, Nat.le_of_ble_eq_true rfl⟩) (va_recv hK hP (ci := 0) (q0 := 0) rfl rfl) hPc hK hDc hV hH hS hFc rfl hl.1 rfl (Nat.le_of_ble_eq_true rfl) dJx4a65c_add_72be8_7 ⟨Nat.le_of_ble_eq_true rfl, Nat.le_of_ble_eq_true rfl⟩ (fun w1 H1 locs1 hq hP1 hD1 hk hS hz => ?_)
    obtain ⟨w1, a1⟩ := w1
    obtain ⟨q1, ew1, hr_7⟩ := hq
    dsimp only at ew1 hP1 hD1 hr_7
    subst ew1
    obtain ⟨hP, hD⟩ := g_joinQ (X := [(lh, .inr (0, [.int md, .ref df, .int (nI 0)]))]) (X' := [(lh, .inr (0, [.int md, .ref q1, .int (nI 0)])), (q1, .inl (cO, 10, .inr (.inr (.inr (.inr (fun _ => none))))))]) hP hD hk hFc hP1 hD1 [0] [] [0, 1] rfl rfl (by decide) (by decide) (by decide) rfl
    clear hPc hDc hFc hP1 hD1 hk hz
    generalize H1 = H at hP hS ⊢
    have hP : va_P D ccl (([(lh, .inr (0, [.int md, .ref q1, .int (nI 0)])), (q1, .inl (cO, 10, .inr (.inr (.inr (.inr (fun _ => none))))))] : va_W) ++ tl) H := hP
    have hD : va_D A (([(lh, .inr (0, [.int md, .ref q1, .int (nI 0)])), (q1, .inl (cO, 10, .inr (.inr (.inr (.inr (fun _ => none))))))] : va_W) ++ tl) := hD
    have hr_7 := hr_7.symm
    subst hr_7
    refine lv_astore_n (lv' := [(2, .ref q1), (0, .ref lh), (1, .ref v), (3, .int (nI 0))]) hx hb dJx4a65c_add_72be8_10 rfl hl (by decide) rfl (fun ls hl => ?_)
    refine lv_aload_n hx hb dJx4a65c_add_72be8_11 rfl (lv_at hl 0 rfl) ?_
    refine lv_iload_n hx hb dJx4a65c_add_72be8_12 rfl (lv_at hl 3 rfl) ?_
    refine lv_aload_n hx hb dJx4a65c_add_72be8_13 rfl (lv_at hl 2 rfl) ?_
    refine va_astqM (E := "java/lang/Object") hx hb hK hP hD hS 1 2 rfl rfl (hv.any hV hK hP) (by unfold vp_in; decide) dJx4a65c_add_72be8_14 (fun H locs hP hD hS => ?_)
    rw [show ((nI 0 : Int32)).toNatClampNeg = 0 from (by decide)] at hP hD
    have hP : va_P D ccl (([(lh, .inr (0, [.int md, .ref q1, .int (nI 0)])), (q1, .inl (cO, 10, .inr (.inr (.inr (.inr (va_up (fun _ => none) 0 (some v)))))))] : va_W) ++ tl) H := hP
    have hD : va_D A (([(lh, .inr (0, [.int md, .ref q1, .int (nI 0)])), (q1, .inl (cO, 10, .inr (.inr (.inr (.inr (va_up (fun _ => none) 0 (some v)))))))] : va_W) ++ tl) := hD
    refine lv_aload_n hx hb dJx4a65c_add_72be8_15 rfl (lv_at hl 1 rfl) ?_
    refine lv_iload_n hx hb dJx4a65c_add_72be8_16 rfl (lv_at hl 3 rfl) ?_
    refine lv_iconst (v := 1) hx hb dJx4a65c_add_72be8_17 (by decide) ?_
    refine lv_iadd hx hb dJx4a65c_add_72be8_18 ?_
    refine lv_topi (fun f ef => ?_)
    obtain rfl : f = nI (0 + 1) := ef.trans (nI_add _ _)
    refine va_put (D := D) (ci := 0) (v := .int (nI (0 + 1))) (ty := .int) (C := RJx4a65c) (T := TJx4a65c) (N := 3) hx hb hts inJx4a65c tyJx4a65c tyJx4a65c_ok nmJx4a65c hown hK hP hD hS 0 rfl rfl 2 (by decide) hfieldLink_RJx4a65c_48 (fun _ h9 => h9) rfl (by decide +kernel) rfl rfl (Nat.le_of_ble_eq_true rfl) dJx4a65c_add_72be8_19 (fun H locs hP hD hS => ?_)
    have hP : va_P D ccl (([(lh, .inr (0, [.int md, .ref q1, .int (nI (0 + 1))])), (q1, .inl (cO, 10, .inr (.inr (.inr (.inr (va_up (fun _ => none) 0 (some v)))))))] : va_W) ++ tl) H := hP
    have hD : va_D A (([(lh, .inr (0, [.int md, .ref q1, .int (nI (0 + 1))])), (q1, .inl (cO, 10, .inr (.inr (.inr (.inr (va_up (fun _ => none) 0 (some v)))))))] : va_W) ++ tl) := hD
    refine g_vret hx hb hr hlk hP hK hD hS (Nat.le_of_ble_eq_true rfl) (Nat.le_of_ble_eq_true rfl) dJx4a65c_add_72be8_22 ?_
    exact ⟨_, rfl⟩

set_option maxHeartbeats 4000000 in
set_option maxRecDepth 100000 in
theorem c_Jx4a65c_add_9ea2d (l : Launch) (D : va_G) (cI cJ cO : ClassId) (df sz : Nat) (lh : Nat) (md : Int32) (er : Nat) (n : Nat) (f : Nat → Option Nat) (tl : va_W) (v : Nat) (hn : n < 10) (hv : inT tl v) : MetI l yJx4a65c_add_9ea2d wsJx4a65c_add_9ea2d ({ frames := 1, cells := 0, slots := 0, locals := 23 } : Room) D (gTY cI cJ cO) df (([(lh, .inr (0, [.int md, .ref er, .int (nI n)])), (er, .inl (cO, 10, .inr (.inr (.inr (.inr f)))))] : va_W) ++ tl) sz [.ref lh, .ref v] (fun (r : Int32) (wZ : va_W) => wZ = ([(lh, .inr (0, [.int (md + 1), .ref er, .int (nI (n + 1))])), (er, .inl (cO, 10, .inr (.inr (.inr (.inr (va_up f n (some v)))))))] : va_W) ++ tl ∧ r = 1) := by
  refine g_of (cc := cJx4a65c_add_9ea2d) (nL := 2) (ret := (some .boolean)) (D := D) (TY := (gTY cI cJ cO)) (df := df) (Qc := fun A => va_Qi (fun (r : Int32) (wZ : va_W) => wZ = ([(lh, .inr (0, [.int (md + 1), .ref er, .int (nI (n + 1))])), (er, .inl (cO, 10, .inr (.inr (.inr (.inr (va_up f n (some v)))))))] : va_W) ++ tl ∧ r = 1) (gB D (gTY cI cJ cO) A) A) (by decide +kernel) rfl (Nat.le_of_ble_eq_true rfl) ?_
  intro p e s m below meth c ls A hsz C0 hin hl
  obtain ⟨CF, hr, hlk, hA, hS, hP, hK, hD, hV, hH⟩ := C0
  have CF : CallFix p m c cJx4a65c_add_9ea2d 2 s _ wsJx4a65c_add_9ea2d RJx4a65c := CF
  obtain ⟨hx, hb, hml, hown, hts⟩ := id CF
  subst hsz
  have hfieldLink_RJx4a65c_63 : (Cond.fieldLink RJx4a65c 63 "java/util/ArrayList" "modCount" "I").before _ s = true := hts _ (List.mem_of_getElem? (i := 1) rfl)
  have hsameField_java_util_ArrayList_java_util_AbstractList_modCount_I : (Cond.sameField "java/util/ArrayList" "java/util/AbstractList" "modCount" "I").before _ s = true := hts _ (List.mem_of_getElem? (i := 2) rfl)
  have hfieldLink_RJx4a65c_9 : (Cond.fieldLink RJx4a65c 9 "java/util/ArrayList" "elementData" "[Ljava/lang/Object;").before _ s = true := hts _ (List.mem_of_getElem? (i := 3) rfl)
  have hfieldLink_RJx4a65c_48 : (Cond.fieldLink RJx4a65c 48 "java/util/ArrayList" "size" "I").before _ s = true := hts _ (List.mem_of_getElem? (i := 4) rfl)
  have hmethodLink_RJx4a65c_131 : (Cond.methodLink RJx4a65c 131 yJx4a65c_add_72be8).before _ s = true := hts _ (List.mem_of_getElem? (i := 5) rfl)
  have inJx4a65c : ∀ w ∈ u_ws RJx4a65c TJx4a65c 3, w ∈ wsJx4a65c_add_9ea2d := fun w h => (List.mem_cons_of_mem _ (List.mem_append_right _ h))
  have hP : va_P D ccl (([(lh, .inr (0, [.int md, .ref er, .int (nI n)])), (er, .inl (cO, 10, .inr (.inr (.inr (.inr f)))))] : va_W) ++ tl) s.heap := hP
  have hl : lv_has ls 2 [(0, .ref lh), (1, .ref v)] := hl
  refine lv_aload_n hx hb dJx4a65c_add_9ea2d_0 rfl (lv_at hl 0 rfl) ?_
  refine lv_dup hx hb dJx4a65c_add_9ea2d_1 rfl ?_
  refine va_get (D := D) (ci := 0) (v := .int md) (C := RJx4a65c) (T := TJx4a65c) (N := 3) hx hb hts inJx4a65c hown hK hP 0 rfl rfl 0 (by decide) hfieldLink_RJx4a65c_63 (u_same hsameField_java_util_ArrayList_java_util_AbstractList_modCount_I) rfl dJx4a65c_add_9ea2d_2 ?_
  refine lv_iconst (v := 1) hx hb dJx4a65c_add_9ea2d_5 (by decide) ?_
  refine lv_iadd hx hb dJx4a65c_add_9ea2d_6 ?_
  refine va_put (D := D) (ci := 0) (v := .int (md + 1)) (ty := .int) (C := RJx4a65c) (T := TJx4a65c) (N := 3) hx hb hts inJx4a65c tyJx4a65c tyJx4a65c_ok nmJx4a65c hown hK hP hD hS 0 rfl rfl 0 (by decide) hfieldLink_RJx4a65c_63 (u_same hsameField_java_util_ArrayList_java_util_AbstractList_modCount_I) rfl (by decide +kernel) rfl rfl (Nat.le_of_ble_eq_true rfl) dJx4a65c_add_9ea2d_7 (fun H locs hP hD hS => ?_)
  have hP : va_P D ccl (([(lh, .inr (0, [.int (md + 1), .ref er, .int (nI n)])), (er, .inl (cO, 10, .inr (.inr (.inr (.inr f)))))] : va_W) ++ tl) H := hP
  have hD : va_D A (([(lh, .inr (0, [.int (md + 1), .ref er, .int (nI n)])), (er, .inl (cO, 10, .inr (.inr (.inr (.inr f)))))] : va_W) ++ tl) := hD
  refine lv_aload_n hx hb dJx4a65c_add_9ea2d_10 rfl (lv_at hl 0 rfl) ?_
  refine lv_aload_n hx hb dJx4a65c_add_9ea2d_11 rfl (lv_at hl 1 rfl) ?_
  refine lv_aload_n hx hb dJx4a65c_add_9ea2d_12 rfl (lv_at hl 0 rfl) ?_
  refine va_get (D := D) (ci := 0) (v := .ref er) (C := RJx4a65c) (T := TJx4a65c) (N := 3) hx hb hts inJx4a65c hown hK hP 0 rfl rfl 1 (by decide) hfieldLink_RJx4a65c_9 (fun _ h9 => h9) rfl dJx4a65c_add_9ea2d_13 ?_
  refine lv_aload_n hx hb dJx4a65c_add_9ea2d_16 rfl (lv_at hl 0 rfl) ?_
  refine va_get (D := D) (ci := 0) (v := .int (nI n)) (C := RJx4a65c) (T := TJx4a65c) (N := 3) hx hb hts inJx4a65c hown hK hP 0 rfl rfl 2 (by decide) hfieldLink_RJx4a65c_48 (fun _ h9 => h9) rfl dJx4a65c_add_9ea2d_17 ?_
  have hPc := hP.part (X := [(lh, .inr (0, [.int (md + 1), .ref er, .int (nI n)])), (er, .inl (cO, 10, .inr (.inr (.inr (.inr f)))))]) (cx := [(lh, .inr (0, [.int (md + 1), .ref er, .int (nI n)])), (er, .inl (cO, 10, .inr (.inr (.inr (.inr f)))))]) [0, 1] rfl
  have hDc := hD.part (X := [(lh, .inr (0, [.int (md + 1), .ref er, .int (nI n)])), (er, .inl (cO, 10, .inr (.inr (.inr (.inr f)))))]) (cx := [(lh, .inr (0, [.int (md + 1), .ref er, .int (nI n)])), (er, .inl (cO, 10, .inr (.inr (.inr (.inr f)))))]) [0, 1] (by decide) rfl
  have hFc := va_freeP (X := [(lh, .inr (0, [.int (md + 1), .ref er, .int (nI n)])), (er, .inl (cO, 10, .inr (.inr (.inr (.inr f)))))]) (cx := [(lh, .inr (0, [.int (md + 1), .ref er, .int (nI n)])), (er, .inl (cO, 10, .inr (.inr (.inr (.inr f)))))]) hD hS hA [0, 1] rfl
  refine g_Vv (As := [.ref v, .ref er, .int (nI n)]) (rest := []) CF (c_Jx4a65c_add_72be8 l D cI cJ cO df H.size lh (md + 1) er n f tl v (by omega) hv) (cwV 3 hts gJx4a65c_add_9ea2d_Jx4a65c_add_72be8 rfl rfl rfl (by decide +kernel) ⟨Nat.le_of_ble_eq_true rfl, Nat.le_of_ble_eq_true rfl⟩) (va_recv hK hP (ci := 0) (q0 := 0) rfl rfl) hPc hK hDc hV hH hS hFc rfl hl.1 rfl (Nat.le_of_ble_eq_true rfl) dJx4a65c_add_9ea2d_20 ⟨Nat.le_of_ble_eq_true rfl, Nat.le_of_ble_eq_true rfl⟩ (fun w1 H1 locs1 hq hP1 hD1 hk hS hz => ?_)
  obtain rfl := hq
  obtain ⟨hP, hD⟩ := g_joinP (X := [(lh, .inr (0, [.int (md + 1), .ref er, .int (nI n)])), (er, .inl (cO, 10, .inr (.inr (.inr (.inr f)))))]) (cx := [(lh, .inr (0, [.int (md + 1), .ref er, .int (nI n)])), (er, .inl (cO, 10, .inr (.inr (.inr (.inr f)))))]) (rx := [(lh, .inr (0, [.int (md + 1), .ref er, .int (nI (n + 1))])), (er, .inl (cO, 10, .inr (.inr (.inr (.inr (va_up f n (some v)))))))]) (X' := [(lh, .inr (0, [.int (md + 1), .ref er, .int (nI (n + 1))])), (er, .inl (cO, 10, .inr (.inr (.inr (.inr (va_up f n (some v)))))))]) hP hD hk hFc hP1 hD1 [0, 1] [] [0, 1] rfl rfl (by decide) (by decide) (by decide) rfl
  clear hPc hDc hFc hP1 hD1 hk hz
  generalize H1 = H at hP hS ⊢
  have hP : va_P D ccl (([(lh, .inr (0, [.int (md + 1), .ref er, .int (nI (n + 1))])), (er, .inl (cO, 10, .inr (.inr (.inr (.inr (va_up f n (some v)))))))] : va_W) ++ tl) H := hP
  have hD : va_D A (([(lh, .inr (0, [.int (md + 1), .ref er, .int (nI (n + 1))])), (er, .inl (cO, 10, .inr (.inr (.inr (.inr (va_up f n (some v)))))))] : va_W) ++ tl) := hD
  refine lv_iconst (v := 1) hx hb dJx4a65c_add_9ea2d_23 (by decide) ?_
  refine g_zret (v := 1) hx hb hr hlk hP hK hD hS (Nat.le_of_ble_eq_true rfl) (Nat.le_of_ble_eq_true rfl) dJx4a65c_add_9ea2d_24 (by decide +kernel) ?_
  exact ⟨rfl, rfl⟩

set_option maxHeartbeats 4000000 in
set_option maxRecDepth 100000 in
theorem c_Jx4a65c_add_9ea2d_e (l : Launch) (D : va_G) (cI cJ cO : ClassId) (df sz : Nat) (lh : Nat) (md : Int32) (tl : va_W) (v : Nat) (hv : inT tl v) : MetI l yJx4a65c_add_9ea2d wsJx4a65c_add_9ea2d ({ frames := 4, cells := 1, slots := 10, locals := 96 } : Room) D (gTY cI cJ cO) df (([(lh, .inr (0, [.int md, .ref df, .int (nI 0)]))] : va_W) ++ tl) sz [.ref lh, .ref v] (fun (r : Int32) (wZ : va_W) => ∃ (q1 : Nat), wZ = ([(lh, .inr (0, [.int (md + 1), .ref q1, .int (nI 1)])), (q1, .inl (cO, 10, .inr (.inr (.inr (.inr (va_up (fun _ => none) 0 (some v)))))))] : va_W) ++ tl ∧ r = 1) := by
  refine g_of (cc := cJx4a65c_add_9ea2d) (nL := 2) (ret := (some .boolean)) (D := D) (TY := (gTY cI cJ cO)) (df := df) (Qc := fun A => va_Qi (fun (r : Int32) (wZ : va_W) => ∃ (q1 : Nat), wZ = ([(lh, .inr (0, [.int (md + 1), .ref q1, .int (nI 1)])), (q1, .inl (cO, 10, .inr (.inr (.inr (.inr (va_up (fun _ => none) 0 (some v)))))))] : va_W) ++ tl ∧ r = 1) (gB D (gTY cI cJ cO) A) A) (by decide +kernel) rfl (Nat.le_of_ble_eq_true rfl) ?_
  intro p e s m below meth c ls A hsz C0 hin hl
  obtain ⟨CF, hr, hlk, hA, hS, hP, hK, hD, hV, hH⟩ := C0
  have CF : CallFix p m c cJx4a65c_add_9ea2d 2 s _ wsJx4a65c_add_9ea2d RJx4a65c := CF
  obtain ⟨hx, hb, hml, hown, hts⟩ := id CF
  subst hsz
  have hfieldLink_RJx4a65c_63 : (Cond.fieldLink RJx4a65c 63 "java/util/ArrayList" "modCount" "I").before _ s = true := hts _ (List.mem_of_getElem? (i := 1) rfl)
  have hsameField_java_util_ArrayList_java_util_AbstractList_modCount_I : (Cond.sameField "java/util/ArrayList" "java/util/AbstractList" "modCount" "I").before _ s = true := hts _ (List.mem_of_getElem? (i := 2) rfl)
  have hfieldLink_RJx4a65c_9 : (Cond.fieldLink RJx4a65c 9 "java/util/ArrayList" "elementData" "[Ljava/lang/Object;").before _ s = true := hts _ (List.mem_of_getElem? (i := 3) rfl)
  have hfieldLink_RJx4a65c_48 : (Cond.fieldLink RJx4a65c 48 "java/util/ArrayList" "size" "I").before _ s = true := hts _ (List.mem_of_getElem? (i := 4) rfl)
  have hmethodLink_RJx4a65c_131 : (Cond.methodLink RJx4a65c 131 yJx4a65c_add_72be8).before _ s = true := hts _ (List.mem_of_getElem? (i := 5) rfl)
  have inJx4a65c : ∀ w ∈ u_ws RJx4a65c TJx4a65c 3, w ∈ wsJx4a65c_add_9ea2d := fun w h => (List.mem_cons_of_mem _ (List.mem_append_right _ h))
  have hP : va_P D ccl (([(lh, .inr (0, [.int md, .ref df, .int (nI 0)]))] : va_W) ++ tl) s.heap := hP
  have hl : lv_has ls 2 [(0, .ref lh), (1, .ref v)] := hl
  refine lv_aload_n hx hb dJx4a65c_add_9ea2d_0 rfl (lv_at hl 0 rfl) ?_
  refine lv_dup hx hb dJx4a65c_add_9ea2d_1 rfl ?_
  refine va_get (D := D) (ci := 0) (v := .int md) (C := RJx4a65c) (T := TJx4a65c) (N := 3) hx hb hts inJx4a65c hown hK hP 0 rfl rfl 0 (by decide) hfieldLink_RJx4a65c_63 (u_same hsameField_java_util_ArrayList_java_util_AbstractList_modCount_I) rfl dJx4a65c_add_9ea2d_2 ?_
  refine lv_iconst (v := 1) hx hb dJx4a65c_add_9ea2d_5 (by decide) ?_
  refine lv_iadd hx hb dJx4a65c_add_9ea2d_6 ?_
  refine va_put (D := D) (ci := 0) (v := .int (md + 1)) (ty := .int) (C := RJx4a65c) (T := TJx4a65c) (N := 3) hx hb hts inJx4a65c tyJx4a65c tyJx4a65c_ok nmJx4a65c hown hK hP hD hS 0 rfl rfl 0 (by decide) hfieldLink_RJx4a65c_63 (u_same hsameField_java_util_ArrayList_java_util_AbstractList_modCount_I) rfl (by decide +kernel) rfl rfl (Nat.le_of_ble_eq_true rfl) dJx4a65c_add_9ea2d_7 (fun H locs hP hD hS => ?_)
  have hP : va_P D ccl (([(lh, .inr (0, [.int (md + 1), .ref df, .int (nI 0)]))] : va_W) ++ tl) H := hP
  have hD : va_D A (([(lh, .inr (0, [.int (md + 1), .ref df, .int (nI 0)]))] : va_W) ++ tl) := hD
  refine lv_aload_n hx hb dJx4a65c_add_9ea2d_10 rfl (lv_at hl 0 rfl) ?_
  refine lv_aload_n hx hb dJx4a65c_add_9ea2d_11 rfl (lv_at hl 1 rfl) ?_
  refine lv_aload_n hx hb dJx4a65c_add_9ea2d_12 rfl (lv_at hl 0 rfl) ?_
  refine va_get (D := D) (ci := 0) (v := .ref df) (C := RJx4a65c) (T := TJx4a65c) (N := 3) hx hb hts inJx4a65c hown hK hP 0 rfl rfl 1 (by decide) hfieldLink_RJx4a65c_9 (fun _ h9 => h9) rfl dJx4a65c_add_9ea2d_13 ?_
  refine lv_aload_n hx hb dJx4a65c_add_9ea2d_16 rfl (lv_at hl 0 rfl) ?_
  refine va_get (D := D) (ci := 0) (v := .int (nI 0)) (C := RJx4a65c) (T := TJx4a65c) (N := 3) hx hb hts inJx4a65c hown hK hP 0 rfl rfl 2 (by decide) hfieldLink_RJx4a65c_48 (fun _ h9 => h9) rfl dJx4a65c_add_9ea2d_17 ?_
  have hPc := hP.part (X := [(lh, .inr (0, [.int (md + 1), .ref df, .int (nI 0)]))]) (cx := [(lh, .inr (0, [.int (md + 1), .ref df, .int (nI 0)]))]) [0] rfl
  have hDc := hD.part (X := [(lh, .inr (0, [.int (md + 1), .ref df, .int (nI 0)]))]) (cx := [(lh, .inr (0, [.int (md + 1), .ref df, .int (nI 0)]))]) [0] (by decide) rfl
  have hFc := va_freeP (X := [(lh, .inr (0, [.int (md + 1), .ref df, .int (nI 0)]))]) (cx := [(lh, .inr (0, [.int (md + 1), .ref df, .int (nI 0)]))]) hD hS hA [0] rfl
  refine g_Vv (As := [.ref v, .ref df, .int (nI 0)]) (rest := []) CF (c_Jx4a65c_add_72be8_e l D cI cJ cO df H.size lh (md + 1) tl v hv) (cwV 3 hts gJx4a65c_add_9ea2d_Jx4a65c_add_72be8 rfl rfl rfl (by decide +kernel) ⟨Nat.le_of_ble_eq_true rfl, Nat.le_of_ble_eq_true rfl⟩) (va_recv hK hP (ci := 0) (q0 := 0) rfl rfl) hPc hK hDc hV hH hS hFc rfl hl.1 rfl (Nat.le_of_ble_eq_true rfl) dJx4a65c_add_9ea2d_20 ⟨Nat.le_of_ble_eq_true rfl, Nat.le_of_ble_eq_true rfl⟩ (fun w1 H1 locs1 hq hP1 hD1 hk hS hz => ?_)
  obtain ⟨q1, rfl⟩ := hq
  obtain ⟨hP, hD⟩ := g_joinP (X := [(lh, .inr (0, [.int (md + 1), .ref df, .int (nI 0)]))]) (cx := [(lh, .inr (0, [.int (md + 1), .ref df, .int (nI 0)]))]) (rx := [(lh, .inr (0, [.int (md + 1), .ref q1, .int (nI 1)])), (q1, .inl (cO, 10, .inr (.inr (.inr (.inr (va_up (fun _ => none) 0 (some v)))))))]) (X' := [(lh, .inr (0, [.int (md + 1), .ref q1, .int (nI 1)])), (q1, .inl (cO, 10, .inr (.inr (.inr (.inr (va_up (fun _ => none) 0 (some v)))))))]) hP hD hk hFc hP1 hD1 [0] [] [0, 1] rfl rfl (by decide) (by decide) (by decide) rfl
  clear hPc hDc hFc hP1 hD1 hk hz
  generalize H1 = H at hP hS ⊢
  have hP : va_P D ccl (([(lh, .inr (0, [.int (md + 1), .ref q1, .int (nI 1)])), (q1, .inl (cO, 10, .inr (.inr (.inr (.inr (va_up (fun _ => none) 0 (some v)))))))] : va_W) ++ tl) H := hP
  have hD : va_D A (([(lh, .inr (0, [.int (md + 1), .ref q1, .int (nI 1)])), (q1, .inl (cO, 10, .inr (.inr (.inr (.inr (va_up (fun _ => none) 0 (some v)))))))] : va_W) ++ tl) := hD
  refine lv_iconst (v := 1) hx hb dJx4a65c_add_9ea2d_23 (by decide) ?_
  refine g_zret (v := 1) hx hb hr hlk hP hK hD hS (Nat.le_of_ble_eq_true rfl) (Nat.le_of_ble_eq_true rfl) dJx4a65c_add_9ea2d_24 (by decide +kernel) ?_
  exact ⟨_, rfl, rfl⟩
