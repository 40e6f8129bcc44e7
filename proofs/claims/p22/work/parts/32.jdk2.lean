set_option maxHeartbeats 4000000 in
set_option maxRecDepth 100000 in
theorem c_Jx4a65c_rangeCheckForAdd_d00df (l : Launch) (D : va_G) (cI cJ cO : ClassId) (df sz : Nat) (lh : Nat) (md : Int32) (er : Nat) (n : Nat) (i : Nat) (hi : i ≤ n) (hn : n < 1000) : MetV l yJx4a65c_rangeCheckForAdd_d00df wsJx4a65c_rangeCheckForAdd_d00df ({ frames := 0, cells := 0, slots := 0, locals := 0 } : Room) D (gTY cI cJ cO) df [(lh, .inr (0, [.int md, .ref er, .int (nI n)]))] sz [.ref lh, .int (nI i)] (fun (wZ : va_W) => wZ = [(lh, .inr (0, [.int md, .ref er, .int (nI n)]))]) := by
  refine g_of (cc := cJx4a65c_rangeCheckForAdd_d00df) (nL := 2) (ret := none) (D := D) (TY := (gTY cI cJ cO)) (df := df) (Qc := fun A => va_Qv (fun (wZ : va_W) => wZ = [(lh, .inr (0, [.int md, .ref er, .int (nI n)]))]) (gB D (gTY cI cJ cO) A) A) (by decide +kernel) rfl (Nat.le_of_ble_eq_true rfl) ?_
  intro p e s m below meth c ls A hsz C0 hin hl
  obtain ⟨CF, hr, hlk, hA, hS, hP, hK, hD, hV, hH⟩ := C0
  have CF : CallFix p m c cJx4a65c_rangeCheckForAdd_d00df 2 s _ wsJx4a65c_rangeCheckForAdd_d00df RJx4a65c := CF
  obtain ⟨hx, hb, hml, hown, hts⟩ := id CF
  subst hsz
  have hfieldLink_RJx4a65c_48 : (Cond.fieldLink RJx4a65c 48 "java/util/ArrayList" "size" "I").before _ s = true := hts _ (List.mem_of_getElem? (i := 1) rfl)
  have inJx4a65c : ∀ w ∈ u_ws RJx4a65c TJx4a65c 3, w ∈ wsJx4a65c_rangeCheckForAdd_d00df := fun w h => (List.mem_cons_of_mem _ (List.mem_append_right _ h))
  have hP : va_P D ccl [(lh, .inr (0, [.int md, .ref er, .int (nI n)]))] s.heap := hP
  have hl : lv_has ls 2 [(0, .ref lh), (1, .int (nI i))] := hl
  refine lv_iload_n hx hb dJx4a65c_rangeCheckForAdd_d00df_0 rfl (lv_at hl 1 rfl) ?_
  refine lv_aload_n hx hb dJx4a65c_rangeCheckForAdd_d00df_1 rfl (lv_at hl 0 rfl) ?_
  refine va_get (D := D) (ci := 0) (v := .int (nI n)) (C := RJx4a65c) (T := TJx4a65c) (N := 3) hx hb hts inJx4a65c hown hK hP 0 rfl rfl 2 (by decide) hfieldLink_RJx4a65c_48 (fun _ h9 => h9) rfl dJx4a65c_rangeCheckForAdd_d00df_2 ?_
  refine lv_icmp_gt (tgt := 12) hx hb dJx4a65c_rangeCheckForAdd_d00df_5 (by decide) (fun c_5 => ?_) (fun c_5 => ?_)
  · have c_5 : n < i := g_lt (a := n) (b := i) c_5 (by omega) (by omega)
    omega
  · have c_5 : i ≤ n := g_nlt (a := n) (b := i) c_5 (by omega) (by omega)
    refine lv_iload_n hx hb dJx4a65c_rangeCheckForAdd_d00df_8 rfl (lv_at hl 1 rfl) ?_
    refine lv_if_ge (tgt := 25) hx hb dJx4a65c_rangeCheckForAdd_d00df_9 (by decide) (fun c_9 => ?_) (fun c_9 => ?_)
    · have c_9 : 0 ≤ i := g_le (a := 0) (b := i) c_9 (by omega) (by omega)
      refine g_vret hx hb hr hlk hP hK hD hS (Nat.le_of_ble_eq_true rfl) (Nat.le_of_ble_eq_true rfl) dJx4a65c_rangeCheckForAdd_d00df_25 ?_
      exact rfl
    · have c_9 : i < 0 := g_nle (a := 0) (b := i) c_9 (by omega) (by omega)
      omega

set_option maxHeartbeats 4000000 in
set_option maxRecDepth 100000 in
theorem c_Jx4a65c_add_7a177 (l : Launch) (D : va_G) (cI cJ cO : ClassId) (df sz : Nat) (lh : Nat) (md : Int32) (er : Nat) (n : Nat) (f : Nat → Option Nat) (tl : va_W) (i : Nat) (v : Nat) (hi : i ≤ n) (hn : n < 10) (hv : inT tl v) (he : ∀ k, k < n → ∀ y, f k = some y → inT tl y) : MetV l yJx4a65c_add_7a177 wsJx4a65c_add_7a177 ({ frames := 1, cells := 0, slots := 0, locals := 60 } : Room) D (gTY cI cJ cO) df (([(lh, .inr (0, [.int md, .ref er, .int (nI n)])), (er, .inl (cO, 10, .inr (.inr (.inr (.inr f)))))] : va_W) ++ tl) sz [.ref lh, .int (nI i), .ref v] (fun (wZ : va_W) => wZ = ([(lh, .inr (0, [.int (md + 1), .ref er, .int (nI (n + 1))])), (er, .inl (cO, 10, .inr (.inr (.inr (.inr (insF f i n v))))))] : va_W) ++ tl) := by
  refine g_of (cc := cJx4a65c_add_7a177) (nL := 5) (ret := none) (D := D) (TY := (gTY cI cJ cO)) (df := df) (Qc := fun A => va_Qv (fun (wZ : va_W) => wZ = ([(lh, .inr (0, [.int (md + 1), .ref er, .int (nI (n + 1))])), (er, .inl (cO, 10, .inr (.inr (.inr (.inr (insF f i n v))))))] : va_W) ++ tl) (gB D (gTY cI cJ cO) A) A) (by decide +kernel) rfl (Nat.le_of_ble_eq_true rfl) ?_
  intro p e s m below meth c ls A hsz C0 hin hl
  obtain ⟨CF, hr, hlk, hA, hS, hP, hK, hD, hV, hH⟩ := C0
  have CF : CallFix p m c cJx4a65c_add_7a177 5 s _ wsJx4a65c_add_7a177 RJx4a65c := CF
  obtain ⟨hx, hb, hml, hown, hts⟩ := id CF
  subst hsz
  have hmethodLink_RJx4a65c_135 : (Cond.methodLink RJx4a65c 135 yJx4a65c_rangeCheckForAdd_d00df).before _ s = true := hts _ (List.mem_of_getElem? (i := 9) rfl)
  have hfieldLink_RJx4a65c_63 : (Cond.fieldLink RJx4a65c 63 "java/util/ArrayList" "modCount" "I").before _ s = true := hts _ (List.mem_of_getElem? (i := 1) rfl)
  have hsameField_java_util_ArrayList_java_util_AbstractList_modCount_I : (Cond.sameField "java/util/ArrayList" "java/util/AbstractList" "modCount" "I").before _ s = true := hts _ (List.mem_of_getElem? (i := 2) rfl)
  have hfieldLink_RJx4a65c_48 : (Cond.fieldLink RJx4a65c 48 "java/util/ArrayList" "size" "I").before _ s = true := hts _ (List.mem_of_getElem? (i := 3) rfl)
  have hfieldLink_RJx4a65c_9 : (Cond.fieldLink RJx4a65c 9 "java/util/ArrayList" "elementData" "[Ljava/lang/Object;").before _ s = true := hts _ (List.mem_of_getElem? (i := 4) rfl)
  have hmethodLink_RJx4a65c_112 : (Cond.methodLink RJx4a65c 112 arraycopyName).before _ s = true := hts _ (List.mem_of_getElem? (i := 5) rfl)
  have hnative_arraycopyName : (Cond.native arraycopyName).before _ s = true := hts _ (List.mem_of_getElem? (i := 6) rfl)
  have hstatic_arraycopyName : (Cond.static arraycopyName).before _ s = true := hts _ (List.mem_of_getElem? (i := 7) rfl)
  have hinitialized_java_lang_System : (Cond.initialized "java/lang/System").before _ s = true := hts _ (List.mem_of_getElem? (i := 8) rfl)
  have inJx4a65c : ∀ w ∈ u_ws RJx4a65c TJx4a65c 3, w ∈ wsJx4a65c_add_7a177 := fun w h => (List.mem_cons_of_mem _ (List.mem_append_right _ h))
  have hP : va_P D ccl (([(lh, .inr (0, [.int md, .ref er, .int (nI n)])), (er, .inl (cO, 10, .inr (.inr (.inr (.inr f)))))] : va_W) ++ tl) s.heap := hP
  have hl : lv_has ls 5 [(0, .ref lh), (1, .int (nI i)), (2, .ref v)] := hl
  refine lv_aload_n hx hb dJx4a65c_add_7a177_0 rfl (lv_at hl 0 rfl) ?_
  refine lv_iload_n hx hb dJx4a65c_add_7a177_1 rfl (lv_at hl 1 rfl) ?_
  have hPc := hP.sub (ws' := [(lh, .inr (0, [.int md, .ref er, .int (nI n)]))]) [0] rfl
  have hDc := hD.sub (ws' := [(lh, .inr (0, [.int md, .ref er, .int (nI n)]))]) [0] (by decide) rfl
  have hFc := va_free (wc := [(lh, .inr (0, [.int md, .ref er, .int (nI n)]))]) hD hS hA [0] rfl
  refine g_Vv (As := [.int (nI i)]) (rest := []) CF (c_Jx4a65c_rangeCheckForAdd_d00df l D cI cJ cO df s.heap.size lh md er n i hi (by omega)) (cwV 1 hts gJx4a65c_add_7a177_Jx4a65c_rangeCheckForAdd_d00df rfl rfl rfl (by decide +kernel) ⟨Nat.le_of_ble_eq_true rfl, Nat.le_of_ble_eq_true rfl⟩) (va_recv hK hP (ci := 0) (q0 := 0) rfl rfl) hPc hK hDc hV hH hS hFc rfl hl.1 rfl (Nat.le_of_ble_eq_true rfl) dJx4a65c_add_7a177_2 ⟨Nat.le_of_ble_eq_true rfl, Nat.le_of_ble_eq_true rfl⟩ (fun w1 H1 locs1 hq hP1 hD1 hk hS hz => ?_)
  obtain rfl := hq
  have hP := g_keepR hP hD [0] rfl hk hP1
  clear hPc hDc hFc hP1 hD1 hk hz
  generalize H1 = H at hP hS ⊢
  have hP : va_P D ccl (([(lh, .inr (0, [.int md, .ref er, .int (nI n)])), (er, .inl (cO, 10, .inr (.inr (.inr (.inr f)))))] : va_W) ++ tl) H := hP
  have hD : va_D A (([(lh, .inr (0, [.int md, .ref er, .int (nI n)])), (er, .inl (cO, 10, .inr (.inr (.inr (.inr f)))))] : va_W) ++ tl) := hD
  refine lv_aload_n hx hb dJx4a65c_add_7a177_5 rfl (lv_at hl 0 rfl) ?_
  refine lv_dup hx hb dJx4a65c_add_7a177_6 rfl ?_
  refine va_get (D := D) (ci := 0) (v := .int md) (C := RJx4a65c) (T := TJx4a65c) (N := 3) hx hb hts inJx4a65c hown hK hP 0 rfl rfl 0 (by decide) hfieldLink_RJx4a65c_63 (u_same hsameField_java_util_ArrayList_java_util_AbstractList_modCount_I) rfl dJx4a65c_add_7a177_7 ?_
  refine lv_iconst (v := 1) hx hb dJx4a65c_add_7a177_10 (by decide) ?_
  refine lv_iadd hx hb dJx4a65c_add_7a177_11 ?_
  refine va_put (D := D) (ci := 0) (v := .int (md + 1)) (ty := .int) (C := RJx4a65c) (T := TJx4a65c) (N := 3) hx hb hts inJx4a65c tyJx4a65c tyJx4a65c_ok nmJx4a65c hown hK hP hD hS 0 rfl rfl 0 (by decide) hfieldLink_RJx4a65c_63 (u_same hsameField_java_util_ArrayList_java_util_AbstractList_modCount_I) rfl (by decide +kernel) rfl rfl (Nat.le_of_ble_eq_true rfl) dJx4a65c_add_7a177_12 (fun H locs hP hD hS => ?_)
  have hP : va_P D ccl (([(lh, .inr (0, [.int (md + 1), .ref er, .int (nI n)])), (er, .inl (cO, 10, .inr (.inr (.inr (.inr f)))))] : va_W) ++ tl) H := hP
  have hD : va_D A (([(lh, .inr (0, [.int (md + 1), .ref er, .int (nI n)])), (er, .inl (cO, 10, .inr (.inr (.inr (.inr f)))))] : va_W) ++ tl) := hD
  refine lv_aload_n hx hb dJx4a65c_add_7a177_15 rfl (lv_at hl 0 rfl) ?_
  refine va_get (D := D) (ci := 0) (v := .int (nI n)) (C := RJx4a65c) (T := TJx4a65c) (N := 3) hx hb hts inJx4a65c hown hK hP 0 rfl rfl 2 (by decide) hfieldLink_RJx4a65c_48 (fun _ h9 => h9) rfl dJx4a65c_add_7a177_16 ?_
  refine lv_dup hx hb dJx4a65c_add_7a177_19 rfl ?_
  refine lv_istore_n (lv' := [(3, .int (nI n)), (0, .ref lh), (1, .int (nI i)), (2, .ref v)]) hx hb dJx4a65c_add_7a177_20 rfl hl (by decide) rfl (fun ls hl => ?_)
  refine lv_aload_n hx hb dJx4a65c_add_7a177_21 rfl (lv_at hl 1 rfl) ?_
  refine va_get (D := D) (ci := 0) (v := .ref er) (C := RJx4a65c) (T := TJx4a65c) (N := 3) hx hb hts inJx4a65c hown hK hP 0 rfl rfl 1 (by decide) hfieldLink_RJx4a65c_9 (fun _ h9 => h9) rfl dJx4a65c_add_7a177_22 ?_
  refine lv_dup hx hb dJx4a65c_add_7a177_25 rfl ?_
  refine lv_astore (lv' := [(4, .ref er), (3, .int (nI n)), (0, .ref lh), (1, .int (nI i)), (2, .ref v)]) hx hb dJx4a65c_add_7a177_26 hl (by decide) rfl (fun ls hl => ?_)
  refine va_alen (v := 10) hx hb hK hP 1 2 rfl rfl rfl dJx4a65c_add_7a177_28 ?_
  refine lv_icmp_ne (tgt := 38) hx hb dJx4a65c_add_7a177_29 (by decide) (fun c_29 => ?_) (fun c_29 => ?_)
  · have c_29 : n ≠ 10 := g_ne (a := n) (b := 10) c_29 (by omega) (by omega)
    refine lv_aload hx hb dJx4a65c_add_7a177_38 (lv_at hl 0 rfl) ?_
    refine lv_iload_n hx hb dJx4a65c_add_7a177_40 rfl (lv_at hl 3 rfl) ?_
    refine lv_aload hx hb dJx4a65c_add_7a177_41 (lv_at hl 0 rfl) ?_
    refine lv_iload_n hx hb dJx4a65c_add_7a177_43 rfl (lv_at hl 3 rfl) ?_
    refine lv_iconst (v := 1) hx hb dJx4a65c_add_7a177_44 (by decide) ?_
    refine lv_iadd hx hb dJx4a65c_add_7a177_45 ?_
    refine lv_topi (fun f ef => ?_)
    obtain rfl : f = nI (i + 1) := ef.trans (nI_add _ _)
    refine lv_iload_n hx hb dJx4a65c_add_7a177_46 rfl (lv_at hl 1 rfl) ?_
    refine lv_iload_n hx hb dJx4a65c_add_7a177_47 rfl (lv_at hl 3 rfl) ?_
    refine lv_isub hx hb dJx4a65c_add_7a177_48 ?_
    refine lv_topi (fun f ef => ?_)
    obtain rfl : f = nI (n - i) := ef.trans (pk_sub (a := n) (b := i) hi)
    refine va_copyM hx hb (by rw [hml]; exact hl.1.symm) hown hmethodLink_RJx4a65c_112 hnative_arraycopyName hstatic_arraycopyName hinitialized_java_lang_System hK hP hD hS 1 1 2 2 rfl rfl rfl rfl (nI_pos (by omega)) (nI_pos (by omega)) (nI_pos (by omega)) (by rw [nI_clamp (by omega), nI_clamp (by omega)]; omega) (by rw [nI_clamp (by omega), nI_clamp (by omega)]; omega) (fun k hk y hy => by rw [nI_clamp (by omega)] at hk hy; exact (he _ (by omega) y hy).any hV hK hP) (Nat.le_of_ble_eq_true rfl) (Nat.le_of_ble_eq_true rfl) dJx4a65c_add_7a177_49 (fun H locs hP hD hS => ?_)
    rw [show va_cpy f f ((nI i).toNatClampNeg) ((nI (i + 1)).toNatClampNeg) ((nI (n - i)).toNatClampNeg) = va_cpy f f i (i + 1) (n - i) from by rw [nI_clamp (n := i) (by omega), nI_clamp (n := i + 1) (by omega), nI_clamp (n := n - i) (by omega)]] at hP hD
    have hP : va_P D ccl (([(lh, .inr (0, [.int (md + 1), .ref er, .int (nI n)])), (er, .inl (cO, 10, .inr (.inr (.inr (.inr (va_cpy f f i (i + 1) (n - i)))))))] : va_W) ++ tl) H := hP
    have hD : va_D A (([(lh, .inr (0, [.int (md + 1), .ref er, .int (nI n)])), (er, .inl (cO, 10, .inr (.inr (.inr (.inr (va_cpy f f i (i + 1) (n - i)))))))] : va_W) ++ tl) := hD
    refine lv_aload hx hb dJx4a65c_add_7a177_52 (lv_at hl 0 rfl) ?_
    refine lv_iload_n hx hb dJx4a65c_add_7a177_54 rfl (lv_at hl 3 rfl) ?_
    refine lv_aload_n hx hb dJx4a65c_add_7a177_55 rfl (lv_at hl 4 rfl) ?_
    refine va_astqM (E := "java/lang/Object") hx hb hK hP hD hS 1 2 rfl rfl (hv.any hV hK hP) (vp_in_nI (by omega) (by omega)) dJx4a65c_add_7a177_56 (fun H locs hP hD hS => ?_)
    rw [show (nI i).toNatClampNeg = i from (nI_clamp (by omega))] at hP hD
    rw [show va_up (va_cpy f f i (i + 1) (n - i)) i (some v) = insF f i n v from insF_eq hi] at hP hD
    have hP : va_P D ccl (([(lh, .inr (0, [.int (md + 1), .ref er, .int (nI n)])), (er, .inl (cO, 10, .inr (.inr (.inr (.inr (insF f i n v))))))] : va_W) ++ tl) H := hP
    have hD : va_D A (([(lh, .inr (0, [.int (md + 1), .ref er, .int (nI n)])), (er, .inl (cO, 10, .inr (.inr (.inr (.inr (insF f i n v))))))] : va_W) ++ tl) := hD
    refine lv_aload_n hx hb dJx4a65c_add_7a177_57 rfl (lv_at hl 2 rfl) ?_
    refine lv_iload_n hx hb dJx4a65c_add_7a177_58 rfl (lv_at hl 1 rfl) ?_
    refine lv_iconst (v := 1) hx hb dJx4a65c_add_7a177_59 (by decide) ?_
    refine lv_iadd hx hb dJx4a65c_add_7a177_60 ?_
    refine lv_topi (fun f ef => ?_)
    obtain rfl : f = nI (n + 1) := ef.trans (nI_add _ _)
    refine va_put (D := D) (ci := 0) (v := .int (nI (n + 1))) (ty := .int) (C := RJx4a65c) (T := TJx4a65c) (N := 3) hx hb hts inJx4a65c tyJx4a65c tyJx4a65c_ok nmJx4a65c hown hK hP hD hS 0 rfl rfl 2 (by decide) hfieldLink_RJx4a65c_48 (fun _ h9 => h9) rfl (by decide +kernel) rfl rfl (Nat.le_of_ble_eq_true rfl) dJx4a65c_add_7a177_61 (fun H locs hP hD hS => ?_)
    have hP : va_P D ccl (([(lh, .inr (0, [.int (md + 1), .ref er, .int (nI (n + 1))])), (er, .inl (cO, 10, .inr (.inr (.inr (.inr (insF f i n v))))))] : va_W) ++ tl) H := hP
    have hD : va_D A (([(lh, .inr (0, [.int (md + 1), .ref er, .int (nI (n + 1))])), (er, .inl (cO, 10, .inr (.inr (.inr (.inr (insF f i n v))))))] : va_W) ++ tl) := hD
    refine g_vret hx hb hr hlk hP hK hD hS (Nat.le_of_ble_eq_true rfl) (Nat.le_of_ble_eq_true rfl) dJx4a65c_add_7a177_64 ?_
    exact rfl
  · have c_29 : n = 10 := g_eq (a := n) (b := 10) c_29 (by omega) (by omega)
    omega

set_option maxHeartbeats 4000000 in
set_option maxRecDepth 100000 in
theorem c_Jx4a65c_add_7a177_e (l : Launch) (D : va_G) (cI cJ cO : ClassId) (df sz : Nat) (lh : Nat) (md : Int32) (tl : va_W) (v : Nat) (hv : inT tl v) : MetV l yJx4a65c_add_7a177 wsJx4a65c_add_7a177 ({ frames := 3, cells := 1, slots := 10, locals := 73 } : Room) D (gTY cI cJ cO) df (([(lh, .inr (0, [.int md, .ref df, .int (nI 0)]))] : va_W) ++ tl) sz [.ref lh, .int (nI 0), .ref v] (fun (wZ : va_W) => ∃ (q1 : Nat), wZ = ([(lh, .inr (0, [.int (md + 1), .ref q1, .int (nI 1)])), (q1, .inl (cO, 10, .inr (.inr (.inr (.inr (insF (fun _ => none) 0 0 v))))))] : va_W) ++ tl) := by
  refine g_of (cc := cJx4a65c_add_7a177) (nL := 5) (ret := none) (D := D) (TY := (gTY cI cJ cO)) (df := df) (Qc := fun A => va_Qv (fun (wZ : va_W) => ∃ (q1 : Nat), wZ = ([(lh, .inr (0, [.int (md + 1), .ref q1, .int (nI 1)])), (q1, .inl (cO, 10, .inr (.inr (.inr (.inr (insF (fun _ => none) 0 0 v))))))] : va_W) ++ tl) (gB D (gTY cI cJ cO) A) A) (by decide +kernel) rfl (Nat.le_of_ble_eq_true rfl) ?_
  intro p e s m below meth c ls A hsz C0 hin hl
  obtain ⟨CF, hr, hlk, hA, hS, hP, hK, hD, hV, hH⟩ := C0
  have CF : CallFix p m c cJx4a65c_add_7a177 5 s _ wsJx4a65c_add_7a177 RJx4a65c := CF
  obtain ⟨hx, hb, hml, hown, hts⟩ := id CF
  subst hsz
  have hmethodLink_RJx4a65c_135 : (Cond.methodLink RJx4a65c 135 yJx4a65c_rangeCheckForAdd_d00df).before _ s = true := hts _ (List.mem_of_getElem? (i := 9) rfl)
  have hfieldLink_RJx4a65c_63 : (Cond.fieldLink RJx4a65c 63 "java/util/ArrayList" "modCount" "I").before _ s = true := hts _ (List.mem_of_getElem? (i := 1) rfl)
  have hsameField_java_util_ArrayList_java_util_AbstractList_modCount_I : (Cond.sameField "java/util/ArrayList" "java/util/AbstractList" "modCount" "I").before _ s = true := hts _ (List.mem_of_getElem? (i := 2) rfl)
  have hfieldLink_RJx4a65c_48 : (Cond.fieldLink RJx4a65c 48 "java/util/ArrayList" "size" "I").before _ s = true := hts _ (List.mem_of_getElem? (i := 3) rfl)
  have hfieldLink_RJx4a65c_9 : (Cond.fieldLink RJx4a65c 9 "java/util/ArrayList" "elementData" "[Ljava/lang/Object;").before _ s = true := hts _ (List.mem_of_getElem? (i := 4) rfl)
  have hmethodLink_RJx4a65c_129 : (Cond.methodLink RJx4a65c 129 yJx4a65c_grow_d5877).before _ s = true := hts _ (List.mem_of_getElem? (i := 14) rfl)
  have hmethodLink_RJx4a65c_112 : (Cond.methodLink RJx4a65c 112 arraycopyName).before _ s = true := hts _ (List.mem_of_getElem? (i := 5) rfl)
  have hnative_arraycopyName : (Cond.native arraycopyName).before _ s = true := hts _ (List.mem_of_getElem? (i := 6) rfl)
  have hstatic_arraycopyName : (Cond.static arraycopyName).before _ s = true := hts _ (List.mem_of_getElem? (i := 7) rfl)
  have hinitialized_java_lang_System : (Cond.initialized "java/lang/System").before _ s = true := hts _ (List.mem_of_getElem? (i := 8) rfl)
  have inJx4a65c : ∀ w ∈ u_ws RJx4a65c TJx4a65c 3, w ∈ wsJx4a65c_add_7a177 := fun w h => (List.mem_cons_of_mem _ (List.mem_append_right _ h))
  have hP : va_P D ccl (([(lh, .inr (0, [.int md, .ref df, .int (nI 0)]))] : va_W) ++ tl) s.heap := hP
  have hl : lv_has ls 5 [(0, .ref lh), (1, .int (nI 0)), (2, .ref v)] := hl
  refine lv_aload_n hx hb dJx4a65c_add_7a177_0 rfl (lv_at hl 0 rfl) ?_
  refine lv_iload_n hx hb dJx4a65c_add_7a177_1 rfl (lv_at hl 1 rfl) ?_
  have hPc := hP.sub (ws' := [(lh, .inr (0, [.int md, .ref df, .int (nI 0)]))]) [0] rfl
  have hDc := hD.sub (ws' := [(lh, .inr (0, [.int md, .ref df, .int (nI 0)]))]) [0] (by decide) rfl
  have hFc := va_free (wc := [(lh, .inr (0, [.int md, .ref df, .int (nI 0)]))]) hD hS hA [0] rfl
  refine g_Vv (As := [.int (nI 0)]) (rest := []) CF (c_Jx4a65c_rangeCheckForAdd_d00df l D cI cJ cO df s.heap.size lh md df 0 0 (Nat.le_refl 0) (by decide)) (cwV 1 hts gJx4a65c_add_7a177_Jx4a65c_rangeCheckForAdd_d00df rfl rfl rfl (by decide +kernel) ⟨Nat.le_of_ble_eq_true rfl, Nat.le_of_ble_eq_true rfl⟩) (va_recv hK hP (ci := 0) (q0 := 0) rfl rfl) hPc hK hDc hV hH hS hFc rfl hl.1 rfl (Nat.le_of_ble_eq_true rfl) dJx4a65c_add_7a177_2 ⟨Nat.le_of_ble_eq_true rfl, Nat.le_of_ble_eq_true rfl⟩ (fun w1 H1 locs1 hq hP1 hD1 hk hS hz => ?_)
  obtain rfl := hq
  have hP := g_keepR hP hD [0] rfl hk hP1
  clear hPc hDc hFc hP1 hD1 hk hz
  generalize H1 = H at hP hS ⊢
  have hP : va_P D ccl (([(lh, .inr (0, [.int md, .ref df, .int (nI 0)]))] : va_W) ++ tl) H := hP
  have hD : va_D A (([(lh, .inr (0, [.int md, .ref df, .int (nI 0)]))] : va_W) ++ tl) := hD
  refine lv_aload_n hx hb dJx4a65c_add_7a177_5 rfl (lv_at hl 0 rfl) ?_
  refine lv_dup hx hb dJx4a65c_add_7a177_6 rfl ?_
  refine va_get (D := D) (ci := 0) (v := .int md) (C := RJx4a65c) (T := TJx4a65c) (N := 3) hx hb hts inJx4a65c hown hK hP 0 rfl rfl 0 (by decide) hfieldLink_RJx4a65c_63 (u_same hsameField_java_util_ArrayList_java_util_AbstractList_modCount_I) rfl dJx4a65c_add_7a177_7 ?_
  refine lv_iconst (v := 1) hx hb dJx4a65c_add_7a177_10 (by decide) ?_
  refine lv_iadd hx hb dJx4a65c_add_7a177_11 ?_
  refine va_put (D := D) (ci := 0) (v := .int (md + 1)) (ty := .int) (C := RJx4a65c) (T := TJx4a65c) (N := 3) hx hb hts inJx4a65c tyJx4a65c tyJx4a65c_ok nmJx4a65c hown hK hP hD hS 0 rfl rfl 0 (by decide) hfieldLink_RJx4a65c_63 (u_same hsameField_java_util_ArrayList_java_util_AbstractList_modCount_I) rfl (by decide +kernel) rfl rfl (Nat.le_of_ble_eq_true rfl) dJx4a65c_add_7a177_12 (fun H locs hP hD hS => ?_)
  have hP : va_P D ccl (([(lh, .inr (0, [.int (md + 1), .ref df, .int (nI 0)]))] : va_W) ++ tl) H := hP
  have hD : va_D A (([(lh, .inr (0, [.int (md + 1), .ref df, .int (nI 0)]))] : va_W) ++ tl) := hD
  refine lv_aload_n hx hb dJx4a65c_add_7a177_15 rfl (lv_at hl 0 rfl) ?_
  refine va_get (D := D) (ci := 0) (v := .int (nI 0)) (C := RJx4a65c) (T := TJx4a65c) (N := 3) hx hb hts inJx4a65c hown hK hP 0 rfl rfl 2 (by decide) hfieldLink_RJx4a65c_48 (fun _ h9 => h9) rfl dJx4a65c_add_7a177_16 ?_
  refine lv_dup hx hb dJx4a65c_add_7a177_19 rfl ?_
  refine lv_istore_n (lv' := [(3, .int (nI 0)), (0, .ref lh), (1, .int (nI 0)), (2, .ref v)]) hx hb dJx4a65c_add_7a177_20 rfl hl (by decide) rfl (fun ls hl => ?_)
  refine lv_aload_n hx hb dJx4a65c_add_7a177_21 rfl (lv_at hl 1 rfl) ?_
  refine va_get (D := D) (ci := 0) (v := .ref df) (C := RJx4a65c) (T := TJx4a65c) (N := 3) hx hb hts inJx4a65c hown hK hP 0 rfl rfl 1 (by decide) hfieldLink_RJx4a65c_9 (fun _ h9 => h9) rfl dJx4a65c_add_7a177_22 ?_
  refine lv_dup hx hb dJx4a65c_add_7a177_25 rfl ?_
  refine lv_astore (lv' := [(4, .ref df), (3, .int (nI 0)), (0, .ref lh), (1, .int (nI 0)), (2, .ref v)]) hx hb dJx4a65c_add_7a177_26 hl (by decide) rfl (fun ls hl => ?_)
  refine va_tlen (v := 0) hx hb hH.2.2.2 hS rfl dJx4a65c_add_7a177_28 ?_
  refine lv_icmp_ne (tgt := 38) hx hb dJx4a65c_add_7a177_29 (by decide) (fun c_29 => ?_) (fun c_29 => ?_)
  · have c_29 : 0 ≠ 0 := g_ne (a := 0) (b := 0) c_29 (by omega) (by omega)
    exact absurd rfl c_29
  · have c_29 : 0 = 0 := g_eq (a := 0) (b := 0) c_29 (by omega) (by omega)
    refine lv_aload_n hx hb dJx4a65c_add_7a177_32 rfl (lv_at hl 2 rfl) ?_
    have hPc := hP.sub (ws' := [(lh, .inr (0, [.int (md + 1), .ref df, .int (nI 0)]))]) [0] rfl
    have hDc := hD.sub (ws' := [(lh, .inr (0, [.int (md + 1), .ref df, .int (nI 0)]))]) [0] (by decide) rfl
    have hFc := va_free (wc := [(lh, .inr (0, [.int (md + 1), .ref df, .int (nI 0)]))]) hD hS hA [0] rfl
    refine g_Vr (As := []) (rest := []) CF (c_Jx4a65c_grow_d5877 l D cI cJ cO df H.size lh (md + 1) ) (cwV 0 hts gJx4a65c_add_7a177_Jx4a65c_grow_d5877 rfl rfl rfl (by decide +kernel) ⟨Nat.le_of_ble_eq_true rfl, Nat.le_of_ble_eq_true rfl⟩) (va_recv hK hP (ci := 0) (q0 := 0) rfl rfl) hPc hK hDc hV hH hS hFc rfl hl.1 rfl (Nat.le_of_ble_eq_true rfl) dJx4a65c_add_7a177_33 ⟨Nat.le_of_ble_eq_true rfl, Nat.le_of_ble_eq_true rfl⟩ (fun w1 H1 locs1 hq hP1 hD1 hk hS hz => ?_)
    obtain ⟨w1, a1⟩ := w1
    obtain ⟨q1, ew1, hr_33⟩ := hq
    dsimp only at ew1 hP1 hD1 hr_33
    subst ew1
    obtain ⟨hP, hD⟩ := g_joinQ (X := [(lh, .inr (0, [.int (md + 1), .ref df, .int (nI 0)]))]) (X' := [(lh, .inr (0, [.int (md + 1), .ref q1, .int (nI 0)])), (q1, .inl (cO, 10, .inr (.inr (.inr (.inr (fun _ => none))))))]) hP hD hk hFc hP1 hD1 [0] [] [0, 1] rfl rfl (by decide) (by decide) (by decide) rfl
    clear hPc hDc hFc hP1 hD1 hk hz
    generalize H1 = H at hP hS ⊢
    have hP : va_P D ccl (([(lh, .inr (0, [.int (md + 1), .ref q1, .int (nI 0)])), (q1, .inl (cO, 10, .inr (.inr (.inr (.inr (fun _ => none))))))] : va_W) ++ tl) H := hP
    have hD : va_D A (([(lh, .inr (0, [.int (md + 1), .ref q1, .int (nI 0)])), (q1, .inl (cO, 10, .inr (.inr (.inr (.inr (fun _ => none))))))] : va_W) ++ tl) := hD
    have hr_33 := hr_33.symm
    subst hr_33
    refine lv_astore (lv' := [(4, .ref q1), (3, .int (nI 0)), (0, .ref lh), (1, .int (nI 0)), (2, .ref v)]) hx hb dJx4a65c_add_7a177_36 hl (by decide) rfl (fun ls hl => ?_)
    refine lv_aload hx hb dJx4a65c_add_7a177_38 (lv_at hl 0 rfl) ?_
    refine lv_iload_n hx hb dJx4a65c_add_7a177_40 rfl (lv_at hl 3 rfl) ?_
    refine lv_aload hx hb dJx4a65c_add_7a177_41 (lv_at hl 0 rfl) ?_
    refine lv_iload_n hx hb dJx4a65c_add_7a177_43 rfl (lv_at hl 3 rfl) ?_
    refine lv_iconst (v := 1) hx hb dJx4a65c_add_7a177_44 (by decide) ?_
    refine lv_iadd hx hb dJx4a65c_add_7a177_45 ?_
    refine lv_topi (fun f ef => ?_)
    obtain rfl : f = nI (0 + 1) := ef.trans (nI_add _ _)
    refine lv_iload_n hx hb dJx4a65c_add_7a177_46 rfl (lv_at hl 1 rfl) ?_
    refine lv_iload_n hx hb dJx4a65c_add_7a177_47 rfl (lv_at hl 3 rfl) ?_
    refine lv_isub hx hb dJx4a65c_add_7a177_48 ?_
    refine lv_topi (fun f ef => ?_)
    obtain rfl : f = nI 0 := ef.trans (by decide)
    refine va_copyM hx hb (by rw [hml]; exact hl.1.symm) hown hmethodLink_RJx4a65c_112 hnative_arraycopyName hstatic_arraycopyName hinitialized_java_lang_System hK hP hD hS 1 1 2 2 rfl rfl rfl rfl (by decide) (by decide) (by decide) (by decide) (by decide) (fun k hk y hy => absurd hk (by rw [nI_clamp (by decide)]; exact Nat.not_lt_zero k)) (Nat.le_of_ble_eq_true rfl) (Nat.le_of_ble_eq_true rfl) dJx4a65c_add_7a177_49 (fun H locs hP hD hS => ?_)
    rw [show va_cpy (fun _ => none) (fun _ => none) ((nI 0).toNatClampNeg) ((nI (0 + 1)).toNatClampNeg) ((nI 0).toNatClampNeg) = va_cpy (fun _ => none) (fun _ => none) 0 (0 + 1) (0 - 0) from by rw [nI_clamp (n := 0) (by decide), nI_clamp (n := 0 + 1) (by decide)]] at hP hD
    have hP : va_P D ccl (([(lh, .inr (0, [.int (md + 1), .ref q1, .int (nI 0)])), (q1, .inl (cO, 10, .inr (.inr (.inr (.inr (va_cpy (fun _ => none) (fun _ => none) 0 (0 + 1) (0 - 0)))))))] : va_W) ++ tl) H := hP
    have hD : va_D A (([(lh, .inr (0, [.int (md + 1), .ref q1, .int (nI 0)])), (q1, .inl (cO, 10, .inr (.inr (.inr (.inr (va_cpy (fun _ => none) (fun _ => none) 0 (0 + 1) (0 - 0)))))))] : va_W) ++ tl) := hD
    refine lv_aload hx hb dJx4a65c_add_7a177_52 (lv_at hl 0 rfl) ?_
    refine lv_iload_n hx hb dJx4a65c_add_7a177_54 rfl (lv_at hl 3 rfl) ?_
    refine lv_aload_n hx hb dJx4a65c_add_7a177_55 rfl (lv_at hl 4 rfl) ?_
    refine va_astqM (E := "java/lang/Object") hx hb hK hP hD hS 1 2 rfl rfl (hv.any hV hK hP) (by unfold vp_in; decide) dJx4a65c_add_7a177_56 (fun H locs hP hD hS => ?_)
    rw [show ((nI 0 : Int32)).toNatClampNeg = 0 from (by decide)] at hP hD
    rw [show va_up (va_cpy (fun _ => none) (fun _ => none) 0 (0 + 1) (0 - 0)) 0 (some v) = insF (fun _ => none) 0 0 v from insF_eq (Nat.le_refl 0)] at hP hD
    have hP : va_P D ccl (([(lh, .inr (0, [.int (md + 1), .ref q1, .int (nI 0)])), (q1, .inl (cO, 10, .inr (.inr (.inr (.inr (insF (fun _ => none) 0 0 v))))))] : va_W) ++ tl) H := hP
    have hD : va_D A (([(lh, .inr (0, [.int (md + 1), .ref q1, .int (nI 0)])), (q1, .inl (cO, 10, .inr (.inr (.inr (.inr (insF (fun _ => none) 0 0 v))))))] : va_W) ++ tl) := hD
    refine lv_aload_n hx hb dJx4a65c_add_7a177_57 rfl (lv_at hl 2 rfl) ?_
    refine lv_iload_n hx hb dJx4a65c_add_7a177_58 rfl (lv_at hl 1 rfl) ?_
    refine lv_iconst (v := 1) hx hb dJx4a65c_add_7a177_59 (by decide) ?_
    refine lv_iadd hx hb dJx4a65c_add_7a177_60 ?_
    refine lv_topi (fun f ef => ?_)
    obtain rfl : f = nI (0 + 1) := ef.trans (nI_add _ _)
    refine va_put (D := D) (ci := 0) (v := .int (nI (0 + 1))) (ty := .int) (C := RJx4a65c) (T := TJx4a65c) (N := 3) hx hb hts inJx4a65c tyJx4a65c tyJx4a65c_ok nmJx4a65c hown hK hP hD hS 0 rfl rfl 2 (by decide) hfieldLink_RJx4a65c_48 (fun _ h9 => h9) rfl (by decide +kernel) rfl rfl (Nat.le_of_ble_eq_true rfl) dJx4a65c_add_7a177_61 (fun H locs hP hD hS => ?_)
    have hP : va_P D ccl (([(lh, .inr (0, [.int (md + 1), .ref q1, .int (nI (0 + 1))])), (q1, .inl (cO, 10, .inr (.inr (.inr (.inr (insF (fun _ => none) 0 0 v))))))] : va_W) ++ tl) H := hP
    have hD : va_D A (([(lh, .inr (0, [.int (md + 1), .ref q1, .int (nI (0 + 1))])), (q1, .inl (cO, 10, .inr (.inr (.inr (.inr (insF (fun _ => none) 0 0 v))))))] : va_W) ++ tl) := hD
    refine g_vret hx hb hr hlk hP hK hD hS (Nat.le_of_ble_eq_true rfl) (Nat.le_of_ble_eq_true rfl) dJx4a65c_add_7a177_64 ?_
    exact ⟨_, rfl⟩

set_option maxHeartbeats 4000000 in
set_option maxRecDepth 100000 in
theorem c_Jx4a65c_fastRemove_b59b0 (l : Launch) (D : va_G) (cI cJ cO : ClassId) (df sz : Nat) (lh : Nat) (md : Int32) (er : Nat) (n : Nat) (f : Nat → Option Nat) (tl : va_W) (i : Nat) (hi : i < n) (hn : n ≤ 10) (he : ∀ k, k < n → ∀ y, f k = some y → inT tl y) : MetV l yJx4a65c_fastRemove_b59b0 wsJx4a65c_fastRemove_b59b0 ({ frames := 1, cells := 0, slots := 0, locals := 60 } : Room) D (gTY cI cJ cO) df (([(lh, .inr (0, [.int md, .ref er, .int (nI n)])), (er, .inl (cO, 10, .inr (.inr (.inr (.inr f)))))] : va_W) ++ tl) sz [.ref lh, .ref er, .int (nI i)] (fun (wZ : va_W) => wZ = ([(lh, .inr (0, [.int (md + 1), .ref er, .int (nI (n - 1))])), (er, .inl (cO, 10, .inr (.inr (.inr (.inr (rmF f i n))))))] : va_W) ++ tl) := by
  refine g_of (cc := cJx4a65c_fastRemove_b59b0) (nL := 4) (ret := none) (D := D) (TY := (gTY cI cJ cO)) (df := df) (Qc := fun A => va_Qv (fun (wZ : va_W) => wZ = ([(lh, .inr (0, [.int (md + 1), .ref er, .int (nI (n - 1))])), (er, .inl (cO, 10, .inr (.inr (.inr (.inr (rmF f i n))))))] : va_W) ++ tl) (gB D (gTY cI cJ cO) A) A) (by decide +kernel) rfl (Nat.le_of_ble_eq_true rfl) ?_
  intro p e s m below meth c ls A hsz C0 hin hl
  obtain ⟨CF, hr, hlk, hA, hS, hP, hK, hD, hV, hH⟩ := C0
  have CF : CallFix p m c cJx4a65c_fastRemove_b59b0 4 s _ wsJx4a65c_fastRemove_b59b0 RJx4a65c := CF
  obtain ⟨hx, hb, hml, hown, hts⟩ := id CF
  subst hsz
  have hfieldLink_RJx4a65c_63 : (Cond.fieldLink RJx4a65c 63 "java/util/ArrayList" "modCount" "I").before _ s = true := hts _ (List.mem_of_getElem? (i := 1) rfl)
  have hsameField_java_util_ArrayList_java_util_AbstractList_modCount_I : (Cond.sameField "java/util/ArrayList" "java/util/AbstractList" "modCount" "I").before _ s = true := hts _ (List.mem_of_getElem? (i := 2) rfl)
  have hfieldLink_RJx4a65c_48 : (Cond.fieldLink RJx4a65c 48 "java/util/ArrayList" "size" "I").before _ s = true := hts _ (List.mem_of_getElem? (i := 3) rfl)
  have hmethodLink_RJx4a65c_112 : (Cond.methodLink RJx4a65c 112 arraycopyName).before _ s = true := hts _ (List.mem_of_getElem? (i := 4) rfl)
  have hnative_arraycopyName : (Cond.native arraycopyName).before _ s = true := hts _ (List.mem_of_getElem? (i := 5) rfl)
  have hstatic_arraycopyName : (Cond.static arraycopyName).before _ s = true := hts _ (List.mem_of_getElem? (i := 6) rfl)
  have hinitialized_java_lang_System : (Cond.initialized "java/lang/System").before _ s = true := hts _ (List.mem_of_getElem? (i := 7) rfl)
  have inJx4a65c : ∀ w ∈ u_ws RJx4a65c TJx4a65c 3, w ∈ wsJx4a65c_fastRemove_b59b0 := fun w h => (List.mem_cons_of_mem _ (List.mem_append_right _ h))
  have hP : va_P D ccl (([(lh, .inr (0, [.int md, .ref er, .int (nI n)])), (er, .inl (cO, 10, .inr (.inr (.inr (.inr f)))))] : va_W) ++ tl) s.heap := hP
  have hl : lv_has ls 4 [(0, .ref lh), (1, .ref er), (2, .int (nI i))] := hl
  refine lv_aload_n hx hb dJx4a65c_fastRemove_b59b0_0 rfl (lv_at hl 0 rfl) ?_
  refine lv_dup hx hb dJx4a65c_fastRemove_b59b0_1 rfl ?_
  refine va_get (D := D) (ci := 0) (v := .int md) (C := RJx4a65c) (T := TJx4a65c) (N := 3) hx hb hts inJx4a65c hown hK hP 0 rfl rfl 0 (by decide) hfieldLink_RJx4a65c_63 (u_same hsameField_java_util_ArrayList_java_util_AbstractList_modCount_I) rfl dJx4a65c_fastRemove_b59b0_2 ?_
  refine lv_iconst (v := 1) hx hb dJx4a65c_fastRemove_b59b0_5 (by decide) ?_
  refine lv_iadd hx hb dJx4a65c_fastRemove_b59b0_6 ?_
  refine va_put (D := D) (ci := 0) (v := .int (md + 1)) (ty := .int) (C := RJx4a65c) (T := TJx4a65c) (N := 3) hx hb hts inJx4a65c tyJx4a65c tyJx4a65c_ok nmJx4a65c hown hK hP hD hS 0 rfl rfl 0 (by decide) hfieldLink_RJx4a65c_63 (u_same hsameField_java_util_ArrayList_java_util_AbstractList_modCount_I) rfl (by decide +kernel) rfl rfl (Nat.le_of_ble_eq_true rfl) dJx4a65c_fastRemove_b59b0_7 (fun H locs hP hD hS => ?_)
  have hP : va_P D ccl (([(lh, .inr (0, [.int (md + 1), .ref er, .int (nI n)])), (er, .inl (cO, 10, .inr (.inr (.inr (.inr f)))))] : va_W) ++ tl) H := hP
  have hD : va_D A (([(lh, .inr (0, [.int (md + 1), .ref er, .int (nI n)])), (er, .inl (cO, 10, .inr (.inr (.inr (.inr f)))))] : va_W) ++ tl) := hD
  refine lv_aload_n hx hb dJx4a65c_fastRemove_b59b0_10 rfl (lv_at hl 0 rfl) ?_
  refine va_get (D := D) (ci := 0) (v := .int (nI n)) (C := RJx4a65c) (T := TJx4a65c) (N := 3) hx hb hts inJx4a65c hown hK hP 0 rfl rfl 2 (by decide) hfieldLink_RJx4a65c_48 (fun _ h9 => h9) rfl dJx4a65c_fastRemove_b59b0_11 ?_
  refine lv_iconst (v := 1) hx hb dJx4a65c_fastRemove_b59b0_14 (by decide) ?_
  refine lv_isub hx hb dJx4a65c_fastRemove_b59b0_15 ?_
  refine lv_topi (fun f ef => ?_)
  obtain rfl : f = nI (n - 1) := ef.trans (pk_sub (a := n) (b := 1) (by omega))
  refine lv_dup hx hb dJx4a65c_fastRemove_b59b0_16 rfl ?_
  refine lv_istore_n (lv' := [(3, .int (nI (n - 1))), (0, .ref lh), (1, .ref er), (2, .int (nI i))]) hx hb dJx4a65c_fastRemove_b59b0_17 rfl hl (by decide) rfl (fun ls hl => ?_)
  refine lv_iload_n hx hb dJx4a65c_fastRemove_b59b0_18 rfl (lv_at hl 3 rfl) ?_
  refine lv_icmp_le (tgt := 34) hx hb dJx4a65c_fastRemove_b59b0_19 (by decide) (fun c_19 => ?_) (fun c_19 => ?_)
  · have c_19 : n - 1 ≤ i := g_le (a := n - 1) (b := i) c_19 (by omega) (by omega)
    refine lv_aload_n hx hb dJx4a65c_fastRemove_b59b0_34 rfl (lv_at hl 2 rfl) ?_
    refine lv_aload_n hx hb dJx4a65c_fastRemove_b59b0_35 rfl (lv_at hl 1 rfl) ?_
    refine lv_iload_n hx hb dJx4a65c_fastRemove_b59b0_36 rfl (lv_at hl 0 rfl) ?_
    refine lv_dup_x1 hx hb dJx4a65c_fastRemove_b59b0_37 rfl rfl ?_
    refine va_put (D := D) (ci := 0) (v := .int (nI (n - 1))) (ty := .int) (C := RJx4a65c) (T := TJx4a65c) (N := 3) hx hb hts inJx4a65c tyJx4a65c tyJx4a65c_ok nmJx4a65c hown hK hP hD hS 0 rfl rfl 2 (by decide) hfieldLink_RJx4a65c_48 (fun _ h9 => h9) rfl (by decide +kernel) rfl rfl (Nat.le_of_ble_eq_true rfl) dJx4a65c_fastRemove_b59b0_38 (fun H locs hP hD hS => ?_)
    have hP : va_P D ccl (([(lh, .inr (0, [.int (md + 1), .ref er, .int (nI (n - 1))])), (er, .inl (cO, 10, .inr (.inr (.inr (.inr f)))))] : va_W) ++ tl) H := hP
    have hD : va_D A (([(lh, .inr (0, [.int (md + 1), .ref er, .int (nI (n - 1))])), (er, .inl (cO, 10, .inr (.inr (.inr (.inr f)))))] : va_W) ++ tl) := hD
    refine lv_null hx hb dJx4a65c_fastRemove_b59b0_41 ?_
    refine va_astqN hx hb hK hP hD hS 1 2 rfl rfl (vp_in_nI (by omega) (by omega)) dJx4a65c_fastRemove_b59b0_42 (fun H locs hP hD hS => ?_)
    rw [show (nI (n - 1)).toNatClampNeg = n - 1 from (nI_clamp (by omega))] at hP hD
    rw [show va_up f (n - 1) (none) = rmF f i n from rmF_last (by omega)] at hP hD
    have hP : va_P D ccl (([(lh, .inr (0, [.int (md + 1), .ref er, .int (nI (n - 1))])), (er, .inl (cO, 10, .inr (.inr (.inr (.inr (rmF f i n))))))] : va_W) ++ tl) H := hP
    have hD : va_D A (([(lh, .inr (0, [.int (md + 1), .ref er, .int (nI (n - 1))])), (er, .inl (cO, 10, .inr (.inr (.inr (.inr (rmF f i n))))))] : va_W) ++ tl) := hD
    refine g_vret hx hb hr hlk hP hK hD hS (Nat.le_of_ble_eq_true rfl) (Nat.le_of_ble_eq_true rfl) dJx4a65c_fastRemove_b59b0_43 ?_
    exact rfl
  · have c_19 : i < n - 1 := g_nle (a := n - 1) (b := i) c_19 (by omega) (by omega)
    refine lv_aload_n hx hb dJx4a65c_fastRemove_b59b0_22 rfl (lv_at hl 2 rfl) ?_
    refine lv_iload_n hx hb dJx4a65c_fastRemove_b59b0_23 rfl (lv_at hl 3 rfl) ?_
    refine lv_iconst (v := 1) hx hb dJx4a65c_fastRemove_b59b0_24 (by decide) ?_
    refine lv_iadd hx hb dJx4a65c_fastRemove_b59b0_25 ?_
    refine lv_topi (fun f ef => ?_)
    obtain rfl : f = nI (i + 1) := ef.trans (nI_add _ _)
    refine lv_aload_n hx hb dJx4a65c_fastRemove_b59b0_26 rfl (lv_at hl 2 rfl) ?_
    refine lv_iload_n hx hb dJx4a65c_fastRemove_b59b0_27 rfl (lv_at hl 3 rfl) ?_
    refine lv_iload_n hx hb dJx4a65c_fastRemove_b59b0_28 rfl (lv_at hl 0 rfl) ?_
    refine lv_iload_n hx hb dJx4a65c_fastRemove_b59b0_29 rfl (lv_at hl 3 rfl) ?_
    refine lv_isub hx hb dJx4a65c_fastRemove_b59b0_30 ?_
    refine lv_topi (fun f ef => ?_)
    obtain rfl : f = nI (n - 1 - i) := ef.trans (pk_sub (a := n - 1) (b := i) (by omega))
    refine va_copyM hx hb (by rw [hml]; exact hl.1.symm) hown hmethodLink_RJx4a65c_112 hnative_arraycopyName hstatic_arraycopyName hinitialized_java_lang_System hK hP hD hS 1 1 2 2 rfl rfl rfl rfl (nI_pos (by omega)) (nI_pos (by omega)) (nI_pos (by omega)) (by rw [nI_clamp (by omega), nI_clamp (by omega)]; omega) (by rw [nI_clamp (by omega), nI_clamp (by omega)]; omega) (fun k hk y hy => by rw [nI_clamp (by omega)] at hk hy; exact (he _ (by omega) y hy).any hV hK hP) (Nat.le_of_ble_eq_true rfl) (Nat.le_of_ble_eq_true rfl) dJx4a65c_fastRemove_b59b0_31 (fun H locs hP hD hS => ?_)
    rw [show va_cpy f f ((nI (i + 1)).toNatClampNeg) ((nI i).toNatClampNeg) ((nI (n - 1 - i)).toNatClampNeg) = va_cpy f f (i + 1) i (n - 1 - i) from by rw [nI_clamp (n := i) (by omega), nI_clamp (n := i + 1) (by omega), nI_clamp (n := n - 1 - i) (by omega)]] at hP hD
    have hP : va_P D ccl (([(lh, .inr (0, [.int (md + 1), .ref er, .int (nI n)])), (er, .inl (cO, 10, .inr (.inr (.inr (.inr (va_cpy f f (i + 1) i (n - 1 - i)))))))] : va_W) ++ tl) H := hP
    have hD : va_D A (([(lh, .inr (0, [.int (md + 1), .ref er, .int (nI n)])), (er, .inl (cO, 10, .inr (.inr (.inr (.inr (va_cpy f f (i + 1) i (n - 1 - i)))))))] : va_W) ++ tl) := hD
    refine lv_aload_n hx hb dJx4a65c_fastRemove_b59b0_34 rfl (lv_at hl 2 rfl) ?_
    refine lv_aload_n hx hb dJx4a65c_fastRemove_b59b0_35 rfl (lv_at hl 1 rfl) ?_
    refine lv_iload_n hx hb dJx4a65c_fastRemove_b59b0_36 rfl (lv_at hl 0 rfl) ?_
    refine lv_dup_x1 hx hb dJx4a65c_fastRemove_b59b0_37 rfl rfl ?_
    refine va_put (D := D) (ci := 0) (v := .int (nI (n - 1))) (ty := .int) (C := RJx4a65c) (T := TJx4a65c) (N := 3) hx hb hts inJx4a65c tyJx4a65c tyJx4a65c_ok nmJx4a65c hown hK hP hD hS 0 rfl rfl 2 (by decide) hfieldLink_RJx4a65c_48 (fun _ h9 => h9) rfl (by decide +kernel) rfl rfl (Nat.le_of_ble_eq_true rfl) dJx4a65c_fastRemove_b59b0_38 (fun H locs hP hD hS => ?_)
    have hP : va_P D ccl (([(lh, .inr (0, [.int (md + 1), .ref er, .int (nI (n - 1))])), (er, .inl (cO, 10, .inr (.inr (.inr (.inr (va_cpy f f (i + 1) i (n - 1 - i)))))))] : va_W) ++ tl) H := hP
    have hD : va_D A (([(lh, .inr (0, [.int (md + 1), .ref er, .int (nI (n - 1))])), (er, .inl (cO, 10, .inr (.inr (.inr (.inr (va_cpy f f (i + 1) i (n - 1 - i)))))))] : va_W) ++ tl) := hD
    refine lv_null hx hb dJx4a65c_fastRemove_b59b0_41 ?_
    refine va_astqN hx hb hK hP hD hS 1 2 rfl rfl (vp_in_nI (by omega) (by omega)) dJx4a65c_fastRemove_b59b0_42 (fun H locs hP hD hS => ?_)
    rw [show (nI (n - 1)).toNatClampNeg = n - 1 from (nI_clamp (by omega))] at hP hD
    rw [show va_up (va_cpy f f (i + 1) i (n - 1 - i)) (n - 1) (none) = rmF f i n from rmF_eq (by omega)] at hP hD
    have hP : va_P D ccl (([(lh, .inr (0, [.int (md + 1), .ref er, .int (nI (n - 1))])), (er, .inl (cO, 10, .inr (.inr (.inr (.inr (rmF f i n))))))] : va_W) ++ tl) H := hP
    have hD : va_D A (([(lh, .inr (0, [.int (md + 1), .ref er, .int (nI (n - 1))])), (er, .inl (cO, 10, .inr (.inr (.inr (.inr (rmF f i n))))))] : va_W) ++ tl) := hD
    refine g_vret hx hb hr hlk hP hK hD hS (Nat.le_of_ble_eq_true rfl) (Nat.le_of_ble_eq_true rfl) dJx4a65c_fastRemove_b59b0_43 ?_
    exact rfl

set_option maxHeartbeats 4000000 in
set_option maxRecDepth 100000 in
theorem c_Jx4a65c_remove_915e3 (l : Launch) (D : va_G) (cI cJ cO : ClassId) (df sz : Nat) (lh : Nat) (md : Int32) (er : Nat) (n : Nat) (f : Nat → Option Nat) (tl : va_W) (i : Nat) (q : Nat) (hi : i < n) (hn : n ≤ 10) (he : ∀ k, k < n → ∀ y, f k = some y → inT tl y) (hq : f i = some q) : MetR l yJx4a65c_remove_915e3 wsJx4a65c_remove_915e3 ({ frames := 2, cells := 0, slots := 0, locals := 83 } : Room) D (gTY cI cJ cO) df (([(lh, .inr (0, [.int md, .ref er, .int (nI n)])), (er, .inl (cO, 10, .inr (.inr (.inr (.inr f)))))] : va_W) ++ tl) sz [.ref lh, .int (nI i)] (fun (wZ : va_W × Nat) => wZ.1 = ([(lh, .inr (0, [.int (md + 1), .ref er, .int (nI (n - 1))])), (er, .inl (cO, 10, .inr (.inr (.inr (.inr (rmF f i n))))))] : va_W) ++ tl ∧ wZ.2 = q) := by
  refine g_of (cc := cJx4a65c_remove_915e3) (nL := 4) (ret := (some (.object "java/lang/Object"))) (D := D) (TY := (gTY cI cJ cO)) (df := df) (Qc := fun A => va_Qr (fun (wZ : va_W × Nat) => wZ.1 = ([(lh, .inr (0, [.int (md + 1), .ref er, .int (nI (n - 1))])), (er, .inl (cO, 10, .inr (.inr (.inr (.inr (rmF f i n))))))] : va_W) ++ tl ∧ wZ.2 = q) (gBr D (gTY cI cJ cO) A) A) (by decide +kernel) rfl (Nat.le_of_ble_eq_true rfl) ?_
  intro p e s m below meth c ls A hsz C0 hin hl
  obtain ⟨CF, hr, hlk, hA, hS, hP, hK, hD, hV, hH⟩ := C0
  have CF : CallFix p m c cJx4a65c_remove_915e3 4 s _ wsJx4a65c_remove_915e3 RJx4a65c := CF
  obtain ⟨hx, hb, hml, hown, hts⟩ := id CF
  subst hsz
  have hfieldLink_RJx4a65c_48 : (Cond.fieldLink RJx4a65c 48 "java/util/ArrayList" "size" "I").before _ s = true := hts _ (List.mem_of_getElem? (i := 1) rfl)
  have hmethodLink_RJx4a65c_118 : (Cond.methodLink RJx4a65c 118 yJ15_checkIndex_7cf53).before _ s = true := hts _ (List.mem_of_getElem? (i := 3) rfl)
  have hfieldLink_RJx4a65c_9 : (Cond.fieldLink RJx4a65c 9 "java/util/ArrayList" "elementData" "[Ljava/lang/Object;").before _ s = true := hts _ (List.mem_of_getElem? (i := 2) rfl)
  have hmethodLink_RJx4a65c_144 : (Cond.methodLink RJx4a65c 144 yJx4a65c_fastRemove_b59b0).before _ s = true := hts _ (List.mem_of_getElem? (i := 11) rfl)
  have inJx4a65c : ∀ w ∈ u_ws RJx4a65c TJx4a65c 3, w ∈ wsJx4a65c_remove_915e3 := fun w h => (List.mem_cons_of_mem _ (List.mem_append_right _ h))
  have hP : va_P D ccl (([(lh, .inr (0, [.int md, .ref er, .int (nI n)])), (er, .inl (cO, 10, .inr (.inr (.inr (.inr f)))))] : va_W) ++ tl) s.heap := hP
  have hl : lv_has ls 4 [(0, .ref lh), (1, .int (nI i))] := hl
  refine lv_iload_n hx hb dJx4a65c_remove_915e3_0 rfl (lv_at hl 1 rfl) ?_
  refine lv_aload_n hx hb dJx4a65c_remove_915e3_1 rfl (lv_at hl 0 rfl) ?_
  refine va_get (D := D) (ci := 0) (v := .int (nI n)) (C := RJx4a65c) (T := TJx4a65c) (N := 3) hx hb hts inJx4a65c hown hK hP 0 rfl rfl 2 (by decide) hfieldLink_RJx4a65c_48 (fun _ h9 => h9) rfl dJx4a65c_remove_915e3_2 ?_
  have hPc : va_P D ccl [] s.heap := fun k q h => by simp at h
  have hDc : va_D A [] := ⟨fun i j p q h => by simp at h, fun k q h => by simp at h⟩
  have hFc := va_free (wc := []) hD hS hA [] rfl
  refine g_Si (As := [.int (nI i), .int (nI n)]) (rest := []) CF (c_J15_checkIndex_7cf53 l D cI cJ cO df s.heap.size i n hi (by omega)) (va_cwS 2 hts gJx4a65c_remove_915e3_J15_checkIndex_7cf53 rfl rfl rfl (by decide +kernel) ⟨Nat.le_of_ble_eq_true rfl, Nat.le_of_ble_eq_true rfl⟩)  hPc hK hDc hV hH hS hFc rfl hl.1 rfl (Nat.le_of_ble_eq_true rfl) dJx4a65c_remove_915e3_5 ⟨Nat.le_of_ble_eq_true rfl, Nat.le_of_ble_eq_true rfl⟩ (fun r_5 w1 H1 locs1 hq hP1 hD1 hk hS hz => ?_)
  obtain ⟨rfl, hr_5⟩ := hq
  have hP := g_keep0 hP hk
  clear hPc hDc hFc hP1 hD1 hk hz
  generalize H1 = H at hP hS ⊢
  have hP : va_P D ccl (([(lh, .inr (0, [.int md, .ref er, .int (nI n)])), (er, .inl (cO, 10, .inr (.inr (.inr (.inr f)))))] : va_W) ++ tl) H := hP
  have hD : va_D A (([(lh, .inr (0, [.int md, .ref er, .int (nI n)])), (er, .inl (cO, 10, .inr (.inr (.inr (.inr f)))))] : va_W) ++ tl) := hD
  subst hr_5
  refine lv_pop hx hb dJx4a65c_remove_915e3_8 rfl ?_
  refine lv_aload_n hx hb dJx4a65c_remove_915e3_9 rfl (lv_at hl 0 rfl) ?_
  refine va_get (D := D) (ci := 0) (v := .ref er) (C := RJx4a65c) (T := TJx4a65c) (N := 3) hx hb hts inJx4a65c hown hK hP 0 rfl rfl 1 (by decide) hfieldLink_RJx4a65c_9 (fun _ h9 => h9) rfl dJx4a65c_remove_915e3_10 ?_
  refine lv_astore_n (lv' := [(2, .ref er), (0, .ref lh), (1, .int (nI i))]) hx hb dJx4a65c_remove_915e3_13 rfl hl (by decide) rfl (fun ls hl => ?_)
  refine lv_aload_n hx hb dJx4a65c_remove_915e3_14 rfl (lv_at hl 0 rfl) ?_
  refine lv_iload_n hx hb dJx4a65c_remove_915e3_15 rfl (lv_at hl 2 rfl) ?_
  refine va_aldq hx hb hK hP 1 2 rfl rfl (vp_in_nI (by omega) (by omega)) dJx4a65c_remove_915e3_16 ?_
  refine W.eq (g2 := F0 m 17 ls (.ref q :: [])) (by rw [show (nI i).toNatClampNeg = i from nI_clamp (n := i) (by omega), hq]; rfl) ?_
  refine lv_astore_n (lv' := [(3, .ref q), (2, .ref er), (0, .ref lh), (1, .int (nI i))]) hx hb dJx4a65c_remove_915e3_17 rfl hl (by decide) rfl (fun ls hl => ?_)
  refine lv_aload_n hx hb dJx4a65c_remove_915e3_18 rfl (lv_at hl 2 rfl) ?_
  refine lv_aload_n hx hb dJx4a65c_remove_915e3_19 rfl (lv_at hl 1 rfl) ?_
  refine lv_iload_n hx hb dJx4a65c_remove_915e3_20 rfl (lv_at hl 3 rfl) ?_
  have hPc := hP.part (X := [(lh, .inr (0, [.int md, .ref er, .int (nI n)])), (er, .inl (cO, 10, .inr (.inr (.inr (.inr f)))))]) (cx := [(lh, .inr (0, [.int md, .ref er, .int (nI n)])), (er, .inl (cO, 10, .inr (.inr (.inr (.inr f)))))]) [0, 1] rfl
  have hDc := hD.part (X := [(lh, .inr (0, [.int md, .ref er, .int (nI n)])), (er, .inl (cO, 10, .inr (.inr (.inr (.inr f)))))]) (cx := [(lh, .inr (0, [.int md, .ref er, .int (nI n)])), (er, .inl (cO, 10, .inr (.inr (.inr (.inr f)))))]) [0, 1] (by decide) rfl
  have hFc := va_freeP (X := [(lh, .inr (0, [.int md, .ref er, .int (nI n)])), (er, .inl (cO, 10, .inr (.inr (.inr (.inr f)))))]) (cx := [(lh, .inr (0, [.int md, .ref er, .int (nI n)])), (er, .inl (cO, 10, .inr (.inr (.inr (.inr f)))))]) hD hS hA [0, 1] rfl
  refine g_Vv (As := [.ref er, .int (nI i)]) (rest := []) CF (c_Jx4a65c_fastRemove_b59b0 l D cI cJ cO df H.size lh md er n f tl i hi hn he) (cwV 2 hts gJx4a65c_remove_915e3_Jx4a65c_fastRemove_b59b0 rfl rfl rfl (by decide +kernel) ⟨Nat.le_of_ble_eq_true rfl, Nat.le_of_ble_eq_true rfl⟩) (va_recv hK hP (ci := 0) (q0 := 0) rfl rfl) hPc hK hDc hV hH hS hFc rfl hl.1 rfl (Nat.le_of_ble_eq_true rfl) dJx4a65c_remove_915e3_21 ⟨Nat.le_of_ble_eq_true rfl, Nat.le_of_ble_eq_true rfl⟩ (fun w1 H1 locs1 hq hP1 hD1 hk hS hz => ?_)
  obtain rfl := hq
  obtain ⟨hP, hD⟩ := g_joinP (X := [(lh, .inr (0, [.int md, .ref er, .int (nI n)])), (er, .inl (cO, 10, .inr (.inr (.inr (.inr f)))))]) (cx := [(lh, .inr (0, [.int md, .ref er, .int (nI n)])), (er, .inl (cO, 10, .inr (.inr (.inr (.inr f)))))]) (rx := [(lh, .inr (0, [.int (md + 1), .ref er, .int (nI (n - 1))])), (er, .inl (cO, 10, .inr (.inr (.inr (.inr (rmF f i n))))))]) (X' := [(lh, .inr (0, [.int (md + 1), .ref er, .int (nI (n - 1))])), (er, .inl (cO, 10, .inr (.inr (.inr (.inr (rmF f i n))))))]) hP hD hk hFc hP1 hD1 [0, 1] [] [0, 1] rfl rfl (by decide) (by decide) (by decide) rfl
  clear hPc hDc hFc hP1 hD1 hk hz
  generalize H1 = H at hP hS ⊢
  have hP : va_P D ccl (([(lh, .inr (0, [.int (md + 1), .ref er, .int (nI (n - 1))])), (er, .inl (cO, 10, .inr (.inr (.inr (.inr (rmF f i n))))))] : va_W) ++ tl) H := hP
  have hD : va_D A (([(lh, .inr (0, [.int (md + 1), .ref er, .int (nI (n - 1))])), (er, .inl (cO, 10, .inr (.inr (.inr (.inr (rmF f i n))))))] : va_W) ++ tl) := hD
  refine lv_aload_n hx hb dJx4a65c_remove_915e3_24 rfl (lv_at hl 0 rfl) ?_
  refine g_rret (a := q) hx hb hr hlk (Or.inl ⟨_, rfl⟩) hP hK hD hS (Nat.le_of_ble_eq_true rfl) (Nat.le_of_ble_eq_true rfl) dJx4a65c_remove_915e3_25 ?_
  exact ⟨rfl, rfl⟩

set_option maxHeartbeats 4000000 in
set_option maxRecDepth 100000 in
theorem c_J9_floorDiv_7cf53 (l : Launch) (D : va_G) (cI cJ cO : ClassId) (df sz : Nat) (xx : Int32) (yy : Int32) (hy : ¬ yy = 0) : MetI l yJ9_floorDiv_7cf53 wsJ9_floorDiv_7cf53 ({ frames := 0, cells := 0, slots := 0, locals := 0 } : Room) D (gTY cI cJ cO) df [] sz [.int xx, .int yy] (fun (r : Int32) (wZ : va_W) => wZ = [] ∧ r = fDiv xx yy) := by
  refine g_ofF (cc := cJ9_floorDiv_7cf53) (nL := 3) (ret := (some .int)) (D := D) (TY := (gTY cI cJ cO)) (df := df) (Qc := fun A => va_Qi (fun (r : Int32) (wZ : va_W) => wZ = [] ∧ r = fDiv xx yy) (gB D (gTY cI cJ cO) A) A) (by decide +kernel) rfl (Nat.le_of_ble_eq_true rfl) ?_
  intro p e s m below meth c ls A hsz C0 hin hl
  obtain ⟨CF, hr, hlk, hA, hS, hP, hK, hD, hV, hH⟩ := C0
  have CF : CallFix p m c cJ9_floorDiv_7cf53 3 s _ wsJ9_floorDiv_7cf53 RJ9 := CF
  obtain ⟨hx, hb, hml, hown, hts⟩ := id CF
  subst hsz
  have hP : va_P D ccl [] s.heap := hP
  have hl : lv_has ls 3 [(0, .int xx), (1, .int yy)] := hl
  refine lv_iload_n hx hb dJ9_floorDiv_7cf53_0 rfl (lv_at hl 0 rfl) ?_
  refine lv_iload_n hx hb dJ9_floorDiv_7cf53_1 rfl (lv_at hl 1 rfl) ?_
  refine lv_idiv hx hb dJ9_floorDiv_7cf53_2 hy ?_
  refine lv_istore_n (lv' := [(2, .int (xx / yy)), (0, .int xx), (1, .int yy)]) hx hb dJ9_floorDiv_7cf53_3 rfl hl (by decide) rfl (fun ls hl => ?_)
  refine lv_iload_n hx hb dJ9_floorDiv_7cf53_4 rfl (lv_at hl 1 rfl) ?_
  refine lv_iload_n hx hb dJ9_floorDiv_7cf53_5 rfl (lv_at hl 2 rfl) ?_
  refine lv_ixor hx hb dJ9_floorDiv_7cf53_6 ?_
  refine lv_if_ge (tgt := 21) hx hb dJ9_floorDiv_7cf53_7 (by decide) (fun c_7 => ?_) (fun c_7 => ?_)
  · have c_7 : ¬ (xx ^^^ yy) < 0 := Int32.not_lt.mpr c_7
    refine lv_iload_n hx hb dJ9_floorDiv_7cf53_21 rfl (lv_at hl 0 rfl) ?_
    refine g_iret (v := xx / yy) hx hb hr hlk hP hK hD hS (Nat.le_of_ble_eq_true rfl) (Nat.le_of_ble_eq_true rfl) dJ9_floorDiv_7cf53_22 ?_
    exact ⟨rfl, (by first | rfl | (simp [fDiv, c_7]; done))⟩
  · have c_7 : (xx ^^^ yy) < 0 := Int32.not_le.mp c_7
    refine lv_iload_n hx hb dJ9_floorDiv_7cf53_10 rfl (lv_at hl 0 rfl) ?_
    refine lv_iload_n hx hb dJ9_floorDiv_7cf53_11 rfl (lv_at hl 2 rfl) ?_
    refine lv_imul hx hb dJ9_floorDiv_7cf53_12 ?_
    refine lv_iload_n hx hb dJ9_floorDiv_7cf53_13 rfl (lv_at hl 1 rfl) ?_
    refine lv_icmp_eq (tgt := 21) hx hb dJ9_floorDiv_7cf53_14 (by decide) (fun c_14 => ?_) (fun c_14 => ?_)
    · refine lv_iload_n hx hb dJ9_floorDiv_7cf53_21 rfl (lv_at hl 0 rfl) ?_
      refine g_iret (v := xx / yy) hx hb hr hlk hP hK hD hS (Nat.le_of_ble_eq_true rfl) (Nat.le_of_ble_eq_true rfl) dJ9_floorDiv_7cf53_22 ?_
      exact ⟨rfl, (by first | rfl | (simp [fDiv, c_7, c_14]; done))⟩
    · refine lv_iload_n hx hb dJ9_floorDiv_7cf53_17 rfl (lv_at hl 0 rfl) ?_
      refine lv_iconst (v := 1) hx hb dJ9_floorDiv_7cf53_18 (by decide) ?_
      refine lv_isub hx hb dJ9_floorDiv_7cf53_19 ?_
      refine g_iret (v := (xx / yy) - 1) hx hb hr hlk hP hK hD hS (Nat.le_of_ble_eq_true rfl) (Nat.le_of_ble_eq_true rfl) dJ9_floorDiv_7cf53_20 ?_
      exact ⟨rfl, (by first | rfl | (simp [fDiv, c_7, c_14]; done))⟩

set_option maxHeartbeats 4000000 in
set_option maxRecDepth 100000 in
theorem c_J9_floorMod_7cf53 (l : Launch) (D : va_G) (cI cJ cO : ClassId) (df sz : Nat) (xx : Int32) (yy : Int32) (hy : ¬ yy = 0) : MetI l yJ9_floorMod_7cf53 wsJ9_floorMod_7cf53 ({ frames := 0, cells := 0, slots := 0, locals := 0 } : Room) D (gTY cI cJ cO) df [] sz [.int xx, .int yy] (fun (r : Int32) (wZ : va_W) => wZ = [] ∧ r = fMod xx yy) := by
  refine g_ofF (cc := cJ9_floorMod_7cf53) (nL := 3) (ret := (some .int)) (D := D) (TY := (gTY cI cJ cO)) (df := df) (Qc := fun A => va_Qi (fun (r : Int32) (wZ : va_W) => wZ = [] ∧ r = fMod xx yy) (gB D (gTY cI cJ cO) A) A) (by decide +kernel) rfl (Nat.le_of_ble_eq_true rfl) ?_
  intro p e s m below meth c ls A hsz C0 hin hl
  obtain ⟨CF, hr, hlk, hA, hS, hP, hK, hD, hV, hH⟩ := C0
  have CF : CallFix p m c cJ9_floorMod_7cf53 3 s _ wsJ9_floorMod_7cf53 RJ9 := CF
  obtain ⟨hx, hb, hml, hown, hts⟩ := id CF
  subst hsz
  have hP : va_P D ccl [] s.heap := hP
  have hl : lv_has ls 3 [(0, .int xx), (1, .int yy)] := hl
  refine lv_iload_n hx hb dJ9_floorMod_7cf53_0 rfl (lv_at hl 0 rfl) ?_
  refine lv_iload_n hx hb dJ9_floorMod_7cf53_1 rfl (lv_at hl 1 rfl) ?_
  refine lv_irem hx hb dJ9_floorMod_7cf53_2 hy ?_
  refine lv_istore_n (lv' := [(2, .int (xx - xx / yy * yy)), (0, .int xx), (1, .int yy)]) hx hb dJ9_floorMod_7cf53_3 rfl hl (by decide) rfl (fun ls hl => ?_)
  refine lv_iload_n hx hb dJ9_floorMod_7cf53_4 rfl (lv_at hl 1 rfl) ?_
  refine lv_iload_n hx hb dJ9_floorMod_7cf53_5 rfl (lv_at hl 2 rfl) ?_
  refine lv_ixor hx hb dJ9_floorMod_7cf53_6 ?_
  refine lv_if_ge (tgt := 18) hx hb dJ9_floorMod_7cf53_7 (by decide) (fun c_7 => ?_) (fun c_7 => ?_)
  · have c_7 : ¬ (xx ^^^ yy) < 0 := Int32.not_lt.mpr c_7
    refine lv_iload_n hx hb dJ9_floorMod_7cf53_18 rfl (lv_at hl 0 rfl) ?_
    refine g_iret (v := xx - xx / yy * yy) hx hb hr hlk hP hK hD hS (Nat.le_of_ble_eq_true rfl) (Nat.le_of_ble_eq_true rfl) dJ9_floorMod_7cf53_19 ?_
    exact ⟨rfl, (by first | rfl | (simp [fMod, c_7]; done))⟩
  · have c_7 : (xx ^^^ yy) < 0 := Int32.not_le.mp c_7
    refine lv_iload_n hx hb dJ9_floorMod_7cf53_10 rfl (lv_at hl 0 rfl) ?_
    refine lv_if_eq (tgt := 18) hx hb dJ9_floorMod_7cf53_11 (by decide) (fun c_11 => ?_) (fun c_11 => ?_)
    · refine lv_iload_n hx hb dJ9_floorMod_7cf53_18 rfl (lv_at hl 0 rfl) ?_
      refine g_iret (v := xx - xx / yy * yy) hx hb hr hlk hP hK hD hS (Nat.le_of_ble_eq_true rfl) (Nat.le_of_ble_eq_true rfl) dJ9_floorMod_7cf53_19 ?_
      exact ⟨rfl, (by first | rfl | (simp [fMod, c_7, c_11]; done))⟩
    · refine lv_iload_n hx hb dJ9_floorMod_7cf53_14 rfl (lv_at hl 0 rfl) ?_
      refine lv_iload_n hx hb dJ9_floorMod_7cf53_15 rfl (lv_at hl 2 rfl) ?_
      refine lv_iadd hx hb dJ9_floorMod_7cf53_16 ?_
      refine g_iret (v := (xx - xx / yy * yy) + yy) hx hb hr hlk hP hK hD hS (Nat.le_of_ble_eq_true rfl) (Nat.le_of_ble_eq_true rfl) dJ9_floorMod_7cf53_17 ?_
      exact ⟨rfl, (by first | rfl | (simp [fMod, c_7, c_11]; done))⟩

set_option maxHeartbeats 4000000 in
set_option maxRecDepth 100000 in
theorem c_J7_fill_d0a16 (l : Launch) (D : va_G) (cI cJ cO : ClassId) (df sz : Nat) (ar : Nat) (n : Nat) (g : Nat → Int64) (x : Int64) (hn : n < 100000) : MetV l yJ7_fill_d0a16 wsJ7_fill_d0a16 ({ frames := 0, cells := 0, slots := 0, locals := 0 } : Room) D (gTY cI cJ cO) df [(ar, .inl (cJ, n, .inr (.inl g)))] sz [.ref ar, .long x] (fun (wZ : va_W) => wZ = [(ar, .inl (cJ, n, .inr (.inl (fun i => if i < n then x else g i))))]) := by
  refine g_of (cc := cJ7_fill_d0a16) (nL := 5) (ret := none) (D := D) (TY := (gTY cI cJ cO)) (df := df) (Qc := fun A => va_Qv (fun (wZ : va_W) => wZ = [(ar, .inl (cJ, n, .inr (.inl (fun i => if i < n then x else g i))))]) (gB D (gTY cI cJ cO) A) A) (by decide +kernel) rfl (Nat.le_of_ble_eq_true rfl) ?_
  intro p e s m below meth c ls A hsz C0 hin hl
  obtain ⟨CF, hr, hlk, hA, hS, hP, hK, hD, hV, hH⟩ := C0
  have CF : CallFix p m c cJ7_fill_d0a16 5 s _ wsJ7_fill_d0a16 RJ7 := CF
  obtain ⟨hx, hb, hml, hown, hts⟩ := id CF
  subst hsz
  have hP : va_P D ccl [(ar, .inl (cJ, n, .inr (.inl g)))] s.heap := hP
  have hl : lv_has ls 5 [(0, .ref ar), (1, .long x)] := hl
  refine lv_iconst (v := 0) hx hb dJ7_fill_d0a16_0 (by decide) ?_
  refine lv_istore_n (lv' := [(3, .int 0), (0, .ref ar), (1, .long x)]) hx hb dJ7_fill_d0a16_1 rfl hl (by decide) rfl (fun ls hl => ?_)
  refine lv_aload_n hx hb dJ7_fill_d0a16_2 rfl (lv_at hl 1 rfl) ?_
  refine va_alen (v := nI n) hx hb hK hP 0 1 rfl rfl rfl dJ7_fill_d0a16_3 ?_
  refine lv_istore (lv' := [(4, .int (nI n)), (3, .int 0), (0, .ref ar), (1, .long x)]) hx hb dJ7_fill_d0a16_4 hl (by decide) rfl (fun ls hl => ?_)
  refine W.widen (k := 0) (n := 0) (Nat.le_refl _) (Nat.le_refl _) ?_
  refine g_while (σ := Nat × (Nat → Int64)) (st := []) (nL := 5) (fun z => match z with | (i, g1) => [(ar, .inl (cJ, n, .inr (.inl g1)))])
    (fun z => match z with | (i, g1) => [(0, .ref ar), (1, .long x), (3, .int (nI i)), (4, .int (nI n))])
    (fun z => match z with | (i, g1) => i ≤ n ∧ g1 = fun k => if k < i then x else g k)
    (fun z => match z with | (i, g1) => n - i) (fun z => match z with | (i, g1) => 0) (fun z => match z with | (i, g1) => 0)
    ?_ (0, g) ⟨Nat.zero_le n, by funext k; rw [if_neg (Nat.not_lt_zero k)]⟩ hP hD hS (lv_sub hl [2, 3, 1, 0] rfl)
  rintro ⟨i, g1⟩ hI H locs ls hP hD hS hl ih
  have hI : i ≤ n ∧ g1 = fun k => if k < i then x else g k := hI
  have hP : va_P D ccl [(ar, .inl (cJ, n, .inr (.inl g1)))] H := hP
  have hD : va_D A [(ar, .inl (cJ, n, .inr (.inl g1)))] := hD
  have hl : lv_has ls 5 [(0, .ref ar), (1, .long x), (3, .int (nI i)), (4, .int (nI n))] := hl
  change W p l e _ s m _ below meth c H locs 0 0 _ (F0 m 6 ls [])
  have ih_6 := ih
  clear ih
  obtain ⟨hi, eg⟩ := hI
  refine lv_iload_n hx hb dJ7_fill_d0a16_6 rfl (lv_at hl 2 rfl) ?_
  refine lv_iload hx hb dJ7_fill_d0a16_7 (lv_at hl 3 rfl) ?_
  refine lv_icmp_ge (tgt := 22) hx hb dJ7_fill_d0a16_9 (by decide) (fun c_9 => ?_) (fun c_9 => ?_)
  · have c_9 : n ≤ i := g_le (a := n) (b := i) c_9 (by omega) (by omega)
    obtain rfl : i = n := by omega
    refine g_vret hx hb hr hlk hP hK hD hS (Nat.le_of_ble_eq_true rfl) (Nat.le_of_ble_eq_true rfl) dJ7_fill_d0a16_22 ?_
    rw [eg]
  · have c_9 : i < n := g_nle (a := n) (b := i) c_9 (by omega) (by omega)
    refine lv_aload_n hx hb dJ7_fill_d0a16_12 rfl (lv_at hl 0 rfl) ?_
    refine lv_iload_n hx hb dJ7_fill_d0a16_13 rfl (lv_at hl 2 rfl) ?_
    refine lv_lload_n hx hb dJ7_fill_d0a16_14 rfl (lv_at hl 1 rfl) ?_
    refine va_last hx hb hK hP hD hS 0 1 rfl rfl (vp_in_nI (by omega) (by omega)) dJ7_fill_d0a16_15 (fun H locs hP hD hS => ?_)
    rw [show (nI i).toNatClampNeg = i from (nI_clamp (by omega))] at hP hD
    have hP : va_P D ccl [(ar, .inl (cJ, n, .inr (.inl (vp_updL g1 i x))))] H := hP
    have hD : va_D A [(ar, .inl (cJ, n, .inr (.inl (vp_updL g1 i x))))] := hD
    refine lv_iinc (v := nI (i + 1)) (lv' := [(3, .int (nI (i + 1))), (0, .ref ar), (1, .long x), (4, .int (nI n))]) hx hb dJ7_fill_d0a16_16 hl (k := 2) rfl (by exact nI_1 _) (by decide) rfl (fun ls hl => ?_)
    refine lv_goto (tgt := 6) hx hb dJ7_fill_d0a16_19 (by decide) ?_
    refine W.widen (k := 0) (n := 0) (Nat.le_refl _) (Nat.le_refl _) ?_
    exact ih_6 (i + 1, (vp_updL g1 i x)) _ _ _ (show (i + 1) ≤ n ∧ (vp_updL g1 i x) = fun k => if k < (i + 1) then x else g k from (by exact ⟨by omega, by rw [eg]; exact fillS⟩)) (show n - (i + 1) < n - i by omega) hP hD hS (lv_sub hl [1, 2, 0, 3] rfl)
