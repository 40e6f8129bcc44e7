set_option maxHeartbeats 4000000 in
set_option maxRecDepth 100000 in
theorem c_X5_init (l : Launch) (D : va_G) (cI cJ cO : ClassId) (df sz : Nat) (h0 : Nat)  : MetV l yX5_init wsX5_init ({ frames := 1, cells := 3, slots := 96, locals := 30 } : Room) D (gTY cI cJ cO) df [(h0, .inr (6, [.null, .null, .null]))] sz [.ref h0] (fun (wZ : va_W) => ∃ (ta : Nat), ∃ (qa : Nat), ∃ (pa : Nat), wZ = [(h0, .inr (6, [.ref ta, .ref qa, .ref pa])), (ta, .inl (cI, 32, .inl (fun _ => 0))), (qa, .inl (cI, 32, .inl (fun _ => 0))), (pa, .inl (cI, 32, .inl (pwZ 32)))]) := by
  refine g_of (cc := cX5_init) (nL := 3) (ret := none) (D := D) (TY := (gTY cI cJ cO)) (df := df) (Qc := fun A => va_Qv (fun (wZ : va_W) => ∃ (ta : Nat), ∃ (qa : Nat), ∃ (pa : Nat), wZ = [(h0, .inr (6, [.ref ta, .ref qa, .ref pa])), (ta, .inl (cI, 32, .inl (fun _ => 0))), (qa, .inl (cI, 32, .inl (fun _ => 0))), (pa, .inl (cI, 32, .inl (pwZ 32)))]) (gB D (gTY cI cJ cO) A) A) (by decide +kernel) rfl (Nat.le_of_ble_eq_true rfl) ?_
  intro p e s m below meth c ls A hsz C0 hin hl
  obtain ⟨CF, hr, hlk, hA, hS, hP, hK, hD, hV, hH⟩ := C0
  have CF : CallFix p m c cX5_init 3 s _ wsX5_init RX5 := CF
  obtain ⟨hx, hb, hml, hown, hts⟩ := id CF
  subst hsz
  have hmethodLink_RX5_1 : (Cond.methodLink RX5 1 objectInit).before _ s = true := hts _ (List.mem_of_getElem? (i := 1) rfl)
  have hinstanceMethod_objectInit : (Cond.instanceMethod objectInit).before _ s = true := hts _ (List.mem_of_getElem? (i := 2) rfl)
  have hcode_objectInit : (Cond.code objectInit ⟨#[0xb1]⟩ 1 none).before _ s = true := hts _ (List.mem_of_getElem? (i := 3) rfl)
  have hArrI : (Cond.arrayClass .int).before _ s = true := hts _ (List.mem_of_getElem? (i := 4) rfl)
  have hfieldLink_RX5_9 : (Cond.fieldLink RX5 9 "TapLoom$TapRow" "taps" "[I").before _ s = true := hts _ (List.mem_of_getElem? (i := 5) rfl)
  have hfieldLink_RX5_13 : (Cond.fieldLink RX5 13 "TapLoom$TapRow" "asked" "[I").before _ s = true := hts _ (List.mem_of_getElem? (i := 6) rfl)
  have hfieldLink_RX5_16 : (Cond.fieldLink RX5 16 "TapLoom$TapRow" "powers" "[I").before _ s = true := hts _ (List.mem_of_getElem? (i := 7) rfl)
  have inX5 : ∀ w ∈ u_ws RX5 TX5 3, w ∈ wsX5_init := fun w h => (List.mem_cons_of_mem _ (List.mem_append_right _ h))
  have hP : va_P D ccl [(h0, .inr (6, [.null, .null, .null]))] s.heap := hP
  have hl : lv_has ls 3 [(0, .ref h0)] := hl
  refine lv_aload_n hx hb dX5_init_0 rfl (lv_at hl 0 rfl) ?_
  refine W.objInit hx hb hown hmethodLink_RX5_1 hinstanceMethod_objectInit hcode_objectInit rfl (by rw [hml]; exact hl.1) rfl dX5_init_1 (Nat.le_of_ble_eq_true rfl) (Nat.le_of_ble_eq_true rfl) ?_
  refine W.eq (g2 := F0 m 4 ls []) rfl ?_
  refine lv_aload_n hx hb dX5_init_4 rfl (lv_at hl 0 rfl) ?_
  refine lv_bipush (v := 32) hx hb dX5_init_5 (by decide) ?_
  refine g_newaI (N := 32) hx hb hArrI hK hP hD hS hA (by decide) (by decide) (Nat.le_of_ble_eq_true rfl) (Nat.le_of_ble_eq_true rfl) (Nat.le_of_ble_eq_true rfl) dX5_init_7 (fun q1 H hP hD hS => ?_)
  have hP : va_P D ccl [(h0, .inr (6, [.null, .null, .null])), (q1, .inl (cI, 32, .inl (fun _ => 0)))] H := hP
  have hD : va_D A [(h0, .inr (6, [.null, .null, .null])), (q1, .inl (cI, 32, .inl (fun _ => 0)))] := hD
  refine va_putF (D := D) (ci := 6) (v := .ref q1) (ty := .array (.int)) (C := RX5) (T := TX5) (N := 3) hx hb hts inX5 tyX5 tyX5_ok nmX5 hown hK hP hD hS 0 rfl rfl 0 (by decide) hfieldLink_RX5_9 (fun _ h9 => h9) rfl (hin rfl) rfl (by decide +kernel) rfl rfl (Nat.le_of_ble_eq_true rfl) dX5_init_9 (fun H locs hP hD hS => ?_)
  have hP : va_P D ccl [(h0, .inr (6, [.ref q1, .null, .null])), (q1, .inl (cI, 32, .inl (fun _ => 0)))] H := hP
  have hD : va_D A [(h0, .inr (6, [.ref q1, .null, .null])), (q1, .inl (cI, 32, .inl (fun _ => 0)))] := hD
  refine lv_aload_n hx hb dX5_init_12 rfl (lv_at hl 0 rfl) ?_
  refine lv_bipush (v := 32) hx hb dX5_init_13 (by decide) ?_
  refine g_newaI (N := 32) hx hb hArrI hK hP hD hS hA (by decide) (by decide) (Nat.le_of_ble_eq_true rfl) (Nat.le_of_ble_eq_true rfl) (Nat.le_of_ble_eq_true rfl) dX5_init_15 (fun q2 H hP hD hS => ?_)
  have hP : va_P D ccl [(h0, .inr (6, [.ref q1, .null, .null])), (q1, .inl (cI, 32, .inl (fun _ => 0))), (q2, .inl (cI, 32, .inl (fun _ => 0)))] H := hP
  have hD : va_D A [(h0, .inr (6, [.ref q1, .null, .null])), (q1, .inl (cI, 32, .inl (fun _ => 0))), (q2, .inl (cI, 32, .inl (fun _ => 0)))] := hD
  refine va_putF (D := D) (ci := 6) (v := .ref q2) (ty := .array (.int)) (C := RX5) (T := TX5) (N := 3) hx hb hts inX5 tyX5 tyX5_ok nmX5 hown hK hP hD hS 0 rfl rfl 1 (by decide) hfieldLink_RX5_13 (fun _ h9 => h9) rfl (hin rfl) rfl (by decide +kernel) rfl rfl (Nat.le_of_ble_eq_true rfl) dX5_init_17 (fun H locs hP hD hS => ?_)
  have hP : va_P D ccl [(h0, .inr (6, [.ref q1, .ref q2, .null])), (q1, .inl (cI, 32, .inl (fun _ => 0))), (q2, .inl (cI, 32, .inl (fun _ => 0)))] H := hP
  have hD : va_D A [(h0, .inr (6, [.ref q1, .ref q2, .null])), (q1, .inl (cI, 32, .inl (fun _ => 0))), (q2, .inl (cI, 32, .inl (fun _ => 0)))] := hD
  refine lv_aload_n hx hb dX5_init_20 rfl (lv_at hl 0 rfl) ?_
  refine lv_bipush (v := 32) hx hb dX5_init_21 (by decide) ?_
  refine g_newaI (N := 32) hx hb hArrI hK hP hD hS hA (by decide) (by decide) (Nat.le_of_ble_eq_true rfl) (Nat.le_of_ble_eq_true rfl) (Nat.le_of_ble_eq_true rfl) dX5_init_23 (fun q3 H hP hD hS => ?_)
  have hP : va_P D ccl [(h0, .inr (6, [.ref q1, .ref q2, .null])), (q1, .inl (cI, 32, .inl (fun _ => 0))), (q2, .inl (cI, 32, .inl (fun _ => 0))), (q3, .inl (cI, 32, .inl (fun _ => 0)))] H := hP
  have hD : va_D A [(h0, .inr (6, [.ref q1, .ref q2, .null])), (q1, .inl (cI, 32, .inl (fun _ => 0))), (q2, .inl (cI, 32, .inl (fun _ => 0))), (q3, .inl (cI, 32, .inl (fun _ => 0)))] := hD
  refine va_putF (D := D) (ci := 6) (v := .ref q3) (ty := .array (.int)) (C := RX5) (T := TX5) (N := 3) hx hb hts inX5 tyX5 tyX5_ok nmX5 hown hK hP hD hS 0 rfl rfl 2 (by decide) hfieldLink_RX5_16 (fun _ h9 => h9) rfl (hin rfl) rfl (by decide +kernel) rfl rfl (Nat.le_of_ble_eq_true rfl) dX5_init_25 (fun H locs hP hD hS => ?_)
  have hP : va_P D ccl [(h0, .inr (6, [.ref q1, .ref q2, .ref q3])), (q1, .inl (cI, 32, .inl (fun _ => 0))), (q2, .inl (cI, 32, .inl (fun _ => 0))), (q3, .inl (cI, 32, .inl (fun _ => 0)))] H := hP
  have hD : va_D A [(h0, .inr (6, [.ref q1, .ref q2, .ref q3])), (q1, .inl (cI, 32, .inl (fun _ => 0))), (q2, .inl (cI, 32, .inl (fun _ => 0))), (q3, .inl (cI, 32, .inl (fun _ => 0)))] := hD
  refine lv_iconst (v := 1) hx hb dX5_init_28 (by decide) ?_
  refine lv_istore_n (lv' := [(1, .int 1), (0, .ref h0)]) hx hb dX5_init_29 rfl hl (by decide) rfl (fun ls hl => ?_)
  refine lv_iconst (v := 0) hx hb dX5_init_30 (by decide) ?_
  refine lv_istore_n (lv' := [(2, .int 0), (1, .int 1), (0, .ref h0)]) hx hb dX5_init_31 rfl hl (by decide) rfl (fun ls hl => ?_)
  refine W.widen (k := 3) (n := 96) (Nat.le_refl _) (Nat.le_refl _) ?_
  refine g_while (σ := Nat × (Nat → Int32)) (st := []) (nL := 3) (fun z => match z with | (i, g1) => [(h0, .inr (6, [.ref q1, .ref q2, .ref q3])), (q1, .inl (cI, 32, .inl (fun _ => 0))), (q2, .inl (cI, 32, .inl (fun _ => 0))), (q3, .inl (cI, 32, .inl g1))])
    (fun z => match z with | (i, g1) => [(0, .ref h0), (1, .int (nI (pw i))), (2, .int (nI i))])
    (fun z => match z with | (i, g1) => i ≤ 32 ∧ g1 = pwZ i)
    (fun z => match z with | (i, g1) => 32 - i) (fun z => match z with | (i, g1) => 3) (fun z => match z with | (i, g1) => 96)
    ?_ (0, (fun _ => 0)) ⟨Nat.zero_le _, pwZ_0⟩ hP hD hS (lv_sub hl [2, 1, 0] rfl)
  rintro ⟨i, g1⟩ hI H locs ls hP hD hS hl ih
  have hI : i ≤ 32 ∧ g1 = pwZ i := hI
  have hP : va_P D ccl [(h0, .inr (6, [.ref q1, .ref q2, .ref q3])), (q1, .inl (cI, 32, .inl (fun _ => 0))), (q2, .inl (cI, 32, .inl (fun _ => 0))), (q3, .inl (cI, 32, .inl g1))] H := hP
  have hD : va_D A [(h0, .inr (6, [.ref q1, .ref q2, .ref q3])), (q1, .inl (cI, 32, .inl (fun _ => 0))), (q2, .inl (cI, 32, .inl (fun _ => 0))), (q3, .inl (cI, 32, .inl g1))] := hD
  have hl : lv_has ls 3 [(0, .ref h0), (1, .int (nI (pw i))), (2, .int (nI i))] := hl
  change W p l e _ s m _ below meth c H locs 3 96 _ (F0 m 32 ls [])
  have ih_32 := ih
  clear ih
  obtain ⟨hi, rfl⟩ := hI
  refine lv_iload_n hx hb dX5_init_32 rfl (lv_at hl 2 rfl) ?_
  refine lv_bipush (v := 32) hx hb dX5_init_33 (by decide) ?_
  refine lv_icmp_ge (tgt := 59) hx hb dX5_init_35 (by decide) (fun c_35 => ?_) (fun c_35 => ?_)
  · have c_35 : 32 ≤ i := g_le (a := 32) (b := i) c_35 (by omega) (by omega)
    obtain rfl : i = 32 := by omega
    refine g_vret hx hb hr hlk hP hK hD hS (Nat.le_of_ble_eq_true rfl) (Nat.le_of_ble_eq_true rfl) dX5_init_59 ?_
    exact ⟨_, _, _, rfl⟩
  · have c_35 : i < 32 := g_nle (a := 32) (b := i) c_35 (by omega) (by omega)
    have hpw := pw_lt i
    refine lv_aload_n hx hb dX5_init_38 rfl (lv_at hl 0 rfl) ?_
    refine va_get (D := D) (ci := 6) (v := .ref q3) (C := RX5) (T := TX5) (N := 3) hx hb hts inX5 hown hK hP 0 rfl rfl 2 (by decide) hfieldLink_RX5_16 (fun _ h9 => h9) rfl dX5_init_39 ?_
    refine lv_iload_n hx hb dX5_init_42 rfl (lv_at hl 2 rfl) ?_
    refine lv_iload_n hx hb dX5_init_43 rfl (lv_at hl 1 rfl) ?_
    refine va_iast hx hb hK hP hD hS 3 0 rfl rfl (vp_in_nI (by omega) (by omega)) dX5_init_44 (fun H locs hP hD hS => ?_)
    rw [show (nI i).toNatClampNeg = i from (nI_clamp (by omega))] at hP hD
    rw [show upd (pwZ i) i (nI (pw i)) = pwZ (i + 1) from pwZ_s] at hP hD
    have hP : va_P D ccl [(h0, .inr (6, [.ref q1, .ref q2, .ref q3])), (q1, .inl (cI, 32, .inl (fun _ => 0))), (q2, .inl (cI, 32, .inl (fun _ => 0))), (q3, .inl (cI, 32, .inl (pwZ (i + 1))))] H := hP
    have hD : va_D A [(h0, .inr (6, [.ref q1, .ref q2, .ref q3])), (q1, .inl (cI, 32, .inl (fun _ => 0))), (q2, .inl (cI, 32, .inl (fun _ => 0))), (q3, .inl (cI, 32, .inl (pwZ (i + 1))))] := hD
    refine lv_iload_n hx hb dX5_init_45 rfl (lv_at hl 1 rfl) ?_
    refine lv_bipush (v := 28) hx hb dX5_init_46 (by decide) ?_
    refine lv_imul hx hb dX5_init_48 ?_
    refine lv_topi (fun f ef => ?_)
    obtain rfl : f = nI ((pw i) * 28) := ef.trans (pk_mul _ _)
    refine lv_bipush (v := 97) hx hb dX5_init_49 (by decide) ?_
    refine lv_irem hx hb dX5_init_51 (by decide) ?_
    refine lv_topi (fun f ef => ?_)
    obtain rfl : f = nI (pw (i + 1)) := ef.trans (pk_rem (a := pw i * 28) (d := 97) (by omega) (by omega) (by omega))
    refine lv_istore_n (lv' := [(1, .int (nI (pw (i + 1)))), (0, .ref h0), (2, .int (nI i))]) hx hb dX5_init_52 rfl hl (by decide) rfl (fun ls hl => ?_)
    refine lv_iinc (v := nI (i + 1)) (lv' := [(2, .int (nI (i + 1))), (1, .int (nI (pw (i + 1)))), (0, .ref h0)]) hx hb dX5_init_53 hl (k := 2) rfl (by exact nI_1 _) (by decide) rfl (fun ls hl => ?_)
    refine lv_goto (tgt := 32) hx hb dX5_init_56 (by decide) ?_
    refine W.widen (k := 3) (n := 96) (Nat.le_refl _) (Nat.le_refl _) ?_
    exact ih_32 (i + 1, (pwZ (i + 1))) _ _ _ (show (i + 1) ≤ 32 ∧ (pwZ (i + 1)) = pwZ (i + 1) from (by exact ⟨c_35, rfl⟩)) (show 32 - (i + 1) < 32 - i by omega) hP hD hS (lv_sub hl [2, 1, 0] rfl)

set_option maxHeartbeats 4000000 in
set_option maxRecDepth 100000 in
theorem c_X5_rootOf (l : Launch) (D : va_G) (cI cJ cO : ClassId) (df sz : Nat) (h0 : Nat) (ta : Nat) (qa : Nat) (pa : Nat) (tf : Nat → Int32) (qf : Nat → Int32) (T : Nat) (k : Nat) (hT : T * k < 2147483648) : MetI l yX5_rootOf wsX5_rootOf ({ frames := 1, cells := 0, slots := 0, locals := 22 } : Room) D (gTY cI cJ cO) df [(h0, .inr (6, [.ref ta, .ref qa, .ref pa])), (ta, .inl (cI, 32, .inl tf)), (qa, .inl (cI, 32, .inl qf)), (pa, .inl (cI, 32, .inl (pwZ 32)))] sz [.ref h0, .int (nI T), .int (nI k)] (fun (r : Int32) (wZ : va_W) => wZ = [(h0, .inr (6, [.ref ta, .ref qa, .ref pa])), (ta, .inl (cI, 32, .inl tf)), (qa, .inl (cI, 32, .inl qf)), (pa, .inl (cI, 32, .inl (pwZ 32)))] ∧ r = nI (pw (T * k % 32))) := by
  refine g_of (cc := cX5_rootOf) (nL := 3) (ret := (some .int)) (D := D) (TY := (gTY cI cJ cO)) (df := df) (Qc := fun A => va_Qi (fun (r : Int32) (wZ : va_W) => wZ = [(h0, .inr (6, [.ref ta, .ref qa, .ref pa])), (ta, .inl (cI, 32, .inl tf)), (qa, .inl (cI, 32, .inl qf)), (pa, .inl (cI, 32, .inl (pwZ 32)))] ∧ r = nI (pw (T * k % 32))) (gB D (gTY cI cJ cO) A) A) (by decide +kernel) rfl (Nat.le_of_ble_eq_true rfl) ?_
  intro p e s m below meth c ls A hsz C0 hin hl
  obtain ⟨CF, hr, hlk, hA, hS, hP, hK, hD, hV, hH⟩ := C0
  have CF : CallFix p m c cX5_rootOf 3 s _ wsX5_rootOf RX5 := CF
  obtain ⟨hx, hb, hml, hown, hts⟩ := id CF
  subst hsz
  have hfieldLink_RX5_16 : (Cond.fieldLink RX5 16 "TapLoom$TapRow" "powers" "[I").before _ s = true := hts _ (List.mem_of_getElem? (i := 1) rfl)
  have hmethodLink_RX5_19 : (Cond.methodLink RX5 19 yJ9_floorMod_7cf53).before _ s = true := hts _ (List.mem_of_getElem? (i := 2) rfl)
  have inX5 : ∀ w ∈ u_ws RX5 TX5 3, w ∈ wsX5_rootOf := fun w h => (List.mem_cons_of_mem _ (List.mem_append_right _ h))
  have hP : va_P D ccl [(h0, .inr (6, [.ref ta, .ref qa, .ref pa])), (ta, .inl (cI, 32, .inl tf)), (qa, .inl (cI, 32, .inl qf)), (pa, .inl (cI, 32, .inl (pwZ 32)))] s.heap := hP
  have hl : lv_has ls 3 [(0, .ref h0), (1, .int (nI T)), (2, .int (nI k))] := hl
  refine lv_aload_n hx hb dX5_rootOf_0 rfl (lv_at hl 0 rfl) ?_
  refine va_get (D := D) (ci := 6) (v := .ref pa) (C := RX5) (T := TX5) (N := 3) hx hb hts inX5 hown hK hP 0 rfl rfl 2 (by decide) hfieldLink_RX5_16 (fun _ h9 => h9) rfl dX5_rootOf_1 ?_
  refine lv_iload_n hx hb dX5_rootOf_4 rfl (lv_at hl 1 rfl) ?_
  refine lv_iload_n hx hb dX5_rootOf_5 rfl (lv_at hl 2 rfl) ?_
  refine lv_imul hx hb dX5_rootOf_6 ?_
  refine lv_topi (fun f ef => ?_)
  obtain rfl : f = nI (T * k) := ef.trans (pk_mul _ _)
  refine lv_bipush (v := 32) hx hb dX5_rootOf_7 (by decide) ?_
  have hPc : va_P D ccl [] s.heap := fun k q h => by simp at h
  have hDc : va_D A [] := ⟨fun i j p q h => by simp at h, fun k q h => by simp at h⟩
  have hFc := va_free (wc := []) hD hS hA [] rfl
  refine g_Si (As := [.int (nI (T * k)), .int 32]) (rest := [.ref pa]) CF (c_J9_floorMod_7cf53 l D cI cJ cO df s.heap.size (nI (T * k)) 32 (by decide)) (va_cwS 2 hts gX5_rootOf_J9_floorMod_7cf53 rfl rfl rfl (by decide +kernel) ⟨Nat.le_of_ble_eq_true rfl, Nat.le_of_ble_eq_true rfl⟩)  hPc hK hDc hV hH hS hFc rfl hl.1 rfl (Nat.le_of_ble_eq_true rfl) dX5_rootOf_9 ⟨Nat.le_of_ble_eq_true rfl, Nat.le_of_ble_eq_true rfl⟩ (fun r_9 w1 H1 locs1 hq hP1 hD1 hk hS hz => ?_)
  obtain ⟨rfl, hr_9⟩ := hq
  have hP := g_keep0 hP hk
  clear hPc hDc hFc hP1 hD1 hk hz
  generalize H1 = H at hP hS ⊢
  have hP : va_P D ccl [(h0, .inr (6, [.ref ta, .ref qa, .ref pa])), (ta, .inl (cI, 32, .inl tf)), (qa, .inl (cI, 32, .inl qf)), (pa, .inl (cI, 32, .inl (pwZ 32)))] H := hP
  have hD : va_D A [(h0, .inr (6, [.ref ta, .ref qa, .ref pa])), (ta, .inl (cI, 32, .inl tf)), (qa, .inl (cI, 32, .inl qf)), (pa, .inl (cI, 32, .inl (pwZ 32)))] := hD
  subst hr_9
  refine lv_topi (fun f ef => ?_)
  obtain rfl : f = nI (T * k % 32) := ef.trans (fMod_nI (a := T * k) (b := 32) hT (by decide) (by decide))
  refine va_iald hx hb hK hP 3 0 rfl rfl (vp_in_nI (by omega) (by omega)) dX5_rootOf_12 ?_
  refine lv_topi (fun f ef => ?_)
  obtain rfl : f = (pwZ 32) (T * k % 32) := ef.trans (congrArg (pwZ 32) (nI_clamp (n := T * k % 32) (by omega)))
  refine lv_topi (fun f ef => ?_)
  obtain rfl : f = nI (pw (T * k % 32)) := ef.trans (pwZ_in (Nat.mod_lt _ (by decide)))
  refine g_iret (v := nI (pw (T * k % 32))) hx hb hr hlk hP hK hD hS (Nat.le_of_ble_eq_true rfl) (Nat.le_of_ble_eq_true rfl) dX5_rootOf_13 ?_
  exact ⟨rfl, rfl⟩

set_option maxHeartbeats 4000000 in
set_option maxRecDepth 100000 in
theorem c_X5_tapAt (l : Launch) (D : va_G) (cI cJ cO : ClassId) (df sz : Nat) (h0 : Nat) (ta : Nat) (qa : Nat) (pa : Nat) (tf : Nat → Int32) (qf : Nat → Int32) (k : Nat) (hk9 : k < 32) : MetI l yX5_tapAt wsX5_tapAt ({ frames := 0, cells := 0, slots := 0, locals := 0 } : Room) D (gTY cI cJ cO) df [(h0, .inr (6, [.ref ta, .ref qa, .ref pa])), (ta, .inl (cI, 32, .inl tf)), (qa, .inl (cI, 32, .inl qf)), (pa, .inl (cI, 32, .inl (pwZ 32)))] sz [.ref h0, .int (nI k)] (fun (r : Int32) (wZ : va_W) => wZ = [(h0, .inr (6, [.ref ta, .ref qa, .ref pa])), (ta, .inl (cI, 32, .inl tf)), (qa, .inl (cI, 32, .inl qf)), (pa, .inl (cI, 32, .inl (pwZ 32)))] ∧ r = tf k) := by
  refine g_of (cc := cX5_tapAt) (nL := 2) (ret := (some .int)) (D := D) (TY := (gTY cI cJ cO)) (df := df) (Qc := fun A => va_Qi (fun (r : Int32) (wZ : va_W) => wZ = [(h0, .inr (6, [.ref ta, .ref qa, .ref pa])), (ta, .inl (cI, 32, .inl tf)), (qa, .inl (cI, 32, .inl qf)), (pa, .inl (cI, 32, .inl (pwZ 32)))] ∧ r = tf k) (gB D (gTY cI cJ cO) A) A) (by decide +kernel) rfl (Nat.le_of_ble_eq_true rfl) ?_
  intro p e s m below meth c ls A hsz C0 hin hl
  obtain ⟨CF, hr, hlk, hA, hS, hP, hK, hD, hV, hH⟩ := C0
  have CF : CallFix p m c cX5_tapAt 2 s _ wsX5_tapAt RX5 := CF
  obtain ⟨hx, hb, hml, hown, hts⟩ := id CF
  subst hsz
  have hfieldLink_RX5_9 : (Cond.fieldLink RX5 9 "TapLoom$TapRow" "taps" "[I").before _ s = true := hts _ (List.mem_of_getElem? (i := 1) rfl)
  have inX5 : ∀ w ∈ u_ws RX5 TX5 3, w ∈ wsX5_tapAt := fun w h => (List.mem_cons_of_mem _ (List.mem_append_right _ h))
  have hP : va_P D ccl [(h0, .inr (6, [.ref ta, .ref qa, .ref pa])), (ta, .inl (cI, 32, .inl tf)), (qa, .inl (cI, 32, .inl qf)), (pa, .inl (cI, 32, .inl (pwZ 32)))] s.heap := hP
  have hl : lv_has ls 2 [(0, .ref h0), (1, .int (nI k))] := hl
  refine lv_iload_n hx hb dX5_tapAt_0 rfl (lv_at hl 1 rfl) ?_
  refine lv_if_lt (tgt := 19) hx hb dX5_tapAt_1 (by decide) (fun c_1 => ?_) (fun c_1 => ?_)
  · have c_1 : k < 0 := g_lt (a := k) (b := 0) c_1 (by omega) (by omega)
    omega
  · have c_1 : 0 ≤ k := g_nlt (a := k) (b := 0) c_1 (by omega) (by omega)
    refine lv_iload_n hx hb dX5_tapAt_4 rfl (lv_at hl 1 rfl) ?_
    refine lv_bipush (v := 32) hx hb dX5_tapAt_5 (by decide) ?_
    refine lv_icmp_ge (tgt := 19) hx hb dX5_tapAt_7 (by decide) (fun c_7 => ?_) (fun c_7 => ?_)
    · have c_7 : 32 ≤ k := g_le (a := 32) (b := k) c_7 (by omega) (by omega)
      omega
    · have c_7 : k < 32 := g_nle (a := 32) (b := k) c_7 (by omega) (by omega)
      refine lv_aload_n hx hb dX5_tapAt_10 rfl (lv_at hl 0 rfl) ?_
      refine va_get (D := D) (ci := 6) (v := .ref ta) (C := RX5) (T := TX5) (N := 3) hx hb hts inX5 hown hK hP 0 rfl rfl 0 (by decide) hfieldLink_RX5_9 (fun _ h9 => h9) rfl dX5_tapAt_11 ?_
      refine lv_iload_n hx hb dX5_tapAt_14 rfl (lv_at hl 1 rfl) ?_
      refine va_iald hx hb hK hP 1 0 rfl rfl (vp_in_nI (by omega) (by omega)) dX5_tapAt_15 ?_
      refine lv_topi (fun f ef => ?_)
      obtain rfl : f = tf k := ef.trans (congrArg tf (nI_clamp (n := k) (by omega)))
      refine lv_goto (tgt := 20) hx hb dX5_tapAt_16 (by decide) ?_
      refine g_iret (v := tf k) hx hb hr hlk hP hK hD hS (Nat.le_of_ble_eq_true rfl) (Nat.le_of_ble_eq_true rfl) dX5_tapAt_20 ?_
      exact ⟨rfl, (by first | rfl | (simp [c_1, c_7]; done))⟩

set_option maxHeartbeats 4000000 in
set_option maxRecDepth 100000 in
theorem c_X5_replaceIn (l : Launch) (D : va_G) (cI cJ cO : ClassId) (df sz : Nat) (ra : Nat) (g : Nat → Int32) (k : Nat) (v : Int32) (hk9 : k < 32) : MetI l yX5_replaceIn wsX5_replaceIn ({ frames := 1, cells := 0, slots := 0, locals := 22 } : Room) D (gTY cI cJ cO) df [(ra, .inl (cI, 32, .inl g))] sz [.ref ra, .int (nI k), .int v] (fun (r : Int32) (wZ : va_W) => wZ = [(ra, .inl (cI, 32, .inl (upd g k (rs97 v))))] ∧ r = g k) := by
  refine g_of (cc := cX5_replaceIn) (nL := 4) (ret := (some .int)) (D := D) (TY := (gTY cI cJ cO)) (df := df) (Qc := fun A => va_Qi (fun (r : Int32) (wZ : va_W) => wZ = [(ra, .inl (cI, 32, .inl (upd g k (rs97 v))))] ∧ r = g k) (gB D (gTY cI cJ cO) A) A) (by decide +kernel) rfl (Nat.le_of_ble_eq_true rfl) ?_
  intro p e s m below meth c ls A hsz C0 hin hl
  obtain ⟨CF, hr, hlk, hA, hS, hP, hK, hD, hV, hH⟩ := C0
  have CF : CallFix p m c cX5_replaceIn 4 s _ wsX5_replaceIn RX5 := CF
  obtain ⟨hx, hb, hml, hown, hts⟩ := id CF
  subst hsz
  have hmethodLink_RX5_19 : (Cond.methodLink RX5 19 yJ9_floorMod_7cf53).before _ s = true := hts _ (List.mem_of_getElem? (i := 1) rfl)
  have hP : va_P D ccl [(ra, .inl (cI, 32, .inl g))] s.heap := hP
  have hl : lv_has ls 4 [(0, .ref ra), (1, .int (nI k)), (2, .int v)] := hl
  refine lv_iload_n hx hb dX5_replaceIn_0 rfl (lv_at hl 1 rfl) ?_
  refine lv_if_lt (tgt := 10) hx hb dX5_replaceIn_1 (by decide) (fun c_1 => ?_) (fun c_1 => ?_)
  · have c_1 : k < 0 := g_lt (a := k) (b := 0) c_1 (by omega) (by omega)
    omega
  · have c_1 : 0 ≤ k := g_nlt (a := k) (b := 0) c_1 (by omega) (by omega)
    refine lv_iload_n hx hb dX5_replaceIn_4 rfl (lv_at hl 1 rfl) ?_
    refine lv_aload_n hx hb dX5_replaceIn_5 rfl (lv_at hl 0 rfl) ?_
    refine va_alen (v := 32) hx hb hK hP 0 0 rfl rfl rfl dX5_replaceIn_6 ?_
    refine lv_icmp_lt (tgt := 12) hx hb dX5_replaceIn_7 (by decide) (fun c_7 => ?_) (fun c_7 => ?_)
    · have c_7 : k < 32 := g_lt (a := k) (b := 32) c_7 (by omega) (by omega)
      refine lv_aload_n hx hb dX5_replaceIn_12 rfl (lv_at hl 0 rfl) ?_
      refine lv_iload_n hx hb dX5_replaceIn_13 rfl (lv_at hl 1 rfl) ?_
      refine va_iald hx hb hK hP 0 0 rfl rfl (vp_in_nI (by omega) (by omega)) dX5_replaceIn_14 ?_
      refine lv_topi (fun f ef => ?_)
      obtain rfl : f = g k := ef.trans (congrArg g (nI_clamp (n := k) (by omega)))
      refine lv_istore_n (lv' := [(3, .int (g k)), (0, .ref ra), (1, .int (nI k)), (2, .int v)]) hx hb dX5_replaceIn_15 rfl hl (by decide) rfl (fun ls hl => ?_)
      refine lv_aload_n hx hb dX5_replaceIn_16 rfl (lv_at hl 1 rfl) ?_
      refine lv_iload_n hx hb dX5_replaceIn_17 rfl (lv_at hl 2 rfl) ?_
      refine lv_iload_n hx hb dX5_replaceIn_18 rfl (lv_at hl 3 rfl) ?_
      refine lv_bipush (v := 97) hx hb dX5_replaceIn_19 (by decide) ?_
      have hPc : va_P D ccl [] s.heap := fun k q h => by simp at h
      have hDc : va_D A [] := ⟨fun i j p q h => by simp at h, fun k q h => by simp at h⟩
      have hFc := va_free (wc := []) hD hS hA [] rfl
      refine g_Si (As := [.int v, .int 97]) (rest := [.int (nI k), .ref ra]) CF (c_J9_floorMod_7cf53 l D cI cJ cO df s.heap.size v 97 (by decide)) (va_cwS 2 hts gX5_replaceIn_J9_floorMod_7cf53 rfl rfl rfl (by decide +kernel) ⟨Nat.le_of_ble_eq_true rfl, Nat.le_of_ble_eq_true rfl⟩)  hPc hK hDc hV hH hS hFc rfl hl.1 rfl (Nat.le_of_ble_eq_true rfl) dX5_replaceIn_21 ⟨Nat.le_of_ble_eq_true rfl, Nat.le_of_ble_eq_true rfl⟩ (fun r_21 w1 H1 locs1 hq hP1 hD1 hk hS hz => ?_)
      obtain ⟨rfl, hr_21⟩ := hq
      have hP := g_keep0 hP hk
      clear hPc hDc hFc hP1 hD1 hk hz
      generalize H1 = H at hP hS ⊢
      have hP : va_P D ccl [(ra, .inl (cI, 32, .inl g))] H := hP
      have hD : va_D A [(ra, .inl (cI, 32, .inl g))] := hD
      subst hr_21
      refine lv_topi (fun f ef => ?_)
      obtain rfl : f = rs97 v := ef.trans (fMod_97 v)
      refine va_iast hx hb hK hP hD hS 0 0 rfl rfl (vp_in_nI (by omega) (by omega)) dX5_replaceIn_24 (fun H locs hP hD hS => ?_)
      rw [show (nI k).toNatClampNeg = k from (nI_clamp (by omega))] at hP hD
      have hP : va_P D ccl [(ra, .inl (cI, 32, .inl (upd g k (rs97 v))))] H := hP
      have hD : va_D A [(ra, .inl (cI, 32, .inl (upd g k (rs97 v))))] := hD
      refine lv_iload_n hx hb dX5_replaceIn_25 rfl (lv_at hl 0 rfl) ?_
      refine g_iret (v := g k) hx hb hr hlk hP hK hD hS (Nat.le_of_ble_eq_true rfl) (Nat.le_of_ble_eq_true rfl) dX5_replaceIn_26 ?_
      exact ⟨rfl, (by first | rfl | (simp [c_1, c_7]; done))⟩
    · have c_7 : 32 ≤ k := g_nlt (a := k) (b := 32) c_7 (by omega) (by omega)
      omega

set_option maxHeartbeats 4000000 in
set_option maxRecDepth 100000 in
theorem c_X5_replaceTap (l : Launch) (D : va_G) (cI cJ cO : ClassId) (df sz : Nat) (h0 : Nat) (ta : Nat) (qa : Nat) (pa : Nat) (tf : Nat → Int32) (qf : Nat → Int32) (k : Nat) (v : Int32) (hk9 : k < 32) : MetI l yX5_replaceTap wsX5_replaceTap ({ frames := 2, cells := 0, slots := 0, locals := 45 } : Room) D (gTY cI cJ cO) df [(h0, .inr (6, [.ref ta, .ref qa, .ref pa])), (ta, .inl (cI, 32, .inl tf)), (qa, .inl (cI, 32, .inl qf)), (pa, .inl (cI, 32, .inl (pwZ 32)))] sz [.ref h0, .int (nI k), .int v] (fun (r : Int32) (wZ : va_W) => wZ = [(h0, .inr (6, [.ref ta, .ref qa, .ref pa])), (ta, .inl (cI, 32, .inl (upd tf k (rs97 v)))), (qa, .inl (cI, 32, .inl qf)), (pa, .inl (cI, 32, .inl (pwZ 32)))] ∧ r = tf k) := by
  refine g_of (cc := cX5_replaceTap) (nL := 3) (ret := (some .int)) (D := D) (TY := (gTY cI cJ cO)) (df := df) (Qc := fun A => va_Qi (fun (r : Int32) (wZ : va_W) => wZ = [(h0, .inr (6, [.ref ta, .ref qa, .ref pa])), (ta, .inl (cI, 32, .inl (upd tf k (rs97 v)))), (qa, .inl (cI, 32, .inl qf)), (pa, .inl (cI, 32, .inl (pwZ 32)))] ∧ r = tf k) (gB D (gTY cI cJ cO) A) A) (by decide +kernel) rfl (Nat.le_of_ble_eq_true rfl) ?_
  intro p e s m below meth c ls A hsz C0 hin hl
  obtain ⟨CF, hr, hlk, hA, hS, hP, hK, hD, hV, hH⟩ := C0
  have CF : CallFix p m c cX5_replaceTap 3 s _ wsX5_replaceTap RX5 := CF
  obtain ⟨hx, hb, hml, hown, hts⟩ := id CF
  subst hsz
  have hfieldLink_RX5_9 : (Cond.fieldLink RX5 9 "TapLoom$TapRow" "taps" "[I").before _ s = true := hts _ (List.mem_of_getElem? (i := 1) rfl)
  have hmethodLink_RX5_25 : (Cond.methodLink RX5 25 yX5_replaceIn).before _ s = true := hts _ (List.mem_of_getElem? (i := 2) rfl)
  have inX5 : ∀ w ∈ u_ws RX5 TX5 3, w ∈ wsX5_replaceTap := fun w h => (List.mem_cons_of_mem _ (List.mem_append_right _ h))
  have hP : va_P D ccl [(h0, .inr (6, [.ref ta, .ref qa, .ref pa])), (ta, .inl (cI, 32, .inl tf)), (qa, .inl (cI, 32, .inl qf)), (pa, .inl (cI, 32, .inl (pwZ 32)))] s.heap := hP
  have hl : lv_has ls 3 [(0, .ref h0), (1, .int (nI k)), (2, .int v)] := hl
  refine lv_aload_n hx hb dX5_replaceTap_0 rfl (lv_at hl 0 rfl) ?_
  refine va_get (D := D) (ci := 6) (v := .ref ta) (C := RX5) (T := TX5) (N := 3) hx hb hts inX5 hown hK hP 0 rfl rfl 0 (by decide) hfieldLink_RX5_9 (fun _ h9 => h9) rfl dX5_replaceTap_1 ?_
  refine lv_iload_n hx hb dX5_replaceTap_4 rfl (lv_at hl 1 rfl) ?_
  refine lv_iload_n hx hb dX5_replaceTap_5 rfl (lv_at hl 2 rfl) ?_
  have hPc := hP.sub (ws' := [(ta, .inl (cI, 32, .inl tf))]) [1] rfl
  have hDc := hD.sub (ws' := [(ta, .inl (cI, 32, .inl tf))]) [1] (by decide) rfl
  have hFc := va_free (wc := [(ta, .inl (cI, 32, .inl tf))]) hD hS hA [1] rfl
  refine g_Si (As := [.ref ta, .int (nI k), .int v]) (rest := []) CF (c_X5_replaceIn l D cI cJ cO df s.heap.size ta tf k v hk9) (va_cwS 3 hts gX5_replaceTap_X5_replaceIn rfl rfl rfl (by decide +kernel) ⟨Nat.le_of_ble_eq_true rfl, Nat.le_of_ble_eq_true rfl⟩)  hPc hK hDc hV hH hS hFc rfl hl.1 rfl (Nat.le_of_ble_eq_true rfl) dX5_replaceTap_6 ⟨Nat.le_of_ble_eq_true rfl, Nat.le_of_ble_eq_true rfl⟩ (fun r_6 w1 H1 locs1 hq hP1 hD1 hk hS hz => ?_)
  obtain ⟨rfl, hr_6⟩ := hq
  obtain ⟨hP, hD⟩ := g_join (ws' := [(h0, .inr (6, [.ref ta, .ref qa, .ref pa])), (ta, .inl (cI, 32, .inl (upd tf k (rs97 v)))), (qa, .inl (cI, 32, .inl qf)), (pa, .inl (cI, 32, .inl (pwZ 32)))]) hP hD hk hFc hP1 hD1 [1] [0, 2, 3] [0, 3, 1, 2] rfl rfl (by decide) (by decide) (by decide) rfl
  clear hPc hDc hFc hP1 hD1 hk hz
  generalize H1 = H at hP hS ⊢
  have hP : va_P D ccl [(h0, .inr (6, [.ref ta, .ref qa, .ref pa])), (ta, .inl (cI, 32, .inl (upd tf k (rs97 v)))), (qa, .inl (cI, 32, .inl qf)), (pa, .inl (cI, 32, .inl (pwZ 32)))] H := hP
  have hD : va_D A [(h0, .inr (6, [.ref ta, .ref qa, .ref pa])), (ta, .inl (cI, 32, .inl (upd tf k (rs97 v)))), (qa, .inl (cI, 32, .inl qf)), (pa, .inl (cI, 32, .inl (pwZ 32)))] := hD
  subst hr_6
  refine g_iret (v := tf k) hx hb hr hlk hP hK hD hS (Nat.le_of_ble_eq_true rfl) (Nat.le_of_ble_eq_true rfl) dX5_replaceTap_9 ?_
  exact ⟨rfl, rfl⟩

set_option maxHeartbeats 4000000 in
set_option maxRecDepth 100000 in
theorem c_X5_replaceAsked (l : Launch) (D : va_G) (cI cJ cO : ClassId) (df sz : Nat) (h0 : Nat) (ta : Nat) (qa : Nat) (pa : Nat) (tf : Nat → Int32) (qf : Nat → Int32) (k : Nat) (v : Int32) (hk9 : k < 32) : MetI l yX5_replaceAsked wsX5_replaceAsked ({ frames := 2, cells := 0, slots := 0, locals := 45 } : Room) D (gTY cI cJ cO) df [(h0, .inr (6, [.ref ta, .ref qa, .ref pa])), (ta, .inl (cI, 32, .inl tf)), (qa, .inl (cI, 32, .inl qf)), (pa, .inl (cI, 32, .inl (pwZ 32)))] sz [.ref h0, .int (nI k), .int v] (fun (r : Int32) (wZ : va_W) => wZ = [(h0, .inr (6, [.ref ta, .ref qa, .ref pa])), (ta, .inl (cI, 32, .inl tf)), (qa, .inl (cI, 32, .inl (upd qf k (rs97 v)))), (pa, .inl (cI, 32, .inl (pwZ 32)))] ∧ r = qf k) := by
  refine g_of (cc := cX5_replaceAsked) (nL := 3) (ret := (some .int)) (D := D) (TY := (gTY cI cJ cO)) (df := df) (Qc := fun A => va_Qi (fun (r : Int32) (wZ : va_W) => wZ = [(h0, .inr (6, [.ref ta, .ref qa, .ref pa])), (ta, .inl (cI, 32, .inl tf)), (qa, .inl (cI, 32, .inl (upd qf k (rs97 v)))), (pa, .inl (cI, 32, .inl (pwZ 32)))] ∧ r = qf k) (gB D (gTY cI cJ cO) A) A) (by decide +kernel) rfl (Nat.le_of_ble_eq_true rfl) ?_
  intro p e s m below meth c ls A hsz C0 hin hl
  obtain ⟨CF, hr, hlk, hA, hS, hP, hK, hD, hV, hH⟩ := C0
  have CF : CallFix p m c cX5_replaceAsked 3 s _ wsX5_replaceAsked RX5 := CF
  obtain ⟨hx, hb, hml, hown, hts⟩ := id CF
  subst hsz
  have hfieldLink_RX5_13 : (Cond.fieldLink RX5 13 "TapLoom$TapRow" "asked" "[I").before _ s = true := hts _ (List.mem_of_getElem? (i := 1) rfl)
  have hmethodLink_RX5_25 : (Cond.methodLink RX5 25 yX5_replaceIn).before _ s = true := hts _ (List.mem_of_getElem? (i := 2) rfl)
  have inX5 : ∀ w ∈ u_ws RX5 TX5 3, w ∈ wsX5_replaceAsked := fun w h => (List.mem_cons_of_mem _ (List.mem_append_right _ h))
  have hP : va_P D ccl [(h0, .inr (6, [.ref ta, .ref qa, .ref pa])), (ta, .inl (cI, 32, .inl tf)), (qa, .inl (cI, 32, .inl qf)), (pa, .inl (cI, 32, .inl (pwZ 32)))] s.heap := hP
  have hl : lv_has ls 3 [(0, .ref h0), (1, .int (nI k)), (2, .int v)] := hl
  refine lv_aload_n hx hb dX5_replaceAsked_0 rfl (lv_at hl 0 rfl) ?_
  refine va_get (D := D) (ci := 6) (v := .ref qa) (C := RX5) (T := TX5) (N := 3) hx hb hts inX5 hown hK hP 0 rfl rfl 1 (by decide) hfieldLink_RX5_13 (fun _ h9 => h9) rfl dX5_replaceAsked_1 ?_
  refine lv_iload_n hx hb dX5_replaceAsked_4 rfl (lv_at hl 1 rfl) ?_
  refine lv_iload_n hx hb dX5_replaceAsked_5 rfl (lv_at hl 2 rfl) ?_
  have hPc := hP.sub (ws' := [(qa, .inl (cI, 32, .inl qf))]) [2] rfl
  have hDc := hD.sub (ws' := [(qa, .inl (cI, 32, .inl qf))]) [2] (by decide) rfl
  have hFc := va_free (wc := [(qa, .inl (cI, 32, .inl qf))]) hD hS hA [2] rfl
  refine g_Si (As := [.ref qa, .int (nI k), .int v]) (rest := []) CF (c_X5_replaceIn l D cI cJ cO df s.heap.size qa qf k v hk9) (va_cwS 3 hts gX5_replaceAsked_X5_replaceIn rfl rfl rfl (by decide +kernel) ⟨Nat.le_of_ble_eq_true rfl, Nat.le_of_ble_eq_true rfl⟩)  hPc hK hDc hV hH hS hFc rfl hl.1 rfl (Nat.le_of_ble_eq_true rfl) dX5_replaceAsked_6 ⟨Nat.le_of_ble_eq_true rfl, Nat.le_of_ble_eq_true rfl⟩ (fun r_6 w1 H1 locs1 hq hP1 hD1 hk hS hz => ?_)
  obtain ⟨rfl, hr_6⟩ := hq
  obtain ⟨hP, hD⟩ := g_join (ws' := [(h0, .inr (6, [.ref ta, .ref qa, .ref pa])), (ta, .inl (cI, 32, .inl tf)), (qa, .inl (cI, 32, .inl (upd qf k (rs97 v)))), (pa, .inl (cI, 32, .inl (pwZ 32)))]) hP hD hk hFc hP1 hD1 [2] [0, 1, 3] [0, 1, 3, 2] rfl rfl (by decide) (by decide) (by decide) rfl
  clear hPc hDc hFc hP1 hD1 hk hz
  generalize H1 = H at hP hS ⊢
  have hP : va_P D ccl [(h0, .inr (6, [.ref ta, .ref qa, .ref pa])), (ta, .inl (cI, 32, .inl tf)), (qa, .inl (cI, 32, .inl (upd qf k (rs97 v)))), (pa, .inl (cI, 32, .inl (pwZ 32)))] H := hP
  have hD : va_D A [(h0, .inr (6, [.ref ta, .ref qa, .ref pa])), (ta, .inl (cI, 32, .inl tf)), (qa, .inl (cI, 32, .inl (upd qf k (rs97 v)))), (pa, .inl (cI, 32, .inl (pwZ 32)))] := hD
  subst hr_6
  refine g_iret (v := qf k) hx hb hr hlk hP hK hD hS (Nat.le_of_ble_eq_true rfl) (Nat.le_of_ble_eq_true rfl) dX5_replaceAsked_9 ?_
  exact ⟨rfl, rfl⟩

set_option maxHeartbeats 4000000 in
set_option maxRecDepth 100000 in
theorem c_X5_takeDesign (l : Launch) (D : va_G) (cI cJ cO : ClassId) (df sz : Nat) (h0 : Nat) (ta : Nat) (qa : Nat) (pa : Nat) (tf : Nat → Int32) (qf : Nat → Int32) (hq : isR qf 32) : MetI l yX5_takeDesign wsX5_takeDesign ({ frames := 3, cells := 0, slots := 0, locals := 67 } : Room) D (gTY cI cJ cO) df [(h0, .inr (6, [.ref ta, .ref qa, .ref pa])), (ta, .inl (cI, 32, .inl tf)), (qa, .inl (cI, 32, .inl qf)), (pa, .inl (cI, 32, .inl (pwZ 32)))] sz [.ref h0] (fun (r : Int32) (wZ : va_W) => wZ = [(h0, .inr (6, [.ref ta, .ref qa, .ref pa])), (ta, .inl (cI, 32, .inl (desA qf tf 32))), (qa, .inl (cI, 32, .inl qf)), (pa, .inl (cI, 32, .inl (pwZ 32)))] ∧ r = nI (desN qf tf 32)) := by
  refine g_of (cc := cX5_takeDesign) (nL := 5) (ret := (some .int)) (D := D) (TY := (gTY cI cJ cO)) (df := df) (Qc := fun A => va_Qi (fun (r : Int32) (wZ : va_W) => wZ = [(h0, .inr (6, [.ref ta, .ref qa, .ref pa])), (ta, .inl (cI, 32, .inl (desA qf tf 32))), (qa, .inl (cI, 32, .inl qf)), (pa, .inl (cI, 32, .inl (pwZ 32)))] ∧ r = nI (desN qf tf 32)) (gB D (gTY cI cJ cO) A) A) (by decide +kernel) rfl (Nat.le_of_ble_eq_true rfl) ?_
  intro p e s m below meth c ls A hsz C0 hin hl
  obtain ⟨CF, hr, hlk, hA, hS, hP, hK, hD, hV, hH⟩ := C0
  have CF : CallFix p m c cX5_takeDesign 5 s _ wsX5_takeDesign RX5 := CF
  obtain ⟨hx, hb, hml, hown, hts⟩ := id CF
  subst hsz
  have hmethodLink_RX5_32 : (Cond.methodLink RX5 32 yX5_replaceTap).before _ s = true := hts _ (List.mem_of_getElem? (i := 12) rfl)
  have hfieldLink_RX5_13 : (Cond.fieldLink RX5 13 "TapLoom$TapRow" "asked" "[I").before _ s = true := hts _ (List.mem_of_getElem? (i := 1) rfl)
  have hmethodLink_RX5_29 : (Cond.methodLink RX5 29 yX5_rootOf).before _ s = true := hts _ (List.mem_of_getElem? (i := 2) rfl)
  have inX5 : ∀ w ∈ u_ws RX5 TX5 3, w ∈ wsX5_takeDesign := fun w h => (List.mem_cons_of_mem _ (List.mem_append_right _ h))
  have hP : va_P D ccl [(h0, .inr (6, [.ref ta, .ref qa, .ref pa])), (ta, .inl (cI, 32, .inl tf)), (qa, .inl (cI, 32, .inl qf)), (pa, .inl (cI, 32, .inl (pwZ 32)))] s.heap := hP
  have hl : lv_has ls 5 [(0, .ref h0)] := hl
  refine lv_iconst (v := 0) hx hb dX5_takeDesign_0 (by decide) ?_
  refine lv_istore_n (lv' := [(1, .int 0), (0, .ref h0)]) hx hb dX5_takeDesign_1 rfl hl (by decide) rfl (fun ls hl => ?_)
  refine lv_iconst (v := 0) hx hb dX5_takeDesign_2 (by decide) ?_
  refine lv_istore_n (lv' := [(2, .int 0), (1, .int 0), (0, .ref h0)]) hx hb dX5_takeDesign_3 rfl hl (by decide) rfl (fun ls hl => ?_)
  rw [show tf = desA qf tf 0 from desA_0] at hP hD
  refine W.widen (k := 0) (n := 0) (Nat.le_refl _) (Nat.le_refl _) ?_
  refine g_while (σ := Nat) (st := []) (nL := 5) (fun t => [(h0, .inr (6, [.ref ta, .ref qa, .ref pa])), (ta, .inl (cI, 32, .inl (desA qf tf t))), (qa, .inl (cI, 32, .inl qf)), (pa, .inl (cI, 32, .inl (pwZ 32)))])
    (fun t => [(0, .ref h0), (1, .int (nI (desN qf tf t))), (2, .int (nI t))])
    (fun t => t ≤ 32)
    (fun t => 32 - t) (fun t => 0) (fun t => 0)
    ?_ 0 (Nat.zero_le _) hP hD hS (lv_sub hl [2, 1, 0] rfl)
  intro t hI H locs ls hP hD hS hl ih
  have hI : t ≤ 32 := hI
  have hP : va_P D ccl [(h0, .inr (6, [.ref ta, .ref qa, .ref pa])), (ta, .inl (cI, 32, .inl (desA qf tf t))), (qa, .inl (cI, 32, .inl qf)), (pa, .inl (cI, 32, .inl (pwZ 32)))] H := hP
  have hD : va_D A [(h0, .inr (6, [.ref ta, .ref qa, .ref pa])), (ta, .inl (cI, 32, .inl (desA qf tf t))), (qa, .inl (cI, 32, .inl qf)), (pa, .inl (cI, 32, .inl (pwZ 32)))] := hD
  have hl : lv_has ls 5 [(0, .ref h0), (1, .int (nI (desN qf tf t))), (2, .int (nI t))] := hl
  change W p l e _ s m _ below meth c H locs 0 0 _ (F0 m 4 ls [])
  have ih_4 := ih
  clear ih
  refine lv_iload_n hx hb dX5_takeDesign_4 rfl (lv_at hl 2 rfl) ?_
  refine lv_bipush (v := 32) hx hb dX5_takeDesign_5 (by decide) ?_
  refine lv_icmp_ge (tgt := 82) hx hb dX5_takeDesign_7 (by decide) (fun c_7 => ?_) (fun c_7 => ?_)
  · have c_7 : 32 ≤ t := g_le (a := 32) (b := t) c_7 (by omega) (by omega)
    obtain rfl : t = 32 := by omega
    refine lv_iload_n hx hb dX5_takeDesign_82 rfl (lv_at hl 1 rfl) ?_
    refine g_iret (v := nI (desN qf tf 32)) hx hb hr hlk hP hK hD hS (Nat.le_of_ble_eq_true rfl) (Nat.le_of_ble_eq_true rfl) dX5_takeDesign_83 ?_
    exact ⟨rfl, (by first | rfl | (simp [c_7]; done))⟩
  · have c_7 : t < 32 := g_nle (a := 32) (b := t) c_7 (by omega) (by omega)
    refine lv_iconst (v := 0) hx hb dX5_takeDesign_10 (by decide) ?_
    refine lv_istore_n (lv' := [(3, .int 0), (0, .ref h0), (1, .int (nI (desN qf tf t))), (2, .int (nI t))]) hx hb dX5_takeDesign_11 rfl hl (by decide) rfl (fun ls hl => ?_)
    refine lv_iconst (v := 0) hx hb dX5_takeDesign_12 (by decide) ?_
    refine lv_istore (lv' := [(4, .int 0), (3, .int 0), (0, .ref h0), (1, .int (nI (desN qf tf t))), (2, .int (nI t))]) hx hb dX5_takeDesign_13 hl (by decide) rfl (fun ls hl => ?_)
    refine W.widen (k := 0) (n := 0) (Nat.le_refl _) (Nat.le_refl _) ?_
    refine g_while (σ := Nat) (st := []) (nL := 5) (fun k => [(h0, .inr (6, [.ref ta, .ref qa, .ref pa])), (ta, .inl (cI, 32, .inl (desA qf tf t))), (qa, .inl (cI, 32, .inl qf)), (pa, .inl (cI, 32, .inl (pwZ 32)))])
      (fun k => [(0, .ref h0), (1, .int (nI (desN qf tf t))), (2, .int (nI t)), (3, .int (nI (csum qf (fun i => pw (i * (32 - t) % 32)) k))), (4, .int (nI k))])
      (fun k => k ≤ 32)
      (fun k => 32 - k) (fun k => 0) (fun k => 0)
      ?_ 0 (Nat.zero_le _) hP hD hS (lv_sub hl [2, 3, 4, 1, 0] rfl)
    intro k hI H locs ls hP hD hS hl ih
    have hI : k ≤ 32 := hI
    have hP : va_P D ccl [(h0, .inr (6, [.ref ta, .ref qa, .ref pa])), (ta, .inl (cI, 32, .inl (desA qf tf t))), (qa, .inl (cI, 32, .inl qf)), (pa, .inl (cI, 32, .inl (pwZ 32)))] H := hP
    have hD : va_D A [(h0, .inr (6, [.ref ta, .ref qa, .ref pa])), (ta, .inl (cI, 32, .inl (desA qf tf t))), (qa, .inl (cI, 32, .inl qf)), (pa, .inl (cI, 32, .inl (pwZ 32)))] := hD
    have hl : lv_has ls 5 [(0, .ref h0), (1, .int (nI (desN qf tf t))), (2, .int (nI t)), (3, .int (nI (csum qf (fun i => pw (i * (32 - t) % 32)) k))), (4, .int (nI k))] := hl
    change W p l e _ s m _ below meth c H locs 0 0 _ (F0 m 15 ls [])
    have ih_15 := ih
    clear ih
    refine lv_iload hx hb dX5_takeDesign_15 (lv_at hl 4 rfl) ?_
    refine lv_bipush (v := 32) hx hb dX5_takeDesign_17 (by decide) ?_
    refine lv_icmp_ge (tgt := 49) hx hb dX5_takeDesign_19 (by decide) (fun c_19 => ?_) (fun c_19 => ?_)
    · have c_19 : 32 ≤ k := g_le (a := 32) (b := k) c_19 (by omega) (by omega)
      obtain rfl : k = 32 := by omega
      have hb9 := csum_le (g := (fun i => pw (i * (32 - t) % 32))) hq (fun i _ => pw_lt _) (Nat.le_refl 32)
      refine lv_iload_n hx hb dX5_takeDesign_49 rfl (lv_at hl 3 rfl) ?_
      refine lv_bipush (v := 97) hx hb dX5_takeDesign_50 (by decide) ?_
      refine lv_irem hx hb dX5_takeDesign_52 (by decide) ?_
      refine lv_topi (fun f ef => ?_)
      obtain rfl : f = nI ((csum qf (fun i => pw (i * (32 - t) % 32)) 32) % 97) := ef.trans (pk_rem (a := csum qf (fun i => pw (i * (32 - t) % 32)) 32) (d := 97) (by omega) (by omega) (by omega))
      refine lv_bipush (v := 94) hx hb dX5_takeDesign_53 (by decide) ?_
      refine lv_imul hx hb dX5_takeDesign_55 ?_
      refine lv_topi (fun f ef => ?_)
      obtain rfl : f = nI (((csum qf (fun i => pw (i * (32 - t) % 32)) 32) % 97) * 94) := ef.trans (pk_mul _ _)
      refine lv_bipush (v := 97) hx hb dX5_takeDesign_56 (by decide) ?_
      refine lv_irem hx hb dX5_takeDesign_58 (by decide) ?_
      refine lv_topi (fun f ef => ?_)
      obtain rfl : f = nI (desT qf t) := ef.trans ((pk_rem (a := csum qf (fun i => pw (i * (32 - t) % 32)) 32 % 97 * 94) (d := 97) (by omega) (by omega) (by omega)).trans (congrArg nI desT_eq))
      refine lv_istore (lv' := [(4, .int (nI (desT qf t))), (0, .ref h0), (1, .int (nI (desN qf tf t))), (2, .int (nI t)), (3, .int (nI (csum qf (fun i => pw (i * (32 - t) % 32)) 32)))]) hx hb dX5_takeDesign_59 hl (by decide) rfl (fun ls hl => ?_)
      refine lv_aload_n hx hb dX5_takeDesign_61 rfl (lv_at hl 1 rfl) ?_
      refine lv_iload_n hx hb dX5_takeDesign_62 rfl (lv_at hl 3 rfl) ?_
      refine lv_iload hx hb dX5_takeDesign_63 (lv_at hl 0 rfl) ?_
      have hPc := hP.sub (ws' := [(h0, .inr (6, [.ref ta, .ref qa, .ref pa])), (ta, .inl (cI, 32, .inl (desA qf tf t))), (qa, .inl (cI, 32, .inl qf)), (pa, .inl (cI, 32, .inl (pwZ 32)))]) [0, 1, 2, 3] rfl
      have hDc := hD.sub (ws' := [(h0, .inr (6, [.ref ta, .ref qa, .ref pa])), (ta, .inl (cI, 32, .inl (desA qf tf t))), (qa, .inl (cI, 32, .inl qf)), (pa, .inl (cI, 32, .inl (pwZ 32)))]) [0, 1, 2, 3] (by decide) rfl
      have hFc := va_free (wc := [(h0, .inr (6, [.ref ta, .ref qa, .ref pa])), (ta, .inl (cI, 32, .inl (desA qf tf t))), (qa, .inl (cI, 32, .inl qf)), (pa, .inl (cI, 32, .inl (pwZ 32)))]) hD hS hA [0, 1, 2, 3] rfl
      refine g_Vi (As := [.int (nI t), .int (nI (desT qf t))]) (rest := []) CF (c_X5_replaceTap l D cI cJ cO df H.size h0 ta qa pa (desA qf tf t) qf t (nI (desT qf t)) c_7) (cwV 2 hts gX5_takeDesign_X5_replaceTap rfl rfl rfl (by decide +kernel) ⟨Nat.le_of_ble_eq_true rfl, Nat.le_of_ble_eq_true rfl⟩) (va_recv hK hP (ci := 6) (q0 := 0) rfl rfl) hPc hK hDc hV hH hS hFc rfl hl.1 rfl (Nat.le_of_ble_eq_true rfl) dX5_takeDesign_65 ⟨Nat.le_of_ble_eq_true rfl, Nat.le_of_ble_eq_true rfl⟩ (fun r_65 w1 H1 locs1 hq hP1 hD1 hk hS hz => ?_)
      obtain ⟨rfl, hr_65⟩ := hq
      obtain ⟨hP, hD⟩ := g_join (ws' := [(h0, .inr (6, [.ref ta, .ref qa, .ref pa])), (ta, .inl (cI, 32, .inl (upd (desA qf tf t) t (rs97 (nI (desT qf t)))))), (qa, .inl (cI, 32, .inl qf)), (pa, .inl (cI, 32, .inl (pwZ 32)))]) hP hD hk hFc hP1 hD1 [0, 1, 2, 3] [] [0, 1, 2, 3] rfl rfl (by decide) (by decide) (by decide) rfl
      clear hPc hDc hFc hP1 hD1 hk hz
      generalize H1 = H at hP hS ⊢
      have hP : va_P D ccl [(h0, .inr (6, [.ref ta, .ref qa, .ref pa])), (ta, .inl (cI, 32, .inl (upd (desA qf tf t) t (rs97 (nI (desT qf t)))))), (qa, .inl (cI, 32, .inl qf)), (pa, .inl (cI, 32, .inl (pwZ 32)))] H := hP
      have hD : va_D A [(h0, .inr (6, [.ref ta, .ref qa, .ref pa])), (ta, .inl (cI, 32, .inl (upd (desA qf tf t) t (rs97 (nI (desT qf t)))))), (qa, .inl (cI, 32, .inl qf)), (pa, .inl (cI, 32, .inl (pwZ 32)))] := hD
      subst hr_65
      refine lv_topi (fun f ef => ?_)
      obtain rfl : f = tf t := ef.trans (if_neg (Nat.lt_irrefl t))
      rw [show upd (desA qf tf t) t (rs97 (nI (desT qf t))) = desA qf tf (t + 1) from by rw [rs97_nI (desT_lt _ _)]; exact desA_s] at hP hD
      refine lv_iload hx hb dX5_takeDesign_68 (lv_at hl 0 rfl) ?_
      refine lv_icmp_eq (tgt := 76) hx hb dX5_takeDesign_70 (by decide) (fun c_70 => ?_) (fun c_70 => ?_)
      · have e76 : desN qf tf (t + 1) = desN qf tf t := by rw [desN_s, if_pos c_70]; rfl
        have hl : lv_has ls 5 [(4, .int (nI (desT qf t))), (0, .ref h0), (1, .int (nI (desN qf tf (t + 1)))), (2, .int (nI t)), (3, .int (nI (csum qf (fun i => pw (i * (32 - t) % 32)) 32)))] := by rw [e76]; exact hl
        refine lv_iinc (v := nI (t + 1)) (lv' := [(2, .int (nI (t + 1))), (4, .int (nI (desT qf t))), (0, .ref h0), (1, .int (nI (desN qf tf (t + 1)))), (3, .int (nI (csum qf (fun i => pw (i * (32 - t) % 32)) 32)))]) hx hb dX5_takeDesign_76 hl (k := 3) rfl (by exact nI_1 _) (by decide) rfl (fun ls hl => ?_)
        refine lv_goto (tgt := 4) hx hb dX5_takeDesign_79 (by decide) ?_
        refine W.widen (k := 0) (n := 0) (Nat.le_refl _) (Nat.le_refl _) ?_
        exact ih_4 (t + 1) _ _ _ (show (t + 1) ≤ 32 from (by exact c_7)) (show 32 - (t + 1) < 32 - t by omega) hP hD hS (lv_sub hl [2, 3, 0] rfl)
      · refine lv_iinc (v := nI (desN qf tf (t + 1))) (lv' := [(1, .int (nI (desN qf tf (t + 1)))), (4, .int (nI (desT qf t))), (0, .ref h0), (2, .int (nI t)), (3, .int (nI (csum qf (fun i => pw (i * (32 - t) % 32)) 32)))]) hx hb dX5_takeDesign_73 hl (k := 2) rfl (by exact by rw [desN_s, if_neg c_70]; exact nI_1 _) (by decide) rfl (fun ls hl => ?_)
        refine lv_iinc (v := nI (t + 1)) (lv' := [(2, .int (nI (t + 1))), (1, .int (nI (desN qf tf (t + 1)))), (4, .int (nI (desT qf t))), (0, .ref h0), (3, .int (nI (csum qf (fun i => pw (i * (32 - t) % 32)) 32)))]) hx hb dX5_takeDesign_76 hl (k := 3) rfl (by exact nI_1 _) (by decide) rfl (fun ls hl => ?_)
        refine lv_goto (tgt := 4) hx hb dX5_takeDesign_79 (by decide) ?_
        refine W.widen (k := 0) (n := 0) (Nat.le_refl _) (Nat.le_refl _) ?_
        exact ih_4 (t + 1) _ _ _ (show (t + 1) ≤ 32 from (by exact c_7)) (show 32 - (t + 1) < 32 - t by omega) hP hD hS (lv_sub hl [3, 1, 0] rfl)
    · have c_19 : k < 32 := g_nle (a := 32) (b := k) c_19 (by omega) (by omega)
      refine lv_iload_n hx hb dX5_takeDesign_22 rfl (lv_at hl 3 rfl) ?_
      refine lv_aload_n hx hb dX5_takeDesign_23 rfl (lv_at hl 0 rfl) ?_
      refine va_get (D := D) (ci := 6) (v := .ref qa) (C := RX5) (T := TX5) (N := 3) hx hb hts inX5 hown hK hP 0 rfl rfl 1 (by decide) hfieldLink_RX5_13 (fun _ h9 => h9) rfl dX5_takeDesign_24 ?_
      refine lv_iload hx hb dX5_takeDesign_27 (lv_at hl 4 rfl) ?_
      refine va_iald hx hb hK hP 2 0 rfl rfl (vp_in_nI (by omega) (by omega)) dX5_takeDesign_29 ?_
      refine lv_topi (fun f ef => ?_)
      obtain rfl : f = qf k := ef.trans (congrArg qf (nI_clamp (n := k) (by omega)))
      refine lv_topi (fun f ef => ?_)
      obtain rfl : f = nI (gN (qf k)) := ef.trans ((hq k c_19).1)
      refine lv_aload_n hx hb dX5_takeDesign_30 rfl (lv_at hl 0 rfl) ?_
      refine lv_iload hx hb dX5_takeDesign_31 (lv_at hl 4 rfl) ?_
      refine lv_bipush (v := 32) hx hb dX5_takeDesign_33 (by decide) ?_
      refine lv_iload_n hx hb dX5_takeDesign_35 rfl (lv_at hl 2 rfl) ?_
      refine lv_isub hx hb dX5_takeDesign_36 ?_
      refine lv_topi (fun f ef => ?_)
      obtain rfl : f = nI (32 - t) := ef.trans (pk_sub (a := 32) (b := t) (by omega))
      have hPc := hP.sub (ws' := [(h0, .inr (6, [.ref ta, .ref qa, .ref pa])), (ta, .inl (cI, 32, .inl (desA qf tf t))), (qa, .inl (cI, 32, .inl qf)), (pa, .inl (cI, 32, .inl (pwZ 32)))]) [0, 1, 2, 3] rfl
      have hDc := hD.sub (ws' := [(h0, .inr (6, [.ref ta, .ref qa, .ref pa])), (ta, .inl (cI, 32, .inl (desA qf tf t))), (qa, .inl (cI, 32, .inl qf)), (pa, .inl (cI, 32, .inl (pwZ 32)))]) [0, 1, 2, 3] (by decide) rfl
      have hFc := va_free (wc := [(h0, .inr (6, [.ref ta, .ref qa, .ref pa])), (ta, .inl (cI, 32, .inl (desA qf tf t))), (qa, .inl (cI, 32, .inl qf)), (pa, .inl (cI, 32, .inl (pwZ 32)))]) hD hS hA [0, 1, 2, 3] rfl
      refine g_Vi (As := [.int (nI k), .int (nI (32 - t))]) (rest := [.int (nI (gN (qf k))), .int (nI (csum qf (fun i => pw (i * (32 - t) % 32)) k))]) CF (c_X5_rootOf l D cI cJ cO df H.size h0 ta qa pa (desA qf tf t) qf k (32 - t) (Nat.lt_of_le_of_lt (Nat.mul_le_mul (show k ≤ 32 by omega) (show 32 - t ≤ 32 by omega)) (by decide))) (cwV 2 hts gX5_takeDesign_X5_rootOf rfl rfl rfl (by decide +kernel) ⟨Nat.le_of_ble_eq_true rfl, Nat.le_of_ble_eq_true rfl⟩) (va_recv hK hP (ci := 6) (q0 := 0) rfl rfl) hPc hK hDc hV hH hS hFc rfl hl.1 rfl (Nat.le_of_ble_eq_true rfl) dX5_takeDesign_37 ⟨Nat.le_of_ble_eq_true rfl, Nat.le_of_ble_eq_true rfl⟩ (fun r_37 w1 H1 locs1 hq hP1 hD1 hk hS hz => ?_)
      obtain ⟨rfl, hr_37⟩ := hq
      have hP := g_keepR hP hD [0, 1, 2, 3] rfl hk hP1
      clear hPc hDc hFc hP1 hD1 hk hz
      generalize H1 = H at hP hS ⊢
      have hP : va_P D ccl [(h0, .inr (6, [.ref ta, .ref qa, .ref pa])), (ta, .inl (cI, 32, .inl (desA qf tf t))), (qa, .inl (cI, 32, .inl qf)), (pa, .inl (cI, 32, .inl (pwZ 32)))] H := hP
      have hD : va_D A [(h0, .inr (6, [.ref ta, .ref qa, .ref pa])), (ta, .inl (cI, 32, .inl (desA qf tf t))), (qa, .inl (cI, 32, .inl qf)), (pa, .inl (cI, 32, .inl (pwZ 32)))] := hD
      subst hr_37
      refine lv_imul hx hb dX5_takeDesign_40 ?_
      refine lv_topi (fun f ef => ?_)
      obtain rfl : f = nI ((gN (qf k)) * (pw (k * (32 - t) % 32))) := ef.trans (pk_mul _ _)
      refine lv_iadd hx hb dX5_takeDesign_41 ?_
      refine lv_topi (fun f ef => ?_)
      obtain rfl : f = nI ((csum qf (fun i => pw (i * (32 - t) % 32)) k) + ((gN (qf k)) * (pw (k * (32 - t) % 32)))) := ef.trans (nI_add _ _)
      refine lv_istore_n (lv' := [(3, .int (nI ((csum qf (fun i => pw (i * (32 - t) % 32)) k) + ((gN (qf k)) * (pw (k * (32 - t) % 32)))))), (0, .ref h0), (1, .int (nI (desN qf tf t))), (2, .int (nI t)), (4, .int (nI k))]) hx hb dX5_takeDesign_42 rfl hl (by decide) rfl (fun ls hl => ?_)
      refine lv_iinc (v := nI (k + 1)) (lv' := [(4, .int (nI (k + 1))), (3, .int (nI ((csum qf (fun i => pw (i * (32 - t) % 32)) k) + ((gN (qf k)) * (pw (k * (32 - t) % 32)))))), (0, .ref h0), (1, .int (nI (desN qf tf t))), (2, .int (nI t))]) hx hb dX5_takeDesign_43 hl (k := 4) rfl (by exact nI_1 _) (by decide) rfl (fun ls hl => ?_)
      refine lv_goto (tgt := 15) hx hb dX5_takeDesign_46 (by decide) ?_
      refine W.widen (k := 0) (n := 0) (Nat.le_refl _) (Nat.le_refl _) ?_
      exact ih_15 (k + 1) _ _ _ (show (k + 1) ≤ 32 from (by exact c_19)) (show 32 - (k + 1) < 32 - k by omega) hP hD hS (lv_sub hl [2, 3, 4, 1, 0] rfl)

set_option maxHeartbeats 4000000 in
set_option maxRecDepth 100000 in
theorem c_X5_answerBySum (l : Launch) (D : va_G) (cI cJ cO : ClassId) (df sz : Nat) (h0 : Nat) (ta : Nat) (qa : Nat) (pa : Nat) (tf : Nat → Int32) (qf : Nat → Int32) (T : Nat) (ht : isR tf 32) (hT : T < 32) : MetI l yX5_answerBySum wsX5_answerBySum ({ frames := 2, cells := 0, slots := 0, locals := 44 } : Room) D (gTY cI cJ cO) df [(h0, .inr (6, [.ref ta, .ref qa, .ref pa])), (ta, .inl (cI, 32, .inl tf)), (qa, .inl (cI, 32, .inl qf)), (pa, .inl (cI, 32, .inl (pwZ 32)))] sz [.ref h0, .int (nI T)] (fun (r : Int32) (wZ : va_W) => wZ = [(h0, .inr (6, [.ref ta, .ref qa, .ref pa])), (ta, .inl (cI, 32, .inl tf)), (qa, .inl (cI, 32, .inl qf)), (pa, .inl (cI, 32, .inl (pwZ 32)))] ∧ r = nI (asum tf T 32)) := by
  refine g_of (cc := cX5_answerBySum) (nL := 4) (ret := (some .int)) (D := D) (TY := (gTY cI cJ cO)) (df := df) (Qc := fun A => va_Qi (fun (r : Int32) (wZ : va_W) => wZ = [(h0, .inr (6, [.ref ta, .ref qa, .ref pa])), (ta, .inl (cI, 32, .inl tf)), (qa, .inl (cI, 32, .inl qf)), (pa, .inl (cI, 32, .inl (pwZ 32)))] ∧ r = nI (asum tf T 32)) (gB D (gTY cI cJ cO) A) A) (by decide +kernel) rfl (Nat.le_of_ble_eq_true rfl) ?_
  intro p e s m below meth c ls A hsz C0 hin hl
  obtain ⟨CF, hr, hlk, hA, hS, hP, hK, hD, hV, hH⟩ := C0
  have CF : CallFix p m c cX5_answerBySum 4 s _ wsX5_answerBySum RX5 := CF
  obtain ⟨hx, hb, hml, hown, hts⟩ := id CF
  subst hsz
  have hfieldLink_RX5_9 : (Cond.fieldLink RX5 9 "TapLoom$TapRow" "taps" "[I").before _ s = true := hts _ (List.mem_of_getElem? (i := 1) rfl)
  have hmethodLink_RX5_29 : (Cond.methodLink RX5 29 yX5_rootOf).before _ s = true := hts _ (List.mem_of_getElem? (i := 2) rfl)
  have inX5 : ∀ w ∈ u_ws RX5 TX5 3, w ∈ wsX5_answerBySum := fun w h => (List.mem_cons_of_mem _ (List.mem_append_right _ h))
  have hP : va_P D ccl [(h0, .inr (6, [.ref ta, .ref qa, .ref pa])), (ta, .inl (cI, 32, .inl tf)), (qa, .inl (cI, 32, .inl qf)), (pa, .inl (cI, 32, .inl (pwZ 32)))] s.heap := hP
  have hl : lv_has ls 4 [(0, .ref h0), (1, .int (nI T))] := hl
  refine lv_iconst (v := 0) hx hb dX5_answerBySum_0 (by decide) ?_
  refine lv_istore_n (lv' := [(2, .int 0), (0, .ref h0), (1, .int (nI T))]) hx hb dX5_answerBySum_1 rfl hl (by decide) rfl (fun ls hl => ?_)
  refine lv_iconst (v := 0) hx hb dX5_answerBySum_2 (by decide) ?_
  refine lv_istore_n (lv' := [(3, .int 0), (2, .int 0), (0, .ref h0), (1, .int (nI T))]) hx hb dX5_answerBySum_3 rfl hl (by decide) rfl (fun ls hl => ?_)
  refine W.widen (k := 0) (n := 0) (Nat.le_refl _) (Nat.le_refl _) ?_
  refine g_while (σ := Nat) (st := []) (nL := 4) (fun k => [(h0, .inr (6, [.ref ta, .ref qa, .ref pa])), (ta, .inl (cI, 32, .inl tf)), (qa, .inl (cI, 32, .inl qf)), (pa, .inl (cI, 32, .inl (pwZ 32)))])
    (fun k => [(0, .ref h0), (1, .int (nI T)), (2, .int (nI (csum tf (fun i => pw (T * i % 32)) k))), (3, .int (nI k))])
    (fun k => k ≤ 32)
    (fun k => 32 - k) (fun k => 0) (fun k => 0)
    ?_ 0 (Nat.zero_le _) hP hD hS (lv_sub hl [2, 3, 1, 0] rfl)
  intro k hI H locs ls hP hD hS hl ih
  have hI : k ≤ 32 := hI
  have hP : va_P D ccl [(h0, .inr (6, [.ref ta, .ref qa, .ref pa])), (ta, .inl (cI, 32, .inl tf)), (qa, .inl (cI, 32, .inl qf)), (pa, .inl (cI, 32, .inl (pwZ 32)))] H := hP
  have hD : va_D A [(h0, .inr (6, [.ref ta, .ref qa, .ref pa])), (ta, .inl (cI, 32, .inl tf)), (qa, .inl (cI, 32, .inl qf)), (pa, .inl (cI, 32, .inl (pwZ 32)))] := hD
  have hl : lv_has ls 4 [(0, .ref h0), (1, .int (nI T)), (2, .int (nI (csum tf (fun i => pw (T * i % 32)) k))), (3, .int (nI k))] := hl
  change W p l e _ s m _ below meth c H locs 0 0 _ (F0 m 4 ls [])
  have ih_4 := ih
  clear ih
  refine lv_iload_n hx hb dX5_answerBySum_4 rfl (lv_at hl 3 rfl) ?_
  refine lv_bipush (v := 32) hx hb dX5_answerBySum_5 (by decide) ?_
  refine lv_icmp_ge (tgt := 32) hx hb dX5_answerBySum_7 (by decide) (fun c_7 => ?_) (fun c_7 => ?_)
  · have c_7 : 32 ≤ k := g_le (a := 32) (b := k) c_7 (by omega) (by omega)
    obtain rfl : k = 32 := by omega
    have hb9 := csum_le (g := (fun i => pw (T * i % 32))) ht (fun i _ => pw_lt _) (Nat.le_refl 32)
    refine lv_iload_n hx hb dX5_answerBySum_32 rfl (lv_at hl 2 rfl) ?_
    refine lv_bipush (v := 97) hx hb dX5_answerBySum_33 (by decide) ?_
    refine lv_irem hx hb dX5_answerBySum_35 (by decide) ?_
    refine lv_topi (fun f ef => ?_)
    obtain rfl : f = nI (asum tf T 32) := ef.trans ((pk_rem (a := csum tf (fun i => pw (T * i % 32)) 32) (d := 97) (by omega) (by omega) (by omega)).trans (congrArg nI (csum_asum _ _ _)))
    refine g_iret (v := nI (asum tf T 32)) hx hb hr hlk hP hK hD hS (Nat.le_of_ble_eq_true rfl) (Nat.le_of_ble_eq_true rfl) dX5_answerBySum_36 ?_
    exact ⟨rfl, (by first | rfl | (simp [c_7]; done))⟩
  · have c_7 : k < 32 := g_nle (a := 32) (b := k) c_7 (by omega) (by omega)
    refine lv_iload_n hx hb dX5_answerBySum_10 rfl (lv_at hl 2 rfl) ?_
    refine lv_aload_n hx hb dX5_answerBySum_11 rfl (lv_at hl 0 rfl) ?_
    refine va_get (D := D) (ci := 6) (v := .ref ta) (C := RX5) (T := TX5) (N := 3) hx hb hts inX5 hown hK hP 0 rfl rfl 0 (by decide) hfieldLink_RX5_9 (fun _ h9 => h9) rfl dX5_answerBySum_12 ?_
    refine lv_iload_n hx hb dX5_answerBySum_15 rfl (lv_at hl 3 rfl) ?_
    refine va_iald hx hb hK hP 1 0 rfl rfl (vp_in_nI (by omega) (by omega)) dX5_answerBySum_16 ?_
    refine lv_topi (fun f ef => ?_)
    obtain rfl : f = tf k := ef.trans (congrArg tf (nI_clamp (n := k) (by omega)))
    refine lv_topi (fun f ef => ?_)
    obtain rfl : f = nI (gN (tf k)) := ef.trans ((ht k c_7).1)
    refine lv_aload_n hx hb dX5_answerBySum_17 rfl (lv_at hl 0 rfl) ?_
    refine lv_iload_n hx hb dX5_answerBySum_18 rfl (lv_at hl 1 rfl) ?_
    refine lv_iload_n hx hb dX5_answerBySum_19 rfl (lv_at hl 3 rfl) ?_
    have hPc := hP.sub (ws' := [(h0, .inr (6, [.ref ta, .ref qa, .ref pa])), (ta, .inl (cI, 32, .inl tf)), (qa, .inl (cI, 32, .inl qf)), (pa, .inl (cI, 32, .inl (pwZ 32)))]) [0, 1, 2, 3] rfl
    have hDc := hD.sub (ws' := [(h0, .inr (6, [.ref ta, .ref qa, .ref pa])), (ta, .inl (cI, 32, .inl tf)), (qa, .inl (cI, 32, .inl qf)), (pa, .inl (cI, 32, .inl (pwZ 32)))]) [0, 1, 2, 3] (by decide) rfl
    have hFc := va_free (wc := [(h0, .inr (6, [.ref ta, .ref qa, .ref pa])), (ta, .inl (cI, 32, .inl tf)), (qa, .inl (cI, 32, .inl qf)), (pa, .inl (cI, 32, .inl (pwZ 32)))]) hD hS hA [0, 1, 2, 3] rfl
    refine g_Vi (As := [.int (nI T), .int (nI k)]) (rest := [.int (nI (gN (tf k))), .int (nI (csum tf (fun i => pw (T * i % 32)) k))]) CF (c_X5_rootOf l D cI cJ cO df H.size h0 ta qa pa tf qf T k (Nat.lt_of_le_of_lt (Nat.mul_le_mul (show T ≤ 32 by omega) (show k ≤ 32 by omega)) (by decide))) (cwV 2 hts gX5_answerBySum_X5_rootOf rfl rfl rfl (by decide +kernel) ⟨Nat.le_of_ble_eq_true rfl, Nat.le_of_ble_eq_true rfl⟩) (va_recv hK hP (ci := 6) (q0 := 0) rfl rfl) hPc hK hDc hV hH hS hFc rfl hl.1 rfl (Nat.le_of_ble_eq_true rfl) dX5_answerBySum_20 ⟨Nat.le_of_ble_eq_true rfl, Nat.le_of_ble_eq_true rfl⟩ (fun r_20 w1 H1 locs1 hq hP1 hD1 hk hS hz => ?_)
    obtain ⟨rfl, hr_20⟩ := hq
    have hP := g_keepR hP hD [0, 1, 2, 3] rfl hk hP1
    clear hPc hDc hFc hP1 hD1 hk hz
    generalize H1 = H at hP hS ⊢
    have hP : va_P D ccl [(h0, .inr (6, [.ref ta, .ref qa, .ref pa])), (ta, .inl (cI, 32, .inl tf)), (qa, .inl (cI, 32, .inl qf)), (pa, .inl (cI, 32, .inl (pwZ 32)))] H := hP
    have hD : va_D A [(h0, .inr (6, [.ref ta, .ref qa, .ref pa])), (ta, .inl (cI, 32, .inl tf)), (qa, .inl (cI, 32, .inl qf)), (pa, .inl (cI, 32, .inl (pwZ 32)))] := hD
    subst hr_20
    refine lv_imul hx hb dX5_answerBySum_23 ?_
    refine lv_topi (fun f ef => ?_)
    obtain rfl : f = nI ((gN (tf k)) * (pw (T * k % 32))) := ef.trans (pk_mul _ _)
    refine lv_iadd hx hb dX5_answerBySum_24 ?_
    refine lv_topi (fun f ef => ?_)
    obtain rfl : f = nI ((csum tf (fun i => pw (T * i % 32)) k) + ((gN (tf k)) * (pw (T * k % 32)))) := ef.trans (nI_add _ _)
    refine lv_istore_n (lv' := [(2, .int (nI ((csum tf (fun i => pw (T * i % 32)) k) + ((gN (tf k)) * (pw (T * k % 32)))))), (0, .ref h0), (1, .int (nI T)), (3, .int (nI k))]) hx hb dX5_answerBySum_25 rfl hl (by decide) rfl (fun ls hl => ?_)
    refine lv_iinc (v := nI (k + 1)) (lv' := [(3, .int (nI (k + 1))), (2, .int (nI ((csum tf (fun i => pw (T * i % 32)) k) + ((gN (tf k)) * (pw (T * k % 32)))))), (0, .ref h0), (1, .int (nI T))]) hx hb dX5_answerBySum_26 hl (k := 3) rfl (by exact nI_1 _) (by decide) rfl (fun ls hl => ?_)
    refine lv_goto (tgt := 4) hx hb dX5_answerBySum_29 (by decide) ?_
    refine W.widen (k := 0) (n := 0) (Nat.le_refl _) (Nat.le_refl _) ?_
    exact ih_4 (k + 1) _ _ _ (show (k + 1) ≤ 32 from (by exact c_7)) (show 32 - (k + 1) < 32 - k by omega) hP hD hS (lv_sub hl [2, 3, 1, 0] rfl)

set_option maxHeartbeats 4000000 in
set_option maxRecDepth 100000 in
theorem c_X5_answerByTwo (l : Launch) (D : va_G) (cI cJ cO : ClassId) (df sz : Nat) (h0 : Nat) (ta : Nat) (qa : Nat) (pa : Nat) (tf : Nat → Int32) (qf : Nat → Int32) (T : Nat) (ht : isR tf 32) (hT : T < 32) : MetI l yX5_answerByTwo wsX5_answerByTwo ({ frames := 2, cells := 0, slots := 0, locals := 44 } : Room) D (gTY cI cJ cO) df [(h0, .inr (6, [.ref ta, .ref qa, .ref pa])), (ta, .inl (cI, 32, .inl tf)), (qa, .inl (cI, 32, .inl qf)), (pa, .inl (cI, 32, .inl (pwZ 32)))] sz [.ref h0, .int (nI T)] (fun (r : Int32) (wZ : va_W) => wZ = [(h0, .inr (6, [.ref ta, .ref qa, .ref pa])), (ta, .inl (cI, 32, .inl tf)), (qa, .inl (cI, 32, .inl qf)), (pa, .inl (cI, 32, .inl (pwZ 32)))] ∧ r = nI (asum tf T 32)) := by
  refine g_of (cc := cX5_answerByTwo) (nL := 8) (ret := (some .int)) (D := D) (TY := (gTY cI cJ cO)) (df := df) (Qc := fun A => va_Qi (fun (r : Int32) (wZ : va_W) => wZ = [(h0, .inr (6, [.ref ta, .ref qa, .ref pa])), (ta, .inl (cI, 32, .inl tf)), (qa, .inl (cI, 32, .inl qf)), (pa, .inl (cI, 32, .inl (pwZ 32)))] ∧ r = nI (asum tf T 32)) (gB D (gTY cI cJ cO) A) A) (by decide +kernel) rfl (Nat.le_of_ble_eq_true rfl) ?_
  intro p e s m below meth c ls A hsz C0 hin hl
  obtain ⟨CF, hr, hlk, hA, hS, hP, hK, hD, hV, hH⟩ := C0
  have CF : CallFix p m c cX5_answerByTwo 8 s _ wsX5_answerByTwo RX5 := CF
  obtain ⟨hx, hb, hml, hown, hts⟩ := id CF
  subst hsz
  have hmethodLink_RX5_29 : (Cond.methodLink RX5 29 yX5_rootOf).before _ s = true := hts _ (List.mem_of_getElem? (i := 2) rfl)
  have hmethodLink_RX5_19 : (Cond.methodLink RX5 19 yJ9_floorMod_7cf53).before _ s = true := hts _ (List.mem_of_getElem? (i := 8) rfl)
  have hfieldLink_RX5_9 : (Cond.fieldLink RX5 9 "TapLoom$TapRow" "taps" "[I").before _ s = true := hts _ (List.mem_of_getElem? (i := 1) rfl)
  have inX5 : ∀ w ∈ u_ws RX5 TX5 3, w ∈ wsX5_answerByTwo := fun w h => (List.mem_cons_of_mem _ (List.mem_append_right _ h))
  have hP : va_P D ccl [(h0, .inr (6, [.ref ta, .ref qa, .ref pa])), (ta, .inl (cI, 32, .inl tf)), (qa, .inl (cI, 32, .inl qf)), (pa, .inl (cI, 32, .inl (pwZ 32)))] s.heap := hP
  have hl : lv_has ls 8 [(0, .ref h0), (1, .int (nI T))] := hl
  refine lv_aload_n hx hb dX5_answerByTwo_0 rfl (lv_at hl 0 rfl) ?_
  refine lv_iload_n hx hb dX5_answerByTwo_1 rfl (lv_at hl 1 rfl) ?_
  refine lv_bipush (v := 31) hx hb dX5_answerByTwo_2 (by decide) ?_
  have hPc := hP.sub (ws' := [(h0, .inr (6, [.ref ta, .ref qa, .ref pa])), (ta, .inl (cI, 32, .inl tf)), (qa, .inl (cI, 32, .inl qf)), (pa, .inl (cI, 32, .inl (pwZ 32)))]) [0, 1, 2, 3] rfl
  have hDc := hD.sub (ws' := [(h0, .inr (6, [.ref ta, .ref qa, .ref pa])), (ta, .inl (cI, 32, .inl tf)), (qa, .inl (cI, 32, .inl qf)), (pa, .inl (cI, 32, .inl (pwZ 32)))]) [0, 1, 2, 3] (by decide) rfl
  have hFc := va_free (wc := [(h0, .inr (6, [.ref ta, .ref qa, .ref pa])), (ta, .inl (cI, 32, .inl tf)), (qa, .inl (cI, 32, .inl qf)), (pa, .inl (cI, 32, .inl (pwZ 32)))]) hD hS hA [0, 1, 2, 3] rfl
  refine g_Vi (As := [.int (nI T), .int 31]) (rest := []) CF (c_X5_rootOf l D cI cJ cO df s.heap.size h0 ta qa pa tf qf T 31 (by omega)) (cwV 2 hts gX5_answerByTwo_X5_rootOf rfl rfl rfl (by decide +kernel) ⟨Nat.le_of_ble_eq_true rfl, Nat.le_of_ble_eq_true rfl⟩) (va_recv hK hP (ci := 6) (q0 := 0) rfl rfl) hPc hK hDc hV hH hS hFc rfl hl.1 rfl (Nat.le_of_ble_eq_true rfl) dX5_answerByTwo_4 ⟨Nat.le_of_ble_eq_true rfl, Nat.le_of_ble_eq_true rfl⟩ (fun r_4 w1 H1 locs1 hq hP1 hD1 hk hS hz => ?_)
  obtain ⟨rfl, hr_4⟩ := hq
  have hP := g_keepR hP hD [0, 1, 2, 3] rfl hk hP1
  clear hPc hDc hFc hP1 hD1 hk hz
  generalize H1 = H at hP hS ⊢
  have hP : va_P D ccl [(h0, .inr (6, [.ref ta, .ref qa, .ref pa])), (ta, .inl (cI, 32, .inl tf)), (qa, .inl (cI, 32, .inl qf)), (pa, .inl (cI, 32, .inl (pwZ 32)))] H := hP
  have hD : va_D A [(h0, .inr (6, [.ref ta, .ref qa, .ref pa])), (ta, .inl (cI, 32, .inl tf)), (qa, .inl (cI, 32, .inl qf)), (pa, .inl (cI, 32, .inl (pwZ 32)))] := hD
  subst hr_4
  refine lv_istore_n (lv' := [(2, .int (nI (pw (T * 31 % 32)))), (0, .ref h0), (1, .int (nI T))]) hx hb dX5_answerByTwo_7 rfl hl (by decide) rfl (fun ls hl => ?_)
  refine lv_aload_n hx hb dX5_answerByTwo_8 rfl (lv_at hl 1 rfl) ?_
  refine lv_iload_n hx hb dX5_answerByTwo_9 rfl (lv_at hl 2 rfl) ?_
  refine lv_iconst (v := 1) hx hb dX5_answerByTwo_10 (by decide) ?_
  have hPc := hP.sub (ws' := [(h0, .inr (6, [.ref ta, .ref qa, .ref pa])), (ta, .inl (cI, 32, .inl tf)), (qa, .inl (cI, 32, .inl qf)), (pa, .inl (cI, 32, .inl (pwZ 32)))]) [0, 1, 2, 3] rfl
  have hDc := hD.sub (ws' := [(h0, .inr (6, [.ref ta, .ref qa, .ref pa])), (ta, .inl (cI, 32, .inl tf)), (qa, .inl (cI, 32, .inl qf)), (pa, .inl (cI, 32, .inl (pwZ 32)))]) [0, 1, 2, 3] (by decide) rfl
  have hFc := va_free (wc := [(h0, .inr (6, [.ref ta, .ref qa, .ref pa])), (ta, .inl (cI, 32, .inl tf)), (qa, .inl (cI, 32, .inl qf)), (pa, .inl (cI, 32, .inl (pwZ 32)))]) hD hS hA [0, 1, 2, 3] rfl
  refine g_Vi (As := [.int (nI T), .int 1]) (rest := []) CF (c_X5_rootOf l D cI cJ cO df H.size h0 ta qa pa tf qf T 1 (by omega)) (cwV 2 hts gX5_answerByTwo_X5_rootOf rfl rfl rfl (by decide +kernel) ⟨Nat.le_of_ble_eq_true rfl, Nat.le_of_ble_eq_true rfl⟩) (va_recv hK hP (ci := 6) (q0 := 0) rfl rfl) hPc hK hDc hV hH hS hFc rfl hl.1 rfl (Nat.le_of_ble_eq_true rfl) dX5_answerByTwo_11 ⟨Nat.le_of_ble_eq_true rfl, Nat.le_of_ble_eq_true rfl⟩ (fun r_11 w1 H1 locs1 hq hP1 hD1 hk hS hz => ?_)
  obtain ⟨rfl, hr_11⟩ := hq
  have hP := g_keepR hP hD [0, 1, 2, 3] rfl hk hP1
  clear hPc hDc hFc hP1 hD1 hk hz
  generalize H1 = H at hP hS ⊢
  have hP : va_P D ccl [(h0, .inr (6, [.ref ta, .ref qa, .ref pa])), (ta, .inl (cI, 32, .inl tf)), (qa, .inl (cI, 32, .inl qf)), (pa, .inl (cI, 32, .inl (pwZ 32)))] H := hP
  have hD : va_D A [(h0, .inr (6, [.ref ta, .ref qa, .ref pa])), (ta, .inl (cI, 32, .inl tf)), (qa, .inl (cI, 32, .inl qf)), (pa, .inl (cI, 32, .inl (pwZ 32)))] := hD
  subst hr_11
  refine lv_iload_n hx hb dX5_answerByTwo_14 rfl (lv_at hl 0 rfl) ?_
  refine lv_iadd hx hb dX5_answerByTwo_15 ?_
  refine lv_topi (fun f ef => ?_)
  obtain rfl : f = nI ((pw (T * 1 % 32)) + (pw (T * 31 % 32))) := ef.trans (nI_add _ _)
  refine lv_istore_n (lv' := [(3, .int (nI ((pw (T * 1 % 32)) + (pw (T * 31 % 32))))), (2, .int (nI (pw (T * 31 % 32)))), (0, .ref h0), (1, .int (nI T))]) hx hb dX5_answerByTwo_16 rfl hl (by decide) rfl (fun ls hl => ?_)
  refine lv_iconst (v := 0) hx hb dX5_answerByTwo_17 (by decide) ?_
  refine lv_istore (lv' := [(4, .int 0), (3, .int (nI ((pw (T * 1 % 32)) + (pw (T * 31 % 32))))), (2, .int (nI (pw (T * 31 % 32)))), (0, .ref h0), (1, .int (nI T))]) hx hb dX5_answerByTwo_18 hl (by decide) rfl (fun ls hl => ?_)
  refine lv_iconst (v := 0) hx hb dX5_answerByTwo_20 (by decide) ?_
  refine lv_istore (lv' := [(5, .int 0), (4, .int 0), (3, .int (nI ((pw (T * 1 % 32)) + (pw (T * 31 % 32))))), (2, .int (nI (pw (T * 31 % 32)))), (0, .ref h0), (1, .int (nI T))]) hx hb dX5_answerByTwo_21 hl (by decide) rfl (fun ls hl => ?_)
  refine lv_bipush (v := 31) hx hb dX5_answerByTwo_23 (by decide) ?_
  refine lv_istore (lv' := [(6, .int 31), (5, .int 0), (4, .int 0), (3, .int (nI ((pw (T * 1 % 32)) + (pw (T * 31 % 32))))), (2, .int (nI (pw (T * 31 % 32)))), (0, .ref h0), (1, .int (nI T))]) hx hb dX5_answerByTwo_25 hl (by decide) rfl (fun ls hl => ?_)
  refine W.widen (k := 0) (n := 0) (Nat.le_refl _) (Nat.le_refl _) ?_
  refine g_while (σ := Nat × Nat × Nat) (st := []) (nL := 8) (fun z => match z with | (u, L, A0) => [(h0, .inr (6, [.ref ta, .ref qa, .ref pa])), (ta, .inl (cI, 32, .inl tf)), (qa, .inl (cI, 32, .inl qf)), (pa, .inl (cI, 32, .inl (pwZ 32)))])
    (fun z => match z with | (u, L, A0) => [(0, .ref h0), (1, .int (nI T)), (2, .int (nI (pw (T * 31 % 32)))), (3, .int (nI (pw (T * 1 % 32) + pw (T * 31 % 32)))), (4, .int (nI L)), (5, .int (nI A0)), (6, .int (nI 31 - nI u))])
    (fun z => match z with | (u, L, A0) => u ≤ 32 ∧ L < 97 ∧ A0 < 97 ∧ (((L : Nat) : Int) - ((A0 : Nat) : Int) * (pw (T * 31 % 32) : Nat) - hsum tf (pw (T * 1 % 32)) u) % 97 = 0)
    (fun z => match z with | (u, L, A0) => 32 - u) (fun z => match z with | (u, L, A0) => 0) (fun z => match z with | (u, L, A0) => 0)
    ?_ (0, 0, 0) (by exact ⟨by omega, by omega, by omega, by show ((0 : Int) - 0 * _ - 0) % 97 = 0; omega⟩) hP hD hS (lv_sub hl [5, 6, 4, 3, 2, 1, 0] rfl)
  rintro ⟨u, L, A0⟩ hI H locs ls hP hD hS hl ih
  have hI : u ≤ 32 ∧ L < 97 ∧ A0 < 97 ∧ (((L : Nat) : Int) - ((A0 : Nat) : Int) * (pw (T * 31 % 32) : Nat) - hsum tf (pw (T * 1 % 32)) u) % 97 = 0 := hI
  have hP : va_P D ccl [(h0, .inr (6, [.ref ta, .ref qa, .ref pa])), (ta, .inl (cI, 32, .inl tf)), (qa, .inl (cI, 32, .inl qf)), (pa, .inl (cI, 32, .inl (pwZ 32)))] H := hP
  have hD : va_D A [(h0, .inr (6, [.ref ta, .ref qa, .ref pa])), (ta, .inl (cI, 32, .inl tf)), (qa, .inl (cI, 32, .inl qf)), (pa, .inl (cI, 32, .inl (pwZ 32)))] := hD
  have hl : lv_has ls 8 [(0, .ref h0), (1, .int (nI T)), (2, .int (nI (pw (T * 31 % 32)))), (3, .int (nI (pw (T * 1 % 32) + pw (T * 31 % 32)))), (4, .int (nI L)), (5, .int (nI A0)), (6, .int (nI 31 - nI u))] := hl
  change W p l e _ s m _ below meth c H locs 0 0 _ (F0 m 27 ls [])
  have ih_27 := ih
  clear ih
  obtain ⟨hu, hL, hA0, hG⟩ := hI
  refine lv_iload hx hb dX5_answerByTwo_27 (lv_at hl 6 rfl) ?_
  refine lv_if_lt (tgt := 68) hx hb dX5_answerByTwo_29 (by decide) (fun c_29 => ?_) (fun c_29 => ?_)
  · have c_29 := (dn_lt (by omega)).mp c_29
    obtain rfl : u = 32 := by omega
    refine lv_iload hx hb dX5_answerByTwo_68 (lv_at hl 4 rfl) ?_
    refine lv_iload hx hb dX5_answerByTwo_70 (lv_at hl 5 rfl) ?_
    refine lv_iload_n hx hb dX5_answerByTwo_72 rfl (lv_at hl 2 rfl) ?_
    refine lv_imul hx hb dX5_answerByTwo_73 ?_
    refine lv_topi (fun f ef => ?_)
    obtain rfl : f = nI (A0 * (pw (T * 31 % 32))) := ef.trans (pk_mul _ _)
    refine lv_isub hx hb dX5_answerByTwo_74 ?_
    refine lv_bipush (v := 97) hx hb dX5_answerByTwo_75 (by decide) ?_
    have hPc : va_P D ccl [] H := fun k q h => by simp at h
    have hDc : va_D A [] := ⟨fun i j p q h => by simp at h, fun k q h => by simp at h⟩
    have hFc := va_free (wc := []) hD hS hA [] rfl
    refine g_Si (As := [.int ((nI L) - (nI (A0 * (pw (T * 31 % 32))))), .int 97]) (rest := []) CF (c_J9_floorMod_7cf53 l D cI cJ cO df H.size ((nI L) - (nI (A0 * (pw (T * 31 % 32))))) 97 (by decide)) (va_cwS 2 hts gX5_answerByTwo_J9_floorMod_7cf53 rfl rfl rfl (by decide +kernel) ⟨Nat.le_of_ble_eq_true rfl, Nat.le_of_ble_eq_true rfl⟩)  hPc hK hDc hV hH hS hFc rfl hl.1 rfl (Nat.le_of_ble_eq_true rfl) dX5_answerByTwo_77 ⟨Nat.le_of_ble_eq_true rfl, Nat.le_of_ble_eq_true rfl⟩ (fun r_77 w1 H1 locs1 hq hP1 hD1 hk hS hz => ?_)
    obtain ⟨rfl, hr_77⟩ := hq
    have hP := g_keep0 hP hk
    clear hPc hDc hFc hP1 hD1 hk hz
    generalize H1 = H at hP hS ⊢
    have hP : va_P D ccl [(h0, .inr (6, [.ref ta, .ref qa, .ref pa])), (ta, .inl (cI, 32, .inl tf)), (qa, .inl (cI, 32, .inl qf)), (pa, .inl (cI, 32, .inl (pwZ 32)))] H := hP
    have hD : va_D A [(h0, .inr (6, [.ref ta, .ref qa, .ref pa])), (ta, .inl (cI, 32, .inl tf)), (qa, .inl (cI, 32, .inl qf)), (pa, .inl (cI, 32, .inl (pwZ 32)))] := hD
    subst hr_77
    refine lv_topi (fun f ef => ?_)
    obtain rfl : f = nI (asum tf T 32) := ef.trans (goe_end hL hA0 hG)
    refine g_iret (v := nI (asum tf T 32)) hx hb hr hlk hP hK hD hS (Nat.le_of_ble_eq_true rfl) (Nat.le_of_ble_eq_true rfl) dX5_answerByTwo_80 ?_
    exact ⟨rfl, (by first | rfl | (simp [c_29]; done))⟩
  · have c_29 : u ≤ 31 := Nat.le_of_not_lt (fun h9 => c_29 ((dn_lt (by omega)).mpr h9))
    have e6 : nI 31 - nI u = nI (31 - u) := pk_sub (a := 31) (b := u) (by omega)
    have hl : lv_has ls 8 [(0, .ref h0), (1, .int (nI T)), (2, .int (nI (pw (T * 31 % 32)))), (3, .int (nI (pw (T * 1 % 32) + pw (T * 31 % 32)))), (4, .int (nI L)), (5, .int (nI A0)), (6, .int (nI (31 - u)))] := by rw [e6] at hl; exact hl
    refine lv_aload_n hx hb dX5_answerByTwo_32 rfl (lv_at hl 0 rfl) ?_
    refine va_get (D := D) (ci := 6) (v := .ref ta) (C := RX5) (T := TX5) (N := 3) hx hb hts inX5 hown hK hP 0 rfl rfl 0 (by decide) hfieldLink_RX5_9 (fun _ h9 => h9) rfl dX5_answerByTwo_33 ?_
    refine lv_iload hx hb dX5_answerByTwo_36 (lv_at hl 6 rfl) ?_
    refine va_iald hx hb hK hP 1 0 rfl rfl (vp_in_nI (by omega) (by omega)) dX5_answerByTwo_38 ?_
    refine lv_topi (fun f ef => ?_)
    obtain rfl : f = tf (31 - u) := ef.trans (congrArg tf (nI_clamp (n := 31 - u) (by omega)))
    refine lv_topi (fun f ef => ?_)
    obtain rfl : f = nI (gN (tf (31 - u))) := ef.trans ((ht (31 - u) (by omega)).1)
    refine lv_iload_n hx hb dX5_answerByTwo_39 rfl (lv_at hl 3 rfl) ?_
    refine lv_iload hx hb dX5_answerByTwo_40 (lv_at hl 4 rfl) ?_
    refine lv_imul hx hb dX5_answerByTwo_42 ?_
    refine lv_topi (fun f ef => ?_)
    obtain rfl : f = nI ((pw (T * 1 % 32) + pw (T * 31 % 32)) * L) := ef.trans (pk_mul _ _)
    refine lv_iadd hx hb dX5_answerByTwo_43 ?_
    refine lv_topi (fun f ef => ?_)
    obtain rfl : f = nI ((gN (tf (31 - u))) + ((pw (T * 1 % 32) + pw (T * 31 % 32)) * L)) := ef.trans (nI_add _ _)
    refine lv_iload hx hb dX5_answerByTwo_44 (lv_at hl 5 rfl) ?_
    have hF9 := (ht (31 - u) (by omega)).2
    have hp1 := pw_lt (T * 1 % 32)
    have hp2 := pw_lt (T * 31 % 32)
    have hm9 : (pw (T * 1 % 32) + pw (T * 31 % 32)) * L ≤ 192 * 96 := Nat.mul_le_mul (by omega) (by omega)
    refine lv_isub hx hb dX5_answerByTwo_46 ?_
    refine lv_bipush (v := 97) hx hb dX5_answerByTwo_47 (by decide) ?_
    have hPc : va_P D ccl [] H := fun k q h => by simp at h
    have hDc : va_D A [] := ⟨fun i j p q h => by simp at h, fun k q h => by simp at h⟩
    have hFc := va_free (wc := []) hD hS hA [] rfl
    refine g_Si (As := [.int ((nI ((gN (tf (31 - u))) + ((pw (T * 1 % 32) + pw (T * 31 % 32)) * L))) - (nI A0)), .int 97]) (rest := []) CF (c_J9_floorMod_7cf53 l D cI cJ cO df H.size ((nI ((gN (tf (31 - u))) + ((pw (T * 1 % 32) + pw (T * 31 % 32)) * L))) - (nI A0)) 97 (by decide)) (va_cwS 2 hts gX5_answerByTwo_J9_floorMod_7cf53 rfl rfl rfl (by decide +kernel) ⟨Nat.le_of_ble_eq_true rfl, Nat.le_of_ble_eq_true rfl⟩)  hPc hK hDc hV hH hS hFc rfl hl.1 rfl (Nat.le_of_ble_eq_true rfl) dX5_answerByTwo_49 ⟨Nat.le_of_ble_eq_true rfl, Nat.le_of_ble_eq_true rfl⟩ (fun r_49 w1 H1 locs1 hq hP1 hD1 hk hS hz => ?_)
    obtain ⟨rfl, hr_49⟩ := hq
    have hP := g_keep0 hP hk
    clear hPc hDc hFc hP1 hD1 hk hz
    generalize H1 = H at hP hS ⊢
    have hP : va_P D ccl [(h0, .inr (6, [.ref ta, .ref qa, .ref pa])), (ta, .inl (cI, 32, .inl tf)), (qa, .inl (cI, 32, .inl qf)), (pa, .inl (cI, 32, .inl (pwZ 32)))] H := hP
    have hD : va_D A [(h0, .inr (6, [.ref ta, .ref qa, .ref pa])), (ta, .inl (cI, 32, .inl tf)), (qa, .inl (cI, 32, .inl qf)), (pa, .inl (cI, 32, .inl (pwZ 32)))] := hD
    subst hr_49
    refine lv_topi (fun f ef => ?_)
    obtain rfl : f = nI ((gN (tf (31 - u)) + (pw (T * 1 % 32) + pw (T * 31 % 32)) * L + 97 - A0) % 97) := ef.trans (goe_m (by omega) (by omega))
    refine lv_istore (lv' := [(7, .int (nI ((gN (tf (31 - u)) + (pw (T * 1 % 32) + pw (T * 31 % 32)) * L + 97 - A0) % 97))), (0, .ref h0), (1, .int (nI T)), (2, .int (nI (pw (T * 31 % 32)))), (3, .int (nI (pw (T * 1 % 32) + pw (T * 31 % 32)))), (4, .int (nI L)), (5, .int (nI A0)), (6, .int (nI (31 - u)))]) hx hb dX5_answerByTwo_52 hl (by decide) rfl (fun ls hl => ?_)
    refine lv_iload hx hb dX5_answerByTwo_54 (lv_at hl 5 rfl) ?_
    refine lv_istore (lv' := [(5, .int (nI L)), (7, .int (nI ((gN (tf (31 - u)) + (pw (T * 1 % 32) + pw (T * 31 % 32)) * L + 97 - A0) % 97))), (0, .ref h0), (1, .int (nI T)), (2, .int (nI (pw (T * 31 % 32)))), (3, .int (nI (pw (T * 1 % 32) + pw (T * 31 % 32)))), (4, .int (nI L)), (6, .int (nI (31 - u)))]) hx hb dX5_answerByTwo_56 hl (by decide) rfl (fun ls hl => ?_)
    refine lv_iload hx hb dX5_answerByTwo_58 (lv_at hl 1 rfl) ?_
    refine lv_istore (lv' := [(4, .int (nI ((gN (tf (31 - u)) + (pw (T * 1 % 32) + pw (T * 31 % 32)) * L + 97 - A0) % 97))), (5, .int (nI L)), (7, .int (nI ((gN (tf (31 - u)) + (pw (T * 1 % 32) + pw (T * 31 % 32)) * L + 97 - A0) % 97))), (0, .ref h0), (1, .int (nI T)), (2, .int (nI (pw (T * 31 % 32)))), (3, .int (nI (pw (T * 1 % 32) + pw (T * 31 % 32)))), (6, .int (nI (31 - u)))]) hx hb dX5_answerByTwo_60 hl (by decide) rfl (fun ls hl => ?_)
    refine lv_iinc (v := nI 31 - nI (u + 1)) (lv' := [(6, .int (nI 31 - nI (u + 1))), (4, .int (nI ((gN (tf (31 - u)) + (pw (T * 1 % 32) + pw (T * 31 % 32)) * L + 97 - A0) % 97))), (5, .int (nI L)), (7, .int (nI ((gN (tf (31 - u)) + (pw (T * 1 % 32) + pw (T * 31 % 32)) * L + 97 - A0) % 97))), (0, .ref h0), (1, .int (nI T)), (2, .int (nI (pw (T * 31 % 32)))), (3, .int (nI (pw (T * 1 % 32) + pw (T * 31 % 32))))]) hx hb dX5_answerByTwo_62 hl (k := 7) rfl (by exact dn_s c_29) (by decide) rfl (fun ls hl => ?_)
    refine lv_goto (tgt := 27) hx hb dX5_answerByTwo_65 (by decide) ?_
    refine W.widen (k := 0) (n := 0) (Nat.le_refl _) (Nat.le_refl _) ?_
    exact ih_27 (u + 1, ((gN (tf (31 - u)) + (pw (T * 1 % 32) + pw (T * 31 % 32)) * L + 97 - A0) % 97), L) _ _ _ (show (u + 1) ≤ 32 ∧ ((gN (tf (31 - u)) + (pw (T * 1 % 32) + pw (T * 31 % 32)) * L + 97 - A0) % 97) < 97 ∧ L < 97 ∧ (((((gN (tf (31 - u)) + (pw (T * 1 % 32) + pw (T * 31 % 32)) * L + 97 - A0) % 97) : Nat) : Int) - ((L : Nat) : Int) * (pw (T * 31 % 32) : Nat) - hsum tf (pw (T * 1 % 32)) (u + 1)) % 97 = 0 from (by exact ⟨by omega, Nat.mod_lt _ (by decide), hL, goe_stepN (pw_inv T) hA0 hG⟩)) (show 32 - (u + 1) < 32 - u by omega) hP hD hS (lv_sub hl [4, 5, 6, 7, 1, 2, 0] rfl)

set_option maxHeartbeats 4000000 in
set_option maxRecDepth 100000 in
theorem c_X5_sift (l : Launch) (D : va_G) (cI cJ cO : ClassId) (df sz : Nat) (h0 : Nat) (ta : Nat) (qa : Nat) (pa : Nat) (tf : Nat → Int32) (qf : Nat → Int32) (hs : Nat) (sb : Nat) (Y : Nat) (rw0 : Nat → Int32) (mp : Nat → Int32) (B : Nat) (ht : isR tf 32) (hY : Y ≤ 64) (hB : B < 64) (hrw : ∀ i, i < Y → -96 ≤ (rw0 i).toInt ∧ (rw0 i).toInt ≤ 96) (hm8 : ∀ i, i < Y → mp i = rs97 (rw0 i)) : MetI l yX5_sift wsX5_sift ({ frames := 1, cells := 0, slots := 0, locals := 22 } : Room) D (gTY cI cJ cO) df [(h0, .inr (6, [.ref ta, .ref qa, .ref pa])), (ta, .inl (cI, 32, .inl tf)), (qa, .inl (cI, 32, .inl qf)), (pa, .inl (cI, 32, .inl (pwZ 32))), (hs, .inr (4, [.ref sb, .int (nI Y)])), (sb, .inl (cI, 64, .inl rw0))] sz [.ref h0, .ref hs, .int (nI B)] (fun (r : Int32) (wZ : va_W) => wZ = [(h0, .inr (6, [.ref ta, .ref qa, .ref pa])), (ta, .inl (cI, 32, .inl tf)), (qa, .inl (cI, 32, .inl qf)), (pa, .inl (cI, 32, .inl (pwZ 32))), (hs, .inr (4, [.ref sb, .int (nI Y)])), (sb, .inl (cI, 64, .inl rw0))] ∧ r = nI (ssum tf mp B Y 32)) := by
  refine g_of (cc := cX5_sift) (nL := 5) (ret := (some .int)) (D := D) (TY := (gTY cI cJ cO)) (df := df) (Qc := fun A => va_Qi (fun (r : Int32) (wZ : va_W) => wZ = [(h0, .inr (6, [.ref ta, .ref qa, .ref pa])), (ta, .inl (cI, 32, .inl tf)), (qa, .inl (cI, 32, .inl qf)), (pa, .inl (cI, 32, .inl (pwZ 32))), (hs, .inr (4, [.ref sb, .int (nI Y)])), (sb, .inl (cI, 64, .inl rw0))] ∧ r = nI (ssum tf mp B Y 32)) (gB D (gTY cI cJ cO) A) A) (by decide +kernel) rfl (Nat.le_of_ble_eq_true rfl) ?_
  intro p e s m below meth c ls A hsz C0 hin hl
  obtain ⟨CF, hr, hlk, hA, hS, hP, hK, hD, hV, hH⟩ := C0
  have CF : CallFix p m c cX5_sift 5 s _ wsX5_sift RX5 := CF
  obtain ⟨hx, hb, hml, hown, hts⟩ := id CF
  subst hsz
  have hmethodLink_RX5_19 : (Cond.methodLink RX5 19 yJ9_floorMod_7cf53).before _ s = true := hts _ (List.mem_of_getElem? (i := 9) rfl)
  have hfieldLink_RX5_9 : (Cond.fieldLink RX5 9 "TapLoom$TapRow" "taps" "[I").before _ s = true := hts _ (List.mem_of_getElem? (i := 1) rfl)
  have hmethodLink_RX5_35 : (Cond.methodLink RX5 35 yX3_at).before _ s = true := hts _ (List.mem_of_getElem? (i := 2) rfl)
  have inX5 : ∀ w ∈ u_ws RX5 TX5 3, w ∈ wsX5_sift := fun w h => (List.mem_cons_of_mem _ (List.mem_append_left _ (List.mem_append_right _ h)))
  have hP : va_P D ccl [(h0, .inr (6, [.ref ta, .ref qa, .ref pa])), (ta, .inl (cI, 32, .inl tf)), (qa, .inl (cI, 32, .inl qf)), (pa, .inl (cI, 32, .inl (pwZ 32))), (hs, .inr (4, [.ref sb, .int (nI Y)])), (sb, .inl (cI, 64, .inl rw0))] s.heap := hP
  have hl : lv_has ls 5 [(0, .ref h0), (1, .ref hs), (2, .int (nI B))] := hl
  refine lv_iconst (v := 0) hx hb dX5_sift_0 (by decide) ?_
  refine lv_istore_n (lv' := [(3, .int 0), (0, .ref h0), (1, .ref hs), (2, .int (nI B))]) hx hb dX5_sift_1 rfl hl (by decide) rfl (fun ls hl => ?_)
  refine lv_iconst (v := 0) hx hb dX5_sift_2 (by decide) ?_
  refine lv_istore (lv' := [(4, .int 0), (3, .int 0), (0, .ref h0), (1, .ref hs), (2, .int (nI B))]) hx hb dX5_sift_3 hl (by decide) rfl (fun ls hl => ?_)
  refine W.widen (k := 0) (n := 0) (Nat.le_refl _) (Nat.le_refl _) ?_
  refine g_while (σ := Nat × Int32) (st := []) (nL := 5) (fun z => match z with | (k, x0) => [(h0, .inr (6, [.ref ta, .ref qa, .ref pa])), (ta, .inl (cI, 32, .inl tf)), (qa, .inl (cI, 32, .inl qf)), (pa, .inl (cI, 32, .inl (pwZ 32))), (hs, .inr (4, [.ref sb, .int (nI Y)])), (sb, .inl (cI, 64, .inl rw0))])
    (fun z => match z with | (k, x0) => [(0, .ref h0), (1, .ref hs), (2, .int (nI B)), (3, .int x0), (4, .int (nI k))])
    (fun z => match z with | (k, x0) => k ≤ 32 ∧ x0.toInt = siS tf rw0 B Y k)
    (fun z => match z with | (k, x0) => 32 - k) (fun z => match z with | (k, x0) => 0) (fun z => match z with | (k, x0) => 0)
    ?_ (0, 0) ⟨Nat.zero_le _, rfl⟩ hP hD hS (lv_sub hl [2, 3, 4, 1, 0] rfl)
  rintro ⟨k, x0⟩ hI H locs ls hP hD hS hl ih
  have hI : k ≤ 32 ∧ x0.toInt = siS tf rw0 B Y k := hI
  have hP : va_P D ccl [(h0, .inr (6, [.ref ta, .ref qa, .ref pa])), (ta, .inl (cI, 32, .inl tf)), (qa, .inl (cI, 32, .inl qf)), (pa, .inl (cI, 32, .inl (pwZ 32))), (hs, .inr (4, [.ref sb, .int (nI Y)])), (sb, .inl (cI, 64, .inl rw0))] H := hP
  have hD : va_D A [(h0, .inr (6, [.ref ta, .ref qa, .ref pa])), (ta, .inl (cI, 32, .inl tf)), (qa, .inl (cI, 32, .inl qf)), (pa, .inl (cI, 32, .inl (pwZ 32))), (hs, .inr (4, [.ref sb, .int (nI Y)])), (sb, .inl (cI, 64, .inl rw0))] := hD
  have hl : lv_has ls 5 [(0, .ref h0), (1, .ref hs), (2, .int (nI B)), (3, .int x0), (4, .int (nI k))] := hl
  change W p l e _ s m _ below meth c H locs 0 0 _ (F0 m 5 ls [])
  have ih_5 := ih
  clear ih
  obtain ⟨hk9, hx0⟩ := hI
  refine lv_iload hx hb dX5_sift_5 (lv_at hl 4 rfl) ?_
  refine lv_bipush (v := 32) hx hb dX5_sift_7 (by decide) ?_
  refine lv_icmp_ge (tgt := 37) hx hb dX5_sift_9 (by decide) (fun c_9 => ?_) (fun c_9 => ?_)
  · have c_9 : 32 ≤ k := g_le (a := 32) (b := k) c_9 (by omega) (by omega)
    obtain rfl : k = 32 := by omega
    refine lv_iload_n hx hb dX5_sift_37 rfl (lv_at hl 3 rfl) ?_
    refine lv_bipush (v := 97) hx hb dX5_sift_38 (by decide) ?_
    have hPc : va_P D ccl [] H := fun k q h => by simp at h
    have hDc : va_D A [] := ⟨fun i j p q h => by simp at h, fun k q h => by simp at h⟩
    have hFc := va_free (wc := []) hD hS hA [] rfl
    refine g_Si (As := [.int x0, .int 97]) (rest := []) CF (c_J9_floorMod_7cf53 l D cI cJ cO df H.size x0 97 (by decide)) (va_cwS 2 hts gX5_sift_J9_floorMod_7cf53 rfl rfl rfl (by decide +kernel) ⟨Nat.le_of_ble_eq_true rfl, Nat.le_of_ble_eq_true rfl⟩)  hPc hK hDc hV hH hS hFc rfl hl.1 rfl (Nat.le_of_ble_eq_true rfl) dX5_sift_40 ⟨Nat.le_of_ble_eq_true rfl, Nat.le_of_ble_eq_true rfl⟩ (fun r_40 w1 H1 locs1 hq hP1 hD1 hk hS hz => ?_)
    obtain ⟨rfl, hr_40⟩ := hq
    have hP := g_keep0 hP hk
    clear hPc hDc hFc hP1 hD1 hk hz
    generalize H1 = H at hP hS ⊢
    have hP : va_P D ccl [(h0, .inr (6, [.ref ta, .ref qa, .ref pa])), (ta, .inl (cI, 32, .inl tf)), (qa, .inl (cI, 32, .inl qf)), (pa, .inl (cI, 32, .inl (pwZ 32))), (hs, .inr (4, [.ref sb, .int (nI Y)])), (sb, .inl (cI, 64, .inl rw0))] H := hP
    have hD : va_D A [(h0, .inr (6, [.ref ta, .ref qa, .ref pa])), (ta, .inl (cI, 32, .inl tf)), (qa, .inl (cI, 32, .inl qf)), (pa, .inl (cI, 32, .inl (pwZ 32))), (hs, .inr (4, [.ref sb, .int (nI Y)])), (sb, .inl (cI, 64, .inl rw0))] := hD
    subst hr_40
    refine lv_topi (fun f ef => ?_)
    obtain rfl : f = nI (ssum tf mp B Y 32) := ef.trans (by rw [fMod_97]; exact rs97_of (ssum_lt _ _ _ _ _) (by rw [hx0]; exact siS_ssum hm8 32))
    refine g_iret (v := nI (ssum tf mp B Y 32)) hx hb hr hlk hP hK hD hS (Nat.le_of_ble_eq_true rfl) (Nat.le_of_ble_eq_true rfl) dX5_sift_43 ?_
    exact ⟨rfl, (by first | rfl | (simp [c_9]; done))⟩
  · have c_9 : k < 32 := g_nle (a := 32) (b := k) c_9 (by omega) (by omega)
    refine lv_iload_n hx hb dX5_sift_12 rfl (lv_at hl 3 rfl) ?_
    refine lv_aload_n hx hb dX5_sift_13 rfl (lv_at hl 0 rfl) ?_
    refine va_get (D := D) (ci := 6) (v := .ref ta) (C := RX5) (T := TX5) (N := 3) hx hb hts inX5 hown hK hP 0 rfl rfl 0 (by decide) hfieldLink_RX5_9 (fun _ h9 => h9) rfl dX5_sift_14 ?_
    refine lv_iload hx hb dX5_sift_17 (lv_at hl 4 rfl) ?_
    refine va_iald hx hb hK hP 1 0 rfl rfl (vp_in_nI (by omega) (by omega)) dX5_sift_19 ?_
    refine lv_topi (fun f ef => ?_)
    obtain rfl : f = tf k := ef.trans (congrArg tf (nI_clamp (n := k) (by omega)))
    refine lv_topi (fun f ef => ?_)
    obtain rfl : f = nI (gN (tf k)) := ef.trans ((ht k c_9).1)
    refine lv_aload_n hx hb dX5_sift_20 rfl (lv_at hl 1 rfl) ?_
    refine lv_iload_n hx hb dX5_sift_21 rfl (lv_at hl 2 rfl) ?_
    refine lv_iload hx hb dX5_sift_22 (lv_at hl 4 rfl) ?_
    refine lv_iadd hx hb dX5_sift_24 ?_
    refine lv_topi (fun f ef => ?_)
    obtain rfl : f = nI (B + k) := ef.trans (nI_add _ _)
    have hPc := hP.sub (ws' := [(hs, .inr (4, [.ref sb, .int (nI Y)])), (sb, .inl (cI, 64, .inl rw0))]) [4, 5] rfl
    have hDc := hD.sub (ws' := [(hs, .inr (4, [.ref sb, .int (nI Y)])), (sb, .inl (cI, 64, .inl rw0))]) [4, 5] (by decide) rfl
    have hFc := va_free (wc := [(hs, .inr (4, [.ref sb, .int (nI Y)])), (sb, .inl (cI, 64, .inl rw0))]) hD hS hA [4, 5] rfl
    refine g_Vi (As := [.int (nI (B + k))]) (rest := [.int (nI (gN (tf k))), .int x0]) CF (c_X3_at l D cI cJ cO df H.size hs sb 64 Y rw0 (B + k) (⟨by decide, by decide⟩) hY (by omega)) (cwV 1 hts gX5_sift_X3_at rfl rfl rfl (by decide +kernel) ⟨Nat.le_of_ble_eq_true rfl, Nat.le_of_ble_eq_true rfl⟩) (va_recv hK hP (ci := 4) (q0 := 4) rfl rfl) hPc hK hDc hV hH hS hFc rfl hl.1 rfl (Nat.le_of_ble_eq_true rfl) dX5_sift_25 ⟨Nat.le_of_ble_eq_true rfl, Nat.le_of_ble_eq_true rfl⟩ (fun r_25 w1 H1 locs1 hq hP1 hD1 hk hS hz => ?_)
    obtain ⟨rfl, hr_25⟩ := hq
    have hP := g_keepR hP hD [4, 5] rfl hk hP1
    clear hPc hDc hFc hP1 hD1 hk hz
    generalize H1 = H at hP hS ⊢
    have hP : va_P D ccl [(h0, .inr (6, [.ref ta, .ref qa, .ref pa])), (ta, .inl (cI, 32, .inl tf)), (qa, .inl (cI, 32, .inl qf)), (pa, .inl (cI, 32, .inl (pwZ 32))), (hs, .inr (4, [.ref sb, .int (nI Y)])), (sb, .inl (cI, 64, .inl rw0))] H := hP
    have hD : va_D A [(h0, .inr (6, [.ref ta, .ref qa, .ref pa])), (ta, .inl (cI, 32, .inl tf)), (qa, .inl (cI, 32, .inl qf)), (pa, .inl (cI, 32, .inl (pwZ 32))), (hs, .inr (4, [.ref sb, .int (nI Y)])), (sb, .inl (cI, 64, .inl rw0))] := hD
    subst hr_25
    refine lv_imul hx hb dX5_sift_28 ?_
    refine lv_topi (fun pm epm => ?_)
    refine lv_iadd hx hb dX5_sift_29 ?_
    refine lv_topi (fun x1 ex1 => ?_)
    have hb9 := siS_bd (B := B) ht hrw (k := k) (by omega)
    have hb8 := siS_term (B := B) ht hrw (k := k) c_9
    have hg9 := (ht k c_9).2
    have hpm : pm.toInt = (gN (tf k) : Int) * (if B + k < Y then rw0 (B + k) else 0).toInt := by
      rw [epm, fb_mulI (by rw [nI_toInt (by omega)]; omega) (by rw [nI_toInt (by omega)]; omega), nI_toInt (by omega)]
    have hx1 : x1.toInt = siS tf rw0 B Y (k + 1) := by
      rw [ex1, fb_addI (by omega) (by omega), hpm, hx0]; rfl
    refine lv_istore_n (lv' := [(3, .int x1), (0, .ref h0), (1, .ref hs), (2, .int (nI B)), (4, .int (nI k))]) hx hb dX5_sift_30 rfl hl (by decide) rfl (fun ls hl => ?_)
    refine lv_iinc (v := nI (k + 1)) (lv' := [(4, .int (nI (k + 1))), (3, .int x1), (0, .ref h0), (1, .ref hs), (2, .int (nI B))]) hx hb dX5_sift_31 hl (k := 4) rfl (by exact nI_1 _) (by decide) rfl (fun ls hl => ?_)
    refine lv_goto (tgt := 5) hx hb dX5_sift_34 (by decide) ?_
    refine W.widen (k := 0) (n := 0) (Nat.le_refl _) (Nat.le_refl _) ?_
    exact ih_5 (k + 1, x1) _ _ _ (show (k + 1) ≤ 32 ∧ x1.toInt = siS tf rw0 B Y (k + 1) from (by exact ⟨c_9, hx1⟩)) (show 32 - (k + 1) < 32 - k by omega) hP hD hS (lv_sub hl [2, 3, 4, 1, 0] rfl)
