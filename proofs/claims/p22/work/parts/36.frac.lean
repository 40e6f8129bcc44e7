set_option maxHeartbeats 4000000 in
set_option maxRecDepth 100000 in
theorem c_X2_init (l : Launch) (D : va_G) (cI cJ cO : ClassId) (df sz : Nat) (h0 : Nat)  : MetV l yX2_init wsX2_init ({ frames := 1, cells := 0, slots := 0, locals := 30 } : Room) D (gTY cI cJ cO) df [(h0, .inr (3, [.long 0, .long 0]))] sz [.ref h0] (fun (wZ : va_W) => wZ = [(h0, .inr (3, [.long 1, .long 1]))]) := by
  refine g_of (cc := cX2_init) (nL := 1) (ret := none) (D := D) (TY := (gTY cI cJ cO)) (df := df) (Qc := fun A => va_Qv (fun (wZ : va_W) => wZ = [(h0, .inr (3, [.long 1, .long 1]))]) (gB D (gTY cI cJ cO) A) A) (by decide +kernel) rfl (Nat.le_of_ble_eq_true rfl) ?_
  intro p e s m below meth c ls A hsz C0 hin hl
  obtain ⟨CF, hr, hlk, hA, hS, hP, hK, hD, hV, hH⟩ := C0
  have CF : CallFix p m c cX2_init 1 s _ wsX2_init RX2 := CF
  obtain ⟨hx, hb, hml, hown, hts⟩ := id CF
  subst hsz
  have hmethodLink_RX2_1 : (Cond.methodLink RX2 1 objectInit).before _ s = true := hts _ (List.mem_of_getElem? (i := 1) rfl)
  have hinstanceMethod_objectInit : (Cond.instanceMethod objectInit).before _ s = true := hts _ (List.mem_of_getElem? (i := 2) rfl)
  have hcode_objectInit : (Cond.code objectInit ⟨#[0xb1]⟩ 1 none).before _ s = true := hts _ (List.mem_of_getElem? (i := 3) rfl)
  have hfieldLink_RX2_7 : (Cond.fieldLink RX2 7 "TapLoom$Fraction" "number" "J").before _ s = true := hts _ (List.mem_of_getElem? (i := 4) rfl)
  have hfieldLink_RX2_13 : (Cond.fieldLink RX2 13 "TapLoom$Fraction" "divisor" "J").before _ s = true := hts _ (List.mem_of_getElem? (i := 5) rfl)
  have inX2 : ∀ w ∈ u_ws RX2 TX2 2, w ∈ wsX2_init := fun w h => (List.mem_cons_of_mem _ (List.mem_append_right _ h))
  have hP : va_P D ccl [(h0, .inr (3, [.long 0, .long 0]))] s.heap := hP
  have hl : lv_has ls 1 [(0, .ref h0)] := hl
  refine lv_aload_n hx hb dX2_init_0 rfl (lv_at hl 0 rfl) ?_
  refine W.objInit hx hb hown hmethodLink_RX2_1 hinstanceMethod_objectInit hcode_objectInit rfl (by rw [hml]; exact hl.1) rfl dX2_init_1 (Nat.le_of_ble_eq_true rfl) (Nat.le_of_ble_eq_true rfl) ?_
  refine W.eq (g2 := F0 m 4 ls []) rfl ?_
  refine lv_aload_n hx hb dX2_init_4 rfl (lv_at hl 0 rfl) ?_
  refine lv_lconst (v := 1) hx hb dX2_init_5 (by decide) ?_
  refine va_put (D := D) (ci := 3) (v := .long 1) (ty := .long) (C := RX2) (T := TX2) (N := 2) hx hb hts inX2 tyX2 tyX2_ok nmX2 hown hK hP hD hS 0 rfl rfl 0 (by decide) hfieldLink_RX2_7 (fun _ h9 => h9) rfl (by decide +kernel) rfl rfl (Nat.le_of_ble_eq_true rfl) dX2_init_6 (fun H locs hP hD hS => ?_)
  have hP : va_P D ccl [(h0, .inr (3, [.long 1, .long 0]))] H := hP
  have hD : va_D A [(h0, .inr (3, [.long 1, .long 0]))] := hD
  refine lv_aload_n hx hb dX2_init_9 rfl (lv_at hl 0 rfl) ?_
  refine lv_lconst (v := 1) hx hb dX2_init_10 (by decide) ?_
  refine va_put (D := D) (ci := 3) (v := .long 1) (ty := .long) (C := RX2) (T := TX2) (N := 2) hx hb hts inX2 tyX2 tyX2_ok nmX2 hown hK hP hD hS 0 rfl rfl 1 (by decide) hfieldLink_RX2_13 (fun _ h9 => h9) rfl (by decide +kernel) rfl rfl (Nat.le_of_ble_eq_true rfl) dX2_init_11 (fun H locs hP hD hS => ?_)
  have hP : va_P D ccl [(h0, .inr (3, [.long 1, .long 1]))] H := hP
  have hD : va_D A [(h0, .inr (3, [.long 1, .long 1]))] := hD
  refine g_vret hx hb hr hlk hP hK hD hS (Nat.le_of_ble_eq_true rfl) (Nat.le_of_ble_eq_true rfl) dX2_init_14 ?_
  exact rfl

set_option maxHeartbeats 4000000 in
set_option maxRecDepth 100000 in
theorem c_X2_multiply (l : Launch) (D : va_G) (cI cJ cO : ClassId) (df sz : Nat) (h0 : Nat) (nn : Int64) (dd : Int64) (bn : Int64) (bd : Int64)  : MetV l yX2_multiply wsX2_multiply ({ frames := 0, cells := 0, slots := 0, locals := 0 } : Room) D (gTY cI cJ cO) df [(h0, .inr (3, [.long nn, .long dd]))] sz [.ref h0, .long bn, .long bd] (fun (wZ : va_W) => wZ = [(h0, .inr (3, [.long (nn * bn), .long (dd * bd)]))]) := by
  refine g_of (cc := cX2_multiply) (nL := 5) (ret := none) (D := D) (TY := (gTY cI cJ cO)) (df := df) (Qc := fun A => va_Qv (fun (wZ : va_W) => wZ = [(h0, .inr (3, [.long (nn * bn), .long (dd * bd)]))]) (gB D (gTY cI cJ cO) A) A) (by decide +kernel) rfl (Nat.le_of_ble_eq_true rfl) ?_
  intro p e s m below meth c ls A hsz C0 hin hl
  obtain ⟨CF, hr, hlk, hA, hS, hP, hK, hD, hV, hH⟩ := C0
  have CF : CallFix p m c cX2_multiply 5 s _ wsX2_multiply RX2 := CF
  obtain ⟨hx, hb, hml, hown, hts⟩ := id CF
  subst hsz
  have hfieldLink_RX2_7 : (Cond.fieldLink RX2 7 "TapLoom$Fraction" "number" "J").before _ s = true := hts _ (List.mem_of_getElem? (i := 1) rfl)
  have hfieldLink_RX2_13 : (Cond.fieldLink RX2 13 "TapLoom$Fraction" "divisor" "J").before _ s = true := hts _ (List.mem_of_getElem? (i := 2) rfl)
  have inX2 : ∀ w ∈ u_ws RX2 TX2 2, w ∈ wsX2_multiply := fun w h => (List.mem_cons_of_mem _ (List.mem_append_right _ h))
  have hP : va_P D ccl [(h0, .inr (3, [.long nn, .long dd]))] s.heap := hP
  have hl : lv_has ls 5 [(0, .ref h0), (1, .long bn), (3, .long bd)] := hl
  refine lv_aload_n hx hb dX2_multiply_0 rfl (lv_at hl 0 rfl) ?_
  refine lv_dup hx hb dX2_multiply_1 rfl ?_
  refine va_get (D := D) (ci := 3) (v := .long nn) (C := RX2) (T := TX2) (N := 2) hx hb hts inX2 hown hK hP 0 rfl rfl 0 (by decide) hfieldLink_RX2_7 (fun _ h9 => h9) rfl dX2_multiply_2 ?_
  refine lv_lload_n hx hb dX2_multiply_5 rfl (lv_at hl 1 rfl) ?_
  refine lv_lmul hx hb dX2_multiply_6 ?_
  refine va_put (D := D) (ci := 3) (v := .long (nn * bn)) (ty := .long) (C := RX2) (T := TX2) (N := 2) hx hb hts inX2 tyX2 tyX2_ok nmX2 hown hK hP hD hS 0 rfl rfl 0 (by decide) hfieldLink_RX2_7 (fun _ h9 => h9) rfl (by decide +kernel) rfl rfl (Nat.le_of_ble_eq_true rfl) dX2_multiply_7 (fun H locs hP hD hS => ?_)
  have hP : va_P D ccl [(h0, .inr (3, [.long (nn * bn), .long dd]))] H := hP
  have hD : va_D A [(h0, .inr (3, [.long (nn * bn), .long dd]))] := hD
  refine lv_aload_n hx hb dX2_multiply_10 rfl (lv_at hl 0 rfl) ?_
  refine lv_dup hx hb dX2_multiply_11 rfl ?_
  refine va_get (D := D) (ci := 3) (v := .long dd) (C := RX2) (T := TX2) (N := 2) hx hb hts inX2 hown hK hP 0 rfl rfl 1 (by decide) hfieldLink_RX2_13 (fun _ h9 => h9) rfl dX2_multiply_12 ?_
  refine lv_lload_n hx hb dX2_multiply_15 rfl (lv_at hl 2 rfl) ?_
  refine lv_lmul hx hb dX2_multiply_16 ?_
  refine va_put (D := D) (ci := 3) (v := .long (dd * bd)) (ty := .long) (C := RX2) (T := TX2) (N := 2) hx hb hts inX2 tyX2 tyX2_ok nmX2 hown hK hP hD hS 0 rfl rfl 1 (by decide) hfieldLink_RX2_13 (fun _ h9 => h9) rfl (by decide +kernel) rfl rfl (Nat.le_of_ble_eq_true rfl) dX2_multiply_17 (fun H locs hP hD hS => ?_)
  have hP : va_P D ccl [(h0, .inr (3, [.long (nn * bn), .long (dd * bd)]))] H := hP
  have hD : va_D A [(h0, .inr (3, [.long (nn * bn), .long (dd * bd)]))] := hD
  refine g_vret hx hb hr hlk hP hK hD hS (Nat.le_of_ble_eq_true rfl) (Nat.le_of_ble_eq_true rfl) dX2_multiply_20 ?_
  exact rfl

set_option maxHeartbeats 4000000 in
set_option maxRecDepth 100000 in
theorem c_X2_commonDivisor (l : Launch) (D : va_G) (cI cJ cO : ClassId) (df sz : Nat) (a : Nat) (b : Nat) (ha : a < 34359738368) (hb1 : b < 34359738368) : MetL l yX2_commonDivisor wsX2_commonDivisor ({ frames := 0, cells := 0, slots := 0, locals := 0 } : Room) D (gTY cI cJ cO) df [] sz [.long (lN a), .long (lN b)] (fun (r : Int64) (wZ : va_W) => wZ = [] ∧ r = lN (Nat.gcd a b)) := by
  refine g_of (cc := cX2_commonDivisor) (nL := 11) (ret := (some .long)) (D := D) (TY := (gTY cI cJ cO)) (df := df) (Qc := fun A => va_Ql (fun (r : Int64) (wZ : va_W) => wZ = [] ∧ r = lN (Nat.gcd a b)) (gB D (gTY cI cJ cO) A) A) (by decide +kernel) rfl (Nat.le_of_ble_eq_true rfl) ?_
  intro p e s m below meth c ls A hsz C0 hin hl
  obtain ⟨CF, hr, hlk, hA, hS, hP, hK, hD, hV, hH⟩ := C0
  have CF : CallFix p m c cX2_commonDivisor 11 s _ wsX2_commonDivisor RX2 := CF
  obtain ⟨hx, hb, hml, hown, hts⟩ := id CF
  subst hsz
  have hP : va_P D ccl [] s.heap := hP
  have hl : lv_has ls 11 [(0, .long (lN a)), (2, .long (lN b))] := hl
  refine lv_lload_n hx hb dX2_commonDivisor_0 rfl (lv_at hl 0 rfl) ?_
  refine lv_lstore (lv' := [(4, .long (lN a)), (0, .long (lN a)), (2, .long (lN b))]) hx hb dX2_commonDivisor_1 hl (by decide) rfl (fun ls hl => ?_)
  refine lv_lload_n hx hb dX2_commonDivisor_3 rfl (lv_at hl 2 rfl) ?_
  refine lv_lstore (lv' := [(6, .long (lN b)), (4, .long (lN a)), (0, .long (lN a)), (2, .long (lN b))]) hx hb dX2_commonDivisor_4 hl (by decide) rfl (fun ls hl => ?_)
  refine lv_iconst (v := 0) hx hb dX2_commonDivisor_6 (by decide) ?_
  refine lv_istore (lv' := [(8, .int 0), (6, .long (lN b)), (4, .long (lN a)), (0, .long (lN a)), (2, .long (lN b))]) hx hb dX2_commonDivisor_7 hl (by decide) rfl (fun ls hl => ?_)
  refine W.widen (k := 0) (n := 0) (Nat.le_refl _) (Nat.le_refl _) ?_
  refine g_while (σ := Nat × Nat × Nat) (st := []) (nL := 11) (fun z => match z with | (U, V, k) => [])
    (fun z => match z with | (U, V, k) => [(0, .long (lN a)), (2, .long (lN b)), (4, .long (lN U)), (6, .long (lN V)), (8, .int (nI k))])
    (fun z => match z with | (U, V, k) => k ≤ 100 ∧ U < 34359738368 ∧ V < 34359738368 ∧ Nat.gcd U V = Nat.gcd a b ∧ (k = 0 ∨ (V < U ∧ U * V * 2 ^ k ≤ 4722366482869645213696)))
    (fun z => match z with | (U, V, k) => V) (fun z => match z with | (U, V, k) => 0) (fun z => match z with | (U, V, k) => 0)
    ?_ (a, b, 0) (by exact ⟨by omega, ha, hb1, rfl, Or.inl rfl⟩) hP hD hS (lv_sub hl [3, 4, 2, 1, 0] rfl)
  rintro ⟨U, V, k⟩ hI H locs ls hP hD hS hl ih
  have hI : k ≤ 100 ∧ U < 34359738368 ∧ V < 34359738368 ∧ Nat.gcd U V = Nat.gcd a b ∧ (k = 0 ∨ (V < U ∧ U * V * 2 ^ k ≤ 4722366482869645213696)) := hI
  have hP : va_P D ccl [] H := hP
  have hD : va_D A [] := hD
  have hl : lv_has ls 11 [(0, .long (lN a)), (2, .long (lN b)), (4, .long (lN U)), (6, .long (lN V)), (8, .int (nI k))] := hl
  change W p l e _ s m _ below meth c H locs 0 0 _ (F0 m 9 ls [])
  have ih_9 := ih
  clear ih
  obtain ⟨hk1, hU, hV9, hG, hE⟩ := hI
  refine lv_iload hx hb dX2_commonDivisor_9 (lv_at hl 4 rfl) ?_
  refine lv_bipush (v := 100) hx hb dX2_commonDivisor_11 (by decide) ?_
  refine lv_icmp_ge (tgt := 44) hx hb dX2_commonDivisor_13 (by decide) (fun c_13 => ?_) (fun c_13 => ?_)
  · have c_13 : 100 ≤ k := g_le (a := 100) (b := k) c_13 (by omega) (by omega)
    obtain rfl : k = 100 := by omega
    have hVz : V = 0 := euc_end hE
    refine lv_lload hx hb dX2_commonDivisor_44 (lv_at hl 2 rfl) ?_
    refine g_lret (v := lN U) hx hb hr hlk hP hK hD hS (Nat.le_of_ble_eq_true rfl) (Nat.le_of_ble_eq_true rfl) dX2_commonDivisor_46 ?_
    exact ⟨rfl, by rw [hVz, Nat.gcd_zero_right] at hG; rw [hG]⟩
  · have c_13 : k < 100 := g_nle (a := 100) (b := k) c_13 (by omega) (by omega)
    refine lv_lload hx hb dX2_commonDivisor_16 (lv_at hl 3 rfl) ?_
    refine lv_lconst (v := 0) hx hb dX2_commonDivisor_18 (by decide) ?_
    refine W.lcmp hx hb dX2_commonDivisor_19 ?_
    refine lv_if_eq (tgt := 44) hx hb dX2_commonDivisor_20 (by decide) (fun c_20 => ?_) (fun c_20 => ?_)
    · have c_20 : (lN V).toInt = 0 := g_cmp_eq.mp c_20
      have hVz : V = 0 := by rw [pk_lT (by omega)] at c_20; omega
      refine lv_lload hx hb dX2_commonDivisor_44 (lv_at hl 2 rfl) ?_
      refine g_lret (v := lN U) hx hb hr hlk hP hK hD hS (Nat.le_of_ble_eq_true rfl) (Nat.le_of_ble_eq_true rfl) dX2_commonDivisor_46 ?_
      exact ⟨rfl, by rw [hVz, Nat.gcd_zero_right] at hG; rw [hG]⟩
    · have c_20 : ¬ (lN V).toInt = 0 := fun h9 => c_20 (g_cmp_eq.mpr h9)
      have hV0 : 0 < V := by rw [pk_lT (by omega)] at c_20; omega
      refine lv_lload hx hb dX2_commonDivisor_23 (lv_at hl 2 rfl) ?_
      refine lv_lload hx hb dX2_commonDivisor_25 (lv_at hl 3 rfl) ?_
      refine lv_lrem hx hb dX2_commonDivisor_27 (fun h9 => absurd ((pk_lEQ (b := 0) (by omega) (by decide)).mp h9) (by omega)) ?_
      refine lv_topl (fun f ef => ?_)
      obtain rfl : f = lN (U % V) := ef.trans (pk_lRem (by omega) hV0 (by omega))
      refine lv_lstore (lv' := [(9, .long (lN (U % V))), (0, .long (lN a)), (2, .long (lN b)), (4, .long (lN U)), (6, .long (lN V)), (8, .int (nI k))]) hx hb dX2_commonDivisor_28 hl (by decide) rfl (fun ls hl => ?_)
      refine lv_lload hx hb dX2_commonDivisor_30 (lv_at hl 4 rfl) ?_
      refine lv_lstore (lv' := [(4, .long (lN V)), (9, .long (lN (U % V))), (0, .long (lN a)), (2, .long (lN b)), (6, .long (lN V)), (8, .int (nI k))]) hx hb dX2_commonDivisor_32 hl (by decide) rfl (fun ls hl => ?_)
      refine lv_lload hx hb dX2_commonDivisor_34 (lv_at hl 1 rfl) ?_
      refine lv_lstore (lv' := [(6, .long (lN (U % V))), (4, .long (lN V)), (9, .long (lN (U % V))), (0, .long (lN a)), (2, .long (lN b)), (8, .int (nI k))]) hx hb dX2_commonDivisor_36 hl (by decide) rfl (fun ls hl => ?_)
      refine lv_iinc (v := nI (k + 1)) (lv' := [(8, .int (nI (k + 1))), (6, .long (lN (U % V))), (4, .long (lN V)), (9, .long (lN (U % V))), (0, .long (lN a)), (2, .long (lN b))]) hx hb dX2_commonDivisor_38 hl (k := 5) rfl (by exact nI_1 _) (by decide) rfl (fun ls hl => ?_)
      refine lv_goto (tgt := 9) hx hb dX2_commonDivisor_41 (by decide) ?_
      refine W.widen (k := 0) (n := 0) (Nat.le_refl _) (Nat.le_refl _) ?_
      exact ih_9 (V, (U % V), k + 1) _ _ _ (show (k + 1) ≤ 100 ∧ V < 34359738368 ∧ (U % V) < 34359738368 ∧ Nat.gcd V (U % V) = Nat.gcd a b ∧ ((k + 1) = 0 ∨ ((U % V) < V ∧ V * (U % V) * 2 ^ (k + 1) ≤ 4722366482869645213696)) from (by exact ⟨by omega, hV9, Nat.lt_trans (Nat.mod_lt _ hV0) hV9, by rw [← hG, Nat.gcd_comm U V, Nat.gcd_rec V U, Nat.gcd_comm], Or.inr (euc_step hV0 hU hV9 hE)⟩)) (show U % V < V from Nat.mod_lt _ hV0) hP hD hS (lv_sub hl [4, 5, 2, 1, 0] rfl)

set_option maxHeartbeats 4000000 in
set_option maxRecDepth 100000 in
theorem c_X2_makeSmall (l : Launch) (D : va_G) (cI cJ cO : ClassId) (df sz : Nat) (h0 : Nat) (nn : Int64) (dd : Int64) (hn1 : -34359738368 < nn.toInt ∧ nn.toInt < 34359738368) (hd1 : -34359738368 < dd.toInt ∧ dd.toInt < 34359738368) : MetV l yX2_makeSmall wsX2_makeSmall ({ frames := 1, cells := 0, slots := 0, locals := 30 } : Room) D (gTY cI cJ cO) df [(h0, .inr (3, [.long nn, .long dd]))] sz [.ref h0] (fun (wZ : va_W) => ∃ (rn : Int64), ∃ (rd : Int64), wZ = [(h0, .inr (3, [.long rn, .long rd]))] ∧ rn.toInt = gnR nn.toInt dd.toInt 0 ∧ rd.toInt = gnR nn.toInt dd.toInt 1) := by
  refine g_of (cc := cX2_makeSmall) (nL := 5) (ret := none) (D := D) (TY := (gTY cI cJ cO)) (df := df) (Qc := fun A => va_Qv (fun (wZ : va_W) => ∃ (rn : Int64), ∃ (rd : Int64), wZ = [(h0, .inr (3, [.long rn, .long rd]))] ∧ rn.toInt = gnR nn.toInt dd.toInt 0 ∧ rd.toInt = gnR nn.toInt dd.toInt 1) (gB D (gTY cI cJ cO) A) A) (by decide +kernel) rfl (Nat.le_of_ble_eq_true rfl) ?_
  intro p e s m below meth c ls A hsz C0 hin hl
  obtain ⟨CF, hr, hlk, hA, hS, hP, hK, hD, hV, hH⟩ := C0
  have CF : CallFix p m c cX2_makeSmall 5 s _ wsX2_makeSmall RX2 := CF
  obtain ⟨hx, hb, hml, hown, hts⟩ := id CF
  subst hsz
  have hfieldLink_RX2_13 : (Cond.fieldLink RX2 13 "TapLoom$Fraction" "divisor" "J").before _ s = true := hts _ (List.mem_of_getElem? (i := 1) rfl)
  have hfieldLink_RX2_7 : (Cond.fieldLink RX2 7 "TapLoom$Fraction" "number" "J").before _ s = true := hts _ (List.mem_of_getElem? (i := 2) rfl)
  have hmethodLink_RX2_16 : (Cond.methodLink RX2 16 Lib.MathLoose.abs_long.x).before _ s = true := hts _ (List.mem_of_getElem? (i := 3) rfl)
  have hinitialized_java_lang_Math : (Cond.initialized "java/lang/Math").before _ s = true := hts _ (List.mem_of_getElem? (i := 5) rfl)
  have hstatic_Lib_MathLoose_abs_long_x : (Cond.static Lib.MathLoose.abs_long.x).before _ s = true := hts _ (List.mem_of_getElem? (i := 4) rfl)
  have hcode_Lib_MathLoose_abs_long_x : (Cond.code Lib.MathLoose.abs_long.x Lib.MathLoose.abs_long.code 2 (some .long)).before _ s = true := hts _ (List.mem_of_getElem? (i := 6) rfl)
  have hmethodLink_RX2_22 : (Cond.methodLink RX2 22 yX2_commonDivisor).before _ s = true := hts _ (List.mem_of_getElem? (i := 7) rfl)
  have inX2 : ∀ w ∈ u_ws RX2 TX2 2, w ∈ wsX2_makeSmall := fun w h => (List.mem_cons_of_mem _ (List.mem_append_right _ h))
  have hP : va_P D ccl [(h0, .inr (3, [.long nn, .long dd]))] s.heap := hP
  have hl : lv_has ls 5 [(0, .ref h0)] := hl
  refine lv_aload_n hx hb dX2_makeSmall_0 rfl (lv_at hl 0 rfl) ?_
  refine va_get (D := D) (ci := 3) (v := .long dd) (C := RX2) (T := TX2) (N := 2) hx hb hts inX2 hown hK hP 0 rfl rfl 1 (by decide) hfieldLink_RX2_13 (fun _ h9 => h9) rfl dX2_makeSmall_1 ?_
  refine lv_lconst (v := 0) hx hb dX2_makeSmall_4 (by decide) ?_
  refine W.lcmp hx hb dX2_makeSmall_5 ?_
  refine lv_if_ne (tgt := 15) hx hb dX2_makeSmall_6 (by decide) (fun c_6 => ?_) (fun c_6 => ?_)
  · have c_6 : ¬ dd.toInt = 0 := fun h9 => c_6 (g_cmp_eq.mpr h9)
    refine lv_aload_n hx hb dX2_makeSmall_15 rfl (lv_at hl 0 rfl) ?_
    refine va_get (D := D) (ci := 3) (v := .long nn) (C := RX2) (T := TX2) (N := 2) hx hb hts inX2 hown hK hP 0 rfl rfl 0 (by decide) hfieldLink_RX2_7 (fun _ h9 => h9) rfl dX2_makeSmall_16 ?_
    refine va_mabs_long hx hb (by rw [hml]; exact hl.1.symm) hown hmethodLink_RX2_16 hstatic_Lib_MathLoose_abs_long_x hinitialized_java_lang_Math hcode_Lib_MathLoose_abs_long_x (Nat.le_of_ble_eq_true rfl) (Nat.le_of_ble_eq_true rfl) (Nat.le_of_ble_eq_true rfl) (Nat.le_of_ble_eq_true rfl) dX2_makeSmall_19 ?_
    refine lv_topl (fun f ef => ?_)
    obtain rfl : f = lN nn.toInt.natAbs := ef.trans (absL (by omega))
    refine lv_aload_n hx hb dX2_makeSmall_22 rfl (lv_at hl 0 rfl) ?_
    refine va_get (D := D) (ci := 3) (v := .long dd) (C := RX2) (T := TX2) (N := 2) hx hb hts inX2 hown hK hP 0 rfl rfl 1 (by decide) hfieldLink_RX2_13 (fun _ h9 => h9) rfl dX2_makeSmall_23 ?_
    refine va_mabs_long hx hb (by rw [hml]; exact hl.1.symm) hown hmethodLink_RX2_16 hstatic_Lib_MathLoose_abs_long_x hinitialized_java_lang_Math hcode_Lib_MathLoose_abs_long_x (Nat.le_of_ble_eq_true rfl) (Nat.le_of_ble_eq_true rfl) (Nat.le_of_ble_eq_true rfl) (Nat.le_of_ble_eq_true rfl) dX2_makeSmall_26 ?_
    refine lv_topl (fun f ef => ?_)
    obtain rfl : f = lN dd.toInt.natAbs := ef.trans (absL (by omega))
    have hPc : va_P D ccl [] s.heap := fun k q h => by simp at h
    have hDc : va_D A [] := ⟨fun i j p q h => by simp at h, fun k q h => by simp at h⟩
    have hFc := va_free (wc := []) hD hS hA [] rfl
    refine g_Sl (As := [.long (lN nn.toInt.natAbs), .long (lN dd.toInt.natAbs)]) (rest := []) CF (c_X2_commonDivisor l D cI cJ cO df s.heap.size nn.toInt.natAbs dd.toInt.natAbs (by omega) (by omega)) (va_cwS 2 hts gX2_makeSmall_X2_commonDivisor rfl rfl rfl (by decide +kernel) ⟨Nat.le_of_ble_eq_true rfl, Nat.le_of_ble_eq_true rfl⟩)  hPc hK hDc hV hH hS hFc rfl hl.1 rfl (Nat.le_of_ble_eq_true rfl) dX2_makeSmall_29 ⟨Nat.le_of_ble_eq_true rfl, Nat.le_of_ble_eq_true rfl⟩ (fun r_29 w1 H1 locs1 hq hP1 hD1 hk hS hz => ?_)
    obtain ⟨rfl, hr_29⟩ := hq
    have hP := g_keep0 hP hk
    clear hPc hDc hFc hP1 hD1 hk hz
    generalize H1 = H at hP hS ⊢
    have hP : va_P D ccl [(h0, .inr (3, [.long nn, .long dd]))] H := hP
    have hD : va_D A [(h0, .inr (3, [.long nn, .long dd]))] := hD
    subst hr_29
    refine lv_lstore_n (lv' := [(1, .long (lN (Nat.gcd nn.toInt.natAbs dd.toInt.natAbs))), (0, .ref h0)]) hx hb dX2_makeSmall_32 rfl hl (by decide) rfl (fun ls hl => ?_)
    refine lv_aload_n hx hb dX2_makeSmall_33 rfl (lv_at hl 1 rfl) ?_
    refine va_get (D := D) (ci := 3) (v := .long dd) (C := RX2) (T := TX2) (N := 2) hx hb hts inX2 hown hK hP 0 rfl rfl 1 (by decide) hfieldLink_RX2_13 (fun _ h9 => h9) rfl dX2_makeSmall_34 ?_
    refine lv_lconst (v := 0) hx hb dX2_makeSmall_37 (by decide) ?_
    refine W.lcmp hx hb dX2_makeSmall_38 ?_
    refine lv_if_ge (tgt := 47) hx hb dX2_makeSmall_39 (by decide) (fun c_39 => ?_) (fun c_39 => ?_)
    · have c_39 : 0 ≤ dd.toInt := g_cmp_ge.mp c_39
      refine lv_lload_n hx hb dX2_makeSmall_47 rfl (lv_at hl 0 rfl) ?_
      refine lv_topl (fun sh esh => ?_)
      refine lv_lstore_n (lv' := [(3, .long sh), (1, .long (lN (Nat.gcd nn.toInt.natAbs dd.toInt.natAbs))), (0, .ref h0)]) hx hb dX2_makeSmall_48 rfl hl (by decide) rfl (fun ls hl => ?_)
      have hG0 : 0 < Nat.gcd nn.toInt.natAbs dd.toInt.natAbs := Nat.gcd_pos_of_pos_right _ (by omega)
      have hG1 : Nat.gcd nn.toInt.natAbs dd.toInt.natAbs ≤ dd.toInt.natAbs := Nat.gcd_le_right _ (by omega)
      have ed : sh.toInt = (if dd.toInt < 0 then -(Nat.gcd nn.toInt.natAbs dd.toInt.natAbs : Int) else (Nat.gcd nn.toInt.natAbs dd.toInt.natAbs : Int)) := by
        first | (rw [esh, if_pos (by omega), fb_negL (by rw [pk_lT (by omega)]; omega), pk_lT (by omega)]) | (rw [esh, if_neg (by omega), pk_lT (by omega)])
      have hd0 : ¬ sh = 0 := fun h9 => by
        rw [h9] at ed
        have e9 : (0 : Int64).toInt = 0 := by decide
        rw [e9] at ed
        split at ed <;> omega
      have hd2 : ¬ sh.toInt = 0 := by
        rw [ed]
        split <;> omega
      refine lv_lload_n hx hb dX2_makeSmall_49 rfl (lv_at hl 0 rfl) ?_
      refine lv_lconst (v := 0) hx hb dX2_makeSmall_50 (by decide) ?_
      refine W.lcmp hx hb dX2_makeSmall_51 ?_
      refine lv_if_eq (tgt := 75) hx hb dX2_makeSmall_52 (by decide) (fun c_52 => ?_) (fun c_52 => ?_)
      · have c_52 : sh.toInt = 0 := g_cmp_eq.mp c_52
        exact absurd c_52 hd2
      · have c_52 : ¬ sh.toInt = 0 := fun h9 => c_52 (g_cmp_eq.mpr h9)
        refine lv_aload_n hx hb dX2_makeSmall_55 rfl (lv_at hl 2 rfl) ?_
        refine lv_dup hx hb dX2_makeSmall_56 rfl ?_
        refine va_get (D := D) (ci := 3) (v := .long nn) (C := RX2) (T := TX2) (N := 2) hx hb hts inX2 hown hK hP 0 rfl rfl 0 (by decide) hfieldLink_RX2_7 (fun _ h9 => h9) rfl dX2_makeSmall_57 ?_
        refine lv_lload_n hx hb dX2_makeSmall_60 rfl (lv_at hl 0 rfl) ?_
        refine lv_ldiv hx hb dX2_makeSmall_61 hd0 ?_
        refine va_put (D := D) (ci := 3) (v := .long (nn / sh)) (ty := .long) (C := RX2) (T := TX2) (N := 2) hx hb hts inX2 tyX2 tyX2_ok nmX2 hown hK hP hD hS 0 rfl rfl 0 (by decide) hfieldLink_RX2_7 (fun _ h9 => h9) rfl (by decide +kernel) rfl rfl (Nat.le_of_ble_eq_true rfl) dX2_makeSmall_62 (fun H locs hP hD hS => ?_)
        have hP : va_P D ccl [(h0, .inr (3, [.long (nn / sh), .long dd]))] H := hP
        have hD : va_D A [(h0, .inr (3, [.long (nn / sh), .long dd]))] := hD
        refine lv_aload_n hx hb dX2_makeSmall_65 rfl (lv_at hl 2 rfl) ?_
        refine lv_dup hx hb dX2_makeSmall_66 rfl ?_
        refine va_get (D := D) (ci := 3) (v := .long dd) (C := RX2) (T := TX2) (N := 2) hx hb hts inX2 hown hK hP 0 rfl rfl 1 (by decide) hfieldLink_RX2_13 (fun _ h9 => h9) rfl dX2_makeSmall_67 ?_
        refine lv_lload_n hx hb dX2_makeSmall_70 rfl (lv_at hl 0 rfl) ?_
        refine lv_ldiv hx hb dX2_makeSmall_71 hd0 ?_
        refine va_put (D := D) (ci := 3) (v := .long (dd / sh)) (ty := .long) (C := RX2) (T := TX2) (N := 2) hx hb hts inX2 tyX2 tyX2_ok nmX2 hown hK hP hD hS 0 rfl rfl 1 (by decide) hfieldLink_RX2_13 (fun _ h9 => h9) rfl (by decide +kernel) rfl rfl (Nat.le_of_ble_eq_true rfl) dX2_makeSmall_72 (fun H locs hP hD hS => ?_)
        have hP : va_P D ccl [(h0, .inr (3, [.long (nn / sh), .long (dd / sh)]))] H := hP
        have hD : va_D A [(h0, .inr (3, [.long (nn / sh), .long (dd / sh)]))] := hD
        refine g_vret hx hb hr hlk hP hK hD hS (Nat.le_of_ble_eq_true rfl) (Nat.le_of_ble_eq_true rfl) dX2_makeSmall_75 ?_
        exact ⟨_, _, rfl, by
          rw [fb_divL2 (by omega), ed]
          unfold gnR
          rw [if_neg c_6]
          rfl, by
          rw [fb_divL2 (by omega), ed]
          unfold gnR
          rw [if_neg c_6]
          rfl⟩
    · have c_39 : ¬ 0 ≤ dd.toInt := fun h9 => c_39 (g_cmp_ge.mpr h9)
      refine lv_lload_n hx hb dX2_makeSmall_42 rfl (lv_at hl 0 rfl) ?_
      refine lv_lneg hx hb dX2_makeSmall_43 ?_
      refine lv_goto (tgt := 48) hx hb dX2_makeSmall_44 (by decide) ?_
      refine lv_topl (fun sh esh => ?_)
      refine lv_lstore_n (lv' := [(3, .long sh), (1, .long (lN (Nat.gcd nn.toInt.natAbs dd.toInt.natAbs))), (0, .ref h0)]) hx hb dX2_makeSmall_48 rfl hl (by decide) rfl (fun ls hl => ?_)
      have hG0 : 0 < Nat.gcd nn.toInt.natAbs dd.toInt.natAbs := Nat.gcd_pos_of_pos_right _ (by omega)
      have hG1 : Nat.gcd nn.toInt.natAbs dd.toInt.natAbs ≤ dd.toInt.natAbs := Nat.gcd_le_right _ (by omega)
      have ed : sh.toInt = (if dd.toInt < 0 then -(Nat.gcd nn.toInt.natAbs dd.toInt.natAbs : Int) else (Nat.gcd nn.toInt.natAbs dd.toInt.natAbs : Int)) := by
        first | (rw [esh, if_pos (by omega), fb_negL (by rw [pk_lT (by omega)]; omega), pk_lT (by omega)]) | (rw [esh, if_neg (by omega), pk_lT (by omega)])
      have hd0 : ¬ sh = 0 := fun h9 => by
        rw [h9] at ed
        have e9 : (0 : Int64).toInt = 0 := by decide
        rw [e9] at ed
        split at ed <;> omega
      have hd2 : ¬ sh.toInt = 0 := by
        rw [ed]
        split <;> omega
      refine lv_lload_n hx hb dX2_makeSmall_49 rfl (lv_at hl 0 rfl) ?_
      refine lv_lconst (v := 0) hx hb dX2_makeSmall_50 (by decide) ?_
      refine W.lcmp hx hb dX2_makeSmall_51 ?_
      refine lv_if_eq (tgt := 75) hx hb dX2_makeSmall_52 (by decide) (fun c_52 => ?_) (fun c_52 => ?_)
      · have c_52 : sh.toInt = 0 := g_cmp_eq.mp c_52
        exact absurd c_52 hd2
      · have c_52 : ¬ sh.toInt = 0 := fun h9 => c_52 (g_cmp_eq.mpr h9)
        refine lv_aload_n hx hb dX2_makeSmall_55 rfl (lv_at hl 2 rfl) ?_
        refine lv_dup hx hb dX2_makeSmall_56 rfl ?_
        refine va_get (D := D) (ci := 3) (v := .long nn) (C := RX2) (T := TX2) (N := 2) hx hb hts inX2 hown hK hP 0 rfl rfl 0 (by decide) hfieldLink_RX2_7 (fun _ h9 => h9) rfl dX2_makeSmall_57 ?_
        refine lv_lload_n hx hb dX2_makeSmall_60 rfl (lv_at hl 0 rfl) ?_
        refine lv_ldiv hx hb dX2_makeSmall_61 hd0 ?_
        refine va_put (D := D) (ci := 3) (v := .long (nn / sh)) (ty := .long) (C := RX2) (T := TX2) (N := 2) hx hb hts inX2 tyX2 tyX2_ok nmX2 hown hK hP hD hS 0 rfl rfl 0 (by decide) hfieldLink_RX2_7 (fun _ h9 => h9) rfl (by decide +kernel) rfl rfl (Nat.le_of_ble_eq_true rfl) dX2_makeSmall_62 (fun H locs hP hD hS => ?_)
        have hP : va_P D ccl [(h0, .inr (3, [.long (nn / sh), .long dd]))] H := hP
        have hD : va_D A [(h0, .inr (3, [.long (nn / sh), .long dd]))] := hD
        refine lv_aload_n hx hb dX2_makeSmall_65 rfl (lv_at hl 2 rfl) ?_
        refine lv_dup hx hb dX2_makeSmall_66 rfl ?_
        refine va_get (D := D) (ci := 3) (v := .long dd) (C := RX2) (T := TX2) (N := 2) hx hb hts inX2 hown hK hP 0 rfl rfl 1 (by decide) hfieldLink_RX2_13 (fun _ h9 => h9) rfl dX2_makeSmall_67 ?_
        refine lv_lload_n hx hb dX2_makeSmall_70 rfl (lv_at hl 0 rfl) ?_
        refine lv_ldiv hx hb dX2_makeSmall_71 hd0 ?_
        refine va_put (D := D) (ci := 3) (v := .long (dd / sh)) (ty := .long) (C := RX2) (T := TX2) (N := 2) hx hb hts inX2 tyX2 tyX2_ok nmX2 hown hK hP hD hS 0 rfl rfl 1 (by decide) hfieldLink_RX2_13 (fun _ h9 => h9) rfl (by decide +kernel) rfl rfl (Nat.le_of_ble_eq_true rfl) dX2_makeSmall_72 (fun H locs hP hD hS => ?_)
        have hP : va_P D ccl [(h0, .inr (3, [.long (nn / sh), .long (dd / sh)]))] H := hP
        have hD : va_D A [(h0, .inr (3, [.long (nn / sh), .long (dd / sh)]))] := hD
        refine g_vret hx hb hr hlk hP hK hD hS (Nat.le_of_ble_eq_true rfl) (Nat.le_of_ble_eq_true rfl) dX2_makeSmall_75 ?_
        exact ⟨_, _, rfl, by
          rw [fb_divL2 (by omega), ed]
          unfold gnR
          rw [if_neg c_6]
          rfl, by
          rw [fb_divL2 (by omega), ed]
          unfold gnR
          rw [if_neg c_6]
          rfl⟩
  · have c_6 : dd.toInt = 0 := g_cmp_eq.mp c_6
    refine lv_aload_n hx hb dX2_makeSmall_9 rfl (lv_at hl 0 rfl) ?_
    refine lv_lconst (v := 1) hx hb dX2_makeSmall_10 (by decide) ?_
    refine va_put (D := D) (ci := 3) (v := .long 1) (ty := .long) (C := RX2) (T := TX2) (N := 2) hx hb hts inX2 tyX2 tyX2_ok nmX2 hown hK hP hD hS 0 rfl rfl 0 (by decide) hfieldLink_RX2_7 (fun _ h9 => h9) rfl (by decide +kernel) rfl rfl (Nat.le_of_ble_eq_true rfl) dX2_makeSmall_11 (fun H locs hP hD hS => ?_)
    have hP : va_P D ccl [(h0, .inr (3, [.long 1, .long dd]))] H := hP
    have hD : va_D A [(h0, .inr (3, [.long 1, .long dd]))] := hD
    refine g_vret hx hb hr hlk hP hK hD hS (Nat.le_of_ble_eq_true rfl) (Nat.le_of_ble_eq_true rfl) dX2_makeSmall_14 ?_
    exact ⟨_, _, rfl, by unfold gnR; rw [if_pos c_6]; rfl, by unfold gnR; rw [if_pos c_6, c_6]; rfl⟩

set_option maxHeartbeats 4000000 in
set_option maxRecDepth 100000 in
theorem c_X2_isWithin (l : Launch) (D : va_G) (cI cJ cO : ClassId) (df sz : Nat) (h0 : Nat) (nn : Int64) (d : Nat) (lo : Nat) (hi : Nat) (sc : Nat) (hn1 : -34359738368 < nn.toInt ∧ nn.toInt < 34359738368) (hsn : nn.toInt.natAbs * sc < 9223372036854775808) (hld : lo * d < 9223372036854775808) (hhd : hi * d < 9223372036854775808) : MetI l yX2_isWithin wsX2_isWithin ({ frames := 1, cells := 0, slots := 0, locals := 30 } : Room) D (gTY cI cJ cO) df [(h0, .inr (3, [.long nn, .long (lN d)]))] sz [.ref h0, .long (lN lo), .long (lN hi), .long (lN sc)] (fun (r : Int32) (wZ : va_W) => wZ = [(h0, .inr (3, [.long nn, .long (lN d)]))] ∧ r = if lo * d ≤ nn.toInt.natAbs * sc ∧ nn.toInt.natAbs * sc ≤ hi * d then 1 else 0) := by
  refine g_of (cc := cX2_isWithin) (nL := 9) (ret := (some .boolean)) (D := D) (TY := (gTY cI cJ cO)) (df := df) (Qc := fun A => va_Qi (fun (r : Int32) (wZ : va_W) => wZ = [(h0, .inr (3, [.long nn, .long (lN d)]))] ∧ r = if lo * d ≤ nn.toInt.natAbs * sc ∧ nn.toInt.natAbs * sc ≤ hi * d then 1 else 0) (gB D (gTY cI cJ cO) A) A) (by decide +kernel) rfl (Nat.le_of_ble_eq_true rfl) ?_
  intro p e s m below meth c ls A hsz C0 hin hl
  obtain ⟨CF, hr, hlk, hA, hS, hP, hK, hD, hV, hH⟩ := C0
  have CF : CallFix p m c cX2_isWithin 9 s _ wsX2_isWithin RX2 := CF
  obtain ⟨hx, hb, hml, hown, hts⟩ := id CF
  subst hsz
  have hfieldLink_RX2_7 : (Cond.fieldLink RX2 7 "TapLoom$Fraction" "number" "J").before _ s = true := hts _ (List.mem_of_getElem? (i := 1) rfl)
  have hmethodLink_RX2_16 : (Cond.methodLink RX2 16 Lib.MathLoose.abs_long.x).before _ s = true := hts _ (List.mem_of_getElem? (i := 2) rfl)
  have hinitialized_java_lang_Math : (Cond.initialized "java/lang/Math").before _ s = true := hts _ (List.mem_of_getElem? (i := 4) rfl)
  have hstatic_Lib_MathLoose_abs_long_x : (Cond.static Lib.MathLoose.abs_long.x).before _ s = true := hts _ (List.mem_of_getElem? (i := 3) rfl)
  have hcode_Lib_MathLoose_abs_long_x : (Cond.code Lib.MathLoose.abs_long.x Lib.MathLoose.abs_long.code 2 (some .long)).before _ s = true := hts _ (List.mem_of_getElem? (i := 5) rfl)
  have hfieldLink_RX2_13 : (Cond.fieldLink RX2 13 "TapLoom$Fraction" "divisor" "J").before _ s = true := hts _ (List.mem_of_getElem? (i := 6) rfl)
  have inX2 : ∀ w ∈ u_ws RX2 TX2 2, w ∈ wsX2_isWithin := fun w h => (List.mem_cons_of_mem _ (List.mem_append_right _ h))
  have hP : va_P D ccl [(h0, .inr (3, [.long nn, .long (lN d)]))] s.heap := hP
  have hl : lv_has ls 9 [(0, .ref h0), (1, .long (lN lo)), (3, .long (lN hi)), (5, .long (lN sc))] := hl
  refine lv_aload_n hx hb dX2_isWithin_0 rfl (lv_at hl 0 rfl) ?_
  refine va_get (D := D) (ci := 3) (v := .long nn) (C := RX2) (T := TX2) (N := 2) hx hb hts inX2 hown hK hP 0 rfl rfl 0 (by decide) hfieldLink_RX2_7 (fun _ h9 => h9) rfl dX2_isWithin_1 ?_
  refine va_mabs_long hx hb (by rw [hml]; exact hl.1.symm) hown hmethodLink_RX2_16 hstatic_Lib_MathLoose_abs_long_x hinitialized_java_lang_Math hcode_Lib_MathLoose_abs_long_x (Nat.le_of_ble_eq_true rfl) (Nat.le_of_ble_eq_true rfl) (Nat.le_of_ble_eq_true rfl) (Nat.le_of_ble_eq_true rfl) dX2_isWithin_4 ?_
  refine lv_topl (fun f ef => ?_)
  obtain rfl : f = lN nn.toInt.natAbs := ef.trans (absL (by omega))
  refine lv_lload hx hb dX2_isWithin_7 (lv_at hl 3 rfl) ?_
  refine lv_lmul hx hb dX2_isWithin_9 ?_
  refine lv_topl (fun f ef => ?_)
  obtain rfl : f = lN (nn.toInt.natAbs * sc) := ef.trans (lN_mul _ _)
  refine lv_lstore (lv' := [(7, .long (lN (nn.toInt.natAbs * sc))), (0, .ref h0), (1, .long (lN lo)), (3, .long (lN hi)), (5, .long (lN sc))]) hx hb dX2_isWithin_10 hl (by decide) rfl (fun ls hl => ?_)
  refine lv_lload hx hb dX2_isWithin_12 (lv_at hl 0 rfl) ?_
  refine lv_lload_n hx hb dX2_isWithin_14 rfl (lv_at hl 2 rfl) ?_
  refine lv_aload_n hx hb dX2_isWithin_15 rfl (lv_at hl 1 rfl) ?_
  refine va_get (D := D) (ci := 3) (v := .long (lN d)) (C := RX2) (T := TX2) (N := 2) hx hb hts inX2 hown hK hP 0 rfl rfl 1 (by decide) hfieldLink_RX2_13 (fun _ h9 => h9) rfl dX2_isWithin_16 ?_
  refine lv_lmul hx hb dX2_isWithin_19 ?_
  refine lv_topl (fun f ef => ?_)
  obtain rfl : f = lN (lo * d) := ef.trans (lN_mul _ _)
  refine W.lcmp hx hb dX2_isWithin_20 ?_
  refine lv_if_lt (tgt := 40) hx hb dX2_isWithin_21 (by decide) (fun c_21 => ?_) (fun c_21 => ?_)
  · have c_21 : (lN (nn.toInt.natAbs * sc)).toInt < (lN (lo * d)).toInt := g_cmp_lt.mp c_21
    rw [pk_lT hsn, pk_lT hld] at c_21
    refine lv_iconst (v := 0) hx hb dX2_isWithin_40 (by decide) ?_
    refine g_zret (v := 0) hx hb hr hlk hP hK hD hS (Nat.le_of_ble_eq_true rfl) (Nat.le_of_ble_eq_true rfl) dX2_isWithin_41 (by decide +kernel) ?_
    exact ⟨rfl, (if_neg (fun h9 => by omega)).symm⟩
  · have c_21 : ¬ (lN (nn.toInt.natAbs * sc)).toInt < (lN (lo * d)).toInt := fun h9 => c_21 (g_cmp_lt.mpr h9)
    rw [pk_lT hsn, pk_lT hld] at c_21
    refine lv_lload hx hb dX2_isWithin_24 (lv_at hl 0 rfl) ?_
    refine lv_lload_n hx hb dX2_isWithin_26 rfl (lv_at hl 3 rfl) ?_
    refine lv_aload_n hx hb dX2_isWithin_27 rfl (lv_at hl 1 rfl) ?_
    refine va_get (D := D) (ci := 3) (v := .long (lN d)) (C := RX2) (T := TX2) (N := 2) hx hb hts inX2 hown hK hP 0 rfl rfl 1 (by decide) hfieldLink_RX2_13 (fun _ h9 => h9) rfl dX2_isWithin_28 ?_
    refine lv_lmul hx hb dX2_isWithin_31 ?_
    refine lv_topl (fun f ef => ?_)
    obtain rfl : f = lN (hi * d) := ef.trans (lN_mul _ _)
    refine W.lcmp hx hb dX2_isWithin_32 ?_
    refine lv_if_gt (tgt := 40) hx hb dX2_isWithin_33 (by decide) (fun c_33 => ?_) (fun c_33 => ?_)
    · have c_33 : (lN (hi * d)).toInt < (lN (nn.toInt.natAbs * sc)).toInt := g_cmp_gt.mp c_33
      rw [pk_lT hsn, pk_lT hhd] at c_33
      refine lv_iconst (v := 0) hx hb dX2_isWithin_40 (by decide) ?_
      refine g_zret (v := 0) hx hb hr hlk hP hK hD hS (Nat.le_of_ble_eq_true rfl) (Nat.le_of_ble_eq_true rfl) dX2_isWithin_41 (by decide +kernel) ?_
      exact ⟨rfl, (if_neg (fun h9 => by omega)).symm⟩
    · have c_33 : ¬ (lN (hi * d)).toInt < (lN (nn.toInt.natAbs * sc)).toInt := fun h9 => c_33 (g_cmp_gt.mpr h9)
      rw [pk_lT hsn, pk_lT hhd] at c_33
      refine lv_iconst (v := 1) hx hb dX2_isWithin_36 (by decide) ?_
      refine lv_goto (tgt := 41) hx hb dX2_isWithin_37 (by decide) ?_
      refine g_zret (v := 1) hx hb hr hlk hP hK hD hS (Nat.le_of_ble_eq_true rfl) (Nat.le_of_ble_eq_true rfl) dX2_isWithin_41 (by decide +kernel) ?_
      exact ⟨rfl, (if_pos ⟨by omega, by omega⟩).symm⟩
