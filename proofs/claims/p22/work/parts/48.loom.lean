set_option maxHeartbeats 4000000 in
set_option maxRecDepth 100000 in
theorem c_X6_section (l : Launch) (hfl : l.stackTraces = false) (D : va_G) (cI cJ cO : ClassId) (df sz : Nat) (t0 : Nat) (sl : Nat) (ch : Nat) (oh : Nat) (xh : Nat) (rh : Nat) (sh : Nat) (smd : Int32) (ser : Nat) (sf : Nat → Option Nat) (SA : Nat → Nat) (SB : Nat → Nat) (mc : Nat → Int32) (ms : Nat → Int32) (mw : Nat → Int32) (N : Nat) (way : Int32) (hN : N ≤ 8) (hN0 : 0 < N) (hmz : ∀ i, 5 * N ≤ i → mc i = 0) (hsz9 : ∀ i, 4 * N ≤ i → ms i = 0) : MxI l yX6_section wsX6_section ({ frames := 7, cells := 4, slots := 34, locals := 112 } : Room) D (gTY cI cJ cO) df (([(t0, .inr (7, [.ref sl, .ref ch, .ref oh, .ref xh, .ref rh, .ref sh])), (sl, .inr (0, [.int smd, .ref ser, .int (nI N)])), (ser, .inl (cO, 10, .inr (.inr (.inr (.inr sf)))))] : va_W) ++ scL (scJ cI SA SB mc ms mw) (List.range N)) sz [.ref t0, .int way] (fun (u : String × va_W) => u.2 = ([(t0, .inr (7, [.ref sl, .ref ch, .ref oh, .ref xh, .ref rh, .ref sh])), (sl, .inr (0, [.int smd, .ref ser, .int (nI N)])), (ser, .inl (cO, 10, .inr (.inr (.inr (.inr sf)))))] : va_W) ++ scL (scJ cI SA SB mc ms mw) (List.range N) ∧ ¬ gGo (isIn way 0 2) (if N < 8 then 1 else 0) 1 = 0 ∧ u.1 = xN gIAE gISE (gGo (isIn way 0 2) (if N < 8 then 1 else 0) 1)) (fun (r : Int32) (wZ : va_W) => ∃ (q1 : Nat), ∃ (b1 : Nat), wZ = ([(t0, .inr (7, [.ref sl, .ref ch, .ref oh, .ref xh, .ref rh, .ref sh])), (sl, .inr (0, [.int (smd + 1), .ref ser, .int (nI (N + 1))])), (ser, .inl (cO, 10, .inr (.inr (.inr (.inr (va_up sf N (some q1)))))))] : va_W) ++ scL (scJ cI (fun i => if i = N then q1 else SA i) (fun i => if i = N then b1 else SB i) (upd mc (5 * N) 64) ms (upd mw N way)) (List.range (N + 1)) ∧ r = nI N ∧ gGo (isIn way 0 2) (if N < 8 then 1 else 0) 1 = 0) := by
  refine gx_of (cc := cX6_section) (nL := 3) (ret := (some .int)) (D := D) (TY := (gTY cI cJ cO)) (df := df) (Qc := fun A => va_Qi (fun (r : Int32) (wZ : va_W) => ∃ (q1 : Nat), ∃ (b1 : Nat), wZ = ([(t0, .inr (7, [.ref sl, .ref ch, .ref oh, .ref xh, .ref rh, .ref sh])), (sl, .inr (0, [.int (smd + 1), .ref ser, .int (nI (N + 1))])), (ser, .inl (cO, 10, .inr (.inr (.inr (.inr (va_up sf N (some q1)))))))] : va_W) ++ scL (scJ cI (fun i => if i = N then q1 else SA i) (fun i => if i = N then b1 else SB i) (upd mc (5 * N) 64) ms (upd mw N way)) (List.range (N + 1)) ∧ r = nI N ∧ gGo (isIn way 0 2) (if N < 8 then 1 else 0) 1 = 0) (gB D (gTY cI cJ cO) A) A) (XC := fun A => vx_X (fun (u : String × va_W) => u.2 = ([(t0, .inr (7, [.ref sl, .ref ch, .ref oh, .ref xh, .ref rh, .ref sh])), (sl, .inr (0, [.int smd, .ref ser, .int (nI N)])), (ser, .inl (cO, 10, .inr (.inr (.inr (.inr sf)))))] : va_W) ++ scL (scJ cI SA SB mc ms mw) (List.range N) ∧ ¬ gGo (isIn way 0 2) (if N < 8 then 1 else 0) 1 = 0 ∧ u.1 = xN gIAE gISE (gGo (isIn way 0 2) (if N < 8 then 1 else 0) 1)) (gBx D (gTY cI cJ cO) A) A) (by decide +kernel) rfl (Nat.le_of_ble_eq_true rfl) ?_
  intro p e s m below meth c ls A hsz C0 hin hl
  obtain ⟨CF, hr, hlk, hA, hS, hP, hK, hD, hV, hH⟩ := C0
  have CF : CallFix p m c cX6_section 3 s _ wsX6_section RX6 := CF
  obtain ⟨hx, hb, hml, hown, hts⟩ := id CF
  subst hsz
  have hmethodLink_RX6_51 : (Cond.methodLink RX6 51 yX6_requireWithin).before _ s = true := hts _ (List.mem_of_getElem? (i := 7) rfl)
  have hfieldLink_RX6_10 : (Cond.fieldLink RX6 10 "TapLoom" "sections" "Ljava/util/ArrayList;").before _ s = true := hts _ (List.mem_of_getElem? (i := 3) rfl)
  have hmethodLink_RX6_55 : (Cond.methodLink RX6 55 yJx4a65c_size_8abf5).before _ s = true := hts _ (List.mem_of_getElem? (i := 13) rfl)
  have hclassLink_RX6_49 : (Cond.classLink RX6 49 RX4).before _ s = true := hts _ (List.mem_of_getElem? (i := 4) rfl)
  have hinstantiable_RX4_7 : (Cond.instantiable RX4 7).before _ s = true := hts _ (List.mem_of_getElem? (i := 5) rfl)
  have hinitialized_RX4 : (Cond.initialized RX4).before _ s = true := hts _ (List.mem_of_getElem? (i := 6) rfl)
  have hmethodLink_RX6_66 : (Cond.methodLink RX6 66 yX4_init).before _ s = true := hts _ (List.mem_of_getElem? (i := 19) rfl)
  have hinstanceMethod_yX4_init : (Cond.instanceMethod yX4_init).before _ s = true := hts _ (List.mem_of_getElem? (i := 20) rfl)
  have hmethodLink_RX6_69 : (Cond.methodLink RX6 69 yJx4a65c_add_9ea2d).before _ s = true := hts _ (List.mem_of_getElem? (i := 29) rfl)
  have hclassLink_RX6_59 : (Cond.classLink RX6 59 "java/lang/IllegalStateException").before _ s = true := hts _ (List.mem_of_getElem? (i := 1) rfl)
  have hinitialized_java_lang_IllegalStateException : (Cond.initialized "java/lang/IllegalStateException").before _ s = true := hts _ (List.mem_of_getElem? (i := 2) rfl)
  have hXw0 : ∀ w ∈ (vx_atS RX6 63 "java/lang/IllegalStateException" ["java/lang/RuntimeException", "java/lang/Exception"]).filter goodWord, w.before _ s = true := fun w h => hts w (List.mem_cons_of_mem _ (List.mem_append_left _ (List.mem_append_right _ h)))
  have inX4 : ∀ w ∈ u_ws RX4 TX4 7, w ∈ wsX6_section := fun w h => (List.mem_cons_of_mem _ (List.mem_append_left _ (List.mem_append_left _ (List.mem_append_left _ (List.mem_append_right _ h)))))
  have inX6 : ∀ w ∈ u_ws RX6 TX6 6, w ∈ wsX6_section := fun w h => (List.mem_cons_of_mem _ (List.mem_append_left _ (List.mem_append_left _ (List.mem_append_left _ (List.mem_append_left _ (List.mem_append_right _ h))))))
  have hP : va_P D ccl (([(t0, .inr (7, [.ref sl, .ref ch, .ref oh, .ref xh, .ref rh, .ref sh])), (sl, .inr (0, [.int smd, .ref ser, .int (nI N)])), (ser, .inl (cO, 10, .inr (.inr (.inr (.inr sf)))))] : va_W) ++ scL (scJ cI SA SB mc ms mw) (List.range N)) s.heap := hP
  have hl : lv_has ls 3 [(0, .ref t0), (1, .int way)] := hl
  refine lv_iload_n hx hb dX6_section_0 rfl (lv_at hl 1 rfl) ?_
  refine lv_iconst (v := 0) hx hb dX6_section_1 (by decide) ?_
  refine lv_iconst (v := 2) hx hb dX6_section_2 (by decide) ?_
  have hPc : va_P D ccl [] s.heap := fun k q h => by simp at h
  have hDc : va_D A [] := ⟨fun i j p q h => by simp at h, fun k q h => by simp at h⟩
  have hFc := va_free (wc := []) hD hS hA [] rfl
  refine gx_Sv (As := [.int way, .int 0, .int 2]) (rest := []) CF (c_X6_requireWithin l hfl D cI cJ cO df s.heap.size way 0 2 ) (va_cwS 3 hts gX6_section_X6_requireWithin rfl rfl rfl (by decide +kernel) ⟨Nat.le_of_ble_eq_true rfl, Nat.le_of_ble_eq_true rfl⟩)  hPc hK hDc hV hH hS hFc rfl hl.1 rfl (Nat.le_of_ble_eq_true rfl) dX6_section_3 ⟨Nat.le_of_ble_eq_true rfl, Nat.le_of_ble_eq_true rfl⟩ (fun E9 ce q9 w1 H1 locs1 hq hP1 hD1 hk hS hz hc1 hc2 hc3 => ?_) (fun w1 H1 locs1 hq hP1 hD1 hk hS hz => ?_)
  · obtain ⟨ew1, hq⟩ := hq
    dsimp only at ew1 hq
    subst ew1
    have hP := g_keep0 hP hk
    refine vx_widen (k := 4) (n := 34) (Nat.le_of_ble_eq_true rfl) (Nat.le_of_ble_eq_true rfl) ?_
    refine vx_out (fun z hz9 => absurd hz9 (hin z)) hlk hc1 hc2 hc3 (fun t ht hvm => ⟨(E9, (([(t0, .inr (7, [.ref sl, .ref ch, .ref oh, .ref xh, .ref rh, .ref sh])), (sl, .inr (0, [.int smd, .ref ser, .int (nI N)])), (ser, .inl (cO, 10, .inr (.inr (.inr (.inr sf)))))] : va_W) ++ scL (scJ cI SA SB mc ms mw) (List.range N))), ⟨rfl, px1 hq.2 hq.1⟩, ⟨rfl, by rw [ht]; exact hP, va_K.moved hvm hK, hD⟩, hS.F ht⟩) hS.2.2 (Nat.le_refl _) (Nat.le_refl _)
  obtain ⟨rfl, hq_3⟩ := hq
  have hP := g_keep0 hP hk
  clear hPc hDc hFc hP1 hD1 hk hz
  generalize H1 = H at hP hS ⊢
  have hP : va_P D ccl (([(t0, .inr (7, [.ref sl, .ref ch, .ref oh, .ref xh, .ref rh, .ref sh])), (sl, .inr (0, [.int smd, .ref ser, .int (nI N)])), (ser, .inl (cO, 10, .inr (.inr (.inr (.inr sf)))))] : va_W) ++ scL (scJ cI SA SB mc ms mw) (List.range N)) H := hP
  have hD : va_D A (([(t0, .inr (7, [.ref sl, .ref ch, .ref oh, .ref xh, .ref rh, .ref sh])), (sl, .inr (0, [.int smd, .ref ser, .int (nI N)])), (ser, .inl (cO, 10, .inr (.inr (.inr (.inr sf)))))] : va_W) ++ scL (scJ cI SA SB mc ms mw) (List.range N)) := hD
  refine lv_aload_n hx hb dX6_section_6 rfl (lv_at hl 0 rfl) ?_
  refine va_get (D := D) (ci := 7) (v := .ref sl) (C := RX6) (T := TX6) (N := 6) hx hb hts inX6 hown hK hP 0 rfl rfl 0 (by decide) hfieldLink_RX6_10 (fun _ h9 => h9) rfl dX6_section_7 ?_
  have hPc := hP.sub (ws' := [(sl, .inr (0, [.int smd, .ref ser, .int (nI N)]))]) [1] rfl
  have hDc := hD.sub (ws' := [(sl, .inr (0, [.int smd, .ref ser, .int (nI N)]))]) [1] (by decide) rfl
  have hFc := va_free (wc := [(sl, .inr (0, [.int smd, .ref ser, .int (nI N)]))]) hD hS hA [1] rfl
  refine g_Vi (As := []) (rest := []) CF (c_Jx4a65c_size_8abf5 l D cI cJ cO df H.size sl smd ser (nI N) ) (cwV 0 hts gX6_section_Jx4a65c_size_8abf5 rfl rfl rfl (by decide +kernel) ⟨Nat.le_of_ble_eq_true rfl, Nat.le_of_ble_eq_true rfl⟩) (va_recv hK hP (ci := 0) (q0 := 1) rfl rfl) hPc hK hDc hV hH hS hFc rfl hl.1 rfl (Nat.le_of_ble_eq_true rfl) dX6_section_10 ⟨Nat.le_of_ble_eq_true rfl, Nat.le_of_ble_eq_true rfl⟩ (fun r_10 w1 H1 locs1 hq hP1 hD1 hk hS hz => ?_)
  obtain ⟨rfl, hr_10⟩ := hq
  have hP := g_keepR hP hD [1] rfl hk hP1
  clear hPc hDc hFc hP1 hD1 hk hz
  generalize H1 = H at hP hS ⊢
  have hP : va_P D ccl (([(t0, .inr (7, [.ref sl, .ref ch, .ref oh, .ref xh, .ref rh, .ref sh])), (sl, .inr (0, [.int smd, .ref ser, .int (nI N)])), (ser, .inl (cO, 10, .inr (.inr (.inr (.inr sf)))))] : va_W) ++ scL (scJ cI SA SB mc ms mw) (List.range N)) H := hP
  have hD : va_D A (([(t0, .inr (7, [.ref sl, .ref ch, .ref oh, .ref xh, .ref rh, .ref sh])), (sl, .inr (0, [.int smd, .ref ser, .int (nI N)])), (ser, .inl (cO, 10, .inr (.inr (.inr (.inr sf)))))] : va_W) ++ scL (scJ cI SA SB mc ms mw) (List.range N)) := hD
  subst hr_10
  refine lv_bipush (v := 8) hx hb dX6_section_13 (by decide) ?_
  refine lv_icmp_lt (tgt := 28) hx hb dX6_section_15 (by decide) (fun c_15 => ?_) (fun c_15 => ?_)
  · have c_15 : N < 8 := g_lt (a := N) (b := 8) c_15 (by omega) (by omega)
    refine lv_aload_n hx hb dX6_section_28 rfl (lv_at hl 0 rfl) ?_
    refine va_get (D := D) (ci := 7) (v := .ref sl) (C := RX6) (T := TX6) (N := 6) hx hb hts inX6 hown hK hP 0 rfl rfl 0 (by decide) hfieldLink_RX6_10 (fun _ h9 => h9) rfl dX6_section_29 ?_
    have hPc := hP.sub (ws' := [(sl, .inr (0, [.int smd, .ref ser, .int (nI N)]))]) [1] rfl
    have hDc := hD.sub (ws' := [(sl, .inr (0, [.int smd, .ref ser, .int (nI N)]))]) [1] (by decide) rfl
    have hFc := va_free (wc := [(sl, .inr (0, [.int smd, .ref ser, .int (nI N)]))]) hD hS hA [1] rfl
    refine g_Vi (As := []) (rest := []) CF (c_Jx4a65c_size_8abf5 l D cI cJ cO df H.size sl smd ser (nI N) ) (cwV 0 hts gX6_section_Jx4a65c_size_8abf5 rfl rfl rfl (by decide +kernel) ⟨Nat.le_of_ble_eq_true rfl, Nat.le_of_ble_eq_true rfl⟩) (va_recv hK hP (ci := 0) (q0 := 1) rfl rfl) hPc hK hDc hV hH hS hFc rfl hl.1 rfl (Nat.le_of_ble_eq_true rfl) dX6_section_32 ⟨Nat.le_of_ble_eq_true rfl, Nat.le_of_ble_eq_true rfl⟩ (fun r_32 w1 H1 locs1 hq hP1 hD1 hk hS hz => ?_)
    obtain ⟨rfl, hr_32⟩ := hq
    have hP := g_keepR hP hD [1] rfl hk hP1
    clear hPc hDc hFc hP1 hD1 hk hz
    generalize H1 = H at hP hS ⊢
    have hP : va_P D ccl (([(t0, .inr (7, [.ref sl, .ref ch, .ref oh, .ref xh, .ref rh, .ref sh])), (sl, .inr (0, [.int smd, .ref ser, .int (nI N)])), (ser, .inl (cO, 10, .inr (.inr (.inr (.inr sf)))))] : va_W) ++ scL (scJ cI SA SB mc ms mw) (List.range N)) H := hP
    have hD : va_D A (([(t0, .inr (7, [.ref sl, .ref ch, .ref oh, .ref xh, .ref rh, .ref sh])), (sl, .inr (0, [.int smd, .ref ser, .int (nI N)])), (ser, .inl (cO, 10, .inr (.inr (.inr (.inr sf)))))] : va_W) ++ scL (scJ cI SA SB mc ms mw) (List.range N)) := hD
    subst hr_32
    refine lv_istore_n (lv' := [(2, .int (nI N)), (0, .ref t0), (1, .int way)]) hx hb dX6_section_35 rfl hl (by decide) rfl (fun ls hl => ?_)
    refine lv_aload_n hx hb dX6_section_36 rfl (lv_at hl 1 rfl) ?_
    refine va_get (D := D) (ci := 7) (v := .ref sl) (C := RX6) (T := TX6) (N := 6) hx hb hts inX6 hown hK hP 0 rfl rfl 0 (by decide) hfieldLink_RX6_10 (fun _ h9 => h9) rfl dX6_section_37 ?_
    refine va_new (ci := 5) (fs := [.int 0, .int 0, .null, .int 0, .int 0, .int 0, .int 0]) (C := RX4) (T := TX4) (N := 7) hx hb hts inX4 tyX4 tyX4_ok hown hclassLink_RX6_49 hinstantiable_RX4_7 hinitialized_RX4 hK hP hD hS hA rfl (fun j hj => by rcases (show j = 0 ∨ j = 1 ∨ j = 2 ∨ j = 3 ∨ j = 4 ∨ j = 5 ∨ j = 6 by omega) with rfl | rfl | rfl | rfl | rfl | rfl | rfl <;> rfl) (Nat.le_of_ble_eq_true rfl) (Nat.le_of_ble_eq_true rfl) dX6_section_40 (fun q1 H hP hD hS => ?_)
    have hP := hP.perm9 (tl_perm (X := [(t0, .inr (7, [.ref sl, .ref ch, .ref oh, .ref xh, .ref rh, .ref sh])), (sl, .inr (0, [.int smd, .ref ser, .int (nI N)])), (ser, .inl (cO, 10, .inr (.inr (.inr (.inr sf)))))]) (c := [(q1, .inr (5, [.int 0, .int 0, .null, .int 0, .int 0, .int 0, .int 0]))]))
    have hD := hD.perm9 (tl_perm (X := [(t0, .inr (7, [.ref sl, .ref ch, .ref oh, .ref xh, .ref rh, .ref sh])), (sl, .inr (0, [.int smd, .ref ser, .int (nI N)])), (ser, .inl (cO, 10, .inr (.inr (.inr (.inr sf)))))]) (c := [(q1, .inr (5, [.int 0, .int 0, .null, .int 0, .int 0, .int 0, .int 0]))]))
    have hP : va_P D ccl (([(t0, .inr (7, [.ref sl, .ref ch, .ref oh, .ref xh, .ref rh, .ref sh])), (sl, .inr (0, [.int smd, .ref ser, .int (nI N)])), (ser, .inl (cO, 10, .inr (.inr (.inr (.inr sf))))), (q1, .inr (5, [.int 0, .int 0, .null, .int 0, .int 0, .int 0, .int 0]))] : va_W) ++ scL (scJ cI SA SB mc ms mw) (List.range N)) H := hP
    have hD : va_D A (([(t0, .inr (7, [.ref sl, .ref ch, .ref oh, .ref xh, .ref rh, .ref sh])), (sl, .inr (0, [.int smd, .ref ser, .int (nI N)])), (ser, .inl (cO, 10, .inr (.inr (.inr (.inr sf))))), (q1, .inr (5, [.int 0, .int 0, .null, .int 0, .int 0, .int 0, .int 0]))] : va_W) ++ scL (scJ cI SA SB mc ms mw) (List.range N)) := hD
    refine lv_dup hx hb dX6_section_43 rfl ?_
    refine lv_iload_n hx hb dX6_section_44 rfl (lv_at hl 0 rfl) ?_
    refine lv_iload_n hx hb dX6_section_45 rfl (lv_at hl 2 rfl) ?_
    have hPc := hP.sub (ws' := [(q1, .inr (5, [.int 0, .int 0, .null, .int 0, .int 0, .int 0, .int 0]))]) [3] rfl
    have hDc := hD.sub (ws' := [(q1, .inr (5, [.int 0, .int 0, .null, .int 0, .int 0, .int 0, .int 0]))]) [3] (by decide) rfl
    have hFc := va_free (wc := [(q1, .inr (5, [.int 0, .int 0, .null, .int 0, .int 0, .int 0, .int 0]))]) hD hS hA [3] rfl
    refine g_Iv (As := [.int (nI N), .int way]) (rest := [.ref q1, .ref sl]) CF (c_X4_init l D cI cJ cO df H.size q1 (nI N) way ) (cwI 2 hts gX6_section_X4_init rfl rfl rfl hinitialized_RX4 hmethodLink_RX6_66 hinstanceMethod_yX4_init rfl (by decide +kernel) ⟨Nat.le_of_ble_eq_true rfl, Nat.le_of_ble_eq_true rfl⟩)  hPc hK hDc hV hH hS hFc rfl hl.1 rfl (Nat.le_of_ble_eq_true rfl) dX6_section_46 ⟨Nat.le_of_ble_eq_true rfl, Nat.le_of_ble_eq_true rfl⟩ (fun w1 H1 locs1 hq hP1 hD1 hk hS hz => ?_)
    obtain ⟨b1, rfl⟩ := hq
    obtain ⟨hP, hD⟩ := g_joinQ (X := [(t0, .inr (7, [.ref sl, .ref ch, .ref oh, .ref xh, .ref rh, .ref sh])), (sl, .inr (0, [.int smd, .ref ser, .int (nI N)])), (ser, .inl (cO, 10, .inr (.inr (.inr (.inr sf))))), (q1, .inr (5, [.int 0, .int 0, .null, .int 0, .int 0, .int 0, .int 0]))]) (X' := [(t0, .inr (7, [.ref sl, .ref ch, .ref oh, .ref xh, .ref rh, .ref sh])), (sl, .inr (0, [.int smd, .ref ser, .int (nI N)])), (ser, .inl (cO, 10, .inr (.inr (.inr (.inr sf))))), (q1, .inr (5, [.int (nI N), .int way, .ref b1, .int 0, .int 0, .int 0, .int 0])), (b1, .inl (cI, 5, .inl (upd (fun _ => 0) 0 64)))]) hP hD hk hFc hP1 hD1 [3] [0, 1, 2] [0, 1, 2, 3, 4] rfl rfl (by decide) (by decide) (by decide) rfl
    clear hPc hDc hFc hP1 hD1 hk hz
    generalize H1 = H at hP hS ⊢
    have hP : va_P D ccl (([(t0, .inr (7, [.ref sl, .ref ch, .ref oh, .ref xh, .ref rh, .ref sh])), (sl, .inr (0, [.int smd, .ref ser, .int (nI N)])), (ser, .inl (cO, 10, .inr (.inr (.inr (.inr sf))))), (q1, .inr (5, [.int (nI N), .int way, .ref b1, .int 0, .int 0, .int 0, .int 0])), (b1, .inl (cI, 5, .inl (upd (fun _ => 0) 0 64)))] : va_W) ++ scL (scJ cI SA SB mc ms mw) (List.range N)) H := hP
    have hD : va_D A (([(t0, .inr (7, [.ref sl, .ref ch, .ref oh, .ref xh, .ref rh, .ref sh])), (sl, .inr (0, [.int smd, .ref ser, .int (nI N)])), (ser, .inl (cO, 10, .inr (.inr (.inr (.inr sf))))), (q1, .inr (5, [.int (nI N), .int way, .ref b1, .int 0, .int 0, .int 0, .int 0])), (b1, .inl (cI, 5, .inl (upd (fun _ => 0) 0 64)))] : va_W) ++ scL (scJ cI SA SB mc ms mw) (List.range N)) := hD
    obtain ⟨hP, hD⟩ := sc_add (X := [(t0, .inr (7, [.ref sl, .ref ch, .ref oh, .ref xh, .ref rh, .ref sh])), (sl, .inr (0, [.int smd, .ref ser, .int (nI N)])), (ser, .inl (cO, 10, .inr (.inr (.inr (.inr sf)))))]) (c2 := [(q1, .inr (5, [.int (nI N), .int way, .ref b1, .int 0, .int 0, .int 0, .int 0])), (b1, .inl (cI, 5, .inl (upd (fun _ => 0) 0 64)))]) (S := (scJ cI SA SB mc ms mw)) (S' := (scJ cI (fun i => if i = N then q1 else SA i) (fun i => if i = N then b1 else SB i) (upd mc (5 * N) 64) ms (upd mw N way))) (N := N) hP hD (scJ_new hmz hsz9) (fun i hi => scJ_newo hi)
    have hP : va_P D ccl (([(t0, .inr (7, [.ref sl, .ref ch, .ref oh, .ref xh, .ref rh, .ref sh])), (sl, .inr (0, [.int smd, .ref ser, .int (nI N)])), (ser, .inl (cO, 10, .inr (.inr (.inr (.inr sf)))))] : va_W) ++ scL (scJ cI (fun i => if i = N then q1 else SA i) (fun i => if i = N then b1 else SB i) (upd mc (5 * N) 64) ms (upd mw N way)) (List.range (N + 1))) H := hP
    have hD : va_D A (([(t0, .inr (7, [.ref sl, .ref ch, .ref oh, .ref xh, .ref rh, .ref sh])), (sl, .inr (0, [.int smd, .ref ser, .int (nI N)])), (ser, .inl (cO, 10, .inr (.inr (.inr (.inr sf)))))] : va_W) ++ scL (scJ cI (fun i => if i = N then q1 else SA i) (fun i => if i = N then b1 else SB i) (upd mc (5 * N) 64) ms (upd mw N way)) (List.range (N + 1))) := hD
    have hPc := hP.part (X := [(t0, .inr (7, [.ref sl, .ref ch, .ref oh, .ref xh, .ref rh, .ref sh])), (sl, .inr (0, [.int smd, .ref ser, .int (nI N)])), (ser, .inl (cO, 10, .inr (.inr (.inr (.inr sf)))))]) (cx := [(sl, .inr (0, [.int smd, .ref ser, .int (nI N)])), (ser, .inl (cO, 10, .inr (.inr (.inr (.inr sf)))))]) [1, 2] rfl
    have hDc := hD.part (X := [(t0, .inr (7, [.ref sl, .ref ch, .ref oh, .ref xh, .ref rh, .ref sh])), (sl, .inr (0, [.int smd, .ref ser, .int (nI N)])), (ser, .inl (cO, 10, .inr (.inr (.inr (.inr sf)))))]) (cx := [(sl, .inr (0, [.int smd, .ref ser, .int (nI N)])), (ser, .inl (cO, 10, .inr (.inr (.inr (.inr sf)))))]) [1, 2] (by decide) rfl
    have hFc := va_freeP (X := [(t0, .inr (7, [.ref sl, .ref ch, .ref oh, .ref xh, .ref rh, .ref sh])), (sl, .inr (0, [.int smd, .ref ser, .int (nI N)])), (ser, .inl (cO, 10, .inr (.inr (.inr (.inr sf)))))]) (cx := [(sl, .inr (0, [.int smd, .ref ser, .int (nI N)])), (ser, .inl (cO, 10, .inr (.inr (.inr (.inr sf)))))]) hD hS hA [1, 2] rfl
    refine g_Vi (As := [.ref q1]) (rest := []) CF (c_Jx4a65c_add_9ea2d l D cI cJ cO df H.size sl smd ser N sf (scL (scJ cI (fun i => if i = N then q1 else SA i) (fun i => if i = N then b1 else SB i) (upd mc (5 * N) 64) ms (upd mw N way)) (List.range (N + 1))) q1 (by omega) (by have h9 := inT_scL (cI := cI) (SA := fun i => if i = N then q1 else SA i) (SB := fun i => if i = N then b1 else SB i) (mc := upd mc (5 * N) 64) (ms := ms) (mw := upd mw N way) (rgm (Nat.lt_succ_self N)); rw [if_pos rfl] at h9; exact h9)) (cwV 1 hts gX6_section_Jx4a65c_add_9ea2d rfl rfl rfl (by decide +kernel) ⟨Nat.le_of_ble_eq_true rfl, Nat.le_of_ble_eq_true rfl⟩) (va_recv hK hP (ci := 0) (q0 := 1) rfl rfl) hPc hK hDc hV hH hS hFc rfl hl.1 rfl (Nat.le_of_ble_eq_true rfl) dX6_section_49 ⟨Nat.le_of_ble_eq_true rfl, Nat.le_of_ble_eq_true rfl⟩ (fun r_49 w1 H1 locs1 hq hP1 hD1 hk hS hz => ?_)
    obtain ⟨rfl, hr_49⟩ := hq
    obtain ⟨hP, hD⟩ := g_joinP (X := [(t0, .inr (7, [.ref sl, .ref ch, .ref oh, .ref xh, .ref rh, .ref sh])), (sl, .inr (0, [.int smd, .ref ser, .int (nI N)])), (ser, .inl (cO, 10, .inr (.inr (.inr (.inr sf)))))]) (cx := [(sl, .inr (0, [.int smd, .ref ser, .int (nI N)])), (ser, .inl (cO, 10, .inr (.inr (.inr (.inr sf)))))]) (rx := [(sl, .inr (0, [.int (smd + 1), .ref ser, .int (nI (N + 1))])), (ser, .inl (cO, 10, .inr (.inr (.inr (.inr (va_up sf N (some q1)))))))]) (X' := [(t0, .inr (7, [.ref sl, .ref ch, .ref oh, .ref xh, .ref rh, .ref sh])), (sl, .inr (0, [.int (smd + 1), .ref ser, .int (nI (N + 1))])), (ser, .inl (cO, 10, .inr (.inr (.inr (.inr (va_up sf N (some q1)))))))]) hP hD hk hFc hP1 hD1 [1, 2] [0] [0, 1, 2] rfl rfl (by decide) (by decide) (by decide) rfl
    clear hPc hDc hFc hP1 hD1 hk hz
    generalize H1 = H at hP hS ⊢
    have hP : va_P D ccl (([(t0, .inr (7, [.ref sl, .ref ch, .ref oh, .ref xh, .ref rh, .ref sh])), (sl, .inr (0, [.int (smd + 1), .ref ser, .int (nI (N + 1))])), (ser, .inl (cO, 10, .inr (.inr (.inr (.inr (va_up sf N (some q1)))))))] : va_W) ++ (scL (scJ cI (fun i => if i = N then q1 else SA i) (fun i => if i = N then b1 else SB i) (upd mc (5 * N) 64) ms (upd mw N way)) (List.range (N + 1)))) H := hP
    have hD : va_D A (([(t0, .inr (7, [.ref sl, .ref ch, .ref oh, .ref xh, .ref rh, .ref sh])), (sl, .inr (0, [.int (smd + 1), .ref ser, .int (nI (N + 1))])), (ser, .inl (cO, 10, .inr (.inr (.inr (.inr (va_up sf N (some q1)))))))] : va_W) ++ (scL (scJ cI (fun i => if i = N then q1 else SA i) (fun i => if i = N then b1 else SB i) (upd mc (5 * N) 64) ms (upd mw N way)) (List.range (N + 1)))) := hD
    subst hr_49
    refine lv_pop hx hb dX6_section_52 rfl ?_
    refine lv_iload_n hx hb dX6_section_53 rfl (lv_at hl 0 rfl) ?_
    refine vx_ret ?_
    refine g_iret (v := nI N) hx hb hr hlk hP hK hD hS (Nat.le_of_ble_eq_true rfl) (Nat.le_of_ble_eq_true rfl) dX6_section_54 ?_
    exact ⟨_, _, rfl, rfl, gGoOk hq_3 (by rw [if_pos c_15]; decide) (by decide)⟩
  · have c_15 : 8 ≤ N := g_nlt (a := N) (b := 8) c_15 (by omega) (by omega)
    have hP : va_P D ccl (([(t0, .inr (7, [.ref sl, .ref ch, .ref oh, .ref xh, .ref rh, .ref sh])), (sl, .inr (0, [.int smd, .ref ser, .int (nI N)])), (ser, .inl (cO, 10, .inr (.inr (.inr (.inr sf)))))] : va_W) ++ scL (scJ cI SA SB mc ms mw) (List.range N)) H := hP
    exact gx_thr hx hb hfl hown (by decide) hclassLink_RX6_59 hinitialized_java_lang_IllegalStateException hV.2.2.2.2.1 hXw0 (by decide +kernel) hV hV.2.2.2.2.2.2.2.2.1 (by decide +kernel) hH hP hK hD hS (by rw [hml]; exact hl.1) dX6_section_18 dX6_section_21 dX6_section_22 dX6_section_24 dX6_section_27 hin (Nat.le_of_ble_eq_true rfl) (Nat.le_of_ble_eq_true rfl) (Nat.le_of_ble_eq_true rfl) (Nat.le_of_ble_eq_true rfl) hlk (Nat.le_of_ble_eq_true rfl) (Nat.le_of_ble_eq_true rfl) ⟨rfl, px2 hq_3 (if_neg (by omega)) rfl⟩

set_option maxHeartbeats 4000000 in
set_option maxRecDepth 100000 in
theorem c_X6_section_e (l : Launch) (hfl : l.stackTraces = false) (D : va_G) (cI cJ cO : ClassId) (df sz : Nat) (t0 : Nat) (sl : Nat) (ch : Nat) (oh : Nat) (xh : Nat) (rh : Nat) (sh : Nat) (smd : Int32) (SA : Nat → Nat) (SB : Nat → Nat) (mc : Nat → Int32) (ms : Nat → Int32) (mw : Nat → Int32) (way : Int32) (hmz : ∀ i, 5 * 0 ≤ i → mc i = 0) (hsz9 : ∀ i, 4 * 0 ≤ i → ms i = 0) : MxI l yX6_section wsX6_section ({ frames := 7, cells := 4, slots := 34, locals := 117 } : Room) D (gTY cI cJ cO) df (([(t0, .inr (7, [.ref sl, .ref ch, .ref oh, .ref xh, .ref rh, .ref sh])), (sl, .inr (0, [.int smd, .ref df, .int 0]))] : va_W) ++ scL (scJ cI SA SB mc ms mw) (List.range 0)) sz [.ref t0, .int way] (fun (u : String × va_W) => u.2 = ([(t0, .inr (7, [.ref sl, .ref ch, .ref oh, .ref xh, .ref rh, .ref sh])), (sl, .inr (0, [.int smd, .ref df, .int 0]))] : va_W) ++ scL (scJ cI SA SB mc ms mw) (List.range 0) ∧ ¬ gGo (isIn way 0 2) 1 1 = 0 ∧ u.1 = xN gIAE gISE (gGo (isIn way 0 2) 1 1)) (fun (r : Int32) (wZ : va_W) => ∃ (q1 : Nat), ∃ (b1 : Nat), ∃ (ser : Nat), wZ = ([(t0, .inr (7, [.ref sl, .ref ch, .ref oh, .ref xh, .ref rh, .ref sh])), (sl, .inr (0, [.int (smd + 1), .ref ser, .int (nI 1)])), (ser, .inl (cO, 10, .inr (.inr (.inr (.inr (va_up (fun _ => none) 0 (some q1)))))))] : va_W) ++ scL (scJ cI (fun i => if i = 0 then q1 else SA i) (fun i => if i = 0 then b1 else SB i) (upd mc (5 * 0) 64) ms (upd mw 0 way)) (List.range (0 + 1)) ∧ r = nI 0 ∧ gGo (isIn way 0 2) 1 1 = 0) := by
  refine gx_of (cc := cX6_section) (nL := 3) (ret := (some .int)) (D := D) (TY := (gTY cI cJ cO)) (df := df) (Qc := fun A => va_Qi (fun (r : Int32) (wZ : va_W) => ∃ (q1 : Nat), ∃ (b1 : Nat), ∃ (ser : Nat), wZ = ([(t0, .inr (7, [.ref sl, .ref ch, .ref oh, .ref xh, .ref rh, .ref sh])), (sl, .inr (0, [.int (smd + 1), .ref ser, .int (nI 1)])), (ser, .inl (cO, 10, .inr (.inr (.inr (.inr (va_up (fun _ => none) 0 (some q1)))))))] : va_W) ++ scL (scJ cI (fun i => if i = 0 then q1 else SA i) (fun i => if i = 0 then b1 else SB i) (upd mc (5 * 0) 64) ms (upd mw 0 way)) (List.range (0 + 1)) ∧ r = nI 0 ∧ gGo (isIn way 0 2) 1 1 = 0) (gB D (gTY cI cJ cO) A) A) (XC := fun A => vx_X (fun (u : String × va_W) => u.2 = ([(t0, .inr (7, [.ref sl, .ref ch, .ref oh, .ref xh, .ref rh, .ref sh])), (sl, .inr (0, [.int smd, .ref df, .int 0]))] : va_W) ++ scL (scJ cI SA SB mc ms mw) (List.range 0) ∧ ¬ gGo (isIn way 0 2) 1 1 = 0 ∧ u.1 = xN gIAE gISE (gGo (isIn way 0 2) 1 1)) (gBx D (gTY cI cJ cO) A) A) (by decide +kernel) rfl (Nat.le_of_ble_eq_true rfl) ?_
  intro p e s m below meth c ls A hsz C0 hin hl
  obtain ⟨CF, hr, hlk, hA, hS, hP, hK, hD, hV, hH⟩ := C0
  have CF : CallFix p m c cX6_section 3 s _ wsX6_section RX6 := CF
  obtain ⟨hx, hb, hml, hown, hts⟩ := id CF
  subst hsz
  have hmethodLink_RX6_51 : (Cond.methodLink RX6 51 yX6_requireWithin).before _ s = true := hts _ (List.mem_of_getElem? (i := 7) rfl)
  have hfieldLink_RX6_10 : (Cond.fieldLink RX6 10 "TapLoom" "sections" "Ljava/util/ArrayList;").before _ s = true := hts _ (List.mem_of_getElem? (i := 3) rfl)
  have hmethodLink_RX6_55 : (Cond.methodLink RX6 55 yJx4a65c_size_8abf5).before _ s = true := hts _ (List.mem_of_getElem? (i := 13) rfl)
  have hclassLink_RX6_49 : (Cond.classLink RX6 49 RX4).before _ s = true := hts _ (List.mem_of_getElem? (i := 4) rfl)
  have hinstantiable_RX4_7 : (Cond.instantiable RX4 7).before _ s = true := hts _ (List.mem_of_getElem? (i := 5) rfl)
  have hinitialized_RX4 : (Cond.initialized RX4).before _ s = true := hts _ (List.mem_of_getElem? (i := 6) rfl)
  have hmethodLink_RX6_66 : (Cond.methodLink RX6 66 yX4_init).before _ s = true := hts _ (List.mem_of_getElem? (i := 19) rfl)
  have hinstanceMethod_yX4_init : (Cond.instanceMethod yX4_init).before _ s = true := hts _ (List.mem_of_getElem? (i := 20) rfl)
  have hmethodLink_RX6_69 : (Cond.methodLink RX6 69 yJx4a65c_add_9ea2d).before _ s = true := hts _ (List.mem_of_getElem? (i := 29) rfl)
  have inX4 : ∀ w ∈ u_ws RX4 TX4 7, w ∈ wsX6_section := fun w h => (List.mem_cons_of_mem _ (List.mem_append_left _ (List.mem_append_left _ (List.mem_append_left _ (List.mem_append_right _ h)))))
  have inX6 : ∀ w ∈ u_ws RX6 TX6 6, w ∈ wsX6_section := fun w h => (List.mem_cons_of_mem _ (List.mem_append_left _ (List.mem_append_left _ (List.mem_append_left _ (List.mem_append_left _ (List.mem_append_right _ h))))))
  have hP : va_P D ccl (([(t0, .inr (7, [.ref sl, .ref ch, .ref oh, .ref xh, .ref rh, .ref sh])), (sl, .inr (0, [.int smd, .ref df, .int 0]))] : va_W) ++ scL (scJ cI SA SB mc ms mw) (List.range 0)) s.heap := hP
  have hl : lv_has ls 3 [(0, .ref t0), (1, .int way)] := hl
  refine lv_iload_n hx hb dX6_section_0 rfl (lv_at hl 1 rfl) ?_
  refine lv_iconst (v := 0) hx hb dX6_section_1 (by decide) ?_
  refine lv_iconst (v := 2) hx hb dX6_section_2 (by decide) ?_
  have hPc : va_P D ccl [] s.heap := fun k q h => by simp at h
  have hDc : va_D A [] := ⟨fun i j p q h => by simp at h, fun k q h => by simp at h⟩
  have hFc := va_free (wc := []) hD hS hA [] rfl
  refine gx_Sv (As := [.int way, .int 0, .int 2]) (rest := []) CF (c_X6_requireWithin l hfl D cI cJ cO df s.heap.size way 0 2 ) (va_cwS 3 hts gX6_section_X6_requireWithin rfl rfl rfl (by decide +kernel) ⟨Nat.le_of_ble_eq_true rfl, Nat.le_of_ble_eq_true rfl⟩)  hPc hK hDc hV hH hS hFc rfl hl.1 rfl (Nat.le_of_ble_eq_true rfl) dX6_section_3 ⟨Nat.le_of_ble_eq_true rfl, Nat.le_of_ble_eq_true rfl⟩ (fun E9 ce q9 w1 H1 locs1 hq hP1 hD1 hk hS hz hc1 hc2 hc3 => ?_) (fun w1 H1 locs1 hq hP1 hD1 hk hS hz => ?_)
  · obtain ⟨ew1, hq⟩ := hq
    dsimp only at ew1 hq
    subst ew1
    have hP := g_keep0 hP hk
    refine vx_widen (k := 4) (n := 34) (Nat.le_of_ble_eq_true rfl) (Nat.le_of_ble_eq_true rfl) ?_
    refine vx_out (fun z hz9 => absurd hz9 (hin z)) hlk hc1 hc2 hc3 (fun t ht hvm => ⟨(E9, (([(t0, .inr (7, [.ref sl, .ref ch, .ref oh, .ref xh, .ref rh, .ref sh])), (sl, .inr (0, [.int smd, .ref df, .int 0]))] : va_W) ++ scL (scJ cI SA SB mc ms mw) (List.range 0))), ⟨rfl, px1 hq.2 hq.1⟩, ⟨rfl, by rw [ht]; exact hP, va_K.moved hvm hK, hD⟩, hS.F ht⟩) hS.2.2 (Nat.le_refl _) (Nat.le_refl _)
  obtain ⟨rfl, hq_3⟩ := hq
  have hP := g_keep0 hP hk
  clear hPc hDc hFc hP1 hD1 hk hz
  generalize H1 = H at hP hS ⊢
  have hP : va_P D ccl (([(t0, .inr (7, [.ref sl, .ref ch, .ref oh, .ref xh, .ref rh, .ref sh])), (sl, .inr (0, [.int smd, .ref df, .int 0]))] : va_W) ++ scL (scJ cI SA SB mc ms mw) (List.range 0)) H := hP
  have hD : va_D A (([(t0, .inr (7, [.ref sl, .ref ch, .ref oh, .ref xh, .ref rh, .ref sh])), (sl, .inr (0, [.int smd, .ref df, .int 0]))] : va_W) ++ scL (scJ cI SA SB mc ms mw) (List.range 0)) := hD
  refine lv_aload_n hx hb dX6_section_6 rfl (lv_at hl 0 rfl) ?_
  refine va_get (D := D) (ci := 7) (v := .ref sl) (C := RX6) (T := TX6) (N := 6) hx hb hts inX6 hown hK hP 0 rfl rfl 0 (by decide) hfieldLink_RX6_10 (fun _ h9 => h9) rfl dX6_section_7 ?_
  have hPc := hP.sub (ws' := [(sl, .inr (0, [.int smd, .ref df, .int 0]))]) [1] rfl
  have hDc := hD.sub (ws' := [(sl, .inr (0, [.int smd, .ref df, .int 0]))]) [1] (by decide) rfl
  have hFc := va_free (wc := [(sl, .inr (0, [.int smd, .ref df, .int 0]))]) hD hS hA [1] rfl
  refine g_Vi (As := []) (rest := []) CF (c_Jx4a65c_size_8abf5 l D cI cJ cO df H.size sl smd df 0 ) (cwV 0 hts gX6_section_Jx4a65c_size_8abf5 rfl rfl rfl (by decide +kernel) ⟨Nat.le_of_ble_eq_true rfl, Nat.le_of_ble_eq_true rfl⟩) (va_recv hK hP (ci := 0) (q0 := 1) rfl rfl) hPc hK hDc hV hH hS hFc rfl hl.1 rfl (Nat.le_of_ble_eq_true rfl) dX6_section_10 ⟨Nat.le_of_ble_eq_true rfl, Nat.le_of_ble_eq_true rfl⟩ (fun r_10 w1 H1 locs1 hq hP1 hD1 hk hS hz => ?_)
  obtain ⟨rfl, hr_10⟩ := hq
  have hP := g_keepR hP hD [1] rfl hk hP1
  clear hPc hDc hFc hP1 hD1 hk hz
  generalize H1 = H at hP hS ⊢
  have hP : va_P D ccl (([(t0, .inr (7, [.ref sl, .ref ch, .ref oh, .ref xh, .ref rh, .ref sh])), (sl, .inr (0, [.int smd, .ref df, .int 0]))] : va_W) ++ scL (scJ cI SA SB mc ms mw) (List.range 0)) H := hP
  have hD : va_D A (([(t0, .inr (7, [.ref sl, .ref ch, .ref oh, .ref xh, .ref rh, .ref sh])), (sl, .inr (0, [.int smd, .ref df, .int 0]))] : va_W) ++ scL (scJ cI SA SB mc ms mw) (List.range 0)) := hD
  subst hr_10
  refine lv_bipush (v := 8) hx hb dX6_section_13 (by decide) ?_
  refine lv_icmp_lt (tgt := 28) hx hb dX6_section_15 (by decide) (fun c_15 => ?_) (fun c_15 => ?_)
  · refine lv_aload_n hx hb dX6_section_28 rfl (lv_at hl 0 rfl) ?_
    refine va_get (D := D) (ci := 7) (v := .ref sl) (C := RX6) (T := TX6) (N := 6) hx hb hts inX6 hown hK hP 0 rfl rfl 0 (by decide) hfieldLink_RX6_10 (fun _ h9 => h9) rfl dX6_section_29 ?_
    have hPc := hP.sub (ws' := [(sl, .inr (0, [.int smd, .ref df, .int 0]))]) [1] rfl
    have hDc := hD.sub (ws' := [(sl, .inr (0, [.int smd, .ref df, .int 0]))]) [1] (by decide) rfl
    have hFc := va_free (wc := [(sl, .inr (0, [.int smd, .ref df, .int 0]))]) hD hS hA [1] rfl
    refine g_Vi (As := []) (rest := []) CF (c_Jx4a65c_size_8abf5 l D cI cJ cO df H.size sl smd df 0 ) (cwV 0 hts gX6_section_Jx4a65c_size_8abf5 rfl rfl rfl (by decide +kernel) ⟨Nat.le_of_ble_eq_true rfl, Nat.le_of_ble_eq_true rfl⟩) (va_recv hK hP (ci := 0) (q0 := 1) rfl rfl) hPc hK hDc hV hH hS hFc rfl hl.1 rfl (Nat.le_of_ble_eq_true rfl) dX6_section_32 ⟨Nat.le_of_ble_eq_true rfl, Nat.le_of_ble_eq_true rfl⟩ (fun r_32 w1 H1 locs1 hq hP1 hD1 hk hS hz => ?_)
    obtain ⟨rfl, hr_32⟩ := hq
    have hP := g_keepR hP hD [1] rfl hk hP1
    clear hPc hDc hFc hP1 hD1 hk hz
    generalize H1 = H at hP hS ⊢
    have hP : va_P D ccl (([(t0, .inr (7, [.ref sl, .ref ch, .ref oh, .ref xh, .ref rh, .ref sh])), (sl, .inr (0, [.int smd, .ref df, .int 0]))] : va_W) ++ scL (scJ cI SA SB mc ms mw) (List.range 0)) H := hP
    have hD : va_D A (([(t0, .inr (7, [.ref sl, .ref ch, .ref oh, .ref xh, .ref rh, .ref sh])), (sl, .inr (0, [.int smd, .ref df, .int 0]))] : va_W) ++ scL (scJ cI SA SB mc ms mw) (List.range 0)) := hD
    subst hr_32
    refine lv_istore_n (lv' := [(2, .int 0), (0, .ref t0), (1, .int way)]) hx hb dX6_section_35 rfl hl (by decide) rfl (fun ls hl => ?_)
    refine lv_aload_n hx hb dX6_section_36 rfl (lv_at hl 1 rfl) ?_
    refine va_get (D := D) (ci := 7) (v := .ref sl) (C := RX6) (T := TX6) (N := 6) hx hb hts inX6 hown hK hP 0 rfl rfl 0 (by decide) hfieldLink_RX6_10 (fun _ h9 => h9) rfl dX6_section_37 ?_
    refine va_new (ci := 5) (fs := [.int 0, .int 0, .null, .int 0, .int 0, .int 0, .int 0]) (C := RX4) (T := TX4) (N := 7) hx hb hts inX4 tyX4 tyX4_ok hown hclassLink_RX6_49 hinstantiable_RX4_7 hinitialized_RX4 hK hP hD hS hA rfl (fun j hj => by rcases (show j = 0 ∨ j = 1 ∨ j = 2 ∨ j = 3 ∨ j = 4 ∨ j = 5 ∨ j = 6 by omega) with rfl | rfl | rfl | rfl | rfl | rfl | rfl <;> rfl) (Nat.le_of_ble_eq_true rfl) (Nat.le_of_ble_eq_true rfl) dX6_section_40 (fun q1 H hP hD hS => ?_)
    have hP := hP.perm9 (tl_perm (X := [(t0, .inr (7, [.ref sl, .ref ch, .ref oh, .ref xh, .ref rh, .ref sh])), (sl, .inr (0, [.int smd, .ref df, .int 0]))]) (c := [(q1, .inr (5, [.int 0, .int 0, .null, .int 0, .int 0, .int 0, .int 0]))]))
    have hD := hD.perm9 (tl_perm (X := [(t0, .inr (7, [.ref sl, .ref ch, .ref oh, .ref xh, .ref rh, .ref sh])), (sl, .inr (0, [.int smd, .ref df, .int 0]))]) (c := [(q1, .inr (5, [.int 0, .int 0, .null, .int 0, .int 0, .int 0, .int 0]))]))
    have hP : va_P D ccl (([(t0, .inr (7, [.ref sl, .ref ch, .ref oh, .ref xh, .ref rh, .ref sh])), (sl, .inr (0, [.int smd, .ref df, .int 0])), (q1, .inr (5, [.int 0, .int 0, .null, .int 0, .int 0, .int 0, .int 0]))] : va_W) ++ scL (scJ cI SA SB mc ms mw) (List.range 0)) H := hP
    have hD : va_D A (([(t0, .inr (7, [.ref sl, .ref ch, .ref oh, .ref xh, .ref rh, .ref sh])), (sl, .inr (0, [.int smd, .ref df, .int 0])), (q1, .inr (5, [.int 0, .int 0, .null, .int 0, .int 0, .int 0, .int 0]))] : va_W) ++ scL (scJ cI SA SB mc ms mw) (List.range 0)) := hD
    refine lv_dup hx hb dX6_section_43 rfl ?_
    refine lv_iload_n hx hb dX6_section_44 rfl (lv_at hl 0 rfl) ?_
    refine lv_iload_n hx hb dX6_section_45 rfl (lv_at hl 2 rfl) ?_
    have hPc := hP.sub (ws' := [(q1, .inr (5, [.int 0, .int 0, .null, .int 0, .int 0, .int 0, .int 0]))]) [2] rfl
    have hDc := hD.sub (ws' := [(q1, .inr (5, [.int 0, .int 0, .null, .int 0, .int 0, .int 0, .int 0]))]) [2] (by decide) rfl
    have hFc := va_free (wc := [(q1, .inr (5, [.int 0, .int 0, .null, .int 0, .int 0, .int 0, .int 0]))]) hD hS hA [2] rfl
    refine g_Iv (As := [.int 0, .int way]) (rest := [.ref q1, .ref sl]) CF (c_X4_init l D cI cJ cO df H.size q1 0 way ) (cwI 2 hts gX6_section_X4_init rfl rfl rfl hinitialized_RX4 hmethodLink_RX6_66 hinstanceMethod_yX4_init rfl (by decide +kernel) ⟨Nat.le_of_ble_eq_true rfl, Nat.le_of_ble_eq_true rfl⟩)  hPc hK hDc hV hH hS hFc rfl hl.1 rfl (Nat.le_of_ble_eq_true rfl) dX6_section_46 ⟨Nat.le_of_ble_eq_true rfl, Nat.le_of_ble_eq_true rfl⟩ (fun w1 H1 locs1 hq hP1 hD1 hk hS hz => ?_)
    obtain ⟨b1, rfl⟩ := hq
    obtain ⟨hP, hD⟩ := g_joinQ (X := [(t0, .inr (7, [.ref sl, .ref ch, .ref oh, .ref xh, .ref rh, .ref sh])), (sl, .inr (0, [.int smd, .ref df, .int 0])), (q1, .inr (5, [.int 0, .int 0, .null, .int 0, .int 0, .int 0, .int 0]))]) (X' := [(t0, .inr (7, [.ref sl, .ref ch, .ref oh, .ref xh, .ref rh, .ref sh])), (sl, .inr (0, [.int smd, .ref df, .int 0])), (q1, .inr (5, [.int 0, .int way, .ref b1, .int 0, .int 0, .int 0, .int 0])), (b1, .inl (cI, 5, .inl (upd (fun _ => 0) 0 64)))]) hP hD hk hFc hP1 hD1 [2] [0, 1] [0, 1, 2, 3] rfl rfl (by decide) (by decide) (by decide) rfl
    clear hPc hDc hFc hP1 hD1 hk hz
    generalize H1 = H at hP hS ⊢
    have hP : va_P D ccl (([(t0, .inr (7, [.ref sl, .ref ch, .ref oh, .ref xh, .ref rh, .ref sh])), (sl, .inr (0, [.int smd, .ref df, .int 0])), (q1, .inr (5, [.int 0, .int way, .ref b1, .int 0, .int 0, .int 0, .int 0])), (b1, .inl (cI, 5, .inl (upd (fun _ => 0) 0 64)))] : va_W) ++ scL (scJ cI SA SB mc ms mw) (List.range 0)) H := hP
    have hD : va_D A (([(t0, .inr (7, [.ref sl, .ref ch, .ref oh, .ref xh, .ref rh, .ref sh])), (sl, .inr (0, [.int smd, .ref df, .int 0])), (q1, .inr (5, [.int 0, .int way, .ref b1, .int 0, .int 0, .int 0, .int 0])), (b1, .inl (cI, 5, .inl (upd (fun _ => 0) 0 64)))] : va_W) ++ scL (scJ cI SA SB mc ms mw) (List.range 0)) := hD
    obtain ⟨hP, hD⟩ := sc_add (X := [(t0, .inr (7, [.ref sl, .ref ch, .ref oh, .ref xh, .ref rh, .ref sh])), (sl, .inr (0, [.int smd, .ref df, .int 0]))]) (c2 := [(q1, .inr (5, [.int 0, .int way, .ref b1, .int 0, .int 0, .int 0, .int 0])), (b1, .inl (cI, 5, .inl (upd (fun _ => 0) 0 64)))]) (S := (scJ cI SA SB mc ms mw)) (S' := (scJ cI (fun i => if i = 0 then q1 else SA i) (fun i => if i = 0 then b1 else SB i) (upd mc (5 * 0) 64) ms (upd mw 0 way))) (N := 0) hP hD (scJ_new hmz hsz9) (fun i hi => scJ_newo hi)
    have hP : va_P D ccl (([(t0, .inr (7, [.ref sl, .ref ch, .ref oh, .ref xh, .ref rh, .ref sh])), (sl, .inr (0, [.int smd, .ref df, .int 0]))] : va_W) ++ scL (scJ cI (fun i => if i = 0 then q1 else SA i) (fun i => if i = 0 then b1 else SB i) (upd mc (5 * 0) 64) ms (upd mw 0 way)) (List.range (0 + 1))) H := hP
    have hD : va_D A (([(t0, .inr (7, [.ref sl, .ref ch, .ref oh, .ref xh, .ref rh, .ref sh])), (sl, .inr (0, [.int smd, .ref df, .int 0]))] : va_W) ++ scL (scJ cI (fun i => if i = 0 then q1 else SA i) (fun i => if i = 0 then b1 else SB i) (upd mc (5 * 0) 64) ms (upd mw 0 way)) (List.range (0 + 1))) := hD
    have hPc := hP.part (X := [(t0, .inr (7, [.ref sl, .ref ch, .ref oh, .ref xh, .ref rh, .ref sh])), (sl, .inr (0, [.int smd, .ref df, .int 0]))]) (cx := [(sl, .inr (0, [.int smd, .ref df, .int (nI 0)]))]) [1] rfl
    have hDc := hD.part (X := [(t0, .inr (7, [.ref sl, .ref ch, .ref oh, .ref xh, .ref rh, .ref sh])), (sl, .inr (0, [.int smd, .ref df, .int 0]))]) (cx := [(sl, .inr (0, [.int smd, .ref df, .int (nI 0)]))]) [1] (by decide) rfl
    have hFc := va_freeP (X := [(t0, .inr (7, [.ref sl, .ref ch, .ref oh, .ref xh, .ref rh, .ref sh])), (sl, .inr (0, [.int smd, .ref df, .int 0]))]) (cx := [(sl, .inr (0, [.int smd, .ref df, .int (nI 0)]))]) hD hS hA [1] rfl
    refine g_Vi (As := [.ref q1]) (rest := []) CF (c_Jx4a65c_add_9ea2d_e l D cI cJ cO df H.size sl smd (scL (scJ cI (fun i => if i = 0 then q1 else SA i) (fun i => if i = 0 then b1 else SB i) (upd mc (5 * 0) 64) ms (upd mw 0 way)) (List.range (0 + 1))) q1 (by have h9 := inT_scL (cI := cI) (SA := fun i => if i = 0 then q1 else SA i) (SB := fun i => if i = 0 then b1 else SB i) (mc := upd mc (5 * 0) 64) (ms := ms) (mw := upd mw 0 way) (rgm (Nat.lt_succ_self 0)); rw [if_pos rfl] at h9; exact h9)) (cwV 1 hts gX6_section_Jx4a65c_add_9ea2d rfl rfl rfl (by decide +kernel) ⟨Nat.le_of_ble_eq_true rfl, Nat.le_of_ble_eq_true rfl⟩) (va_recv hK hP (ci := 0) (q0 := 1) rfl rfl) hPc hK hDc hV hH hS hFc rfl hl.1 rfl (Nat.le_of_ble_eq_true rfl) dX6_section_49 ⟨Nat.le_of_ble_eq_true rfl, Nat.le_of_ble_eq_true rfl⟩ (fun r_49 w1 H1 locs1 hq hP1 hD1 hk hS hz => ?_)
    obtain ⟨ser, rfl, hr_49⟩ := hq
    obtain ⟨hP, hD⟩ := g_joinP (X := [(t0, .inr (7, [.ref sl, .ref ch, .ref oh, .ref xh, .ref rh, .ref sh])), (sl, .inr (0, [.int smd, .ref df, .int 0]))]) (cx := [(sl, .inr (0, [.int smd, .ref df, .int (nI 0)]))]) (rx := [(sl, .inr (0, [.int (smd + 1), .ref ser, .int (nI 1)])), (ser, .inl (cO, 10, .inr (.inr (.inr (.inr (va_up (fun _ => none) 0 (some q1)))))))]) (X' := [(t0, .inr (7, [.ref sl, .ref ch, .ref oh, .ref xh, .ref rh, .ref sh])), (sl, .inr (0, [.int (smd + 1), .ref ser, .int (nI 1)])), (ser, .inl (cO, 10, .inr (.inr (.inr (.inr (va_up (fun _ => none) 0 (some q1)))))))]) hP hD hk hFc hP1 hD1 [1] [0] [0, 1, 2] rfl rfl (by decide) (by decide) (by decide) rfl
    clear hPc hDc hFc hP1 hD1 hk hz
    generalize H1 = H at hP hS ⊢
    have hP : va_P D ccl (([(t0, .inr (7, [.ref sl, .ref ch, .ref oh, .ref xh, .ref rh, .ref sh])), (sl, .inr (0, [.int (smd + 1), .ref ser, .int (nI 1)])), (ser, .inl (cO, 10, .inr (.inr (.inr (.inr (va_up (fun _ => none) 0 (some q1)))))))] : va_W) ++ (scL (scJ cI (fun i => if i = 0 then q1 else SA i) (fun i => if i = 0 then b1 else SB i) (upd mc (5 * 0) 64) ms (upd mw 0 way)) (List.range (0 + 1)))) H := hP
    have hD : va_D A (([(t0, .inr (7, [.ref sl, .ref ch, .ref oh, .ref xh, .ref rh, .ref sh])), (sl, .inr (0, [.int (smd + 1), .ref ser, .int (nI 1)])), (ser, .inl (cO, 10, .inr (.inr (.inr (.inr (va_up (fun _ => none) 0 (some q1)))))))] : va_W) ++ (scL (scJ cI (fun i => if i = 0 then q1 else SA i) (fun i => if i = 0 then b1 else SB i) (upd mc (5 * 0) 64) ms (upd mw 0 way)) (List.range (0 + 1)))) := hD
    subst hr_49
    refine lv_pop hx hb dX6_section_52 rfl ?_
    refine lv_iload_n hx hb dX6_section_53 rfl (lv_at hl 0 rfl) ?_
    refine vx_ret ?_
    refine g_iret (v := 0) hx hb hr hlk hP hK hD hS (Nat.le_of_ble_eq_true rfl) (Nat.le_of_ble_eq_true rfl) dX6_section_54 ?_
    exact ⟨_, _, _, rfl, rfl, gGoOk hq_3 (by decide) (by decide)⟩
  · exact absurd c_15 (by decide)

set_option maxHeartbeats 4000000 in
set_option maxRecDepth 100000 in
theorem c_X6_set (l : Launch) (hfl : l.stackTraces = false) (D : va_G) (cI cJ cO : ClassId) (df sz : Nat) (t0 : Nat) (sl : Nat) (ch : Nat) (oh : Nat) (xh : Nat) (rh : Nat) (sh : Nat) (smd : Int32) (ser : Nat) (sf : Nat → Option Nat) (SA : Nat → Nat) (SB : Nat → Nat) (mc : Nat → Int32) (ms : Nat → Int32) (mw : Nat → Int32) (N : Nat) (j : Int32) (wh : Int32) (v : Int32) (hN : N ≤ 8) (hsf : ∀ k, k < N → sf k = some (SA k)) : MxI l yX6_set wsX6_set ({ frames := 7, cells := 3, slots := 18, locals := 112 } : Room) D (gTY cI cJ cO) df (([(t0, .inr (7, [.ref sl, .ref ch, .ref oh, .ref xh, .ref rh, .ref sh])), (sl, .inr (0, [.int smd, .ref ser, .int (nI N)])), (ser, .inl (cO, 10, .inr (.inr (.inr (.inr sf)))))] : va_W) ++ scL (scJ cI SA SB mc ms mw) (List.range N)) sz [.ref t0, .int j, .int wh, .int v] (fun (u : String × va_W) => u.2 = ([(t0, .inr (7, [.ref sl, .ref ch, .ref oh, .ref xh, .ref rh, .ref sh])), (sl, .inr (0, [.int smd, .ref ser, .int (nI N)])), (ser, .inl (cO, 10, .inr (.inr (.inr (.inr sf)))))] : va_W) ++ scL (scJ cI SA SB mc ms mw) (List.range N) ∧ ¬ gGo (isSec N j) (if isIn wh 0 4 = 0 then 0 else isIn v (-127) 127) 1 = 0 ∧ u.1 = xN gIOB gIAE (gGo (isSec N j) (if isIn wh 0 4 = 0 then 0 else isIn v (-127) 127) 1)) (fun (r : Int32) (wZ : va_W) => wZ = ([(t0, .inr (7, [.ref sl, .ref ch, .ref oh, .ref xh, .ref rh, .ref sh])), (sl, .inr (0, [.int smd, .ref ser, .int (nI N)])), (ser, .inl (cO, 10, .inr (.inr (.inr (.inr sf)))))] : va_W) ++ scL (scJ cI SA SB (upd mc (5 * gN j + gN wh) v) ms mw) (List.range N) ∧ r = mc (5 * gN j + gN wh) ∧ gGo (isSec N j) (if isIn wh 0 4 = 0 then 0 else isIn v (-127) 127) 1 = 0) := by
  refine gx_of (cc := cX6_set) (nL := 4) (ret := (some .int)) (D := D) (TY := (gTY cI cJ cO)) (df := df) (Qc := fun A => va_Qi (fun (r : Int32) (wZ : va_W) => wZ = ([(t0, .inr (7, [.ref sl, .ref ch, .ref oh, .ref xh, .ref rh, .ref sh])), (sl, .inr (0, [.int smd, .ref ser, .int (nI N)])), (ser, .inl (cO, 10, .inr (.inr (.inr (.inr sf)))))] : va_W) ++ scL (scJ cI SA SB (upd mc (5 * gN j + gN wh) v) ms mw) (List.range N) ∧ r = mc (5 * gN j + gN wh) ∧ gGo (isSec N j) (if isIn wh 0 4 = 0 then 0 else isIn v (-127) 127) 1 = 0) (gB D (gTY cI cJ cO) A) A) (XC := fun A => vx_X (fun (u : String × va_W) => u.2 = ([(t0, .inr (7, [.ref sl, .ref ch, .ref oh, .ref xh, .ref rh, .ref sh])), (sl, .inr (0, [.int smd, .ref ser, .int (nI N)])), (ser, .inl (cO, 10, .inr (.inr (.inr (.inr sf)))))] : va_W) ++ scL (scJ cI SA SB mc ms mw) (List.range N) ∧ ¬ gGo (isSec N j) (if isIn wh 0 4 = 0 then 0 else isIn v (-127) 127) 1 = 0 ∧ u.1 = xN gIOB gIAE (gGo (isSec N j) (if isIn wh 0 4 = 0 then 0 else isIn v (-127) 127) 1)) (gBx D (gTY cI cJ cO) A) A) (by decide +kernel) rfl (Nat.le_of_ble_eq_true rfl) ?_
  intro p e s m below meth c ls A hsz C0 hin hl
  obtain ⟨CF, hr, hlk, hA, hS, hP, hK, hD, hV, hH⟩ := C0
  have CF : CallFix p m c cX6_set 4 s _ wsX6_set RX6 := CF
  obtain ⟨hx, hb, hml, hown, hts⟩ := id CF
  subst hsz
  have hfieldLink_RX6_10 : (Cond.fieldLink RX6 10 "TapLoom" "sections" "Ljava/util/ArrayList;").before _ s = true := hts _ (List.mem_of_getElem? (i := 1) rfl)
  have hmethodLink_RX6_55 : (Cond.methodLink RX6 55 yJx4a65c_size_8abf5).before _ s = true := hts _ (List.mem_of_getElem? (i := 3) rfl)
  have hmethodLink_RX6_73 : (Cond.methodLink RX6 73 yX6_requirePlace).before _ s = true := hts _ (List.mem_of_getElem? (i := 9) rfl)
  have hmethodLink_RX6_51 : (Cond.methodLink RX6 51 yX6_requireWithin).before _ s = true := hts _ (List.mem_of_getElem? (i := 15) rfl)
  have hmethodLink_RX6_76 : (Cond.methodLink RX6 76 yJx4a65c_get_915e3).before _ s = true := hts _ (List.mem_of_getElem? (i := 20) rfl)
  have hclassLink_RX6_49 : (Cond.classLink RX6 49 "TapLoom$Section").before _ s = true := hts _ (List.mem_of_getElem? (i := 2) rfl)
  have hmethodLink_RX6_80 : (Cond.methodLink RX6 80 yX4_replace).before _ s = true := hts _ (List.mem_of_getElem? (i := 37) rfl)
  have inX6 : ∀ w ∈ u_ws RX6 TX6 6, w ∈ wsX6_set := fun w h => (List.mem_cons_of_mem _ (List.mem_append_left _ (List.mem_append_left _ (List.mem_append_left _ (List.mem_append_left _ (List.mem_append_right _ h))))))
  have hP : va_P D ccl (([(t0, .inr (7, [.ref sl, .ref ch, .ref oh, .ref xh, .ref rh, .ref sh])), (sl, .inr (0, [.int smd, .ref ser, .int (nI N)])), (ser, .inl (cO, 10, .inr (.inr (.inr (.inr sf)))))] : va_W) ++ scL (scJ cI SA SB mc ms mw) (List.range N)) s.heap := hP
  have hl : lv_has ls 4 [(0, .ref t0), (1, .int j), (2, .int wh), (3, .int v)] := hl
  refine lv_iload_n hx hb dX6_set_0 rfl (lv_at hl 1 rfl) ?_
  refine lv_aload_n hx hb dX6_set_1 rfl (lv_at hl 0 rfl) ?_
  refine va_get (D := D) (ci := 7) (v := .ref sl) (C := RX6) (T := TX6) (N := 6) hx hb hts inX6 hown hK hP 0 rfl rfl 0 (by decide) hfieldLink_RX6_10 (fun _ h9 => h9) rfl dX6_set_2 ?_
  have hPc := hP.sub (ws' := [(sl, .inr (0, [.int smd, .ref ser, .int (nI N)]))]) [1] rfl
  have hDc := hD.sub (ws' := [(sl, .inr (0, [.int smd, .ref ser, .int (nI N)]))]) [1] (by decide) rfl
  have hFc := va_free (wc := [(sl, .inr (0, [.int smd, .ref ser, .int (nI N)]))]) hD hS hA [1] rfl
  refine g_Vi (As := []) (rest := [.int j]) CF (c_Jx4a65c_size_8abf5 l D cI cJ cO df s.heap.size sl smd ser (nI N) ) (cwV 0 hts gX6_set_Jx4a65c_size_8abf5 rfl rfl rfl (by decide +kernel) ⟨Nat.le_of_ble_eq_true rfl, Nat.le_of_ble_eq_true rfl⟩) (va_recv hK hP (ci := 0) (q0 := 1) rfl rfl) hPc hK hDc hV hH hS hFc rfl hl.1 rfl (Nat.le_of_ble_eq_true rfl) dX6_set_5 ⟨Nat.le_of_ble_eq_true rfl, Nat.le_of_ble_eq_true rfl⟩ (fun r_5 w1 H1 locs1 hq hP1 hD1 hk hS hz => ?_)
  obtain ⟨rfl, hr_5⟩ := hq
  have hP := g_keepR hP hD [1] rfl hk hP1
  clear hPc hDc hFc hP1 hD1 hk hz
  generalize H1 = H at hP hS ⊢
  have hP : va_P D ccl (([(t0, .inr (7, [.ref sl, .ref ch, .ref oh, .ref xh, .ref rh, .ref sh])), (sl, .inr (0, [.int smd, .ref ser, .int (nI N)])), (ser, .inl (cO, 10, .inr (.inr (.inr (.inr sf)))))] : va_W) ++ scL (scJ cI SA SB mc ms mw) (List.range N)) H := hP
  have hD : va_D A (([(t0, .inr (7, [.ref sl, .ref ch, .ref oh, .ref xh, .ref rh, .ref sh])), (sl, .inr (0, [.int smd, .ref ser, .int (nI N)])), (ser, .inl (cO, 10, .inr (.inr (.inr (.inr sf)))))] : va_W) ++ scL (scJ cI SA SB mc ms mw) (List.range N)) := hD
  subst hr_5
  have hPc : va_P D ccl [] H := fun k q h => by simp at h
  have hDc : va_D A [] := ⟨fun i j p q h => by simp at h, fun k q h => by simp at h⟩
  have hFc := va_free (wc := []) hD hS hA [] rfl
  refine gx_Sv (As := [.int j, .int (nI N)]) (rest := []) CF (c_X6_requirePlace l hfl D cI cJ cO df H.size j N ) (va_cwS 2 hts gX6_set_X6_requirePlace rfl rfl rfl (by decide +kernel) ⟨Nat.le_of_ble_eq_true rfl, Nat.le_of_ble_eq_true rfl⟩)  hPc hK hDc hV hH hS hFc rfl hl.1 rfl (Nat.le_of_ble_eq_true rfl) dX6_set_8 ⟨Nat.le_of_ble_eq_true rfl, Nat.le_of_ble_eq_true rfl⟩ (fun E9 ce q9 w1 H1 locs1 hq hP1 hD1 hk hS hz hc1 hc2 hc3 => ?_) (fun w1 H1 locs1 hq hP1 hD1 hk hS hz => ?_)
  · obtain ⟨ew1, hq⟩ := hq
    dsimp only at ew1 hq
    subst ew1
    have hP := g_keep0 hP hk
    refine vx_widen (k := 3) (n := 18) (Nat.le_of_ble_eq_true rfl) (Nat.le_of_ble_eq_true rfl) ?_
    refine vx_out (fun z hz9 => absurd hz9 (hin z)) hlk hc1 hc2 hc3 (fun t ht hvm => ⟨(E9, (([(t0, .inr (7, [.ref sl, .ref ch, .ref oh, .ref xh, .ref rh, .ref sh])), (sl, .inr (0, [.int smd, .ref ser, .int (nI N)])), (ser, .inl (cO, 10, .inr (.inr (.inr (.inr sf)))))] : va_W) ++ scL (scJ cI SA SB mc ms mw) (List.range N))), ⟨rfl, px1 hq.2 hq.1⟩, ⟨rfl, by rw [ht]; exact hP, va_K.moved hvm hK, hD⟩, hS.F ht⟩) hS.2.2 (Nat.le_refl _) (Nat.le_refl _)
  obtain ⟨rfl, hq_8⟩ := hq
  have hP := g_keep0 hP hk
  clear hPc hDc hFc hP1 hD1 hk hz
  generalize H1 = H at hP hS ⊢
  have hP : va_P D ccl (([(t0, .inr (7, [.ref sl, .ref ch, .ref oh, .ref xh, .ref rh, .ref sh])), (sl, .inr (0, [.int smd, .ref ser, .int (nI N)])), (ser, .inl (cO, 10, .inr (.inr (.inr (.inr sf)))))] : va_W) ++ scL (scJ cI SA SB mc ms mw) (List.range N)) H := hP
  have hD : va_D A (([(t0, .inr (7, [.ref sl, .ref ch, .ref oh, .ref xh, .ref rh, .ref sh])), (sl, .inr (0, [.int smd, .ref ser, .int (nI N)])), (ser, .inl (cO, 10, .inr (.inr (.inr (.inr sf)))))] : va_W) ++ scL (scJ cI SA SB mc ms mw) (List.range N)) := hD
  refine lv_iload_n hx hb dX6_set_11 rfl (lv_at hl 2 rfl) ?_
  refine lv_iconst (v := 0) hx hb dX6_set_12 (by decide) ?_
  refine lv_iconst (v := 4) hx hb dX6_set_13 (by decide) ?_
  have hPc : va_P D ccl [] H := fun k q h => by simp at h
  have hDc : va_D A [] := ⟨fun i j p q h => by simp at h, fun k q h => by simp at h⟩
  have hFc := va_free (wc := []) hD hS hA [] rfl
  refine gx_Sv (As := [.int wh, .int 0, .int 4]) (rest := []) CF (c_X6_requireWithin l hfl D cI cJ cO df H.size wh 0 4 ) (va_cwS 3 hts gX6_set_X6_requireWithin rfl rfl rfl (by decide +kernel) ⟨Nat.le_of_ble_eq_true rfl, Nat.le_of_ble_eq_true rfl⟩)  hPc hK hDc hV hH hS hFc rfl hl.1 rfl (Nat.le_of_ble_eq_true rfl) dX6_set_14 ⟨Nat.le_of_ble_eq_true rfl, Nat.le_of_ble_eq_true rfl⟩ (fun E9 ce q9 w1 H1 locs1 hq hP1 hD1 hk hS hz hc1 hc2 hc3 => ?_) (fun w1 H1 locs1 hq hP1 hD1 hk hS hz => ?_)
  · obtain ⟨ew1, hq⟩ := hq
    dsimp only at ew1 hq
    subst ew1
    have hP := g_keep0 hP hk
    refine vx_widen (k := 3) (n := 18) (Nat.le_of_ble_eq_true rfl) (Nat.le_of_ble_eq_true rfl) ?_
    refine vx_out (fun z hz9 => absurd hz9 (hin z)) hlk hc1 hc2 hc3 (fun t ht hvm => ⟨(E9, (([(t0, .inr (7, [.ref sl, .ref ch, .ref oh, .ref xh, .ref rh, .ref sh])), (sl, .inr (0, [.int smd, .ref ser, .int (nI N)])), (ser, .inl (cO, 10, .inr (.inr (.inr (.inr sf)))))] : va_W) ++ scL (scJ cI SA SB mc ms mw) (List.range N))), ⟨rfl, px2 hq_8 (if_pos hq.2) hq.1⟩, ⟨rfl, by rw [ht]; exact hP, va_K.moved hvm hK, hD⟩, hS.F ht⟩) hS.2.2 (Nat.le_refl _) (Nat.le_refl _)
  obtain ⟨rfl, hq_14⟩ := hq
  have hP := g_keep0 hP hk
  clear hPc hDc hFc hP1 hD1 hk hz
  generalize H1 = H at hP hS ⊢
  have hP : va_P D ccl (([(t0, .inr (7, [.ref sl, .ref ch, .ref oh, .ref xh, .ref rh, .ref sh])), (sl, .inr (0, [.int smd, .ref ser, .int (nI N)])), (ser, .inl (cO, 10, .inr (.inr (.inr (.inr sf)))))] : va_W) ++ scL (scJ cI SA SB mc ms mw) (List.range N)) H := hP
  have hD : va_D A (([(t0, .inr (7, [.ref sl, .ref ch, .ref oh, .ref xh, .ref rh, .ref sh])), (sl, .inr (0, [.int smd, .ref ser, .int (nI N)])), (ser, .inl (cO, 10, .inr (.inr (.inr (.inr sf)))))] : va_W) ++ scL (scJ cI SA SB mc ms mw) (List.range N)) := hD
  refine lv_iload_n hx hb dX6_set_17 rfl (lv_at hl 3 rfl) ?_
  refine lv_bipush (v := (-127)) hx hb dX6_set_18 (by decide) ?_
  refine lv_bipush (v := 127) hx hb dX6_set_20 (by decide) ?_
  have hPc : va_P D ccl [] H := fun k q h => by simp at h
  have hDc : va_D A [] := ⟨fun i j p q h => by simp at h, fun k q h => by simp at h⟩
  have hFc := va_free (wc := []) hD hS hA [] rfl
  refine gx_Sv (As := [.int v, .int (-127), .int 127]) (rest := []) CF (c_X6_requireWithin l hfl D cI cJ cO df H.size v (-127) 127 ) (va_cwS 3 hts gX6_set_X6_requireWithin rfl rfl rfl (by decide +kernel) ⟨Nat.le_of_ble_eq_true rfl, Nat.le_of_ble_eq_true rfl⟩)  hPc hK hDc hV hH hS hFc rfl hl.1 rfl (Nat.le_of_ble_eq_true rfl) dX6_set_22 ⟨Nat.le_of_ble_eq_true rfl, Nat.le_of_ble_eq_true rfl⟩ (fun E9 ce q9 w1 H1 locs1 hq hP1 hD1 hk hS hz hc1 hc2 hc3 => ?_) (fun w1 H1 locs1 hq hP1 hD1 hk hS hz => ?_)
  · obtain ⟨ew1, hq⟩ := hq
    dsimp only at ew1 hq
    subst ew1
    have hP := g_keep0 hP hk
    refine vx_widen (k := 3) (n := 18) (Nat.le_of_ble_eq_true rfl) (Nat.le_of_ble_eq_true rfl) ?_
    refine vx_out (fun z hz9 => absurd hz9 (hin z)) hlk hc1 hc2 hc3 (fun t ht hvm => ⟨(E9, (([(t0, .inr (7, [.ref sl, .ref ch, .ref oh, .ref xh, .ref rh, .ref sh])), (sl, .inr (0, [.int smd, .ref ser, .int (nI N)])), (ser, .inl (cO, 10, .inr (.inr (.inr (.inr sf)))))] : va_W) ++ scL (scJ cI SA SB mc ms mw) (List.range N))), ⟨rfl, px2 hq_8 ((if_neg hq_14).trans hq.2) hq.1⟩, ⟨rfl, by rw [ht]; exact hP, va_K.moved hvm hK, hD⟩, hS.F ht⟩) hS.2.2 (Nat.le_refl _) (Nat.le_refl _)
  obtain ⟨rfl, hq_22⟩ := hq
  have hP := g_keep0 hP hk
  clear hPc hDc hFc hP1 hD1 hk hz
  generalize H1 = H at hP hS ⊢
  have hP : va_P D ccl (([(t0, .inr (7, [.ref sl, .ref ch, .ref oh, .ref xh, .ref rh, .ref sh])), (sl, .inr (0, [.int smd, .ref ser, .int (nI N)])), (ser, .inl (cO, 10, .inr (.inr (.inr (.inr sf)))))] : va_W) ++ scL (scJ cI SA SB mc ms mw) (List.range N)) H := hP
  have hD : va_D A (([(t0, .inr (7, [.ref sl, .ref ch, .ref oh, .ref xh, .ref rh, .ref sh])), (sl, .inr (0, [.int smd, .ref ser, .int (nI N)])), (ser, .inl (cO, 10, .inr (.inr (.inr (.inr sf)))))] : va_W) ++ scL (scJ cI SA SB mc ms mw) (List.range N)) := hD
  obtain ⟨J, hJ, rfl⟩ := isSec_get hN hq_8
  obtain ⟨W0, hW0, rfl⟩ := isIn_nat 4 (by decide) hq_14
  refine lv_aload_n hx hb dX6_set_25 rfl (lv_at hl 0 rfl) ?_
  refine va_get (D := D) (ci := 7) (v := .ref sl) (C := RX6) (T := TX6) (N := 6) hx hb hts inX6 hown hK hP 0 rfl rfl 0 (by decide) hfieldLink_RX6_10 (fun _ h9 => h9) rfl dX6_set_26 ?_
  refine lv_iload_n hx hb dX6_set_29 rfl (lv_at hl 1 rfl) ?_
  have hPc := hP.sub (ws' := [(sl, .inr (0, [.int smd, .ref ser, .int (nI N)])), (ser, .inl (cO, 10, .inr (.inr (.inr (.inr sf)))))]) [1, 2] rfl
  have hDc := hD.sub (ws' := [(sl, .inr (0, [.int smd, .ref ser, .int (nI N)])), (ser, .inl (cO, 10, .inr (.inr (.inr (.inr sf)))))]) [1, 2] (by decide) rfl
  have hFc := va_free (wc := [(sl, .inr (0, [.int smd, .ref ser, .int (nI N)])), (ser, .inl (cO, 10, .inr (.inr (.inr (.inr sf)))))]) hD hS hA [1, 2] rfl
  refine g_Vr (As := [.int (nI J)]) (rest := []) CF (c_Jx4a65c_get_915e3 l D cI cJ cO df H.size sl smd ser N sf J (SA J) hJ (by omega) (hsf J hJ)) (cwV 1 hts gX6_set_Jx4a65c_get_915e3 rfl rfl rfl (by decide +kernel) ⟨Nat.le_of_ble_eq_true rfl, Nat.le_of_ble_eq_true rfl⟩) (va_recv hK hP (ci := 0) (q0 := 1) rfl rfl) hPc hK hDc hV hH hS hFc rfl hl.1 rfl (Nat.le_of_ble_eq_true rfl) dX6_set_30 ⟨Nat.le_of_ble_eq_true rfl, Nat.le_of_ble_eq_true rfl⟩ (fun w1 H1 locs1 hq hP1 hD1 hk hS hz => ?_)
  obtain ⟨w1, a1⟩ := w1
  obtain ⟨ew1, hr_30⟩ := hq
  dsimp only at ew1 hP1 hD1 hr_30
  subst ew1
  have hP := g_keepR hP hD [1, 2] rfl hk hP1
  clear hPc hDc hFc hP1 hD1 hk hz
  generalize H1 = H at hP hS ⊢
  have hP : va_P D ccl (([(t0, .inr (7, [.ref sl, .ref ch, .ref oh, .ref xh, .ref rh, .ref sh])), (sl, .inr (0, [.int smd, .ref ser, .int (nI N)])), (ser, .inl (cO, 10, .inr (.inr (.inr (.inr sf)))))] : va_W) ++ scL (scJ cI SA SB mc ms mw) (List.range N)) H := hP
  have hD : va_D A (([(t0, .inr (7, [.ref sl, .ref ch, .ref oh, .ref xh, .ref rh, .ref sh])), (sl, .inr (0, [.int smd, .ref ser, .int (nI N)])), (ser, .inl (cO, 10, .inr (.inr (.inr (.inr sf)))))] : va_W) ++ scL (scJ cI SA SB mc ms mw) (List.range N)) := hD
  have hr_30 := hr_30.symm
  subst hr_30
  refine va_castS hx hb hown hclassLink_RX6_49 (gS4 hK) ((inT_scL (rgm hJ)).recv (X := [(t0, .inr (7, [.ref sl, .ref ch, .ref oh, .ref xh, .ref rh, .ref sh])), (sl, .inr (0, [.int smd, .ref ser, .int (nI N)])), (ser, .inl (cO, 10, .inr (.inr (.inr (.inr sf)))))]) hK hP) dX6_set_33 ?_
  refine lv_iload_n hx hb dX6_set_36 rfl (lv_at hl 2 rfl) ?_
  refine lv_iload_n hx hb dX6_set_37 rfl (lv_at hl 3 rfl) ?_
  obtain ⟨hP, hD⟩ := sc_open (X := [(t0, .inr (7, [.ref sl, .ref ch, .ref oh, .ref xh, .ref rh, .ref sh])), (sl, .inr (0, [.int smd, .ref ser, .int (nI N)])), (ser, .inl (cO, 10, .inr (.inr (.inr (.inr sf)))))]) J hP hD (rgm hJ)
  have hP : va_P D ccl (([(t0, .inr (7, [.ref sl, .ref ch, .ref oh, .ref xh, .ref rh, .ref sh])), (sl, .inr (0, [.int smd, .ref ser, .int (nI N)])), (ser, .inl (cO, 10, .inr (.inr (.inr (.inr sf))))), (SA J, .inr (5, [.int (nI J), .int (mw J), .ref (SB J), .int (ms (4 * J)), .int (ms (4 * J + 1)), .int (ms (4 * J + 2)), .int (ms (4 * J + 3))])), (SB J, .inl (cI, 5, .inl (fun z9 => if z9 < 5 then mc (5 * J + z9) else 0)))] : va_W) ++ scL (scJ cI SA SB mc ms mw) ((List.range N).erase J)) H := hP
  have hD : va_D A (([(t0, .inr (7, [.ref sl, .ref ch, .ref oh, .ref xh, .ref rh, .ref sh])), (sl, .inr (0, [.int smd, .ref ser, .int (nI N)])), (ser, .inl (cO, 10, .inr (.inr (.inr (.inr sf))))), (SA J, .inr (5, [.int (nI J), .int (mw J), .ref (SB J), .int (ms (4 * J)), .int (ms (4 * J + 1)), .int (ms (4 * J + 2)), .int (ms (4 * J + 3))])), (SB J, .inl (cI, 5, .inl (fun z9 => if z9 < 5 then mc (5 * J + z9) else 0)))] : va_W) ++ scL (scJ cI SA SB mc ms mw) ((List.range N).erase J)) := hD
  have hPc := hP.sub (ws' := [((SA J), .inr (5, [.int (nI J), .int (mw J), .ref (SB J), .int (ms (4 * J)), .int (ms (4 * J + 1)), .int (ms (4 * J + 2)), .int (ms (4 * J + 3))])), ((SB J), .inl (cI, 5, .inl (fun z9 => if z9 < 5 then mc (5 * J + z9) else 0)))]) [3, 4] rfl
  have hDc := hD.sub (ws' := [((SA J), .inr (5, [.int (nI J), .int (mw J), .ref (SB J), .int (ms (4 * J)), .int (ms (4 * J + 1)), .int (ms (4 * J + 2)), .int (ms (4 * J + 3))])), ((SB J), .inl (cI, 5, .inl (fun z9 => if z9 < 5 then mc (5 * J + z9) else 0)))]) [3, 4] (by decide) rfl
  have hFc := va_free (wc := [((SA J), .inr (5, [.int (nI J), .int (mw J), .ref (SB J), .int (ms (4 * J)), .int (ms (4 * J + 1)), .int (ms (4 * J + 2)), .int (ms (4 * J + 3))])), ((SB J), .inl (cI, 5, .inl (fun z9 => if z9 < 5 then mc (5 * J + z9) else 0)))]) hD hS hA [3, 4] rfl
  refine g_Vi (As := [.int (nI W0), .int v]) (rest := []) CF (c_X4_replace l D cI cJ cO df H.size (SA J) (SB J) (nI J) (mw J) (ms (4 * J)) (ms (4 * J + 1)) (ms (4 * J + 2)) (ms (4 * J + 3)) (fun z9 => if z9 < 5 then mc (5 * J + z9) else 0) W0 v hW0) (cwV 2 hts gX6_set_X4_replace rfl rfl rfl (by decide +kernel) ⟨Nat.le_of_ble_eq_true rfl, Nat.le_of_ble_eq_true rfl⟩) (va_recv hK hP (ci := 5) (q0 := 3) rfl rfl) hPc hK hDc hV hH hS hFc rfl hl.1 rfl (Nat.le_of_ble_eq_true rfl) dX6_set_38 ⟨Nat.le_of_ble_eq_true rfl, Nat.le_of_ble_eq_true rfl⟩ (fun r_38 w1 H1 locs1 hq hP1 hD1 hk hS hz => ?_)
  obtain ⟨rfl, hr_38⟩ := hq
  obtain ⟨hP, hD⟩ := g_joinQ (X := [(t0, .inr (7, [.ref sl, .ref ch, .ref oh, .ref xh, .ref rh, .ref sh])), (sl, .inr (0, [.int smd, .ref ser, .int (nI N)])), (ser, .inl (cO, 10, .inr (.inr (.inr (.inr sf))))), (SA J, .inr (5, [.int (nI J), .int (mw J), .ref (SB J), .int (ms (4 * J)), .int (ms (4 * J + 1)), .int (ms (4 * J + 2)), .int (ms (4 * J + 3))])), (SB J, .inl (cI, 5, .inl (fun z9 => if z9 < 5 then mc (5 * J + z9) else 0)))]) (X' := [(t0, .inr (7, [.ref sl, .ref ch, .ref oh, .ref xh, .ref rh, .ref sh])), (sl, .inr (0, [.int smd, .ref ser, .int (nI N)])), (ser, .inl (cO, 10, .inr (.inr (.inr (.inr sf))))), ((SA J), .inr (5, [.int (nI J), .int (mw J), .ref (SB J), .int (ms (4 * J)), .int (ms (4 * J + 1)), .int (ms (4 * J + 2)), .int (ms (4 * J + 3))])), ((SB J), .inl (cI, 5, .inl (upd (fun z9 => if z9 < 5 then mc (5 * J + z9) else 0) W0 v)))]) hP hD hk hFc hP1 hD1 [3, 4] [0, 1, 2] [0, 1, 2, 3, 4] rfl rfl (by decide) (by decide) (by decide) rfl
  clear hPc hDc hFc hP1 hD1 hk hz
  generalize H1 = H at hP hS ⊢
  have hP : va_P D ccl (([(t0, .inr (7, [.ref sl, .ref ch, .ref oh, .ref xh, .ref rh, .ref sh])), (sl, .inr (0, [.int smd, .ref ser, .int (nI N)])), (ser, .inl (cO, 10, .inr (.inr (.inr (.inr sf))))), ((SA J), .inr (5, [.int (nI J), .int (mw J), .ref (SB J), .int (ms (4 * J)), .int (ms (4 * J + 1)), .int (ms (4 * J + 2)), .int (ms (4 * J + 3))])), ((SB J), .inl (cI, 5, .inl (upd (fun z9 => if z9 < 5 then mc (5 * J + z9) else 0) W0 v)))] : va_W) ++ scL (scJ cI SA SB mc ms mw) ((List.range N).erase J)) H := hP
  have hD : va_D A (([(t0, .inr (7, [.ref sl, .ref ch, .ref oh, .ref xh, .ref rh, .ref sh])), (sl, .inr (0, [.int smd, .ref ser, .int (nI N)])), (ser, .inl (cO, 10, .inr (.inr (.inr (.inr sf))))), ((SA J), .inr (5, [.int (nI J), .int (mw J), .ref (SB J), .int (ms (4 * J)), .int (ms (4 * J + 1)), .int (ms (4 * J + 2)), .int (ms (4 * J + 3))])), ((SB J), .inl (cI, 5, .inl (upd (fun z9 => if z9 < 5 then mc (5 * J + z9) else 0) W0 v)))] : va_W) ++ scL (scJ cI SA SB mc ms mw) ((List.range N).erase J)) := hD
  subst hr_38
  refine lv_topi (fun f ef => ?_)
  obtain rfl : f = mc (5 * J + W0) := ef.trans (if_pos (by omega))
  obtain ⟨hP, hD⟩ := sc_close (X := [(t0, .inr (7, [.ref sl, .ref ch, .ref oh, .ref xh, .ref rh, .ref sh])), (sl, .inr (0, [.int smd, .ref ser, .int (nI N)])), (ser, .inl (cO, 10, .inr (.inr (.inr (.inr sf)))))]) (c2 := [((SA J), .inr (5, [.int (nI J), .int (mw J), .ref (SB J), .int (ms (4 * J)), .int (ms (4 * J + 1)), .int (ms (4 * J + 2)), .int (ms (4 * J + 3))])), ((SB J), .inl (cI, 5, .inl (upd (fun z9 => if z9 < 5 then mc (5 * J + z9) else 0) W0 v)))]) (S := (scJ cI SA SB mc ms mw)) (S' := (scJ cI SA SB (upd mc (5 * J + W0) v) ms mw)) (js := (List.range N)) J hP hD (rgm hJ) rgn (scJ_setJ hW0) (fun i _ h9 => scJ_set hW0 h9)
  have hP : va_P D ccl (([(t0, .inr (7, [.ref sl, .ref ch, .ref oh, .ref xh, .ref rh, .ref sh])), (sl, .inr (0, [.int smd, .ref ser, .int (nI N)])), (ser, .inl (cO, 10, .inr (.inr (.inr (.inr sf)))))] : va_W) ++ scL (scJ cI SA SB (upd mc (5 * J + W0) v) ms mw) (List.range N)) H := hP
  have hD : va_D A (([(t0, .inr (7, [.ref sl, .ref ch, .ref oh, .ref xh, .ref rh, .ref sh])), (sl, .inr (0, [.int smd, .ref ser, .int (nI N)])), (ser, .inl (cO, 10, .inr (.inr (.inr (.inr sf)))))] : va_W) ++ scL (scJ cI SA SB (upd mc (5 * J + W0) v) ms mw) (List.range N)) := hD
  refine vx_ret ?_
  refine g_iret (v := mc (5 * J + W0)) hx hb hr hlk hP hK hD hS (Nat.le_of_ble_eq_true rfl) (Nat.le_of_ble_eq_true rfl) dX6_set_41 ?_
  have e1 : gN (nI J) = J := gN_nI (by omega)
  have e2 : gN (nI W0) = W0 := gN_nI (by omega)
  exact ⟨by rw [e1, e2], by rw [e1, e2], gGoOk hq_8 (by rw [if_neg hq_14]; exact hq_22) (by decide)⟩
