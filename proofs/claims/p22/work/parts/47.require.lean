set_option maxHeartbeats 4000000 in
set_option maxRecDepth 100000 in
theorem c_X6_requireWithin (l : Launch) (hfl : l.stackTraces = false) (D : va_G) (cI cJ cO : ClassId) (df sz : Nat) (v : Int32) (lo : Int32) (hi : Int32)  : MxV l yX6_requireWithin wsX6_requireWithin ({ frames := 6, cells := 1, slots := 6, locals := 90 } : Room) D (gTY cI cJ cO) df [] sz [.int v, .int lo, .int hi] (fun (u : String × va_W) => u.2 = [] ∧ u.1 = gIAE ∧ isIn v lo hi = 0) (fun (wZ : va_W) => wZ = [] ∧ ¬ isIn v lo hi = 0) := by
  refine gx_of (cc := cX6_requireWithin) (nL := 3) (ret := none) (D := D) (TY := (gTY cI cJ cO)) (df := df) (Qc := fun A => va_Qv (fun (wZ : va_W) => wZ = [] ∧ ¬ isIn v lo hi = 0) (gB D (gTY cI cJ cO) A) A) (XC := fun A => vx_X (fun (u : String × va_W) => u.2 = [] ∧ u.1 = gIAE ∧ isIn v lo hi = 0) (gBx D (gTY cI cJ cO) A) A) (by decide +kernel) rfl (Nat.le_of_ble_eq_true rfl) ?_
  intro p e s m below meth c ls A hsz C0 hin hl
  obtain ⟨CF, hr, hlk, hA, hS, hP, hK, hD, hV, hH⟩ := C0
  have CF : CallFix p m c cX6_requireWithin 3 s _ wsX6_requireWithin RX6 := CF
  obtain ⟨hx, hb, hml, hown, hts⟩ := id CF
  subst hsz
  have hclassLink_RX6_196 : (Cond.classLink RX6 196 "java/lang/IllegalArgumentException").before _ s = true := hts _ (List.mem_of_getElem? (i := 1) rfl)
  have hinitialized_java_lang_IllegalArgumentException : (Cond.initialized "java/lang/IllegalArgumentException").before _ s = true := hts _ (List.mem_of_getElem? (i := 2) rfl)
  have hXw0 : ∀ w ∈ (vx_atS RX6 200 "java/lang/IllegalArgumentException" ["java/lang/RuntimeException", "java/lang/Exception"]).filter goodWord, w.before _ s = true := fun w h => hts w (List.mem_cons_of_mem _ (List.mem_append_right _ h))
  have hP : va_P D ccl [] s.heap := hP
  have hl : lv_has ls 3 [(0, .int v), (1, .int lo), (2, .int hi)] := hl
  refine lv_iload_n hx hb dX6_requireWithin_0 rfl (lv_at hl 0 rfl) ?_
  refine lv_iload_n hx hb dX6_requireWithin_1 rfl (lv_at hl 1 rfl) ?_
  refine lv_icmp_lt (tgt := 10) hx hb dX6_requireWithin_2 (by decide) (fun c_2 => ?_) (fun c_2 => ?_)
  · have hP : va_P D ccl [] s.heap := hP
    exact gx_thr hx hb hfl hown (by decide) hclassLink_RX6_196 hinitialized_java_lang_IllegalArgumentException hV.2.2.1 hXw0 (by decide +kernel) hV hV.2.2.2.2.2.2.2.1 (by decide +kernel) hH hP hK hD hS (by rw [hml]; exact hl.1) dX6_requireWithin_10 dX6_requireWithin_13 dX6_requireWithin_14 dX6_requireWithin_16 dX6_requireWithin_19 hin (Nat.le_of_ble_eq_true rfl) (Nat.le_of_ble_eq_true rfl) (Nat.le_of_ble_eq_true rfl) (Nat.le_of_ble_eq_true rfl) hlk (Nat.le_of_ble_eq_true rfl) (Nat.le_of_ble_eq_true rfl) ⟨rfl, rfl, by unfold isIn; simp [c_2]⟩
  · refine lv_iload_n hx hb dX6_requireWithin_5 rfl (lv_at hl 0 rfl) ?_
    refine lv_iload_n hx hb dX6_requireWithin_6 rfl (lv_at hl 2 rfl) ?_
    refine lv_icmp_le (tgt := 20) hx hb dX6_requireWithin_7 (by decide) (fun c_7 => ?_) (fun c_7 => ?_)
    · have c_7 : ¬ hi < v := Int32.not_lt.mpr c_7
      refine vx_ret ?_
      refine g_vret hx hb hr hlk hP hK hD hS (Nat.le_of_ble_eq_true rfl) (Nat.le_of_ble_eq_true rfl) dX6_requireWithin_20 ?_
      exact ⟨rfl, by unfold isIn; simp [c_2, c_7]⟩
    · have c_7 : hi < v := Int32.not_le.mp c_7
      have hP : va_P D ccl [] s.heap := hP
      exact gx_thr hx hb hfl hown (by decide) hclassLink_RX6_196 hinitialized_java_lang_IllegalArgumentException hV.2.2.1 hXw0 (by decide +kernel) hV hV.2.2.2.2.2.2.2.1 (by decide +kernel) hH hP hK hD hS (by rw [hml]; exact hl.1) dX6_requireWithin_10 dX6_requireWithin_13 dX6_requireWithin_14 dX6_requireWithin_16 dX6_requireWithin_19 hin (Nat.le_of_ble_eq_true rfl) (Nat.le_of_ble_eq_true rfl) (Nat.le_of_ble_eq_true rfl) (Nat.le_of_ble_eq_true rfl) hlk (Nat.le_of_ble_eq_true rfl) (Nat.le_of_ble_eq_true rfl) ⟨rfl, rfl, by unfold isIn; simp [c_2, c_7]⟩

set_option maxHeartbeats 4000000 in
set_option maxRecDepth 100000 in
theorem c_X6_requirePlace (l : Launch) (hfl : l.stackTraces = false) (D : va_G) (cI cJ cO : ClassId) (df sz : Nat) (v : Int32) (n : Nat)  : MxV l yX6_requirePlace wsX6_requirePlace ({ frames := 6, cells := 1, slots := 6, locals := 90 } : Room) D (gTY cI cJ cO) df [] sz [.int v, .int (nI n)] (fun (u : String × va_W) => u.2 = [] ∧ u.1 = gIOB ∧ isSec n v = 0) (fun (wZ : va_W) => wZ = [] ∧ ¬ isSec n v = 0) := by
  refine gx_of (cc := cX6_requirePlace) (nL := 2) (ret := none) (D := D) (TY := (gTY cI cJ cO)) (df := df) (Qc := fun A => va_Qv (fun (wZ : va_W) => wZ = [] ∧ ¬ isSec n v = 0) (gB D (gTY cI cJ cO) A) A) (XC := fun A => vx_X (fun (u : String × va_W) => u.2 = [] ∧ u.1 = gIOB ∧ isSec n v = 0) (gBx D (gTY cI cJ cO) A) A) (by decide +kernel) rfl (Nat.le_of_ble_eq_true rfl) ?_
  intro p e s m below meth c ls A hsz C0 hin hl
  obtain ⟨CF, hr, hlk, hA, hS, hP, hK, hD, hV, hH⟩ := C0
  have CF : CallFix p m c cX6_requirePlace 2 s _ wsX6_requirePlace RX6 := CF
  obtain ⟨hx, hb, hml, hown, hts⟩ := id CF
  subst hsz
  have hclassLink_RX6_189 : (Cond.classLink RX6 189 "java/lang/IndexOutOfBoundsException").before _ s = true := hts _ (List.mem_of_getElem? (i := 1) rfl)
  have hinitialized_java_lang_IndexOutOfBoundsException : (Cond.initialized "java/lang/IndexOutOfBoundsException").before _ s = true := hts _ (List.mem_of_getElem? (i := 2) rfl)
  have hXw0 : ∀ w ∈ (vx_atS RX6 193 "java/lang/IndexOutOfBoundsException" ["java/lang/RuntimeException", "java/lang/Exception"]).filter goodWord, w.before _ s = true := fun w h => hts w (List.mem_cons_of_mem _ (List.mem_append_right _ h))
  have hP : va_P D ccl [] s.heap := hP
  have hl : lv_has ls 2 [(0, .int v), (1, .int (nI n))] := hl
  refine lv_iload_n hx hb dX6_requirePlace_0 rfl (lv_at hl 0 rfl) ?_
  refine lv_if_lt (tgt := 9) hx hb dX6_requirePlace_1 (by decide) (fun c_1 => ?_) (fun c_1 => ?_)
  · have hP : va_P D ccl [] s.heap := hP
    exact gx_thr hx hb hfl hown (by decide) hclassLink_RX6_189 hinitialized_java_lang_IndexOutOfBoundsException hV.1 hXw0 (by decide +kernel) hV hV.2.2.2.2.2.2.2.2.2.1 (by decide +kernel) hH hP hK hD hS (by rw [hml]; exact hl.1) dX6_requirePlace_9 dX6_requirePlace_12 dX6_requirePlace_13 dX6_requirePlace_15 dX6_requirePlace_18 hin (Nat.le_of_ble_eq_true rfl) (Nat.le_of_ble_eq_true rfl) (Nat.le_of_ble_eq_true rfl) (Nat.le_of_ble_eq_true rfl) hlk (Nat.le_of_ble_eq_true rfl) (Nat.le_of_ble_eq_true rfl) ⟨rfl, rfl, by unfold isSec; rw [if_pos c_1]⟩
  · refine lv_iload_n hx hb dX6_requirePlace_4 rfl (lv_at hl 0 rfl) ?_
    refine lv_iload_n hx hb dX6_requirePlace_5 rfl (lv_at hl 1 rfl) ?_
    refine lv_icmp_lt (tgt := 19) hx hb dX6_requirePlace_6 (by decide) (fun c_6 => ?_) (fun c_6 => ?_)
    · refine vx_ret ?_
      refine g_vret hx hb hr hlk hP hK hD hS (Nat.le_of_ble_eq_true rfl) (Nat.le_of_ble_eq_true rfl) dX6_requirePlace_19 ?_
      exact ⟨rfl, by unfold isSec; rw [if_neg c_1, if_neg (Int32.not_le.mpr c_6)]; decide⟩
    · have hP : va_P D ccl [] s.heap := hP
      exact gx_thr hx hb hfl hown (by decide) hclassLink_RX6_189 hinitialized_java_lang_IndexOutOfBoundsException hV.1 hXw0 (by decide +kernel) hV hV.2.2.2.2.2.2.2.2.2.1 (by decide +kernel) hH hP hK hD hS (by rw [hml]; exact hl.1) dX6_requirePlace_9 dX6_requirePlace_12 dX6_requirePlace_13 dX6_requirePlace_15 dX6_requirePlace_18 hin (Nat.le_of_ble_eq_true rfl) (Nat.le_of_ble_eq_true rfl) (Nat.le_of_ble_eq_true rfl) (Nat.le_of_ble_eq_true rfl) hlk (Nat.le_of_ble_eq_true rfl) (Nat.le_of_ble_eq_true rfl) ⟨rfl, rfl, by unfold isSec; rw [if_neg c_1, if_pos (Int32.not_lt.mp c_6)]⟩

set_option maxHeartbeats 4000000 in
set_option maxRecDepth 100000 in
theorem c_X6_requireBack (l : Launch) (hfl : l.stackTraces = false) (D : va_G) (cI cJ cO : ClassId) (df sz : Nat) (v : Int32)  : MxV l yX6_requireBack wsX6_requireBack ({ frames := 6, cells := 1, slots := 6, locals := 90 } : Room) D (gTY cI cJ cO) df [] sz [.int v] (fun (u : String × va_W) => u.2 = [] ∧ u.1 = gIOB ∧ v < 0) (fun (wZ : va_W) => wZ = [] ∧ ¬ v < 0) := by
  refine gx_of (cc := cX6_requireBack) (nL := 1) (ret := none) (D := D) (TY := (gTY cI cJ cO)) (df := df) (Qc := fun A => va_Qv (fun (wZ : va_W) => wZ = [] ∧ ¬ v < 0) (gB D (gTY cI cJ cO) A) A) (XC := fun A => vx_X (fun (u : String × va_W) => u.2 = [] ∧ u.1 = gIOB ∧ v < 0) (gBx D (gTY cI cJ cO) A) A) (by decide +kernel) rfl (Nat.le_of_ble_eq_true rfl) ?_
  intro p e s m below meth c ls A hsz C0 hin hl
  obtain ⟨CF, hr, hlk, hA, hS, hP, hK, hD, hV, hH⟩ := C0
  have CF : CallFix p m c cX6_requireBack 1 s _ wsX6_requireBack RX6 := CF
  obtain ⟨hx, hb, hml, hown, hts⟩ := id CF
  subst hsz
  have hclassLink_RX6_189 : (Cond.classLink RX6 189 "java/lang/IndexOutOfBoundsException").before _ s = true := hts _ (List.mem_of_getElem? (i := 1) rfl)
  have hinitialized_java_lang_IndexOutOfBoundsException : (Cond.initialized "java/lang/IndexOutOfBoundsException").before _ s = true := hts _ (List.mem_of_getElem? (i := 2) rfl)
  have hXw0 : ∀ w ∈ (vx_atS RX6 193 "java/lang/IndexOutOfBoundsException" ["java/lang/RuntimeException", "java/lang/Exception"]).filter goodWord, w.before _ s = true := fun w h => hts w (List.mem_cons_of_mem _ (List.mem_append_right _ h))
  have hP : va_P D ccl [] s.heap := hP
  have hl : lv_has ls 1 [(0, .int v)] := hl
  refine lv_iload_n hx hb dX6_requireBack_0 rfl (lv_at hl 0 rfl) ?_
  refine lv_if_ge (tgt := 14) hx hb dX6_requireBack_1 (by decide) (fun c_1 => ?_) (fun c_1 => ?_)
  · have c_1 : ¬ v < 0 := Int32.not_lt.mpr c_1
    refine vx_ret ?_
    refine g_vret hx hb hr hlk hP hK hD hS (Nat.le_of_ble_eq_true rfl) (Nat.le_of_ble_eq_true rfl) dX6_requireBack_14 ?_
    exact ⟨rfl, c_1⟩
  · have c_1 : v < 0 := Int32.not_le.mp c_1
    have hP : va_P D ccl [] s.heap := hP
    exact gx_thr hx hb hfl hown (by decide) hclassLink_RX6_189 hinitialized_java_lang_IndexOutOfBoundsException hV.2.1 hXw0 (by decide +kernel) hV hV.2.2.2.2.2.2.2.2.2.1 (by decide +kernel) hH hP hK hD hS (by rw [hml]; exact hl.1) dX6_requireBack_4 dX6_requireBack_7 dX6_requireBack_8 dX6_requireBack_10 dX6_requireBack_13 hin (Nat.le_of_ble_eq_true rfl) (Nat.le_of_ble_eq_true rfl) (Nat.le_of_ble_eq_true rfl) (Nat.le_of_ble_eq_true rfl) hlk (Nat.le_of_ble_eq_true rfl) (Nat.le_of_ble_eq_true rfl) ⟨rfl, rfl, c_1⟩

set_option maxHeartbeats 4000000 in
set_option maxRecDepth 100000 in
theorem c_X6_requireRemainder (l : Launch) (hfl : l.stackTraces = false) (D : va_G) (cI cJ cO : ClassId) (df sz : Nat) (v : Int32)  : MxV l yX6_requireRemainder wsX6_requireRemainder ({ frames := 7, cells := 1, slots := 6, locals := 112 } : Room) D (gTY cI cJ cO) df [] sz [.int v] (fun (u : String × va_W) => u.2 = [] ∧ u.1 = gIAE ∧ isIn v (-96) 96 = 0) (fun (wZ : va_W) => wZ = [] ∧ ¬ isIn v (-96) 96 = 0) := by
  refine gx_of (cc := cX6_requireRemainder) (nL := 1) (ret := none) (D := D) (TY := (gTY cI cJ cO)) (df := df) (Qc := fun A => va_Qv (fun (wZ : va_W) => wZ = [] ∧ ¬ isIn v (-96) 96 = 0) (gB D (gTY cI cJ cO) A) A) (XC := fun A => vx_X (fun (u : String × va_W) => u.2 = [] ∧ u.1 = gIAE ∧ isIn v (-96) 96 = 0) (gBx D (gTY cI cJ cO) A) A) (by decide +kernel) rfl (Nat.le_of_ble_eq_true rfl) ?_
  intro p e s m below meth c ls A hsz C0 hin hl
  obtain ⟨CF, hr, hlk, hA, hS, hP, hK, hD, hV, hH⟩ := C0
  have CF : CallFix p m c cX6_requireRemainder 1 s _ wsX6_requireRemainder RX6 := CF
  obtain ⟨hx, hb, hml, hown, hts⟩ := id CF
  subst hsz
  have hmethodLink_RX6_51 : (Cond.methodLink RX6 51 yX6_requireWithin).before _ s = true := hts _ (List.mem_of_getElem? (i := 1) rfl)
  have hP : va_P D ccl [] s.heap := hP
  have hl : lv_has ls 1 [(0, .int v)] := hl
  refine lv_iload_n hx hb dX6_requireRemainder_0 rfl (lv_at hl 0 rfl) ?_
  refine lv_bipush (v := (-96)) hx hb dX6_requireRemainder_1 (by decide) ?_
  refine lv_bipush (v := 96) hx hb dX6_requireRemainder_3 (by decide) ?_
  have hPc : va_P D ccl [] s.heap := fun k q h => by simp at h
  have hDc : va_D A [] := ⟨fun i j p q h => by simp at h, fun k q h => by simp at h⟩
  have hFc := va_free (wc := []) hD hS hA [] rfl
  refine gx_Sv (As := [.int v, .int (-96), .int 96]) (rest := []) CF (c_X6_requireWithin l hfl D cI cJ cO df s.heap.size v (-96) 96 ) (va_cwS 3 hts gX6_requireRemainder_X6_requireWithin rfl rfl rfl (by decide +kernel) ⟨Nat.le_of_ble_eq_true rfl, Nat.le_of_ble_eq_true rfl⟩)  hPc hK hDc hV hH hS hFc rfl hl.1 rfl (Nat.le_of_ble_eq_true rfl) dX6_requireRemainder_5 ⟨Nat.le_of_ble_eq_true rfl, Nat.le_of_ble_eq_true rfl⟩ (fun E9 ce q9 w1 H1 locs1 hq hP1 hD1 hk hS hz hc1 hc2 hc3 => ?_) (fun w1 H1 locs1 hq hP1 hD1 hk hS hz => ?_)
  · obtain ⟨ew1, hq⟩ := hq
    dsimp only at ew1 hq
    subst ew1
    have hP := g_keep0 hP hk
    refine vx_widen (k := 1) (n := 6) (Nat.le_of_ble_eq_true rfl) (Nat.le_of_ble_eq_true rfl) ?_
    refine vx_out (fun z hz9 => absurd hz9 (hin z)) hlk hc1 hc2 hc3 (fun t ht hvm => ⟨(E9, []), ⟨rfl, hq⟩, ⟨rfl, by rw [ht]; exact hP, va_K.moved hvm hK, hD⟩, hS.F ht⟩) hS.2.2 (Nat.le_refl _) (Nat.le_refl _)
  obtain ⟨rfl, hq_5⟩ := hq
  have hP := g_keep0 hP hk
  clear hPc hDc hFc hP1 hD1 hk hz
  generalize H1 = H at hP hS ⊢
  have hP : va_P D ccl [] H := hP
  have hD : va_D A [] := hD
  refine vx_ret ?_
  refine g_vret hx hb hr hlk hP hK hD hS (Nat.le_of_ble_eq_true rfl) (Nat.le_of_ble_eq_true rfl) dX6_requireRemainder_8 ?_
  exact ⟨rfl, hq_5⟩

set_option maxHeartbeats 4000000 in
set_option maxRecDepth 100000 in
theorem c_X6_tap (l : Launch) (hfl : l.stackTraces = false) (D : va_G) (cI cJ cO : ClassId) (df sz : Nat) (t0 : Nat) (sl : Nat) (ch : Nat) (oh : Nat) (xh : Nat) (rh : Nat) (sh : Nat) (ta : Nat) (qa : Nat) (pa : Nat) (tf : Nat → Int32) (qf : Nat → Int32) (tp : Int32) (v : Int32)  : MxI l yX6_tap wsX6_tap ({ frames := 8, cells := 2, slots := 12, locals := 132 } : Room) D (gTY cI cJ cO) df [(t0, .inr (7, [.ref sl, .ref ch, .ref oh, .ref xh, .ref rh, .ref sh])), (rh, .inr (6, [.ref ta, .ref qa, .ref pa])), (ta, .inl (cI, 32, .inl tf)), (qa, .inl (cI, 32, .inl qf)), (pa, .inl (cI, 32, .inl (pwZ 32)))] sz [.ref t0, .int tp, .int v] (fun (u : String × va_W) => u.2 = [(t0, .inr (7, [.ref sl, .ref ch, .ref oh, .ref xh, .ref rh, .ref sh])), (rh, .inr (6, [.ref ta, .ref qa, .ref pa])), (ta, .inl (cI, 32, .inl tf)), (qa, .inl (cI, 32, .inl qf)), (pa, .inl (cI, 32, .inl (pwZ 32)))] ∧ ¬ gGo (isIn tp 0 31) (isIn v (-96) 96) 1 = 0 ∧ u.1 = xN gIOB gIAE (gGo (isIn tp 0 31) (isIn v (-96) 96) 1)) (fun (r : Int32) (wZ : va_W) => wZ = [(t0, .inr (7, [.ref sl, .ref ch, .ref oh, .ref xh, .ref rh, .ref sh])), (rh, .inr (6, [.ref ta, .ref qa, .ref pa])), (ta, .inl (cI, 32, .inl (upd tf (gN tp) (rs97 v)))), (qa, .inl (cI, 32, .inl qf)), (pa, .inl (cI, 32, .inl (pwZ 32)))] ∧ r = tf (gN tp) ∧ gGo (isIn tp 0 31) (isIn v (-96) 96) 1 = 0) := by
  refine gx_of (cc := cX6_tap) (nL := 3) (ret := (some .int)) (D := D) (TY := (gTY cI cJ cO)) (df := df) (Qc := fun A => va_Qi (fun (r : Int32) (wZ : va_W) => wZ = [(t0, .inr (7, [.ref sl, .ref ch, .ref oh, .ref xh, .ref rh, .ref sh])), (rh, .inr (6, [.ref ta, .ref qa, .ref pa])), (ta, .inl (cI, 32, .inl (upd tf (gN tp) (rs97 v)))), (qa, .inl (cI, 32, .inl qf)), (pa, .inl (cI, 32, .inl (pwZ 32)))] ∧ r = tf (gN tp) ∧ gGo (isIn tp 0 31) (isIn v (-96) 96) 1 = 0) (gB D (gTY cI cJ cO) A) A) (XC := fun A => vx_X (fun (u : String × va_W) => u.2 = [(t0, .inr (7, [.ref sl, .ref ch, .ref oh, .ref xh, .ref rh, .ref sh])), (rh, .inr (6, [.ref ta, .ref qa, .ref pa])), (ta, .inl (cI, 32, .inl tf)), (qa, .inl (cI, 32, .inl qf)), (pa, .inl (cI, 32, .inl (pwZ 32)))] ∧ ¬ gGo (isIn tp 0 31) (isIn v (-96) 96) 1 = 0 ∧ u.1 = xN gIOB gIAE (gGo (isIn tp 0 31) (isIn v (-96) 96) 1)) (gBx D (gTY cI cJ cO) A) A) (by decide +kernel) rfl (Nat.le_of_ble_eq_true rfl) ?_
  intro p e s m below meth c ls A hsz C0 hin hl
  obtain ⟨CF, hr, hlk, hA, hS, hP, hK, hD, hV, hH⟩ := C0
  have CF : CallFix p m c cX6_tap 3 s _ wsX6_tap RX6 := CF
  obtain ⟨hx, hb, hml, hown, hts⟩ := id CF
  subst hsz
  have hmethodLink_RX6_73 : (Cond.methodLink RX6 73 yX6_requirePlace).before _ s = true := hts _ (List.mem_of_getElem? (i := 2) rfl)
  have hmethodLink_RX6_106 : (Cond.methodLink RX6 106 yX6_requireRemainder).before _ s = true := hts _ (List.mem_of_getElem? (i := 8) rfl)
  have hfieldLink_RX6_42 : (Cond.fieldLink RX6 42 "TapLoom" "row" "LTapLoom$TapRow;").before _ s = true := hts _ (List.mem_of_getElem? (i := 1) rfl)
  have hmethodLink_RX6_109 : (Cond.methodLink RX6 109 yX5_replaceTap).before _ s = true := hts _ (List.mem_of_getElem? (i := 16) rfl)
  have inX6 : ∀ w ∈ u_ws RX6 TX6 6, w ∈ wsX6_tap := fun w h => (List.mem_cons_of_mem _ (List.mem_append_left _ (List.mem_append_left _ (List.mem_append_left _ (List.mem_append_right _ h)))))
  have hP : va_P D ccl [(t0, .inr (7, [.ref sl, .ref ch, .ref oh, .ref xh, .ref rh, .ref sh])), (rh, .inr (6, [.ref ta, .ref qa, .ref pa])), (ta, .inl (cI, 32, .inl tf)), (qa, .inl (cI, 32, .inl qf)), (pa, .inl (cI, 32, .inl (pwZ 32)))] s.heap := hP
  have hl : lv_has ls 3 [(0, .ref t0), (1, .int tp), (2, .int v)] := hl
  refine lv_iload_n hx hb dX6_tap_0 rfl (lv_at hl 1 rfl) ?_
  refine lv_bipush (v := 32) hx hb dX6_tap_1 (by decide) ?_
  have hPc : va_P D ccl [] s.heap := fun k q h => by simp at h
  have hDc : va_D A [] := ⟨fun i j p q h => by simp at h, fun k q h => by simp at h⟩
  have hFc := va_free (wc := []) hD hS hA [] rfl
  refine gx_Sv (As := [.int tp, .int 32]) (rest := []) CF (c_X6_requirePlace l hfl D cI cJ cO df s.heap.size tp 32 ) (va_cwS 2 hts gX6_tap_X6_requirePlace rfl rfl rfl (by decide +kernel) ⟨Nat.le_of_ble_eq_true rfl, Nat.le_of_ble_eq_true rfl⟩)  hPc hK hDc hV hH hS hFc rfl hl.1 rfl (Nat.le_of_ble_eq_true rfl) dX6_tap_3 ⟨Nat.le_of_ble_eq_true rfl, Nat.le_of_ble_eq_true rfl⟩ (fun E9 ce q9 w1 H1 locs1 hq hP1 hD1 hk hS hz hc1 hc2 hc3 => ?_) (fun w1 H1 locs1 hq hP1 hD1 hk hS hz => ?_)
  · obtain ⟨ew1, hq⟩ := hq
    dsimp only at ew1 hq
    subst ew1
    have hP := g_keep0 hP hk
    refine vx_widen (k := 2) (n := 12) (Nat.le_of_ble_eq_true rfl) (Nat.le_of_ble_eq_true rfl) ?_
    refine vx_out (fun z hz9 => absurd hz9 (hin z)) hlk hc1 hc2 hc3 (fun t ht hvm => ⟨(E9, [(t0, .inr (7, [.ref sl, .ref ch, .ref oh, .ref xh, .ref rh, .ref sh])), (rh, .inr (6, [.ref ta, .ref qa, .ref pa])), (ta, .inl (cI, 32, .inl tf)), (qa, .inl (cI, 32, .inl qf)), (pa, .inl (cI, 32, .inl (pwZ 32)))]), ⟨rfl, px1 ((isSec32 _).symm.trans hq.2) hq.1⟩, ⟨rfl, by rw [ht]; exact hP, va_K.moved hvm hK, hD⟩, hS.F ht⟩) hS.2.2 (Nat.le_refl _) (Nat.le_refl _)
  obtain ⟨rfl, hq_3⟩ := hq
  have hP := g_keep0 hP hk
  clear hPc hDc hFc hP1 hD1 hk hz
  generalize H1 = H at hP hS ⊢
  have hP : va_P D ccl [(t0, .inr (7, [.ref sl, .ref ch, .ref oh, .ref xh, .ref rh, .ref sh])), (rh, .inr (6, [.ref ta, .ref qa, .ref pa])), (ta, .inl (cI, 32, .inl tf)), (qa, .inl (cI, 32, .inl qf)), (pa, .inl (cI, 32, .inl (pwZ 32)))] H := hP
  have hD : va_D A [(t0, .inr (7, [.ref sl, .ref ch, .ref oh, .ref xh, .ref rh, .ref sh])), (rh, .inr (6, [.ref ta, .ref qa, .ref pa])), (ta, .inl (cI, 32, .inl tf)), (qa, .inl (cI, 32, .inl qf)), (pa, .inl (cI, 32, .inl (pwZ 32)))] := hD
  have hp0 : ¬ isIn tp 0 31 = 0 := by rw [← isSec32]; exact hq_3
  refine lv_iload_n hx hb dX6_tap_6 rfl (lv_at hl 2 rfl) ?_
  have hPc : va_P D ccl [] H := fun k q h => by simp at h
  have hDc : va_D A [] := ⟨fun i j p q h => by simp at h, fun k q h => by simp at h⟩
  have hFc := va_free (wc := []) hD hS hA [] rfl
  refine gx_Sv (As := [.int v]) (rest := []) CF (c_X6_requireRemainder l hfl D cI cJ cO df H.size v ) (va_cwS 1 hts gX6_tap_X6_requireRemainder rfl rfl rfl (by decide +kernel) ⟨Nat.le_of_ble_eq_true rfl, Nat.le_of_ble_eq_true rfl⟩)  hPc hK hDc hV hH hS hFc rfl hl.1 rfl (Nat.le_of_ble_eq_true rfl) dX6_tap_7 ⟨Nat.le_of_ble_eq_true rfl, Nat.le_of_ble_eq_true rfl⟩ (fun E9 ce q9 w1 H1 locs1 hq hP1 hD1 hk hS hz hc1 hc2 hc3 => ?_) (fun w1 H1 locs1 hq hP1 hD1 hk hS hz => ?_)
  · obtain ⟨ew1, hq⟩ := hq
    dsimp only at ew1 hq
    subst ew1
    have hP := g_keep0 hP hk
    refine vx_widen (k := 2) (n := 12) (Nat.le_of_ble_eq_true rfl) (Nat.le_of_ble_eq_true rfl) ?_
    refine vx_out (fun z hz9 => absurd hz9 (hin z)) hlk hc1 hc2 hc3 (fun t ht hvm => ⟨(E9, [(t0, .inr (7, [.ref sl, .ref ch, .ref oh, .ref xh, .ref rh, .ref sh])), (rh, .inr (6, [.ref ta, .ref qa, .ref pa])), (ta, .inl (cI, 32, .inl tf)), (qa, .inl (cI, 32, .inl qf)), (pa, .inl (cI, 32, .inl (pwZ 32)))]), ⟨rfl, px2 hp0 hq.2 hq.1⟩, ⟨rfl, by rw [ht]; exact hP, va_K.moved hvm hK, hD⟩, hS.F ht⟩) hS.2.2 (Nat.le_refl _) (Nat.le_refl _)
  obtain ⟨rfl, hq_7⟩ := hq
  have hP := g_keep0 hP hk
  clear hPc hDc hFc hP1 hD1 hk hz
  generalize H1 = H at hP hS ⊢
  have hP : va_P D ccl [(t0, .inr (7, [.ref sl, .ref ch, .ref oh, .ref xh, .ref rh, .ref sh])), (rh, .inr (6, [.ref ta, .ref qa, .ref pa])), (ta, .inl (cI, 32, .inl tf)), (qa, .inl (cI, 32, .inl qf)), (pa, .inl (cI, 32, .inl (pwZ 32)))] H := hP
  have hD : va_D A [(t0, .inr (7, [.ref sl, .ref ch, .ref oh, .ref xh, .ref rh, .ref sh])), (rh, .inr (6, [.ref ta, .ref qa, .ref pa])), (ta, .inl (cI, 32, .inl tf)), (qa, .inl (cI, 32, .inl qf)), (pa, .inl (cI, 32, .inl (pwZ 32)))] := hD
  obtain ⟨T0, hT0, rfl⟩ := isIn_nat 31 (by decide) hp0
  refine lv_aload_n hx hb dX6_tap_10 rfl (lv_at hl 0 rfl) ?_
  refine va_get (D := D) (ci := 7) (v := .ref rh) (C := RX6) (T := TX6) (N := 6) hx hb hts inX6 hown hK hP 0 rfl rfl 4 (by decide) hfieldLink_RX6_42 (fun _ h9 => h9) rfl dX6_tap_11 ?_
  refine lv_iload_n hx hb dX6_tap_14 rfl (lv_at hl 1 rfl) ?_
  refine lv_iload_n hx hb dX6_tap_15 rfl (lv_at hl 2 rfl) ?_
  have hPc := hP.sub (ws' := [(rh, .inr (6, [.ref ta, .ref qa, .ref pa])), (ta, .inl (cI, 32, .inl tf)), (qa, .inl (cI, 32, .inl qf)), (pa, .inl (cI, 32, .inl (pwZ 32)))]) [1, 2, 3, 4] rfl
  have hDc := hD.sub (ws' := [(rh, .inr (6, [.ref ta, .ref qa, .ref pa])), (ta, .inl (cI, 32, .inl tf)), (qa, .inl (cI, 32, .inl qf)), (pa, .inl (cI, 32, .inl (pwZ 32)))]) [1, 2, 3, 4] (by decide) rfl
  have hFc := va_free (wc := [(rh, .inr (6, [.ref ta, .ref qa, .ref pa])), (ta, .inl (cI, 32, .inl tf)), (qa, .inl (cI, 32, .inl qf)), (pa, .inl (cI, 32, .inl (pwZ 32)))]) hD hS hA [1, 2, 3, 4] rfl
  refine g_Vi (As := [.int (nI T0), .int v]) (rest := []) CF (c_X5_replaceTap l D cI cJ cO df H.size rh ta qa pa tf qf T0 v (by omega)) (cwV 2 hts gX6_tap_X5_replaceTap rfl rfl rfl (by decide +kernel) ⟨Nat.le_of_ble_eq_true rfl, Nat.le_of_ble_eq_true rfl⟩) (va_recv hK hP (ci := 6) (q0 := 1) rfl rfl) hPc hK hDc hV hH hS hFc rfl hl.1 rfl (Nat.le_of_ble_eq_true rfl) dX6_tap_16 ⟨Nat.le_of_ble_eq_true rfl, Nat.le_of_ble_eq_true rfl⟩ (fun r_16 w1 H1 locs1 hq hP1 hD1 hk hS hz => ?_)
  obtain ⟨rfl, hr_16⟩ := hq
  obtain ⟨hP, hD⟩ := g_join (ws' := [(t0, .inr (7, [.ref sl, .ref ch, .ref oh, .ref xh, .ref rh, .ref sh])), (rh, .inr (6, [.ref ta, .ref qa, .ref pa])), (ta, .inl (cI, 32, .inl (upd tf T0 (rs97 v)))), (qa, .inl (cI, 32, .inl qf)), (pa, .inl (cI, 32, .inl (pwZ 32)))]) hP hD hk hFc hP1 hD1 [1, 2, 3, 4] [0] [0, 1, 2, 3, 4] rfl rfl (by decide) (by decide) (by decide) rfl
  clear hPc hDc hFc hP1 hD1 hk hz
  generalize H1 = H at hP hS ⊢
  have hP : va_P D ccl [(t0, .inr (7, [.ref sl, .ref ch, .ref oh, .ref xh, .ref rh, .ref sh])), (rh, .inr (6, [.ref ta, .ref qa, .ref pa])), (ta, .inl (cI, 32, .inl (upd tf T0 (rs97 v)))), (qa, .inl (cI, 32, .inl qf)), (pa, .inl (cI, 32, .inl (pwZ 32)))] H := hP
  have hD : va_D A [(t0, .inr (7, [.ref sl, .ref ch, .ref oh, .ref xh, .ref rh, .ref sh])), (rh, .inr (6, [.ref ta, .ref qa, .ref pa])), (ta, .inl (cI, 32, .inl (upd tf T0 (rs97 v)))), (qa, .inl (cI, 32, .inl qf)), (pa, .inl (cI, 32, .inl (pwZ 32)))] := hD
  subst hr_16
  refine vx_ret ?_
  refine g_iret (v := tf T0) hx hb hr hlk hP hK hD hS (Nat.le_of_ble_eq_true rfl) (Nat.le_of_ble_eq_true rfl) dX6_tap_19 ?_
  have e9 : gN (nI T0) = T0 := gN_nI (by omega)
  exact ⟨by rw [e9], by rw [e9], gGoOk hp0 hq_7 (by decide)⟩

set_option maxHeartbeats 4000000 in
set_option maxRecDepth 100000 in
theorem c_X6_ask (l : Launch) (hfl : l.stackTraces = false) (D : va_G) (cI cJ cO : ClassId) (df sz : Nat) (t0 : Nat) (sl : Nat) (ch : Nat) (oh : Nat) (xh : Nat) (rh : Nat) (sh : Nat) (ta : Nat) (qa : Nat) (pa : Nat) (tf : Nat → Int32) (qf : Nat → Int32) (tp : Int32) (v : Int32)  : MxI l yX6_ask wsX6_ask ({ frames := 8, cells := 2, slots := 12, locals := 132 } : Room) D (gTY cI cJ cO) df [(t0, .inr (7, [.ref sl, .ref ch, .ref oh, .ref xh, .ref rh, .ref sh])), (rh, .inr (6, [.ref ta, .ref qa, .ref pa])), (ta, .inl (cI, 32, .inl tf)), (qa, .inl (cI, 32, .inl qf)), (pa, .inl (cI, 32, .inl (pwZ 32)))] sz [.ref t0, .int tp, .int v] (fun (u : String × va_W) => u.2 = [(t0, .inr (7, [.ref sl, .ref ch, .ref oh, .ref xh, .ref rh, .ref sh])), (rh, .inr (6, [.ref ta, .ref qa, .ref pa])), (ta, .inl (cI, 32, .inl tf)), (qa, .inl (cI, 32, .inl qf)), (pa, .inl (cI, 32, .inl (pwZ 32)))] ∧ ¬ gGo (isIn tp 0 31) (isIn v (-96) 96) 1 = 0 ∧ u.1 = xN gIOB gIAE (gGo (isIn tp 0 31) (isIn v (-96) 96) 1)) (fun (r : Int32) (wZ : va_W) => wZ = [(t0, .inr (7, [.ref sl, .ref ch, .ref oh, .ref xh, .ref rh, .ref sh])), (rh, .inr (6, [.ref ta, .ref qa, .ref pa])), (ta, .inl (cI, 32, .inl tf)), (qa, .inl (cI, 32, .inl (upd qf (gN tp) (rs97 v)))), (pa, .inl (cI, 32, .inl (pwZ 32)))] ∧ r = qf (gN tp) ∧ gGo (isIn tp 0 31) (isIn v (-96) 96) 1 = 0) := by
  refine gx_of (cc := cX6_ask) (nL := 3) (ret := (some .int)) (D := D) (TY := (gTY cI cJ cO)) (df := df) (Qc := fun A => va_Qi (fun (r : Int32) (wZ : va_W) => wZ = [(t0, .inr (7, [.ref sl, .ref ch, .ref oh, .ref xh, .ref rh, .ref sh])), (rh, .inr (6, [.ref ta, .ref qa, .ref pa])), (ta, .inl (cI, 32, .inl tf)), (qa, .inl (cI, 32, .inl (upd qf (gN tp) (rs97 v)))), (pa, .inl (cI, 32, .inl (pwZ 32)))] ∧ r = qf (gN tp) ∧ gGo (isIn tp 0 31) (isIn v (-96) 96) 1 = 0) (gB D (gTY cI cJ cO) A) A) (XC := fun A => vx_X (fun (u : String × va_W) => u.2 = [(t0, .inr (7, [.ref sl, .ref ch, .ref oh, .ref xh, .ref rh, .ref sh])), (rh, .inr (6, [.ref ta, .ref qa, .ref pa])), (ta, .inl (cI, 32, .inl tf)), (qa, .inl (cI, 32, .inl qf)), (pa, .inl (cI, 32, .inl (pwZ 32)))] ∧ ¬ gGo (isIn tp 0 31) (isIn v (-96) 96) 1 = 0 ∧ u.1 = xN gIOB gIAE (gGo (isIn tp 0 31) (isIn v (-96) 96) 1)) (gBx D (gTY cI cJ cO) A) A) (by decide +kernel) rfl (Nat.le_of_ble_eq_true rfl) ?_
  intro p e s m below meth c ls A hsz C0 hin hl
  obtain ⟨CF, hr, hlk, hA, hS, hP, hK, hD, hV, hH⟩ := C0
  have CF : CallFix p m c cX6_ask 3 s _ wsX6_ask RX6 := CF
  obtain ⟨hx, hb, hml, hown, hts⟩ := id CF
  subst hsz
  have hmethodLink_RX6_73 : (Cond.methodLink RX6 73 yX6_requirePlace).before _ s = true := hts _ (List.mem_of_getElem? (i := 2) rfl)
  have hmethodLink_RX6_106 : (Cond.methodLink RX6 106 yX6_requireRemainder).before _ s = true := hts _ (List.mem_of_getElem? (i := 8) rfl)
  have hfieldLink_RX6_42 : (Cond.fieldLink RX6 42 "TapLoom" "row" "LTapLoom$TapRow;").before _ s = true := hts _ (List.mem_of_getElem? (i := 1) rfl)
  have hmethodLink_RX6_112 : (Cond.methodLink RX6 112 yX5_replaceAsked).before _ s = true := hts _ (List.mem_of_getElem? (i := 16) rfl)
  have inX6 : ∀ w ∈ u_ws RX6 TX6 6, w ∈ wsX6_ask := fun w h => (List.mem_cons_of_mem _ (List.mem_append_left _ (List.mem_append_left _ (List.mem_append_left _ (List.mem_append_right _ h)))))
  have hP : va_P D ccl [(t0, .inr (7, [.ref sl, .ref ch, .ref oh, .ref xh, .ref rh, .ref sh])), (rh, .inr (6, [.ref ta, .ref qa, .ref pa])), (ta, .inl (cI, 32, .inl tf)), (qa, .inl (cI, 32, .inl qf)), (pa, .inl (cI, 32, .inl (pwZ 32)))] s.heap := hP
  have hl : lv_has ls 3 [(0, .ref t0), (1, .int tp), (2, .int v)] := hl
  refine lv_iload_n hx hb dX6_ask_0 rfl (lv_at hl 1 rfl) ?_
  refine lv_bipush (v := 32) hx hb dX6_ask_1 (by decide) ?_
  have hPc : va_P D ccl [] s.heap := fun k q h => by simp at h
  have hDc : va_D A [] := ⟨fun i j p q h => by simp at h, fun k q h => by simp at h⟩
  have hFc := va_free (wc := []) hD hS hA [] rfl
  refine gx_Sv (As := [.int tp, .int 32]) (rest := []) CF (c_X6_requirePlace l hfl D cI cJ cO df s.heap.size tp 32 ) (va_cwS 2 hts gX6_ask_X6_requirePlace rfl rfl rfl (by decide +kernel) ⟨Nat.le_of_ble_eq_true rfl, Nat.le_of_ble_eq_true rfl⟩)  hPc hK hDc hV hH hS hFc rfl hl.1 rfl (Nat.le_of_ble_eq_true rfl) dX6_ask_3 ⟨Nat.le_of_ble_eq_true rfl, Nat.le_of_ble_eq_true rfl⟩ (fun E9 ce q9 w1 H1 locs1 hq hP1 hD1 hk hS hz hc1 hc2 hc3 => ?_) (fun w1 H1 locs1 hq hP1 hD1 hk hS hz => ?_)
  · obtain ⟨ew1, hq⟩ := hq
    dsimp only at ew1 hq
    subst ew1
    have hP := g_keep0 hP hk
    refine vx_widen (k := 2) (n := 12) (Nat.le_of_ble_eq_true rfl) (Nat.le_of_ble_eq_true rfl) ?_
    refine vx_out (fun z hz9 => absurd hz9 (hin z)) hlk hc1 hc2 hc3 (fun t ht hvm => ⟨(E9, [(t0, .inr (7, [.ref sl, .ref ch, .ref oh, .ref xh, .ref rh, .ref sh])), (rh, .inr (6, [.ref ta, .ref qa, .ref pa])), (ta, .inl (cI, 32, .inl tf)), (qa, .inl (cI, 32, .inl qf)), (pa, .inl (cI, 32, .inl (pwZ 32)))]), ⟨rfl, px1 ((isSec32 _).symm.trans hq.2) hq.1⟩, ⟨rfl, by rw [ht]; exact hP, va_K.moved hvm hK, hD⟩, hS.F ht⟩) hS.2.2 (Nat.le_refl _) (Nat.le_refl _)
  obtain ⟨rfl, hq_3⟩ := hq
  have hP := g_keep0 hP hk
  clear hPc hDc hFc hP1 hD1 hk hz
  generalize H1 = H at hP hS ⊢
  have hP : va_P D ccl [(t0, .inr (7, [.ref sl, .ref ch, .ref oh, .ref xh, .ref rh, .ref sh])), (rh, .inr (6, [.ref ta, .ref qa, .ref pa])), (ta, .inl (cI, 32, .inl tf)), (qa, .inl (cI, 32, .inl qf)), (pa, .inl (cI, 32, .inl (pwZ 32)))] H := hP
  have hD : va_D A [(t0, .inr (7, [.ref sl, .ref ch, .ref oh, .ref xh, .ref rh, .ref sh])), (rh, .inr (6, [.ref ta, .ref qa, .ref pa])), (ta, .inl (cI, 32, .inl tf)), (qa, .inl (cI, 32, .inl qf)), (pa, .inl (cI, 32, .inl (pwZ 32)))] := hD
  have hp0 : ¬ isIn tp 0 31 = 0 := by rw [← isSec32]; exact hq_3
  refine lv_iload_n hx hb dX6_ask_6 rfl (lv_at hl 2 rfl) ?_
  have hPc : va_P D ccl [] H := fun k q h => by simp at h
  have hDc : va_D A [] := ⟨fun i j p q h => by simp at h, fun k q h => by simp at h⟩
  have hFc := va_free (wc := []) hD hS hA [] rfl
  refine gx_Sv (As := [.int v]) (rest := []) CF (c_X6_requireRemainder l hfl D cI cJ cO df H.size v ) (va_cwS 1 hts gX6_ask_X6_requireRemainder rfl rfl rfl (by decide +kernel) ⟨Nat.le_of_ble_eq_true rfl, Nat.le_of_ble_eq_true rfl⟩)  hPc hK hDc hV hH hS hFc rfl hl.1 rfl (Nat.le_of_ble_eq_true rfl) dX6_ask_7 ⟨Nat.le_of_ble_eq_true rfl, Nat.le_of_ble_eq_true rfl⟩ (fun E9 ce q9 w1 H1 locs1 hq hP1 hD1 hk hS hz hc1 hc2 hc3 => ?_) (fun w1 H1 locs1 hq hP1 hD1 hk hS hz => ?_)
  · obtain ⟨ew1, hq⟩ := hq
    dsimp only at ew1 hq
    subst ew1
    have hP := g_keep0 hP hk
    refine vx_widen (k := 2) (n := 12) (Nat.le_of_ble_eq_true rfl) (Nat.le_of_ble_eq_true rfl) ?_
    refine vx_out (fun z hz9 => absurd hz9 (hin z)) hlk hc1 hc2 hc3 (fun t ht hvm => ⟨(E9, [(t0, .inr (7, [.ref sl, .ref ch, .ref oh, .ref xh, .ref rh, .ref sh])), (rh, .inr (6, [.ref ta, .ref qa, .ref pa])), (ta, .inl (cI, 32, .inl tf)), (qa, .inl (cI, 32, .inl qf)), (pa, .inl (cI, 32, .inl (pwZ 32)))]), ⟨rfl, px2 hp0 hq.2 hq.1⟩, ⟨rfl, by rw [ht]; exact hP, va_K.moved hvm hK, hD⟩, hS.F ht⟩) hS.2.2 (Nat.le_refl _) (Nat.le_refl _)
  obtain ⟨rfl, hq_7⟩ := hq
  have hP := g_keep0 hP hk
  clear hPc hDc hFc hP1 hD1 hk hz
  generalize H1 = H at hP hS ⊢
  have hP : va_P D ccl [(t0, .inr (7, [.ref sl, .ref ch, .ref oh, .ref xh, .ref rh, .ref sh])), (rh, .inr (6, [.ref ta, .ref qa, .ref pa])), (ta, .inl (cI, 32, .inl tf)), (qa, .inl (cI, 32, .inl qf)), (pa, .inl (cI, 32, .inl (pwZ 32)))] H := hP
  have hD : va_D A [(t0, .inr (7, [.ref sl, .ref ch, .ref oh, .ref xh, .ref rh, .ref sh])), (rh, .inr (6, [.ref ta, .ref qa, .ref pa])), (ta, .inl (cI, 32, .inl tf)), (qa, .inl (cI, 32, .inl qf)), (pa, .inl (cI, 32, .inl (pwZ 32)))] := hD
  obtain ⟨T0, hT0, rfl⟩ := isIn_nat 31 (by decide) hp0
  refine lv_aload_n hx hb dX6_ask_10 rfl (lv_at hl 0 rfl) ?_
  refine va_get (D := D) (ci := 7) (v := .ref rh) (C := RX6) (T := TX6) (N := 6) hx hb hts inX6 hown hK hP 0 rfl rfl 4 (by decide) hfieldLink_RX6_42 (fun _ h9 => h9) rfl dX6_ask_11 ?_
  refine lv_iload_n hx hb dX6_ask_14 rfl (lv_at hl 1 rfl) ?_
  refine lv_iload_n hx hb dX6_ask_15 rfl (lv_at hl 2 rfl) ?_
  have hPc := hP.sub (ws' := [(rh, .inr (6, [.ref ta, .ref qa, .ref pa])), (ta, .inl (cI, 32, .inl tf)), (qa, .inl (cI, 32, .inl qf)), (pa, .inl (cI, 32, .inl (pwZ 32)))]) [1, 2, 3, 4] rfl
  have hDc := hD.sub (ws' := [(rh, .inr (6, [.ref ta, .ref qa, .ref pa])), (ta, .inl (cI, 32, .inl tf)), (qa, .inl (cI, 32, .inl qf)), (pa, .inl (cI, 32, .inl (pwZ 32)))]) [1, 2, 3, 4] (by decide) rfl
  have hFc := va_free (wc := [(rh, .inr (6, [.ref ta, .ref qa, .ref pa])), (ta, .inl (cI, 32, .inl tf)), (qa, .inl (cI, 32, .inl qf)), (pa, .inl (cI, 32, .inl (pwZ 32)))]) hD hS hA [1, 2, 3, 4] rfl
  refine g_Vi (As := [.int (nI T0), .int v]) (rest := []) CF (c_X5_replaceAsked l D cI cJ cO df H.size rh ta qa pa tf qf T0 v (by omega)) (cwV 2 hts gX6_ask_X5_replaceAsked rfl rfl rfl (by decide +kernel) ⟨Nat.le_of_ble_eq_true rfl, Nat.le_of_ble_eq_true rfl⟩) (va_recv hK hP (ci := 6) (q0 := 1) rfl rfl) hPc hK hDc hV hH hS hFc rfl hl.1 rfl (Nat.le_of_ble_eq_true rfl) dX6_ask_16 ⟨Nat.le_of_ble_eq_true rfl, Nat.le_of_ble_eq_true rfl⟩ (fun r_16 w1 H1 locs1 hq hP1 hD1 hk hS hz => ?_)
  obtain ⟨rfl, hr_16⟩ := hq
  obtain ⟨hP, hD⟩ := g_join (ws' := [(t0, .inr (7, [.ref sl, .ref ch, .ref oh, .ref xh, .ref rh, .ref sh])), (rh, .inr (6, [.ref ta, .ref qa, .ref pa])), (ta, .inl (cI, 32, .inl tf)), (qa, .inl (cI, 32, .inl (upd qf T0 (rs97 v)))), (pa, .inl (cI, 32, .inl (pwZ 32)))]) hP hD hk hFc hP1 hD1 [1, 2, 3, 4] [0] [0, 1, 2, 3, 4] rfl rfl (by decide) (by decide) (by decide) rfl
  clear hPc hDc hFc hP1 hD1 hk hz
  generalize H1 = H at hP hS ⊢
  have hP : va_P D ccl [(t0, .inr (7, [.ref sl, .ref ch, .ref oh, .ref xh, .ref rh, .ref sh])), (rh, .inr (6, [.ref ta, .ref qa, .ref pa])), (ta, .inl (cI, 32, .inl tf)), (qa, .inl (cI, 32, .inl (upd qf T0 (rs97 v)))), (pa, .inl (cI, 32, .inl (pwZ 32)))] H := hP
  have hD : va_D A [(t0, .inr (7, [.ref sl, .ref ch, .ref oh, .ref xh, .ref rh, .ref sh])), (rh, .inr (6, [.ref ta, .ref qa, .ref pa])), (ta, .inl (cI, 32, .inl tf)), (qa, .inl (cI, 32, .inl (upd qf T0 (rs97 v)))), (pa, .inl (cI, 32, .inl (pwZ 32)))] := hD
  subst hr_16
  refine vx_ret ?_
  refine g_iret (v := qf T0) hx hb hr hlk hP hK hD hS (Nat.le_of_ble_eq_true rfl) (Nat.le_of_ble_eq_true rfl) dX6_ask_19 ?_
  have e9 : gN (nI T0) = T0 := gN_nI (by omega)
  exact ⟨by rw [e9], by rw [e9], gGoOk hp0 hq_7 (by decide)⟩

set_option maxHeartbeats 4000000 in
set_option maxRecDepth 100000 in
theorem c_X6_design (l : Launch) (D : va_G) (cI cJ cO : ClassId) (df sz : Nat) (t0 : Nat) (sl : Nat) (ch : Nat) (oh : Nat) (xh : Nat) (rh : Nat) (sh : Nat) (ta : Nat) (qa : Nat) (pa : Nat) (tf : Nat → Int32) (qf : Nat → Int32) (hq : isR qf 32) : MetI l yX6_design wsX6_design ({ frames := 4, cells := 0, slots := 0, locals := 91 } : Room) D (gTY cI cJ cO) df [(t0, .inr (7, [.ref sl, .ref ch, .ref oh, .ref xh, .ref rh, .ref sh])), (rh, .inr (6, [.ref ta, .ref qa, .ref pa])), (ta, .inl (cI, 32, .inl tf)), (qa, .inl (cI, 32, .inl qf)), (pa, .inl (cI, 32, .inl (pwZ 32)))] sz [.ref t0] (fun (r : Int32) (wZ : va_W) => wZ = [(t0, .inr (7, [.ref sl, .ref ch, .ref oh, .ref xh, .ref rh, .ref sh])), (rh, .inr (6, [.ref ta, .ref qa, .ref pa])), (ta, .inl (cI, 32, .inl (desA qf tf 32))), (qa, .inl (cI, 32, .inl qf)), (pa, .inl (cI, 32, .inl (pwZ 32)))] ∧ r = nI (desN qf tf 32)) := by
  refine g_of (cc := cX6_design) (nL := 1) (ret := (some .int)) (D := D) (TY := (gTY cI cJ cO)) (df := df) (Qc := fun A => va_Qi (fun (r : Int32) (wZ : va_W) => wZ = [(t0, .inr (7, [.ref sl, .ref ch, .ref oh, .ref xh, .ref rh, .ref sh])), (rh, .inr (6, [.ref ta, .ref qa, .ref pa])), (ta, .inl (cI, 32, .inl (desA qf tf 32))), (qa, .inl (cI, 32, .inl qf)), (pa, .inl (cI, 32, .inl (pwZ 32)))] ∧ r = nI (desN qf tf 32)) (gB D (gTY cI cJ cO) A) A) (by decide +kernel) rfl (Nat.le_of_ble_eq_true rfl) ?_
  intro p e s m below meth c ls A hsz C0 hin hl
  obtain ⟨CF, hr, hlk, hA, hS, hP, hK, hD, hV, hH⟩ := C0
  have CF : CallFix p m c cX6_design 1 s _ wsX6_design RX6 := CF
  obtain ⟨hx, hb, hml, hown, hts⟩ := id CF
  subst hsz
  have hfieldLink_RX6_42 : (Cond.fieldLink RX6 42 "TapLoom" "row" "LTapLoom$TapRow;").before _ s = true := hts _ (List.mem_of_getElem? (i := 1) rfl)
  have hmethodLink_RX6_115 : (Cond.methodLink RX6 115 yX5_takeDesign).before _ s = true := hts _ (List.mem_of_getElem? (i := 2) rfl)
  have inX6 : ∀ w ∈ u_ws RX6 TX6 6, w ∈ wsX6_design := fun w h => (List.mem_cons_of_mem _ (List.mem_append_left _ (List.mem_append_right _ h)))
  have hP : va_P D ccl [(t0, .inr (7, [.ref sl, .ref ch, .ref oh, .ref xh, .ref rh, .ref sh])), (rh, .inr (6, [.ref ta, .ref qa, .ref pa])), (ta, .inl (cI, 32, .inl tf)), (qa, .inl (cI, 32, .inl qf)), (pa, .inl (cI, 32, .inl (pwZ 32)))] s.heap := hP
  have hl : lv_has ls 1 [(0, .ref t0)] := hl
  refine lv_aload_n hx hb dX6_design_0 rfl (lv_at hl 0 rfl) ?_
  refine va_get (D := D) (ci := 7) (v := .ref rh) (C := RX6) (T := TX6) (N := 6) hx hb hts inX6 hown hK hP 0 rfl rfl 4 (by decide) hfieldLink_RX6_42 (fun _ h9 => h9) rfl dX6_design_1 ?_
  have hPc := hP.sub (ws' := [(rh, .inr (6, [.ref ta, .ref qa, .ref pa])), (ta, .inl (cI, 32, .inl tf)), (qa, .inl (cI, 32, .inl qf)), (pa, .inl (cI, 32, .inl (pwZ 32)))]) [1, 2, 3, 4] rfl
  have hDc := hD.sub (ws' := [(rh, .inr (6, [.ref ta, .ref qa, .ref pa])), (ta, .inl (cI, 32, .inl tf)), (qa, .inl (cI, 32, .inl qf)), (pa, .inl (cI, 32, .inl (pwZ 32)))]) [1, 2, 3, 4] (by decide) rfl
  have hFc := va_free (wc := [(rh, .inr (6, [.ref ta, .ref qa, .ref pa])), (ta, .inl (cI, 32, .inl tf)), (qa, .inl (cI, 32, .inl qf)), (pa, .inl (cI, 32, .inl (pwZ 32)))]) hD hS hA [1, 2, 3, 4] rfl
  refine g_Vi (As := []) (rest := []) CF (c_X5_takeDesign l D cI cJ cO df s.heap.size rh ta qa pa tf qf hq) (cwV 0 hts gX6_design_X5_takeDesign rfl rfl rfl (by decide +kernel) ⟨Nat.le_of_ble_eq_true rfl, Nat.le_of_ble_eq_true rfl⟩) (va_recv hK hP (ci := 6) (q0 := 1) rfl rfl) hPc hK hDc hV hH hS hFc rfl hl.1 rfl (Nat.le_of_ble_eq_true rfl) dX6_design_4 ⟨Nat.le_of_ble_eq_true rfl, Nat.le_of_ble_eq_true rfl⟩ (fun r_4 w1 H1 locs1 hq hP1 hD1 hk hS hz => ?_)
  obtain ⟨rfl, hr_4⟩ := hq
  obtain ⟨hP, hD⟩ := g_join (ws' := [(t0, .inr (7, [.ref sl, .ref ch, .ref oh, .ref xh, .ref rh, .ref sh])), (rh, .inr (6, [.ref ta, .ref qa, .ref pa])), (ta, .inl (cI, 32, .inl (desA qf tf 32))), (qa, .inl (cI, 32, .inl qf)), (pa, .inl (cI, 32, .inl (pwZ 32)))]) hP hD hk hFc hP1 hD1 [1, 2, 3, 4] [0] [0, 1, 2, 3, 4] rfl rfl (by decide) (by decide) (by decide) rfl
  clear hPc hDc hFc hP1 hD1 hk hz
  generalize H1 = H at hP hS ⊢
  have hP : va_P D ccl [(t0, .inr (7, [.ref sl, .ref ch, .ref oh, .ref xh, .ref rh, .ref sh])), (rh, .inr (6, [.ref ta, .ref qa, .ref pa])), (ta, .inl (cI, 32, .inl (desA qf tf 32))), (qa, .inl (cI, 32, .inl qf)), (pa, .inl (cI, 32, .inl (pwZ 32)))] H := hP
  have hD : va_D A [(t0, .inr (7, [.ref sl, .ref ch, .ref oh, .ref xh, .ref rh, .ref sh])), (rh, .inr (6, [.ref ta, .ref qa, .ref pa])), (ta, .inl (cI, 32, .inl (desA qf tf 32))), (qa, .inl (cI, 32, .inl qf)), (pa, .inl (cI, 32, .inl (pwZ 32)))] := hD
  subst hr_4
  refine g_iret (v := nI (desN qf tf 32)) hx hb hr hlk hP hK hD hS (Nat.le_of_ble_eq_true rfl) (Nat.le_of_ble_eq_true rfl) dX6_design_7 ?_
  exact ⟨rfl, rfl⟩

set_option maxHeartbeats 4000000 in
set_option maxRecDepth 100000 in
theorem c_X6_sample (l : Launch) (hfl : l.stackTraces = false) (D : va_G) (cI cJ cO : ClassId) (df sz : Nat) (t0 : Nat) (sl : Nat) (ch : Nat) (oh : Nat) (xh : Nat) (rh : Nat) (sh : Nat) (sb : Nat) (Y : Nat) (rw0 : Nat → Int32) (v : Int32) (hY : Y ≤ 64) : MxI l yX6_sample wsX6_sample ({ frames := 8, cells := 1, slots := 6, locals := 132 } : Room) D (gTY cI cJ cO) df [(t0, .inr (7, [.ref sl, .ref ch, .ref oh, .ref xh, .ref rh, .ref sh])), (sh, .inr (4, [.ref sb, .int (nI Y)])), (sb, .inl (cI, 64, .inl rw0))] sz [.ref t0, .int v] (fun (u : String × va_W) => u.2 = [(t0, .inr (7, [.ref sl, .ref ch, .ref oh, .ref xh, .ref rh, .ref sh])), (sh, .inr (4, [.ref sb, .int (nI Y)])), (sb, .inl (cI, 64, .inl rw0))] ∧ ¬ gGo (isIn v (-96) 96) 1 1 = 0 ∧ u.1 = xN gIAE gIAE (gGo (isIn v (-96) 96) 1 1)) (fun (r : Int32) (wZ : va_W) => wZ = [(t0, .inr (7, [.ref sl, .ref ch, .ref oh, .ref xh, .ref rh, .ref sh])), (sh, .inr (4, [.ref sb, .int (nI (if Y < 64 then Y + 1 else Y))])), (sb, .inl (cI, 64, .inl (shiftIn 64 rw0 v)))] ∧ r = nI (if Y < 64 then Y + 1 else Y) ∧ gGo (isIn v (-96) 96) 1 1 = 0) := by
  refine gx_of (cc := cX6_sample) (nL := 2) (ret := (some .int)) (D := D) (TY := (gTY cI cJ cO)) (df := df) (Qc := fun A => va_Qi (fun (r : Int32) (wZ : va_W) => wZ = [(t0, .inr (7, [.ref sl, .ref ch, .ref oh, .ref xh, .ref rh, .ref sh])), (sh, .inr (4, [.ref sb, .int (nI (if Y < 64 then Y + 1 else Y))])), (sb, .inl (cI, 64, .inl (shiftIn 64 rw0 v)))] ∧ r = nI (if Y < 64 then Y + 1 else Y) ∧ gGo (isIn v (-96) 96) 1 1 = 0) (gB D (gTY cI cJ cO) A) A) (XC := fun A => vx_X (fun (u : String × va_W) => u.2 = [(t0, .inr (7, [.ref sl, .ref ch, .ref oh, .ref xh, .ref rh, .ref sh])), (sh, .inr (4, [.ref sb, .int (nI Y)])), (sb, .inl (cI, 64, .inl rw0))] ∧ ¬ gGo (isIn v (-96) 96) 1 1 = 0 ∧ u.1 = xN gIAE gIAE (gGo (isIn v (-96) 96) 1 1)) (gBx D (gTY cI cJ cO) A) A) (by decide +kernel) rfl (Nat.le_of_ble_eq_true rfl) ?_
  intro p e s m below meth c ls A hsz C0 hin hl
  obtain ⟨CF, hr, hlk, hA, hS, hP, hK, hD, hV, hH⟩ := C0
  have CF : CallFix p m c cX6_sample 2 s _ wsX6_sample RX6 := CF
  obtain ⟨hx, hb, hml, hown, hts⟩ := id CF
  subst hsz
  have hmethodLink_RX6_106 : (Cond.methodLink RX6 106 yX6_requireRemainder).before _ s = true := hts _ (List.mem_of_getElem? (i := 2) rfl)
  have hfieldLink_RX6_46 : (Cond.fieldLink RX6 46 "TapLoom" "samples" "LTapLoom$Latest;").before _ s = true := hts _ (List.mem_of_getElem? (i := 1) rfl)
  have hmethodLink_RX6_95 : (Cond.methodLink RX6 95 yX3_add).before _ s = true := hts _ (List.mem_of_getElem? (i := 11) rfl)
  have hmethodLink_RX6_100 : (Cond.methodLink RX6 100 yX3_count).before _ s = true := hts _ (List.mem_of_getElem? (i := 26) rfl)
  have inX6 : ∀ w ∈ u_ws RX6 TX6 6, w ∈ wsX6_sample := fun w h => (List.mem_cons_of_mem _ (List.mem_append_left _ (List.mem_append_left _ (List.mem_append_right _ h))))
  have hP : va_P D ccl [(t0, .inr (7, [.ref sl, .ref ch, .ref oh, .ref xh, .ref rh, .ref sh])), (sh, .inr (4, [.ref sb, .int (nI Y)])), (sb, .inl (cI, 64, .inl rw0))] s.heap := hP
  have hl : lv_has ls 2 [(0, .ref t0), (1, .int v)] := hl
  refine lv_iload_n hx hb dX6_sample_0 rfl (lv_at hl 1 rfl) ?_
  have hPc : va_P D ccl [] s.heap := fun k q h => by simp at h
  have hDc : va_D A [] := ⟨fun i j p q h => by simp at h, fun k q h => by simp at h⟩
  have hFc := va_free (wc := []) hD hS hA [] rfl
  refine gx_Sv (As := [.int v]) (rest := []) CF (c_X6_requireRemainder l hfl D cI cJ cO df s.heap.size v ) (va_cwS 1 hts gX6_sample_X6_requireRemainder rfl rfl rfl (by decide +kernel) ⟨Nat.le_of_ble_eq_true rfl, Nat.le_of_ble_eq_true rfl⟩)  hPc hK hDc hV hH hS hFc rfl hl.1 rfl (Nat.le_of_ble_eq_true rfl) dX6_sample_1 ⟨Nat.le_of_ble_eq_true rfl, Nat.le_of_ble_eq_true rfl⟩ (fun E9 ce q9 w1 H1 locs1 hq hP1 hD1 hk hS hz hc1 hc2 hc3 => ?_) (fun w1 H1 locs1 hq hP1 hD1 hk hS hz => ?_)
  · obtain ⟨ew1, hq⟩ := hq
    dsimp only at ew1 hq
    subst ew1
    have hP := g_keep0 hP hk
    refine vx_widen (k := 1) (n := 6) (Nat.le_of_ble_eq_true rfl) (Nat.le_of_ble_eq_true rfl) ?_
    refine vx_out (fun z hz9 => absurd hz9 (hin z)) hlk hc1 hc2 hc3 (fun t ht hvm => ⟨(E9, [(t0, .inr (7, [.ref sl, .ref ch, .ref oh, .ref xh, .ref rh, .ref sh])), (sh, .inr (4, [.ref sb, .int (nI Y)])), (sb, .inl (cI, 64, .inl rw0))]), ⟨rfl, px1 hq.2 hq.1⟩, ⟨rfl, by rw [ht]; exact hP, va_K.moved hvm hK, hD⟩, hS.F ht⟩) hS.2.2 (Nat.le_refl _) (Nat.le_refl _)
  obtain ⟨rfl, hq_1⟩ := hq
  have hP := g_keep0 hP hk
  clear hPc hDc hFc hP1 hD1 hk hz
  generalize H1 = H at hP hS ⊢
  have hP : va_P D ccl [(t0, .inr (7, [.ref sl, .ref ch, .ref oh, .ref xh, .ref rh, .ref sh])), (sh, .inr (4, [.ref sb, .int (nI Y)])), (sb, .inl (cI, 64, .inl rw0))] H := hP
  have hD : va_D A [(t0, .inr (7, [.ref sl, .ref ch, .ref oh, .ref xh, .ref rh, .ref sh])), (sh, .inr (4, [.ref sb, .int (nI Y)])), (sb, .inl (cI, 64, .inl rw0))] := hD
  refine lv_aload_n hx hb dX6_sample_4 rfl (lv_at hl 0 rfl) ?_
  refine va_get (D := D) (ci := 7) (v := .ref sh) (C := RX6) (T := TX6) (N := 6) hx hb hts inX6 hown hK hP 0 rfl rfl 5 (by decide) hfieldLink_RX6_46 (fun _ h9 => h9) rfl dX6_sample_5 ?_
  refine lv_iload_n hx hb dX6_sample_8 rfl (lv_at hl 1 rfl) ?_
  have hPc := hP.sub (ws' := [(sh, .inr (4, [.ref sb, .int (nI Y)])), (sb, .inl (cI, 64, .inl rw0))]) [1, 2] rfl
  have hDc := hD.sub (ws' := [(sh, .inr (4, [.ref sb, .int (nI Y)])), (sb, .inl (cI, 64, .inl rw0))]) [1, 2] (by decide) rfl
  have hFc := va_free (wc := [(sh, .inr (4, [.ref sb, .int (nI Y)])), (sb, .inl (cI, 64, .inl rw0))]) hD hS hA [1, 2] rfl
  refine g_Vv (As := [.int v]) (rest := []) CF (c_X3_add l D cI cJ cO df H.size sh sb 64 Y rw0 v (⟨by decide, by decide⟩) hY) (cwV 1 hts gX6_sample_X3_add rfl rfl rfl (by decide +kernel) ⟨Nat.le_of_ble_eq_true rfl, Nat.le_of_ble_eq_true rfl⟩) (va_recv hK hP (ci := 4) (q0 := 1) rfl rfl) hPc hK hDc hV hH hS hFc rfl hl.1 rfl (Nat.le_of_ble_eq_true rfl) dX6_sample_9 ⟨Nat.le_of_ble_eq_true rfl, Nat.le_of_ble_eq_true rfl⟩ (fun w1 H1 locs1 hq hP1 hD1 hk hS hz => ?_)
  obtain rfl := hq
  obtain ⟨hP, hD⟩ := g_join (ws' := [(t0, .inr (7, [.ref sl, .ref ch, .ref oh, .ref xh, .ref rh, .ref sh])), (sh, .inr (4, [.ref sb, .int (nI (if Y < 64 then Y + 1 else Y))])), (sb, .inl (cI, 64, .inl (shiftIn 64 rw0 v)))]) hP hD hk hFc hP1 hD1 [1, 2] [0] [0, 1, 2] rfl rfl (by decide) (by decide) (by decide) rfl
  clear hPc hDc hFc hP1 hD1 hk hz
  generalize H1 = H at hP hS ⊢
  have hP : va_P D ccl [(t0, .inr (7, [.ref sl, .ref ch, .ref oh, .ref xh, .ref rh, .ref sh])), (sh, .inr (4, [.ref sb, .int (nI (if Y < 64 then Y + 1 else Y))])), (sb, .inl (cI, 64, .inl (shiftIn 64 rw0 v)))] H := hP
  have hD : va_D A [(t0, .inr (7, [.ref sl, .ref ch, .ref oh, .ref xh, .ref rh, .ref sh])), (sh, .inr (4, [.ref sb, .int (nI (if Y < 64 then Y + 1 else Y))])), (sb, .inl (cI, 64, .inl (shiftIn 64 rw0 v)))] := hD
  refine lv_aload_n hx hb dX6_sample_12 rfl (lv_at hl 0 rfl) ?_
  refine va_get (D := D) (ci := 7) (v := .ref sh) (C := RX6) (T := TX6) (N := 6) hx hb hts inX6 hown hK hP 0 rfl rfl 5 (by decide) hfieldLink_RX6_46 (fun _ h9 => h9) rfl dX6_sample_13 ?_
  have hPc := hP.sub (ws' := [(sh, .inr (4, [.ref sb, .int (nI (if Y < 64 then Y + 1 else Y))])), (sb, .inl (cI, 64, .inl (shiftIn 64 rw0 v)))]) [1, 2] rfl
  have hDc := hD.sub (ws' := [(sh, .inr (4, [.ref sb, .int (nI (if Y < 64 then Y + 1 else Y))])), (sb, .inl (cI, 64, .inl (shiftIn 64 rw0 v)))]) [1, 2] (by decide) rfl
  have hFc := va_free (wc := [(sh, .inr (4, [.ref sb, .int (nI (if Y < 64 then Y + 1 else Y))])), (sb, .inl (cI, 64, .inl (shiftIn 64 rw0 v)))]) hD hS hA [1, 2] rfl
  refine g_Vi (As := []) (rest := []) CF (c_X3_count l D cI cJ cO df H.size sh sb 64 (if Y < 64 then Y + 1 else Y) (shiftIn 64 rw0 v) ) (cwV 0 hts gX6_sample_X3_count rfl rfl rfl (by decide +kernel) ⟨Nat.le_of_ble_eq_true rfl, Nat.le_of_ble_eq_true rfl⟩) (va_recv hK hP (ci := 4) (q0 := 1) rfl rfl) hPc hK hDc hV hH hS hFc rfl hl.1 rfl (Nat.le_of_ble_eq_true rfl) dX6_sample_16 ⟨Nat.le_of_ble_eq_true rfl, Nat.le_of_ble_eq_true rfl⟩ (fun r_16 w1 H1 locs1 hq hP1 hD1 hk hS hz => ?_)
  obtain ⟨rfl, hr_16⟩ := hq
  have hP := g_keepR hP hD [1, 2] rfl hk hP1
  clear hPc hDc hFc hP1 hD1 hk hz
  generalize H1 = H at hP hS ⊢
  have hP : va_P D ccl [(t0, .inr (7, [.ref sl, .ref ch, .ref oh, .ref xh, .ref rh, .ref sh])), (sh, .inr (4, [.ref sb, .int (nI (if Y < 64 then Y + 1 else Y))])), (sb, .inl (cI, 64, .inl (shiftIn 64 rw0 v)))] H := hP
  have hD : va_D A [(t0, .inr (7, [.ref sl, .ref ch, .ref oh, .ref xh, .ref rh, .ref sh])), (sh, .inr (4, [.ref sb, .int (nI (if Y < 64 then Y + 1 else Y))])), (sb, .inl (cI, 64, .inl (shiftIn 64 rw0 v)))] := hD
  subst hr_16
  refine vx_ret ?_
  refine g_iret (v := nI (if Y < 64 then Y + 1 else Y)) hx hb hr hlk hP hK hD hS (Nat.le_of_ble_eq_true rfl) (Nat.le_of_ble_eq_true rfl) dX6_sample_19 ?_
  exact ⟨rfl, rfl, gGoOk hq_1 (by decide) (by decide)⟩

set_option maxHeartbeats 4000000 in
set_option maxRecDepth 100000 in
theorem c_X6_output (l : Launch) (hfl : l.stackTraces = false) (D : va_G) (cI cJ cO : ClassId) (df sz : Nat) (t0 : Nat) (sl : Nat) (ch : Nat) (oh : Nat) (xh : Nat) (rh : Nat) (sh : Nat) (ob : Nat) (K : Nat) (mu : Nat → Int32) (back : Int32) (hK6 : K ≤ 16) : MxI l yX6_output wsX6_output ({ frames := 7, cells := 1, slots := 6, locals := 110 } : Room) D (gTY cI cJ cO) df [(t0, .inr (7, [.ref sl, .ref ch, .ref oh, .ref xh, .ref rh, .ref sh])), (oh, .inr (4, [.ref ob, .int (nI K)])), (ob, .inl (cI, 16, .inl mu))] sz [.ref t0, .int back] (fun (u : String × va_W) => u.2 = [(t0, .inr (7, [.ref sl, .ref ch, .ref oh, .ref xh, .ref rh, .ref sh])), (oh, .inr (4, [.ref ob, .int (nI K)])), (ob, .inl (cI, 16, .inl mu))] ∧ ¬ gGo (if back < 0 then 0 else 1) 1 1 = 0 ∧ u.1 = xN gIOB gIOB (gGo (if back < 0 then 0 else 1) 1 1)) (fun (r : Int32) (wZ : va_W) => wZ = [(t0, .inr (7, [.ref sl, .ref ch, .ref oh, .ref xh, .ref rh, .ref sh])), (oh, .inr (4, [.ref ob, .int (nI K)])), (ob, .inl (cI, 16, .inl mu))] ∧ r = (if gN back < K then mu (gN back) else 0) ∧ gGo (if back < 0 then 0 else 1) 1 1 = 0) := by
  refine gx_of (cc := cX6_output) (nL := 2) (ret := (some .int)) (D := D) (TY := (gTY cI cJ cO)) (df := df) (Qc := fun A => va_Qi (fun (r : Int32) (wZ : va_W) => wZ = [(t0, .inr (7, [.ref sl, .ref ch, .ref oh, .ref xh, .ref rh, .ref sh])), (oh, .inr (4, [.ref ob, .int (nI K)])), (ob, .inl (cI, 16, .inl mu))] ∧ r = (if gN back < K then mu (gN back) else 0) ∧ gGo (if back < 0 then 0 else 1) 1 1 = 0) (gB D (gTY cI cJ cO) A) A) (XC := fun A => vx_X (fun (u : String × va_W) => u.2 = [(t0, .inr (7, [.ref sl, .ref ch, .ref oh, .ref xh, .ref rh, .ref sh])), (oh, .inr (4, [.ref ob, .int (nI K)])), (ob, .inl (cI, 16, .inl mu))] ∧ ¬ gGo (if back < 0 then 0 else 1) 1 1 = 0 ∧ u.1 = xN gIOB gIOB (gGo (if back < 0 then 0 else 1) 1 1)) (gBx D (gTY cI cJ cO) A) A) (by decide +kernel) rfl (Nat.le_of_ble_eq_true rfl) ?_
  intro p e s m below meth c ls A hsz C0 hin hl
  obtain ⟨CF, hr, hlk, hA, hS, hP, hK, hD, hV, hH⟩ := C0
  have CF : CallFix p m c cX6_output 2 s _ wsX6_output RX6 := CF
  obtain ⟨hx, hb, hml, hown, hts⟩ := id CF
  subst hsz
  have hmethodLink_RX6_138 : (Cond.methodLink RX6 138 yX6_requireBack).before _ s = true := hts _ (List.mem_of_getElem? (i := 2) rfl)
  have hfieldLink_RX6_28 : (Cond.fieldLink RX6 28 "TapLoom" "outputs" "LTapLoom$Latest;").before _ s = true := hts _ (List.mem_of_getElem? (i := 1) rfl)
  have hmethodLink_RX6_141 : (Cond.methodLink RX6 141 yX3_at).before _ s = true := hts _ (List.mem_of_getElem? (i := 8) rfl)
  have inX6 : ∀ w ∈ u_ws RX6 TX6 6, w ∈ wsX6_output := fun w h => (List.mem_cons_of_mem _ (List.mem_append_left _ (List.mem_append_left _ (List.mem_append_right _ h))))
  have hP : va_P D ccl [(t0, .inr (7, [.ref sl, .ref ch, .ref oh, .ref xh, .ref rh, .ref sh])), (oh, .inr (4, [.ref ob, .int (nI K)])), (ob, .inl (cI, 16, .inl mu))] s.heap := hP
  have hl : lv_has ls 2 [(0, .ref t0), (1, .int back)] := hl
  refine lv_iload_n hx hb dX6_output_0 rfl (lv_at hl 1 rfl) ?_
  have hPc : va_P D ccl [] s.heap := fun k q h => by simp at h
  have hDc : va_D A [] := ⟨fun i j p q h => by simp at h, fun k q h => by simp at h⟩
  have hFc := va_free (wc := []) hD hS hA [] rfl
  refine gx_Sv (As := [.int back]) (rest := []) CF (c_X6_requireBack l hfl D cI cJ cO df s.heap.size back ) (va_cwS 1 hts gX6_output_X6_requireBack rfl rfl rfl (by decide +kernel) ⟨Nat.le_of_ble_eq_true rfl, Nat.le_of_ble_eq_true rfl⟩)  hPc hK hDc hV hH hS hFc rfl hl.1 rfl (Nat.le_of_ble_eq_true rfl) dX6_output_1 ⟨Nat.le_of_ble_eq_true rfl, Nat.le_of_ble_eq_true rfl⟩ (fun E9 ce q9 w1 H1 locs1 hq hP1 hD1 hk hS hz hc1 hc2 hc3 => ?_) (fun w1 H1 locs1 hq hP1 hD1 hk hS hz => ?_)
  · obtain ⟨ew1, hq⟩ := hq
    dsimp only at ew1 hq
    subst ew1
    have hP := g_keep0 hP hk
    refine vx_widen (k := 1) (n := 6) (Nat.le_of_ble_eq_true rfl) (Nat.le_of_ble_eq_true rfl) ?_
    refine vx_out (fun z hz9 => absurd hz9 (hin z)) hlk hc1 hc2 hc3 (fun t ht hvm => ⟨(E9, [(t0, .inr (7, [.ref sl, .ref ch, .ref oh, .ref xh, .ref rh, .ref sh])), (oh, .inr (4, [.ref ob, .int (nI K)])), (ob, .inl (cI, 16, .inl mu))]), ⟨rfl, px1 ((isBk _).mpr hq.2) hq.1⟩, ⟨rfl, by rw [ht]; exact hP, va_K.moved hvm hK, hD⟩, hS.F ht⟩) hS.2.2 (Nat.le_refl _) (Nat.le_refl _)
  obtain ⟨rfl, hq_1⟩ := hq
  have hP := g_keep0 hP hk
  clear hPc hDc hFc hP1 hD1 hk hz
  generalize H1 = H at hP hS ⊢
  have hP : va_P D ccl [(t0, .inr (7, [.ref sl, .ref ch, .ref oh, .ref xh, .ref rh, .ref sh])), (oh, .inr (4, [.ref ob, .int (nI K)])), (ob, .inl (cI, 16, .inl mu))] H := hP
  have hD : va_D A [(t0, .inr (7, [.ref sl, .ref ch, .ref oh, .ref xh, .ref rh, .ref sh])), (oh, .inr (4, [.ref ob, .int (nI K)])), (ob, .inl (cI, 16, .inl mu))] := hD
  obtain ⟨B, hB, rfl⟩ := nI_of hq_1
  refine lv_aload_n hx hb dX6_output_4 rfl (lv_at hl 0 rfl) ?_
  refine va_get (D := D) (ci := 7) (v := .ref oh) (C := RX6) (T := TX6) (N := 6) hx hb hts inX6 hown hK hP 0 rfl rfl 2 (by decide) hfieldLink_RX6_28 (fun _ h9 => h9) rfl dX6_output_5 ?_
  refine lv_iload_n hx hb dX6_output_8 rfl (lv_at hl 1 rfl) ?_
  have hPc := hP.sub (ws' := [(oh, .inr (4, [.ref ob, .int (nI K)])), (ob, .inl (cI, 16, .inl mu))]) [1, 2] rfl
  have hDc := hD.sub (ws' := [(oh, .inr (4, [.ref ob, .int (nI K)])), (ob, .inl (cI, 16, .inl mu))]) [1, 2] (by decide) rfl
  have hFc := va_free (wc := [(oh, .inr (4, [.ref ob, .int (nI K)])), (ob, .inl (cI, 16, .inl mu))]) hD hS hA [1, 2] rfl
  refine g_Vi (As := [.int (nI B)]) (rest := []) CF (c_X3_at l D cI cJ cO df H.size oh ob 16 K mu B (⟨by decide, by decide⟩) hK6 hB) (cwV 1 hts gX6_output_X3_at rfl rfl rfl (by decide +kernel) ⟨Nat.le_of_ble_eq_true rfl, Nat.le_of_ble_eq_true rfl⟩) (va_recv hK hP (ci := 4) (q0 := 1) rfl rfl) hPc hK hDc hV hH hS hFc rfl hl.1 rfl (Nat.le_of_ble_eq_true rfl) dX6_output_9 ⟨Nat.le_of_ble_eq_true rfl, Nat.le_of_ble_eq_true rfl⟩ (fun r_9 w1 H1 locs1 hq hP1 hD1 hk hS hz => ?_)
  obtain ⟨rfl, hr_9⟩ := hq
  have hP := g_keepR hP hD [1, 2] rfl hk hP1
  clear hPc hDc hFc hP1 hD1 hk hz
  generalize H1 = H at hP hS ⊢
  have hP : va_P D ccl [(t0, .inr (7, [.ref sl, .ref ch, .ref oh, .ref xh, .ref rh, .ref sh])), (oh, .inr (4, [.ref ob, .int (nI K)])), (ob, .inl (cI, 16, .inl mu))] H := hP
  have hD : va_D A [(t0, .inr (7, [.ref sl, .ref ch, .ref oh, .ref xh, .ref rh, .ref sh])), (oh, .inr (4, [.ref ob, .int (nI K)])), (ob, .inl (cI, 16, .inl mu))] := hD
  subst hr_9
  refine vx_ret ?_
  refine g_iret (v := if B < K then mu B else 0) hx hb hr hlk hP hK hD hS (Nat.le_of_ble_eq_true rfl) (Nat.le_of_ble_eq_true rfl) dX6_output_12 ?_
  exact ⟨rfl, by rw [gN_nI hB], gGoOk (fun h9 => hq_1 ((isBk _).mp h9)) (by decide) (by decide)⟩

set_option maxHeartbeats 4000000 in
set_option maxRecDepth 100000 in
theorem c_X6_tapOf (l : Launch) (hfl : l.stackTraces = false) (D : va_G) (cI cJ cO : ClassId) (df sz : Nat) (t0 : Nat) (sl : Nat) (ch : Nat) (oh : Nat) (xh : Nat) (rh : Nat) (sh : Nat) (ta : Nat) (qa : Nat) (pa : Nat) (tf : Nat → Int32) (qf : Nat → Int32) (tp : Int32)  : MxI l yX6_tapOf wsX6_tapOf ({ frames := 7, cells := 1, slots := 6, locals := 111 } : Room) D (gTY cI cJ cO) df [(t0, .inr (7, [.ref sl, .ref ch, .ref oh, .ref xh, .ref rh, .ref sh])), (rh, .inr (6, [.ref ta, .ref qa, .ref pa])), (ta, .inl (cI, 32, .inl tf)), (qa, .inl (cI, 32, .inl qf)), (pa, .inl (cI, 32, .inl (pwZ 32)))] sz [.ref t0, .int tp] (fun (u : String × va_W) => u.2 = [(t0, .inr (7, [.ref sl, .ref ch, .ref oh, .ref xh, .ref rh, .ref sh])), (rh, .inr (6, [.ref ta, .ref qa, .ref pa])), (ta, .inl (cI, 32, .inl tf)), (qa, .inl (cI, 32, .inl qf)), (pa, .inl (cI, 32, .inl (pwZ 32)))] ∧ ¬ gGo (isIn tp 0 31) 1 1 = 0 ∧ u.1 = xN gIOB gIOB (gGo (isIn tp 0 31) 1 1)) (fun (r : Int32) (wZ : va_W) => wZ = [(t0, .inr (7, [.ref sl, .ref ch, .ref oh, .ref xh, .ref rh, .ref sh])), (rh, .inr (6, [.ref ta, .ref qa, .ref pa])), (ta, .inl (cI, 32, .inl tf)), (qa, .inl (cI, 32, .inl qf)), (pa, .inl (cI, 32, .inl (pwZ 32)))] ∧ r = tf (gN tp) ∧ gGo (isIn tp 0 31) 1 1 = 0) := by
  refine gx_of (cc := cX6_tapOf) (nL := 2) (ret := (some .int)) (D := D) (TY := (gTY cI cJ cO)) (df := df) (Qc := fun A => va_Qi (fun (r : Int32) (wZ : va_W) => wZ = [(t0, .inr (7, [.ref sl, .ref ch, .ref oh, .ref xh, .ref rh, .ref sh])), (rh, .inr (6, [.ref ta, .ref qa, .ref pa])), (ta, .inl (cI, 32, .inl tf)), (qa, .inl (cI, 32, .inl qf)), (pa, .inl (cI, 32, .inl (pwZ 32)))] ∧ r = tf (gN tp) ∧ gGo (isIn tp 0 31) 1 1 = 0) (gB D (gTY cI cJ cO) A) A) (XC := fun A => vx_X (fun (u : String × va_W) => u.2 = [(t0, .inr (7, [.ref sl, .ref ch, .ref oh, .ref xh, .ref rh, .ref sh])), (rh, .inr (6, [.ref ta, .ref qa, .ref pa])), (ta, .inl (cI, 32, .inl tf)), (qa, .inl (cI, 32, .inl qf)), (pa, .inl (cI, 32, .inl (pwZ 32)))] ∧ ¬ gGo (isIn tp 0 31) 1 1 = 0 ∧ u.1 = xN gIOB gIOB (gGo (isIn tp 0 31) 1 1)) (gBx D (gTY cI cJ cO) A) A) (by decide +kernel) rfl (Nat.le_of_ble_eq_true rfl) ?_
  intro p e s m below meth c ls A hsz C0 hin hl
  obtain ⟨CF, hr, hlk, hA, hS, hP, hK, hD, hV, hH⟩ := C0
  have CF : CallFix p m c cX6_tapOf 2 s _ wsX6_tapOf RX6 := CF
  obtain ⟨hx, hb, hml, hown, hts⟩ := id CF
  subst hsz
  have hmethodLink_RX6_73 : (Cond.methodLink RX6 73 yX6_requirePlace).before _ s = true := hts _ (List.mem_of_getElem? (i := 2) rfl)
  have hfieldLink_RX6_42 : (Cond.fieldLink RX6 42 "TapLoom" "row" "LTapLoom$TapRow;").before _ s = true := hts _ (List.mem_of_getElem? (i := 1) rfl)
  have hmethodLink_RX6_176 : (Cond.methodLink RX6 176 yX5_tapAt).before _ s = true := hts _ (List.mem_of_getElem? (i := 8) rfl)
  have inX6 : ∀ w ∈ u_ws RX6 TX6 6, w ∈ wsX6_tapOf := fun w h => (List.mem_cons_of_mem _ (List.mem_append_left _ (List.mem_append_left _ (List.mem_append_right _ h))))
  have hP : va_P D ccl [(t0, .inr (7, [.ref sl, .ref ch, .ref oh, .ref xh, .ref rh, .ref sh])), (rh, .inr (6, [.ref ta, .ref qa, .ref pa])), (ta, .inl (cI, 32, .inl tf)), (qa, .inl (cI, 32, .inl qf)), (pa, .inl (cI, 32, .inl (pwZ 32)))] s.heap := hP
  have hl : lv_has ls 2 [(0, .ref t0), (1, .int tp)] := hl
  refine lv_iload_n hx hb dX6_tapOf_0 rfl (lv_at hl 1 rfl) ?_
  refine lv_bipush (v := 32) hx hb dX6_tapOf_1 (by decide) ?_
  have hPc : va_P D ccl [] s.heap := fun k q h => by simp at h
  have hDc : va_D A [] := ⟨fun i j p q h => by simp at h, fun k q h => by simp at h⟩
  have hFc := va_free (wc := []) hD hS hA [] rfl
  refine gx_Sv (As := [.int tp, .int 32]) (rest := []) CF (c_X6_requirePlace l hfl D cI cJ cO df s.heap.size tp 32 ) (va_cwS 2 hts gX6_tapOf_X6_requirePlace rfl rfl rfl (by decide +kernel) ⟨Nat.le_of_ble_eq_true rfl, Nat.le_of_ble_eq_true rfl⟩)  hPc hK hDc hV hH hS hFc rfl hl.1 rfl (Nat.le_of_ble_eq_true rfl) dX6_tapOf_3 ⟨Nat.le_of_ble_eq_true rfl, Nat.le_of_ble_eq_true rfl⟩ (fun E9 ce q9 w1 H1 locs1 hq hP1 hD1 hk hS hz hc1 hc2 hc3 => ?_) (fun w1 H1 locs1 hq hP1 hD1 hk hS hz => ?_)
  · obtain ⟨ew1, hq⟩ := hq
    dsimp only at ew1 hq
    subst ew1
    have hP := g_keep0 hP hk
    refine vx_widen (k := 1) (n := 6) (Nat.le_of_ble_eq_true rfl) (Nat.le_of_ble_eq_true rfl) ?_
    refine vx_out (fun z hz9 => absurd hz9 (hin z)) hlk hc1 hc2 hc3 (fun t ht hvm => ⟨(E9, [(t0, .inr (7, [.ref sl, .ref ch, .ref oh, .ref xh, .ref rh, .ref sh])), (rh, .inr (6, [.ref ta, .ref qa, .ref pa])), (ta, .inl (cI, 32, .inl tf)), (qa, .inl (cI, 32, .inl qf)), (pa, .inl (cI, 32, .inl (pwZ 32)))]), ⟨rfl, px1 ((isSec32 _).symm.trans hq.2) hq.1⟩, ⟨rfl, by rw [ht]; exact hP, va_K.moved hvm hK, hD⟩, hS.F ht⟩) hS.2.2 (Nat.le_refl _) (Nat.le_refl _)
  obtain ⟨rfl, hq_3⟩ := hq
  have hP := g_keep0 hP hk
  clear hPc hDc hFc hP1 hD1 hk hz
  generalize H1 = H at hP hS ⊢
  have hP : va_P D ccl [(t0, .inr (7, [.ref sl, .ref ch, .ref oh, .ref xh, .ref rh, .ref sh])), (rh, .inr (6, [.ref ta, .ref qa, .ref pa])), (ta, .inl (cI, 32, .inl tf)), (qa, .inl (cI, 32, .inl qf)), (pa, .inl (cI, 32, .inl (pwZ 32)))] H := hP
  have hD : va_D A [(t0, .inr (7, [.ref sl, .ref ch, .ref oh, .ref xh, .ref rh, .ref sh])), (rh, .inr (6, [.ref ta, .ref qa, .ref pa])), (ta, .inl (cI, 32, .inl tf)), (qa, .inl (cI, 32, .inl qf)), (pa, .inl (cI, 32, .inl (pwZ 32)))] := hD
  have hp0 : ¬ isIn tp 0 31 = 0 := by rw [← isSec32]; exact hq_3
  obtain ⟨T0, hT0, rfl⟩ := isIn_nat 31 (by decide) hp0
  refine lv_aload_n hx hb dX6_tapOf_6 rfl (lv_at hl 0 rfl) ?_
  refine va_get (D := D) (ci := 7) (v := .ref rh) (C := RX6) (T := TX6) (N := 6) hx hb hts inX6 hown hK hP 0 rfl rfl 4 (by decide) hfieldLink_RX6_42 (fun _ h9 => h9) rfl dX6_tapOf_7 ?_
  refine lv_iload_n hx hb dX6_tapOf_10 rfl (lv_at hl 1 rfl) ?_
  have hPc := hP.sub (ws' := [(rh, .inr (6, [.ref ta, .ref qa, .ref pa])), (ta, .inl (cI, 32, .inl tf)), (qa, .inl (cI, 32, .inl qf)), (pa, .inl (cI, 32, .inl (pwZ 32)))]) [1, 2, 3, 4] rfl
  have hDc := hD.sub (ws' := [(rh, .inr (6, [.ref ta, .ref qa, .ref pa])), (ta, .inl (cI, 32, .inl tf)), (qa, .inl (cI, 32, .inl qf)), (pa, .inl (cI, 32, .inl (pwZ 32)))]) [1, 2, 3, 4] (by decide) rfl
  have hFc := va_free (wc := [(rh, .inr (6, [.ref ta, .ref qa, .ref pa])), (ta, .inl (cI, 32, .inl tf)), (qa, .inl (cI, 32, .inl qf)), (pa, .inl (cI, 32, .inl (pwZ 32)))]) hD hS hA [1, 2, 3, 4] rfl
  refine g_Vi (As := [.int (nI T0)]) (rest := []) CF (c_X5_tapAt l D cI cJ cO df H.size rh ta qa pa tf qf T0 (by omega)) (cwV 1 hts gX6_tapOf_X5_tapAt rfl rfl rfl (by decide +kernel) ⟨Nat.le_of_ble_eq_true rfl, Nat.le_of_ble_eq_true rfl⟩) (va_recv hK hP (ci := 6) (q0 := 1) rfl rfl) hPc hK hDc hV hH hS hFc rfl hl.1 rfl (Nat.le_of_ble_eq_true rfl) dX6_tapOf_11 ⟨Nat.le_of_ble_eq_true rfl, Nat.le_of_ble_eq_true rfl⟩ (fun r_11 w1 H1 locs1 hq hP1 hD1 hk hS hz => ?_)
  obtain ⟨rfl, hr_11⟩ := hq
  have hP := g_keepR hP hD [1, 2, 3, 4] rfl hk hP1
  clear hPc hDc hFc hP1 hD1 hk hz
  generalize H1 = H at hP hS ⊢
  have hP : va_P D ccl [(t0, .inr (7, [.ref sl, .ref ch, .ref oh, .ref xh, .ref rh, .ref sh])), (rh, .inr (6, [.ref ta, .ref qa, .ref pa])), (ta, .inl (cI, 32, .inl tf)), (qa, .inl (cI, 32, .inl qf)), (pa, .inl (cI, 32, .inl (pwZ 32)))] H := hP
  have hD : va_D A [(t0, .inr (7, [.ref sl, .ref ch, .ref oh, .ref xh, .ref rh, .ref sh])), (rh, .inr (6, [.ref ta, .ref qa, .ref pa])), (ta, .inl (cI, 32, .inl tf)), (qa, .inl (cI, 32, .inl qf)), (pa, .inl (cI, 32, .inl (pwZ 32)))] := hD
  subst hr_11
  refine vx_ret ?_
  refine g_iret (v := tf T0) hx hb hr hlk hP hK hD hS (Nat.le_of_ble_eq_true rfl) (Nat.le_of_ble_eq_true rfl) dX6_tapOf_14 ?_
  have e9 : gN (nI T0) = T0 := gN_nI (by omega)
  exact ⟨rfl, by rw [e9], gGoOk hp0 (by decide) (by decide)⟩

set_option maxHeartbeats 4000000 in
set_option maxRecDepth 100000 in
theorem c_X6_answer (l : Launch) (hfl : l.stackTraces = false) (D : va_G) (cI cJ cO : ClassId) (df sz : Nat) (t0 : Nat) (sl : Nat) (ch : Nat) (oh : Nat) (xh : Nat) (rh : Nat) (sh : Nat) (ta : Nat) (qa : Nat) (pa : Nat) (tf : Nat → Int32) (qf : Nat → Int32) (tp : Int32) (ht : isR tf 32) : MxI l yX6_answer wsX6_answer ({ frames := 7, cells := 1, slots := 6, locals := 111 } : Room) D (gTY cI cJ cO) df [(t0, .inr (7, [.ref sl, .ref ch, .ref oh, .ref xh, .ref rh, .ref sh])), (rh, .inr (6, [.ref ta, .ref qa, .ref pa])), (ta, .inl (cI, 32, .inl tf)), (qa, .inl (cI, 32, .inl qf)), (pa, .inl (cI, 32, .inl (pwZ 32)))] sz [.ref t0, .int tp] (fun (u : String × va_W) => u.2 = [(t0, .inr (7, [.ref sl, .ref ch, .ref oh, .ref xh, .ref rh, .ref sh])), (rh, .inr (6, [.ref ta, .ref qa, .ref pa])), (ta, .inl (cI, 32, .inl tf)), (qa, .inl (cI, 32, .inl qf)), (pa, .inl (cI, 32, .inl (pwZ 32)))] ∧ ¬ gGo (isIn tp 0 31) 1 1 = 0 ∧ u.1 = xN gIOB gIOB (gGo (isIn tp 0 31) 1 1)) (fun (r : Int32) (wZ : va_W) => wZ = [(t0, .inr (7, [.ref sl, .ref ch, .ref oh, .ref xh, .ref rh, .ref sh])), (rh, .inr (6, [.ref ta, .ref qa, .ref pa])), (ta, .inl (cI, 32, .inl tf)), (qa, .inl (cI, 32, .inl qf)), (pa, .inl (cI, 32, .inl (pwZ 32)))] ∧ r = nI (asum tf (gN tp) 32) ∧ gGo (isIn tp 0 31) 1 1 = 0) := by
  refine gx_of (cc := cX6_answer) (nL := 2) (ret := (some .int)) (D := D) (TY := (gTY cI cJ cO)) (df := df) (Qc := fun A => va_Qi (fun (r : Int32) (wZ : va_W) => wZ = [(t0, .inr (7, [.ref sl, .ref ch, .ref oh, .ref xh, .ref rh, .ref sh])), (rh, .inr (6, [.ref ta, .ref qa, .ref pa])), (ta, .inl (cI, 32, .inl tf)), (qa, .inl (cI, 32, .inl qf)), (pa, .inl (cI, 32, .inl (pwZ 32)))] ∧ r = nI (asum tf (gN tp) 32) ∧ gGo (isIn tp 0 31) 1 1 = 0) (gB D (gTY cI cJ cO) A) A) (XC := fun A => vx_X (fun (u : String × va_W) => u.2 = [(t0, .inr (7, [.ref sl, .ref ch, .ref oh, .ref xh, .ref rh, .ref sh])), (rh, .inr (6, [.ref ta, .ref qa, .ref pa])), (ta, .inl (cI, 32, .inl tf)), (qa, .inl (cI, 32, .inl qf)), (pa, .inl (cI, 32, .inl (pwZ 32)))] ∧ ¬ gGo (isIn tp 0 31) 1 1 = 0 ∧ u.1 = xN gIOB gIOB (gGo (isIn tp 0 31) 1 1)) (gBx D (gTY cI cJ cO) A) A) (by decide +kernel) rfl (Nat.le_of_ble_eq_true rfl) ?_
  intro p e s m below meth c ls A hsz C0 hin hl
  obtain ⟨CF, hr, hlk, hA, hS, hP, hK, hD, hV, hH⟩ := C0
  have CF : CallFix p m c cX6_answer 2 s _ wsX6_answer RX6 := CF
  obtain ⟨hx, hb, hml, hown, hts⟩ := id CF
  subst hsz
  have hmethodLink_RX6_73 : (Cond.methodLink RX6 73 yX6_requirePlace).before _ s = true := hts _ (List.mem_of_getElem? (i := 2) rfl)
  have hfieldLink_RX6_42 : (Cond.fieldLink RX6 42 "TapLoom" "row" "LTapLoom$TapRow;").before _ s = true := hts _ (List.mem_of_getElem? (i := 1) rfl)
  have hmethodLink_RX6_179 : (Cond.methodLink RX6 179 yX5_answerBySum).before _ s = true := hts _ (List.mem_of_getElem? (i := 8) rfl)
  have inX6 : ∀ w ∈ u_ws RX6 TX6 6, w ∈ wsX6_answer := fun w h => (List.mem_cons_of_mem _ (List.mem_append_left _ (List.mem_append_left _ (List.mem_append_right _ h))))
  have hP : va_P D ccl [(t0, .inr (7, [.ref sl, .ref ch, .ref oh, .ref xh, .ref rh, .ref sh])), (rh, .inr (6, [.ref ta, .ref qa, .ref pa])), (ta, .inl (cI, 32, .inl tf)), (qa, .inl (cI, 32, .inl qf)), (pa, .inl (cI, 32, .inl (pwZ 32)))] s.heap := hP
  have hl : lv_has ls 2 [(0, .ref t0), (1, .int tp)] := hl
  refine lv_iload_n hx hb dX6_answer_0 rfl (lv_at hl 1 rfl) ?_
  refine lv_bipush (v := 32) hx hb dX6_answer_1 (by decide) ?_
  have hPc : va_P D ccl [] s.heap := fun k q h => by simp at h
  have hDc : va_D A [] := ⟨fun i j p q h => by simp at h, fun k q h => by simp at h⟩
  have hFc := va_free (wc := []) hD hS hA [] rfl
  refine gx_Sv (As := [.int tp, .int 32]) (rest := []) CF (c_X6_requirePlace l hfl D cI cJ cO df s.heap.size tp 32 ) (va_cwS 2 hts gX6_answer_X6_requirePlace rfl rfl rfl (by decide +kernel) ⟨Nat.le_of_ble_eq_true rfl, Nat.le_of_ble_eq_true rfl⟩)  hPc hK hDc hV hH hS hFc rfl hl.1 rfl (Nat.le_of_ble_eq_true rfl) dX6_answer_3 ⟨Nat.le_of_ble_eq_true rfl, Nat.le_of_ble_eq_true rfl⟩ (fun E9 ce q9 w1 H1 locs1 hq hP1 hD1 hk hS hz hc1 hc2 hc3 => ?_) (fun w1 H1 locs1 hq hP1 hD1 hk hS hz => ?_)
  · obtain ⟨ew1, hq⟩ := hq
    dsimp only at ew1 hq
    subst ew1
    have hP := g_keep0 hP hk
    refine vx_widen (k := 1) (n := 6) (Nat.le_of_ble_eq_true rfl) (Nat.le_of_ble_eq_true rfl) ?_
    refine vx_out (fun z hz9 => absurd hz9 (hin z)) hlk hc1 hc2 hc3 (fun t ht hvm => ⟨(E9, [(t0, .inr (7, [.ref sl, .ref ch, .ref oh, .ref xh, .ref rh, .ref sh])), (rh, .inr (6, [.ref ta, .ref qa, .ref pa])), (ta, .inl (cI, 32, .inl tf)), (qa, .inl (cI, 32, .inl qf)), (pa, .inl (cI, 32, .inl (pwZ 32)))]), ⟨rfl, px1 ((isSec32 _).symm.trans hq.2) hq.1⟩, ⟨rfl, by rw [ht]; exact hP, va_K.moved hvm hK, hD⟩, hS.F ht⟩) hS.2.2 (Nat.le_refl _) (Nat.le_refl _)
  obtain ⟨rfl, hq_3⟩ := hq
  have hP := g_keep0 hP hk
  clear hPc hDc hFc hP1 hD1 hk hz
  generalize H1 = H at hP hS ⊢
  have hP : va_P D ccl [(t0, .inr (7, [.ref sl, .ref ch, .ref oh, .ref xh, .ref rh, .ref sh])), (rh, .inr (6, [.ref ta, .ref qa, .ref pa])), (ta, .inl (cI, 32, .inl tf)), (qa, .inl (cI, 32, .inl qf)), (pa, .inl (cI, 32, .inl (pwZ 32)))] H := hP
  have hD : va_D A [(t0, .inr (7, [.ref sl, .ref ch, .ref oh, .ref xh, .ref rh, .ref sh])), (rh, .inr (6, [.ref ta, .ref qa, .ref pa])), (ta, .inl (cI, 32, .inl tf)), (qa, .inl (cI, 32, .inl qf)), (pa, .inl (cI, 32, .inl (pwZ 32)))] := hD
  have hp0 : ¬ isIn tp 0 31 = 0 := by rw [← isSec32]; exact hq_3
  obtain ⟨T0, hT0, rfl⟩ := isIn_nat 31 (by decide) hp0
  refine lv_aload_n hx hb dX6_answer_6 rfl (lv_at hl 0 rfl) ?_
  refine va_get (D := D) (ci := 7) (v := .ref rh) (C := RX6) (T := TX6) (N := 6) hx hb hts inX6 hown hK hP 0 rfl rfl 4 (by decide) hfieldLink_RX6_42 (fun _ h9 => h9) rfl dX6_answer_7 ?_
  refine lv_iload_n hx hb dX6_answer_10 rfl (lv_at hl 1 rfl) ?_
  have hPc := hP.sub (ws' := [(rh, .inr (6, [.ref ta, .ref qa, .ref pa])), (ta, .inl (cI, 32, .inl tf)), (qa, .inl (cI, 32, .inl qf)), (pa, .inl (cI, 32, .inl (pwZ 32)))]) [1, 2, 3, 4] rfl
  have hDc := hD.sub (ws' := [(rh, .inr (6, [.ref ta, .ref qa, .ref pa])), (ta, .inl (cI, 32, .inl tf)), (qa, .inl (cI, 32, .inl qf)), (pa, .inl (cI, 32, .inl (pwZ 32)))]) [1, 2, 3, 4] (by decide) rfl
  have hFc := va_free (wc := [(rh, .inr (6, [.ref ta, .ref qa, .ref pa])), (ta, .inl (cI, 32, .inl tf)), (qa, .inl (cI, 32, .inl qf)), (pa, .inl (cI, 32, .inl (pwZ 32)))]) hD hS hA [1, 2, 3, 4] rfl
  refine g_Vi (As := [.int (nI T0)]) (rest := []) CF (c_X5_answerBySum l D cI cJ cO df H.size rh ta qa pa tf qf T0 ht (by omega)) (cwV 1 hts gX6_answer_X5_answerBySum rfl rfl rfl (by decide +kernel) ⟨Nat.le_of_ble_eq_true rfl, Nat.le_of_ble_eq_true rfl⟩) (va_recv hK hP (ci := 6) (q0 := 1) rfl rfl) hPc hK hDc hV hH hS hFc rfl hl.1 rfl (Nat.le_of_ble_eq_true rfl) dX6_answer_11 ⟨Nat.le_of_ble_eq_true rfl, Nat.le_of_ble_eq_true rfl⟩ (fun r_11 w1 H1 locs1 hq hP1 hD1 hk hS hz => ?_)
  obtain ⟨rfl, hr_11⟩ := hq
  have hP := g_keepR hP hD [1, 2, 3, 4] rfl hk hP1
  clear hPc hDc hFc hP1 hD1 hk hz
  generalize H1 = H at hP hS ⊢
  have hP : va_P D ccl [(t0, .inr (7, [.ref sl, .ref ch, .ref oh, .ref xh, .ref rh, .ref sh])), (rh, .inr (6, [.ref ta, .ref qa, .ref pa])), (ta, .inl (cI, 32, .inl tf)), (qa, .inl (cI, 32, .inl qf)), (pa, .inl (cI, 32, .inl (pwZ 32)))] H := hP
  have hD : va_D A [(t0, .inr (7, [.ref sl, .ref ch, .ref oh, .ref xh, .ref rh, .ref sh])), (rh, .inr (6, [.ref ta, .ref qa, .ref pa])), (ta, .inl (cI, 32, .inl tf)), (qa, .inl (cI, 32, .inl qf)), (pa, .inl (cI, 32, .inl (pwZ 32)))] := hD
  subst hr_11
  refine vx_ret ?_
  refine g_iret (v := nI (asum tf T0 32)) hx hb hr hlk hP hK hD hS (Nat.le_of_ble_eq_true rfl) (Nat.le_of_ble_eq_true rfl) dX6_answer_14 ?_
  have e9 : gN (nI T0) = T0 := gN_nI (by omega)
  exact ⟨rfl, by rw [e9], gGoOk hp0 (by decide) (by decide)⟩

set_option maxHeartbeats 4000000 in
set_option maxRecDepth 100000 in
theorem c_X6_answerAnew (l : Launch) (hfl : l.stackTraces = false) (D : va_G) (cI cJ cO : ClassId) (df sz : Nat) (t0 : Nat) (sl : Nat) (ch : Nat) (oh : Nat) (xh : Nat) (rh : Nat) (sh : Nat) (ta : Nat) (qa : Nat) (pa : Nat) (tf : Nat → Int32) (qf : Nat → Int32) (tp : Int32) (ht : isR tf 32) : MxI l yX6_answerAnew wsX6_answerAnew ({ frames := 7, cells := 1, slots := 6, locals := 111 } : Room) D (gTY cI cJ cO) df [(t0, .inr (7, [.ref sl, .ref ch, .ref oh, .ref xh, .ref rh, .ref sh])), (rh, .inr (6, [.ref ta, .ref qa, .ref pa])), (ta, .inl (cI, 32, .inl tf)), (qa, .inl (cI, 32, .inl qf)), (pa, .inl (cI, 32, .inl (pwZ 32)))] sz [.ref t0, .int tp] (fun (u : String × va_W) => u.2 = [(t0, .inr (7, [.ref sl, .ref ch, .ref oh, .ref xh, .ref rh, .ref sh])), (rh, .inr (6, [.ref ta, .ref qa, .ref pa])), (ta, .inl (cI, 32, .inl tf)), (qa, .inl (cI, 32, .inl qf)), (pa, .inl (cI, 32, .inl (pwZ 32)))] ∧ ¬ gGo (isIn tp 0 31) 1 1 = 0 ∧ u.1 = xN gIOB gIOB (gGo (isIn tp 0 31) 1 1)) (fun (r : Int32) (wZ : va_W) => wZ = [(t0, .inr (7, [.ref sl, .ref ch, .ref oh, .ref xh, .ref rh, .ref sh])), (rh, .inr (6, [.ref ta, .ref qa, .ref pa])), (ta, .inl (cI, 32, .inl tf)), (qa, .inl (cI, 32, .inl qf)), (pa, .inl (cI, 32, .inl (pwZ 32)))] ∧ r = nI (asum tf (gN tp) 32) ∧ gGo (isIn tp 0 31) 1 1 = 0) := by
  refine gx_of (cc := cX6_answerAnew) (nL := 2) (ret := (some .int)) (D := D) (TY := (gTY cI cJ cO)) (df := df) (Qc := fun A => va_Qi (fun (r : Int32) (wZ : va_W) => wZ = [(t0, .inr (7, [.ref sl, .ref ch, .ref oh, .ref xh, .ref rh, .ref sh])), (rh, .inr (6, [.ref ta, .ref qa, .ref pa])), (ta, .inl (cI, 32, .inl tf)), (qa, .inl (cI, 32, .inl qf)), (pa, .inl (cI, 32, .inl (pwZ 32)))] ∧ r = nI (asum tf (gN tp) 32) ∧ gGo (isIn tp 0 31) 1 1 = 0) (gB D (gTY cI cJ cO) A) A) (XC := fun A => vx_X (fun (u : String × va_W) => u.2 = [(t0, .inr (7, [.ref sl, .ref ch, .ref oh, .ref xh, .ref rh, .ref sh])), (rh, .inr (6, [.ref ta, .ref qa, .ref pa])), (ta, .inl (cI, 32, .inl tf)), (qa, .inl (cI, 32, .inl qf)), (pa, .inl (cI, 32, .inl (pwZ 32)))] ∧ ¬ gGo (isIn tp 0 31) 1 1 = 0 ∧ u.1 = xN gIOB gIOB (gGo (isIn tp 0 31) 1 1)) (gBx D (gTY cI cJ cO) A) A) (by decide +kernel) rfl (Nat.le_of_ble_eq_true rfl) ?_
  intro p e s m below meth c ls A hsz C0 hin hl
  obtain ⟨CF, hr, hlk, hA, hS, hP, hK, hD, hV, hH⟩ := C0
  have CF : CallFix p m c cX6_answerAnew 2 s _ wsX6_answerAnew RX6 := CF
  obtain ⟨hx, hb, hml, hown, hts⟩ := id CF
  subst hsz
  have hmethodLink_RX6_73 : (Cond.methodLink RX6 73 yX6_requirePlace).before _ s = true := hts _ (List.mem_of_getElem? (i := 2) rfl)
  have hfieldLink_RX6_42 : (Cond.fieldLink RX6 42 "TapLoom" "row" "LTapLoom$TapRow;").before _ s = true := hts _ (List.mem_of_getElem? (i := 1) rfl)
  have hmethodLink_RX6_182 : (Cond.methodLink RX6 182 yX5_answerByTwo).before _ s = true := hts _ (List.mem_of_getElem? (i := 8) rfl)
  have inX6 : ∀ w ∈ u_ws RX6 TX6 6, w ∈ wsX6_answerAnew := fun w h => (List.mem_cons_of_mem _ (List.mem_append_left _ (List.mem_append_left _ (List.mem_append_right _ h))))
  have hP : va_P D ccl [(t0, .inr (7, [.ref sl, .ref ch, .ref oh, .ref xh, .ref rh, .ref sh])), (rh, .inr (6, [.ref ta, .ref qa, .ref pa])), (ta, .inl (cI, 32, .inl tf)), (qa, .inl (cI, 32, .inl qf)), (pa, .inl (cI, 32, .inl (pwZ 32)))] s.heap := hP
  have hl : lv_has ls 2 [(0, .ref t0), (1, .int tp)] := hl
  refine lv_iload_n hx hb dX6_answerAnew_0 rfl (lv_at hl 1 rfl) ?_
  refine lv_bipush (v := 32) hx hb dX6_answerAnew_1 (by decide) ?_
  have hPc : va_P D ccl [] s.heap := fun k q h => by simp at h
  have hDc : va_D A [] := ⟨fun i j p q h => by simp at h, fun k q h => by simp at h⟩
  have hFc := va_free (wc := []) hD hS hA [] rfl
  refine gx_Sv (As := [.int tp, .int 32]) (rest := []) CF (c_X6_requirePlace l hfl D cI cJ cO df s.heap.size tp 32 ) (va_cwS 2 hts gX6_answerAnew_X6_requirePlace rfl rfl rfl (by decide +kernel) ⟨Nat.le_of_ble_eq_true rfl, Nat.le_of_ble_eq_true rfl⟩)  hPc hK hDc hV hH hS hFc rfl hl.1 rfl (Nat.le_of_ble_eq_true rfl) dX6_answerAnew_3 ⟨Nat.le_of_ble_eq_true rfl, Nat.le_of_ble_eq_true rfl⟩ (fun E9 ce q9 w1 H1 locs1 hq hP1 hD1 hk hS hz hc1 hc2 hc3 => ?_) (fun w1 H1 locs1 hq hP1 hD1 hk hS hz => ?_)
  · obtain ⟨ew1, hq⟩ := hq
    dsimp only at ew1 hq
    subst ew1
    have hP := g_keep0 hP hk
    refine vx_widen (k := 1) (n := 6) (Nat.le_of_ble_eq_true rfl) (Nat.le_of_ble_eq_true rfl) ?_
    refine vx_out (fun z hz9 => absurd hz9 (hin z)) hlk hc1 hc2 hc3 (fun t ht hvm => ⟨(E9, [(t0, .inr (7, [.ref sl, .ref ch, .ref oh, .ref xh, .ref rh, .ref sh])), (rh, .inr (6, [.ref ta, .ref qa, .ref pa])), (ta, .inl (cI, 32, .inl tf)), (qa, .inl (cI, 32, .inl qf)), (pa, .inl (cI, 32, .inl (pwZ 32)))]), ⟨rfl, px1 ((isSec32 _).symm.trans hq.2) hq.1⟩, ⟨rfl, by rw [ht]; exact hP, va_K.moved hvm hK, hD⟩, hS.F ht⟩) hS.2.2 (Nat.le_refl _) (Nat.le_refl _)
  obtain ⟨rfl, hq_3⟩ := hq
  have hP := g_keep0 hP hk
  clear hPc hDc hFc hP1 hD1 hk hz
  generalize H1 = H at hP hS ⊢
  have hP : va_P D ccl [(t0, .inr (7, [.ref sl, .ref ch, .ref oh, .ref xh, .ref rh, .ref sh])), (rh, .inr (6, [.ref ta, .ref qa, .ref pa])), (ta, .inl (cI, 32, .inl tf)), (qa, .inl (cI, 32, .inl qf)), (pa, .inl (cI, 32, .inl (pwZ 32)))] H := hP
  have hD : va_D A [(t0, .inr (7, [.ref sl, .ref ch, .ref oh, .ref xh, .ref rh, .ref sh])), (rh, .inr (6, [.ref ta, .ref qa, .ref pa])), (ta, .inl (cI, 32, .inl tf)), (qa, .inl (cI, 32, .inl qf)), (pa, .inl (cI, 32, .inl (pwZ 32)))] := hD
  have hp0 : ¬ isIn tp 0 31 = 0 := by rw [← isSec32]; exact hq_3
  obtain ⟨T0, hT0, rfl⟩ := isIn_nat 31 (by decide) hp0
  refine lv_aload_n hx hb dX6_answerAnew_6 rfl (lv_at hl 0 rfl) ?_
  refine va_get (D := D) (ci := 7) (v := .ref rh) (C := RX6) (T := TX6) (N := 6) hx hb hts inX6 hown hK hP 0 rfl rfl 4 (by decide) hfieldLink_RX6_42 (fun _ h9 => h9) rfl dX6_answerAnew_7 ?_
  refine lv_iload_n hx hb dX6_answerAnew_10 rfl (lv_at hl 1 rfl) ?_
  have hPc := hP.sub (ws' := [(rh, .inr (6, [.ref ta, .ref qa, .ref pa])), (ta, .inl (cI, 32, .inl tf)), (qa, .inl (cI, 32, .inl qf)), (pa, .inl (cI, 32, .inl (pwZ 32)))]) [1, 2, 3, 4] rfl
  have hDc := hD.sub (ws' := [(rh, .inr (6, [.ref ta, .ref qa, .ref pa])), (ta, .inl (cI, 32, .inl tf)), (qa, .inl (cI, 32, .inl qf)), (pa, .inl (cI, 32, .inl (pwZ 32)))]) [1, 2, 3, 4] (by decide) rfl
  have hFc := va_free (wc := [(rh, .inr (6, [.ref ta, .ref qa, .ref pa])), (ta, .inl (cI, 32, .inl tf)), (qa, .inl (cI, 32, .inl qf)), (pa, .inl (cI, 32, .inl (pwZ 32)))]) hD hS hA [1, 2, 3, 4] rfl
  refine g_Vi (As := [.int (nI T0)]) (rest := []) CF (c_X5_answerByTwo l D cI cJ cO df H.size rh ta qa pa tf qf T0 ht (by omega)) (cwV 1 hts gX6_answerAnew_X5_answerByTwo rfl rfl rfl (by decide +kernel) ⟨Nat.le_of_ble_eq_true rfl, Nat.le_of_ble_eq_true rfl⟩) (va_recv hK hP (ci := 6) (q0 := 1) rfl rfl) hPc hK hDc hV hH hS hFc rfl hl.1 rfl (Nat.le_of_ble_eq_true rfl) dX6_answerAnew_11 ⟨Nat.le_of_ble_eq_true rfl, Nat.le_of_ble_eq_true rfl⟩ (fun r_11 w1 H1 locs1 hq hP1 hD1 hk hS hz => ?_)
  obtain ⟨rfl, hr_11⟩ := hq
  have hP := g_keepR hP hD [1, 2, 3, 4] rfl hk hP1
  clear hPc hDc hFc hP1 hD1 hk hz
  generalize H1 = H at hP hS ⊢
  have hP : va_P D ccl [(t0, .inr (7, [.ref sl, .ref ch, .ref oh, .ref xh, .ref rh, .ref sh])), (rh, .inr (6, [.ref ta, .ref qa, .ref pa])), (ta, .inl (cI, 32, .inl tf)), (qa, .inl (cI, 32, .inl qf)), (pa, .inl (cI, 32, .inl (pwZ 32)))] H := hP
  have hD : va_D A [(t0, .inr (7, [.ref sl, .ref ch, .ref oh, .ref xh, .ref rh, .ref sh])), (rh, .inr (6, [.ref ta, .ref qa, .ref pa])), (ta, .inl (cI, 32, .inl tf)), (qa, .inl (cI, 32, .inl qf)), (pa, .inl (cI, 32, .inl (pwZ 32)))] := hD
  subst hr_11
  refine vx_ret ?_
  refine g_iret (v := nI (asum tf T0 32)) hx hb hr hlk hP hK hD hS (Nat.le_of_ble_eq_true rfl) (Nat.le_of_ble_eq_true rfl) dX6_answerAnew_14 ?_
  have e9 : gN (nI T0) = T0 := gN_nI (by omega)
  exact ⟨rfl, by rw [e9], gGoOk hp0 (by decide) (by decide)⟩

set_option maxHeartbeats 4000000 in
set_option maxRecDepth 100000 in
theorem c_X6_sifted (l : Launch) (hfl : l.stackTraces = false) (D : va_G) (cI cJ cO : ClassId) (df sz : Nat) (t0 : Nat) (sl : Nat) (ch : Nat) (oh : Nat) (xh : Nat) (rh : Nat) (sh : Nat) (ta : Nat) (qa : Nat) (pa : Nat) (tf : Nat → Int32) (qf : Nat → Int32) (sb : Nat) (Y : Nat) (rw0 : Nat → Int32) (mp : Nat → Int32) (back : Int32) (ht : isR tf 32) (hY : Y ≤ 64) (hrw : ∀ i, i < Y → -96 ≤ (rw0 i).toInt ∧ (rw0 i).toInt ≤ 96) (hm8 : ∀ i, i < Y → mp i = rs97 (rw0 i)) : MxI l yX6_sifted wsX6_sifted ({ frames := 7, cells := 1, slots := 6, locals := 110 } : Room) D (gTY cI cJ cO) df [(t0, .inr (7, [.ref sl, .ref ch, .ref oh, .ref xh, .ref rh, .ref sh])), (rh, .inr (6, [.ref ta, .ref qa, .ref pa])), (ta, .inl (cI, 32, .inl tf)), (qa, .inl (cI, 32, .inl qf)), (pa, .inl (cI, 32, .inl (pwZ 32))), (sh, .inr (4, [.ref sb, .int (nI Y)])), (sb, .inl (cI, 64, .inl rw0))] sz [.ref t0, .int back] (fun (u : String × va_W) => u.2 = [(t0, .inr (7, [.ref sl, .ref ch, .ref oh, .ref xh, .ref rh, .ref sh])), (rh, .inr (6, [.ref ta, .ref qa, .ref pa])), (ta, .inl (cI, 32, .inl tf)), (qa, .inl (cI, 32, .inl qf)), (pa, .inl (cI, 32, .inl (pwZ 32))), (sh, .inr (4, [.ref sb, .int (nI Y)])), (sb, .inl (cI, 64, .inl rw0))] ∧ ¬ gGo (if back < 0 then 0 else 1) 1 1 = 0 ∧ u.1 = xN gIOB gIOB (gGo (if back < 0 then 0 else 1) 1 1)) (fun (r : Int32) (wZ : va_W) => wZ = [(t0, .inr (7, [.ref sl, .ref ch, .ref oh, .ref xh, .ref rh, .ref sh])), (rh, .inr (6, [.ref ta, .ref qa, .ref pa])), (ta, .inl (cI, 32, .inl tf)), (qa, .inl (cI, 32, .inl qf)), (pa, .inl (cI, 32, .inl (pwZ 32))), (sh, .inr (4, [.ref sb, .int (nI Y)])), (sb, .inl (cI, 64, .inl rw0))] ∧ r = (if gN back < Y then nI (ssum tf mp (gN back) Y 32) else -1) ∧ gGo (if back < 0 then 0 else 1) 1 1 = 0) := by
  refine gx_of (cc := cX6_sifted) (nL := 2) (ret := (some .int)) (D := D) (TY := (gTY cI cJ cO)) (df := df) (Qc := fun A => va_Qi (fun (r : Int32) (wZ : va_W) => wZ = [(t0, .inr (7, [.ref sl, .ref ch, .ref oh, .ref xh, .ref rh, .ref sh])), (rh, .inr (6, [.ref ta, .ref qa, .ref pa])), (ta, .inl (cI, 32, .inl tf)), (qa, .inl (cI, 32, .inl qf)), (pa, .inl (cI, 32, .inl (pwZ 32))), (sh, .inr (4, [.ref sb, .int (nI Y)])), (sb, .inl (cI, 64, .inl rw0))] ∧ r = (if gN back < Y then nI (ssum tf mp (gN back) Y 32) else -1) ∧ gGo (if back < 0 then 0 else 1) 1 1 = 0) (gB D (gTY cI cJ cO) A) A) (XC := fun A => vx_X (fun (u : String × va_W) => u.2 = [(t0, .inr (7, [.ref sl, .ref ch, .ref oh, .ref xh, .ref rh, .ref sh])), (rh, .inr (6, [.ref ta, .ref qa, .ref pa])), (ta, .inl (cI, 32, .inl tf)), (qa, .inl (cI, 32, .inl qf)), (pa, .inl (cI, 32, .inl (pwZ 32))), (sh, .inr (4, [.ref sb, .int (nI Y)])), (sb, .inl (cI, 64, .inl rw0))] ∧ ¬ gGo (if back < 0 then 0 else 1) 1 1 = 0 ∧ u.1 = xN gIOB gIOB (gGo (if back < 0 then 0 else 1) 1 1)) (gBx D (gTY cI cJ cO) A) A) (by decide +kernel) rfl (Nat.le_of_ble_eq_true rfl) ?_
  intro p e s m below meth c ls A hsz C0 hin hl
  obtain ⟨CF, hr, hlk, hA, hS, hP, hK, hD, hV, hH⟩ := C0
  have CF : CallFix p m c cX6_sifted 2 s _ wsX6_sifted RX6 := CF
  obtain ⟨hx, hb, hml, hown, hts⟩ := id CF
  subst hsz
  have hmethodLink_RX6_138 : (Cond.methodLink RX6 138 yX6_requireBack).before _ s = true := hts _ (List.mem_of_getElem? (i := 3) rfl)
  have hfieldLink_RX6_46 : (Cond.fieldLink RX6 46 "TapLoom" "samples" "LTapLoom$Latest;").before _ s = true := hts _ (List.mem_of_getElem? (i := 1) rfl)
  have hmethodLink_RX6_100 : (Cond.methodLink RX6 100 yX3_count).before _ s = true := hts _ (List.mem_of_getElem? (i := 9) rfl)
  have hfieldLink_RX6_42 : (Cond.fieldLink RX6 42 "TapLoom" "row" "LTapLoom$TapRow;").before _ s = true := hts _ (List.mem_of_getElem? (i := 2) rfl)
  have hmethodLink_RX6_185 : (Cond.methodLink RX6 185 yX5_sift).before _ s = true := hts _ (List.mem_of_getElem? (i := 15) rfl)
  have inX6 : ∀ w ∈ u_ws RX6 TX6 6, w ∈ wsX6_sifted := fun w h => (List.mem_cons_of_mem _ (List.mem_append_left _ (List.mem_append_left _ (List.mem_append_left _ (List.mem_append_right _ h)))))
  have hP : va_P D ccl [(t0, .inr (7, [.ref sl, .ref ch, .ref oh, .ref xh, .ref rh, .ref sh])), (rh, .inr (6, [.ref ta, .ref qa, .ref pa])), (ta, .inl (cI, 32, .inl tf)), (qa, .inl (cI, 32, .inl qf)), (pa, .inl (cI, 32, .inl (pwZ 32))), (sh, .inr (4, [.ref sb, .int (nI Y)])), (sb, .inl (cI, 64, .inl rw0))] s.heap := hP
  have hl : lv_has ls 2 [(0, .ref t0), (1, .int back)] := hl
  refine lv_iload_n hx hb dX6_sifted_0 rfl (lv_at hl 1 rfl) ?_
  have hPc : va_P D ccl [] s.heap := fun k q h => by simp at h
  have hDc : va_D A [] := ⟨fun i j p q h => by simp at h, fun k q h => by simp at h⟩
  have hFc := va_free (wc := []) hD hS hA [] rfl
  refine gx_Sv (As := [.int back]) (rest := []) CF (c_X6_requireBack l hfl D cI cJ cO df s.heap.size back ) (va_cwS 1 hts gX6_sifted_X6_requireBack rfl rfl rfl (by decide +kernel) ⟨Nat.le_of_ble_eq_true rfl, Nat.le_of_ble_eq_true rfl⟩)  hPc hK hDc hV hH hS hFc rfl hl.1 rfl (Nat.le_of_ble_eq_true rfl) dX6_sifted_1 ⟨Nat.le_of_ble_eq_true rfl, Nat.le_of_ble_eq_true rfl⟩ (fun E9 ce q9 w1 H1 locs1 hq hP1 hD1 hk hS hz hc1 hc2 hc3 => ?_) (fun w1 H1 locs1 hq hP1 hD1 hk hS hz => ?_)
  · obtain ⟨ew1, hq⟩ := hq
    dsimp only at ew1 hq
    subst ew1
    have hP := g_keep0 hP hk
    refine vx_widen (k := 1) (n := 6) (Nat.le_of_ble_eq_true rfl) (Nat.le_of_ble_eq_true rfl) ?_
    refine vx_out (fun z hz9 => absurd hz9 (hin z)) hlk hc1 hc2 hc3 (fun t ht hvm => ⟨(E9, [(t0, .inr (7, [.ref sl, .ref ch, .ref oh, .ref xh, .ref rh, .ref sh])), (rh, .inr (6, [.ref ta, .ref qa, .ref pa])), (ta, .inl (cI, 32, .inl tf)), (qa, .inl (cI, 32, .inl qf)), (pa, .inl (cI, 32, .inl (pwZ 32))), (sh, .inr (4, [.ref sb, .int (nI Y)])), (sb, .inl (cI, 64, .inl rw0))]), ⟨rfl, px1 ((isBk _).mpr hq.2) hq.1⟩, ⟨rfl, by rw [ht]; exact hP, va_K.moved hvm hK, hD⟩, hS.F ht⟩) hS.2.2 (Nat.le_refl _) (Nat.le_refl _)
  obtain ⟨rfl, hq_1⟩ := hq
  have hP := g_keep0 hP hk
  clear hPc hDc hFc hP1 hD1 hk hz
  generalize H1 = H at hP hS ⊢
  have hP : va_P D ccl [(t0, .inr (7, [.ref sl, .ref ch, .ref oh, .ref xh, .ref rh, .ref sh])), (rh, .inr (6, [.ref ta, .ref qa, .ref pa])), (ta, .inl (cI, 32, .inl tf)), (qa, .inl (cI, 32, .inl qf)), (pa, .inl (cI, 32, .inl (pwZ 32))), (sh, .inr (4, [.ref sb, .int (nI Y)])), (sb, .inl (cI, 64, .inl rw0))] H := hP
  have hD : va_D A [(t0, .inr (7, [.ref sl, .ref ch, .ref oh, .ref xh, .ref rh, .ref sh])), (rh, .inr (6, [.ref ta, .ref qa, .ref pa])), (ta, .inl (cI, 32, .inl tf)), (qa, .inl (cI, 32, .inl qf)), (pa, .inl (cI, 32, .inl (pwZ 32))), (sh, .inr (4, [.ref sb, .int (nI Y)])), (sb, .inl (cI, 64, .inl rw0))] := hD
  obtain ⟨B, hB, rfl⟩ := nI_of hq_1
  refine lv_iload_n hx hb dX6_sifted_4 rfl (lv_at hl 1 rfl) ?_
  refine lv_aload_n hx hb dX6_sifted_5 rfl (lv_at hl 0 rfl) ?_
  refine va_get (D := D) (ci := 7) (v := .ref sh) (C := RX6) (T := TX6) (N := 6) hx hb hts inX6 hown hK hP 0 rfl rfl 5 (by decide) hfieldLink_RX6_46 (fun _ h9 => h9) rfl dX6_sifted_6 ?_
  have hPc := hP.sub (ws' := [(sh, .inr (4, [.ref sb, .int (nI Y)])), (sb, .inl (cI, 64, .inl rw0))]) [5, 6] rfl
  have hDc := hD.sub (ws' := [(sh, .inr (4, [.ref sb, .int (nI Y)])), (sb, .inl (cI, 64, .inl rw0))]) [5, 6] (by decide) rfl
  have hFc := va_free (wc := [(sh, .inr (4, [.ref sb, .int (nI Y)])), (sb, .inl (cI, 64, .inl rw0))]) hD hS hA [5, 6] rfl
  refine g_Vi (As := []) (rest := [.int (nI B)]) CF (c_X3_count l D cI cJ cO df H.size sh sb 64 Y rw0 ) (cwV 0 hts gX6_sifted_X3_count rfl rfl rfl (by decide +kernel) ⟨Nat.le_of_ble_eq_true rfl, Nat.le_of_ble_eq_true rfl⟩) (va_recv hK hP (ci := 4) (q0 := 5) rfl rfl) hPc hK hDc hV hH hS hFc rfl hl.1 rfl (Nat.le_of_ble_eq_true rfl) dX6_sifted_9 ⟨Nat.le_of_ble_eq_true rfl, Nat.le_of_ble_eq_true rfl⟩ (fun r_9 w1 H1 locs1 hq hP1 hD1 hk hS hz => ?_)
  obtain ⟨rfl, hr_9⟩ := hq
  have hP := g_keepR hP hD [5, 6] rfl hk hP1
  clear hPc hDc hFc hP1 hD1 hk hz
  generalize H1 = H at hP hS ⊢
  have hP : va_P D ccl [(t0, .inr (7, [.ref sl, .ref ch, .ref oh, .ref xh, .ref rh, .ref sh])), (rh, .inr (6, [.ref ta, .ref qa, .ref pa])), (ta, .inl (cI, 32, .inl tf)), (qa, .inl (cI, 32, .inl qf)), (pa, .inl (cI, 32, .inl (pwZ 32))), (sh, .inr (4, [.ref sb, .int (nI Y)])), (sb, .inl (cI, 64, .inl rw0))] H := hP
  have hD : va_D A [(t0, .inr (7, [.ref sl, .ref ch, .ref oh, .ref xh, .ref rh, .ref sh])), (rh, .inr (6, [.ref ta, .ref qa, .ref pa])), (ta, .inl (cI, 32, .inl tf)), (qa, .inl (cI, 32, .inl qf)), (pa, .inl (cI, 32, .inl (pwZ 32))), (sh, .inr (4, [.ref sb, .int (nI Y)])), (sb, .inl (cI, 64, .inl rw0))] := hD
  subst hr_9
  refine lv_icmp_ge (tgt := 30) hx hb dX6_sifted_12 (by decide) (fun c_12 => ?_) (fun c_12 => ?_)
  · have c_12 : Y ≤ B := g_le (a := Y) (b := B) c_12 (by omega) (by omega)
    refine lv_iconst (v := (-1)) hx hb dX6_sifted_30 (by decide) ?_
    refine vx_ret ?_
    refine g_iret (v := (-1)) hx hb hr hlk hP hK hD hS (Nat.le_of_ble_eq_true rfl) (Nat.le_of_ble_eq_true rfl) dX6_sifted_31 ?_
    exact ⟨rfl, by rw [gN_nI hB]; exact (if_neg (by omega)).symm, gGoOk (fun h9 => hq_1 ((isBk _).mp h9)) (by decide) (by decide)⟩
  · have c_12 : B < Y := g_nle (a := Y) (b := B) c_12 (by omega) (by omega)
    refine lv_aload_n hx hb dX6_sifted_15 rfl (lv_at hl 0 rfl) ?_
    refine va_get (D := D) (ci := 7) (v := .ref rh) (C := RX6) (T := TX6) (N := 6) hx hb hts inX6 hown hK hP 0 rfl rfl 4 (by decide) hfieldLink_RX6_42 (fun _ h9 => h9) rfl dX6_sifted_16 ?_
    refine lv_aload_n hx hb dX6_sifted_19 rfl (lv_at hl 0 rfl) ?_
    refine va_get (D := D) (ci := 7) (v := .ref sh) (C := RX6) (T := TX6) (N := 6) hx hb hts inX6 hown hK hP 0 rfl rfl 5 (by decide) hfieldLink_RX6_46 (fun _ h9 => h9) rfl dX6_sifted_20 ?_
    refine lv_iload_n hx hb dX6_sifted_23 rfl (lv_at hl 1 rfl) ?_
    have hPc := hP.sub (ws' := [(rh, .inr (6, [.ref ta, .ref qa, .ref pa])), (ta, .inl (cI, 32, .inl tf)), (qa, .inl (cI, 32, .inl qf)), (pa, .inl (cI, 32, .inl (pwZ 32))), (sh, .inr (4, [.ref sb, .int (nI Y)])), (sb, .inl (cI, 64, .inl rw0))]) [1, 2, 3, 4, 5, 6] rfl
    have hDc := hD.sub (ws' := [(rh, .inr (6, [.ref ta, .ref qa, .ref pa])), (ta, .inl (cI, 32, .inl tf)), (qa, .inl (cI, 32, .inl qf)), (pa, .inl (cI, 32, .inl (pwZ 32))), (sh, .inr (4, [.ref sb, .int (nI Y)])), (sb, .inl (cI, 64, .inl rw0))]) [1, 2, 3, 4, 5, 6] (by decide) rfl
    have hFc := va_free (wc := [(rh, .inr (6, [.ref ta, .ref qa, .ref pa])), (ta, .inl (cI, 32, .inl tf)), (qa, .inl (cI, 32, .inl qf)), (pa, .inl (cI, 32, .inl (pwZ 32))), (sh, .inr (4, [.ref sb, .int (nI Y)])), (sb, .inl (cI, 64, .inl rw0))]) hD hS hA [1, 2, 3, 4, 5, 6] rfl
    refine g_Vi (As := [.ref sh, .int (nI B)]) (rest := []) CF (c_X5_sift l D cI cJ cO df H.size rh ta qa pa tf qf sh sb Y rw0 mp B ht hY (by omega) hrw hm8) (cwV 2 hts gX6_sifted_X5_sift rfl rfl rfl (by decide +kernel) ⟨Nat.le_of_ble_eq_true rfl, Nat.le_of_ble_eq_true rfl⟩) (va_recv hK hP (ci := 6) (q0 := 1) rfl rfl) hPc hK hDc hV hH hS hFc rfl hl.1 rfl (Nat.le_of_ble_eq_true rfl) dX6_sifted_24 ⟨Nat.le_of_ble_eq_true rfl, Nat.le_of_ble_eq_true rfl⟩ (fun r_24 w1 H1 locs1 hq hP1 hD1 hk hS hz => ?_)
    obtain ⟨rfl, hr_24⟩ := hq
    have hP := g_keepR hP hD [1, 2, 3, 4, 5, 6] rfl hk hP1
    clear hPc hDc hFc hP1 hD1 hk hz
    generalize H1 = H at hP hS ⊢
    have hP : va_P D ccl [(t0, .inr (7, [.ref sl, .ref ch, .ref oh, .ref xh, .ref rh, .ref sh])), (rh, .inr (6, [.ref ta, .ref qa, .ref pa])), (ta, .inl (cI, 32, .inl tf)), (qa, .inl (cI, 32, .inl qf)), (pa, .inl (cI, 32, .inl (pwZ 32))), (sh, .inr (4, [.ref sb, .int (nI Y)])), (sb, .inl (cI, 64, .inl rw0))] H := hP
    have hD : va_D A [(t0, .inr (7, [.ref sl, .ref ch, .ref oh, .ref xh, .ref rh, .ref sh])), (rh, .inr (6, [.ref ta, .ref qa, .ref pa])), (ta, .inl (cI, 32, .inl tf)), (qa, .inl (cI, 32, .inl qf)), (pa, .inl (cI, 32, .inl (pwZ 32))), (sh, .inr (4, [.ref sb, .int (nI Y)])), (sb, .inl (cI, 64, .inl rw0))] := hD
    subst hr_24
    refine lv_goto (tgt := 31) hx hb dX6_sifted_27 (by decide) ?_
    refine vx_ret ?_
    refine g_iret (v := nI (ssum tf mp B Y 32)) hx hb hr hlk hP hK hD hS (Nat.le_of_ble_eq_true rfl) (Nat.le_of_ble_eq_true rfl) dX6_sifted_31 ?_
    exact ⟨rfl, by rw [gN_nI hB]; exact (if_pos (by omega)).symm, gGoOk (fun h9 => hq_1 ((isBk _).mp h9)) (by decide) (by decide)⟩
