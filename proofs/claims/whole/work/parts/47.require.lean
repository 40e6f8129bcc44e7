set_option maxHeartbeats 4000000 in
set_option maxRecDepth 100000 in
theorem c_X6_requireWithin (l : Launch) (hfl : l.stackTraces = false) (D : va_G) (cI cJ cO : ClassId) (df sz : Nat) (v : Int32) (lo : Int32) (hi : Int32)  : MxV l yX6_requireWithin wsX6_requireWithin ({ frames := 6, cells := 1, slots := 6, locals := 90 } : Room) D (gTY cI cJ cO) df [] sz [.int v, .int lo, .int hi] (fun (u : String × va_W) => u.2 = [] ∧ u.1 = gIAE ∧ isIn v lo hi = 0) (fun (wZ : va_W) => wZ = [] ∧ ¬ isIn v lo hi = 0) := by
  refine gx_of (cc := cX6_requireWithin) (nL := 3) (ret := none) (D := D) (TY := (gTY cI cJ cO)) (df := df) (Qc := fun A => va_Qv (fun (wZ : va_W) => wZ = [] ∧ ¬ isIn v lo hi = 0) (gB D (gTY cI cJ cO) A) A) (XC := fun A => vx_X (fun (u : String × va_W) => u.2 = [] ∧ u.1 = gIAE ∧ isIn v lo hi = 0) (gBx D (gTY cI cJ cO) A) A) (by decide +kernel) rfl (Nat.le_of_ble_eq_true rfl) ?_
  intro p e s m below meth c ls A hsz C0 hin hl
  obtain ⟨CF, hr, hlk, hA, hS, hP, hK, hD, hV, hH⟩ := C0
  have CF : CallFix p m c cX6_requireWithin 3 s _ wsX6_requireWithin RX6 := CF
  obtain ⟨hx, hb, hml, hown, hts⟩ := id CF
  subst hsz
  have hclassLink_RX6_196 : (Cond.classLink RX6 196 "java/lang/IllegalArgumentException").before _ s = true := hts _ (List.mem_of_getElem? (i := 1) rfl)
  have hinitialized_java_lang_IllegalArgumentException : (Cond.initialized "java/lang/IllegalArgumentException").before _ s = true := hts _ (List.mem_of_getElem? (i := 2) rfl)
  have hXw0 : ∀ w ∈ (vx_atS RX6 200 "java/lang/IllegalArgumentException" ["java/lang/RuntimeException", "java/lang/Exception"]).filter goodWord, w.before _ s = true := fun w h => hts w (List.mem_cons_of_mem _ (List.mem_append_right _ h))
  have hP : va_P D ccl [] s.heap := hP
  have hl : lv_has ls 3 [(0, .int v), (1, .int lo), (2, .int hi)] := hl
  refine lv_iload_n hx hb dX6_requireWithin_0 rfl (lv_at hl 0 rfl) ?_
  refine lv_iload_n hx hb dX6_requireWithin_1 rfl (lv_at hl 1 rfl) ?_
  refine lv_icmp_lt (tgt := 10) hx hb dX6_requireWithin_2 (by decide) (fun c_2 => ?_) (fun c_2 => ?_)
  · have hP : va_P D ccl [] s.heap := hP
    exact gx_thr hx hb hfl hown (by decide) hclassLink_RX6_196 hinitialized_java_lang_IllegalArgumentException hV.2.2.1 hXw0 (by decide +kernel) hV hV.2.2.2.2.2.2.2.1 (by decide +kernel) hH hP hK hD hS (by rw [hml]; exact hl.1) dX6_requireWithin_10 dX6_requireWithin_13 dX6_requireWithin_14 dX6_requireWithin_16 dX6_requireWithin_19 hin (Nat.le_of_ble_eq_true rfl) (Nat.le_of_ble_eq_true rfl) (Nat.le_of_ble_eq_true rfl) (Nat.le_of_ble_eq_true rfl) hlk (Nat.le_of_ble_eq_true rfl) (Nat.le_of_ble_eq_true rfl) ⟨rfl, rfl, by unfold isIn; simp [c_2]⟩
  · refine lv_iload_n hx hb dX6_requireWithin_5 rfl (lv_at hl 0 rfl) ?_
    refine lv_iload_n hx hb dX6_requireWithin_6 rfl (lv_at hl 2 rfl) ?_
    refine lv_icmp_le (tgt := 20) hx hb dX6_requireWithin_7 (by decide) (fun c_7 => ?_) (fun c_7 => ?_)
    · have c_7 : ¬ hi < v := Int32.not_lt.mpr c_7
      refine vx_ret ?_
      refine g_vret hx hb hr hlk hP hK hD hS (Nat.le_of_ble_eq_true rfl) (Nat.le_of_ble_eq_true rfl) dX6_requireWithin_20 ?_
      exact ⟨rfl, by unfold isIn; simp [c_2, c_7]⟩
    · have c_7 : hi < v := Int32.not_le.mp c_7
      have hP : va_P D ccl [] s.heap := hP
      exact gx_thr hx hb hfl hown (by decide) hclassLink_RX6_196 hinitialized_java_lang_IllegalArgumentException hV.2.2.1 hXw0 (by decide +kernel) hV hV.2.2.2.2.2.2.2.1 (by decide +kernel) hH hP hK hD hS (by rw [hml]; exact hl.1) dX6_requireWithin_10 dX6_requireWithin_13 dX6_requireWithin_14 dX6_requireWithin_16 dX6_requireWithin_19 hin (Nat.le_of_ble_eq_true rfl) (Nat.le_of_ble_eq_true rfl) (Nat.le_of_ble_eq_true rfl) (Nat.le_of_ble_eq_true rfl) hlk (Nat.le_of_ble_eq_true rfl) (Nat.le_of_ble_eq_true rfl) ⟨rfl, rfl, by unfold isIn; simp [c_2, c_7]⟩
