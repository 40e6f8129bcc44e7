set_option maxHeartbeats 4000000 in
set_option maxRecDepth 100000 in
theorem c_X1_tryFrom (l : Launch) (D : va_G) (cI cJ cO : ClassId) (df sz : Nat) (h0 : Nat) (mk : Nat) (g : Nat → Int64) (kc : Nat) (kl : Nat) (kg : Nat) (ke : Nat) (hs : Nat) (sb : Nat) (nu : Int32) (x1 : Int32) (x2 : Int32) (y1 : Int32) (y2 : Int32) (mc : Nat → Int32) (mw : Nat → Int32) (J : Nat) (st : Nat) (A1 : Nat → Nat) (hJ : J < 8) (hc : isC mc) (hw : isW (mw J)) (hkc : kc < 10000) (hkl : kl ≤ 40401) (hkg : kg ≤ 200) (hke : ke < 10000) (hst : st < 40401) (hA0 : ∀ q, A1 q = 0 ∨ A1 q = 2 ∨ A1 q = 3) (hM0 : mkR g A1) : MetV l yX1_tryFrom wsX1_tryFrom ({ frames := 5, cells := 0, slots := 0, locals := 115 } : Room) D (gTY cI cJ cO) df [(h0, .inr (2, [.ref mk, .int (nI kc), .int (nI kl), .int (nI kg), .int (nI ke)])), (mk, .inl (cJ, 1263, .inr (.inl g))), (hs, .inr (5, [.int nu, .int (mw J), .ref sb, .int x1, .int x2, .int y1, .int y2])), (sb, .inl (cI, 5, .inl (fun z9 => if z9 < 5 then mc (5 * J + z9) else 0)))] sz [.ref h0, .ref hs, .int (nI st)] (fun (wZ : va_W) => ∃ (g1 : Nat → Int64), ∃ (A2 : Nat → Nat), ∃ (c1 : Nat), ∃ (l1 : Nat), ∃ (g9 : Nat), ∃ (e1 : Nat), wZ = [(h0, .inr (2, [.ref mk, .int (nI c1), .int (nI l1), .int (nI g9), .int (nI e1)])), (mk, .inl (cJ, 1263, .inr (.inl g1))), (hs, .inr (5, [.int nu, .int (mw J), .ref sb, .int x1, .int x2, .int y1, .int y2])), (sb, .inl (cI, 5, .inl (fun z9 => if z9 < 5 then mc (5 * J + z9) else 0)))] ∧ mkR g1 A2 ∧ (∀ q, A2 q = 0 ∨ A2 q = 2 ∨ A2 q = 3) ∧ wrel (nxO mc mw J) st A1 kc kl kg A2 c1 l1 g9 ∧ e1 = ke + (if A2 st = 3 then 1 else 0) ∧ c1 ≤ kc + 1 ∧ l1 ≤ 40401 ∧ g9 ≤ 200) := by
  refine g_of (cc := cX1_tryFrom) (nL := 5) (ret := none) (D := D) (TY := (gTY cI cJ cO)) (df := df) (Qc := fun A => va_Qv (fun (wZ : va_W) => ∃ (g1 : Nat → Int64), ∃ (A2 : Nat → Nat), ∃ (c1 : Nat), ∃ (l1 : Nat), ∃ (g9 : Nat), ∃ (e1 : Nat), wZ = [(h0, .inr (2, [.ref mk, .int (nI c1), .int (nI l1), .int (nI g9), .int (nI e1)])), (mk, .inl (cJ, 1263, .inr (.inl g1))), (hs, .inr (5, [.int nu, .int (mw J), .ref sb, .int x1, .int x2, .int y1, .int y2])), (sb, .inl (cI, 5, .inl (fun z9 => if z9 < 5 then mc (5 * J + z9) else 0)))] ∧ mkR g1 A2 ∧ (∀ q, A2 q = 0 ∨ A2 q = 2 ∨ A2 q = 3) ∧ wrel (nxO mc mw J) st A1 kc kl kg A2 c1 l1 g9 ∧ e1 = ke + (if A2 st = 3 then 1 else 0) ∧ c1 ≤ kc + 1 ∧ l1 ≤ 40401 ∧ g9 ≤ 200) (gB D (gTY cI cJ cO) A) A) (by decide +kernel) rfl (Nat.le_of_ble_eq_true rfl) ?_
  intro p e s m below meth c ls A hsz C0 hin hl
  obtain ⟨CF, hr, hlk, hA, hS, hP, hK, hD, hV, hH⟩ := C0
  have CF : CallFix p m c cX1_tryFrom 5 s _ wsX1_tryFrom RX1 := CF
  obtain ⟨hx, hb, hml, hown, hts⟩ := id CF
  subst hsz
  have hmethodLink_RX1_40 : (Cond.methodLink RX1 40 yX1_walk).before _ s = true := hts _ (List.mem_of_getElem? (i := 2) rfl)
  have hmethodLink_RX1_44 : (Cond.methodLink RX1 44 yX1_markOf).before _ s = true := hts _ (List.mem_of_getElem? (i := 8) rfl)
  have hfieldLink_RX1_29 : (Cond.fieldLink RX1 29 "TapLoom$CycleSearch" "leaving" "I").before _ s = true := hts _ (List.mem_of_getElem? (i := 1) rfl)
  have hmethodLink_RX1_48 : (Cond.methodLink RX1 48 yX1_countCycle).before _ s = true := hts _ (List.mem_of_getElem? (i := 59) rfl)
  have inX1 : ∀ w ∈ u_ws RX1 TX1 5, w ∈ wsX1_tryFrom := fun w h => (List.mem_cons_of_mem _ (List.mem_append_left _ (List.mem_append_right _ h)))
  have hP : va_P D ccl [(h0, .inr (2, [.ref mk, .int (nI kc), .int (nI kl), .int (nI kg), .int (nI ke)])), (mk, .inl (cJ, 1263, .inr (.inl g))), (hs, .inr (5, [.int nu, .int (mw J), .ref sb, .int x1, .int x2, .int y1, .int y2])), (sb, .inl (cI, 5, .inl (fun z9 => if z9 < 5 then mc (5 * J + z9) else 0)))] s.heap := hP
  have hl : lv_has ls 5 [(0, .ref h0), (1, .ref hs), (2, .int (nI st))] := hl
  have hX : ∀ q t, q < 40401 → nxO mc mw J q = some t → t < 40401 := fun q t h1 h2 => nxO_lt h1 h2
  have hno1 : ∀ q, A1 q ≠ 1 := fun q h9 => by have := hA0 q; omega
  refine lv_aload_n hx hb dX1_tryFrom_0 rfl (lv_at hl 0 rfl) ?_
  refine lv_aload_n hx hb dX1_tryFrom_1 rfl (lv_at hl 1 rfl) ?_
  refine lv_iload_n hx hb dX1_tryFrom_2 rfl (lv_at hl 2 rfl) ?_
  refine lv_iconst (v := 0) hx hb dX1_tryFrom_3 (by decide) ?_
  refine lv_iconst (v := 1) hx hb dX1_tryFrom_4 (by decide) ?_
  have hPc := hP.sub (ws' := [(h0, .inr (2, [.ref mk, .int (nI kc), .int (nI kl), .int (nI kg), .int (nI ke)])), (mk, .inl (cJ, 1263, .inr (.inl g))), (hs, .inr (5, [.int nu, .int (mw J), .ref sb, .int x1, .int x2, .int y1, .int y2])), (sb, .inl (cI, 5, .inl (fun z9 => if z9 < 5 then mc (5 * J + z9) else 0)))]) [0, 1, 2, 3] rfl
  have hDc := hD.sub (ws' := [(h0, .inr (2, [.ref mk, .int (nI kc), .int (nI kl), .int (nI kg), .int (nI ke)])), (mk, .inl (cJ, 1263, .inr (.inl g))), (hs, .inr (5, [.int nu, .int (mw J), .ref sb, .int x1, .int x2, .int y1, .int y2])), (sb, .inl (cI, 5, .inl (fun z9 => if z9 < 5 then mc (5 * J + z9) else 0)))]) [0, 1, 2, 3] (by decide) rfl
  have hFc := va_free (wc := [(h0, .inr (2, [.ref mk, .int (nI kc), .int (nI kl), .int (nI kg), .int (nI ke)])), (mk, .inl (cJ, 1263, .inr (.inl g))), (hs, .inr (5, [.int nu, .int (mw J), .ref sb, .int x1, .int x2, .int y1, .int y2])), (sb, .inl (cI, 5, .inl (fun z9 => if z9 < 5 then mc (5 * J + z9) else 0)))]) hD hS hA [0, 1, 2, 3] rfl
  refine g_Vi (As := [.ref hs, .int (nI st), .int 0, .int 1]) (rest := []) CF (c_X1_walk l D cI cJ cO df s.heap.size h0 mk g (nI kc) (nI kl) (nI kg) (nI ke) hs sb nu x1 x2 y1 y2 mc mw J st A1 hJ hc hw hst hM0) (cwV 4 hts gX1_tryFrom_X1_walk rfl rfl rfl (by decide +kernel) ⟨Nat.le_of_ble_eq_true rfl, Nat.le_of_ble_eq_true rfl⟩) (va_recv hK hP (ci := 2) (q0 := 0) rfl rfl) hPc hK hDc hV hH hS hFc rfl hl.1 rfl (Nat.le_of_ble_eq_true rfl) dX1_tryFrom_5 ⟨Nat.le_of_ble_eq_true rfl, Nat.le_of_ble_eq_true rfl⟩ (fun r_5 w1 H1 locs1 hq hP1 hD1 hk hS hz => ?_)
  obtain ⟨g2, rfl, hq_5⟩ := hq
  obtain ⟨hP, hD⟩ := g_join (ws' := [(h0, .inr (2, [.ref mk, .int (nI kc), .int (nI kl), .int (nI kg), .int (nI ke)])), (mk, .inl (cJ, 1263, .inr (.inl g2))), (hs, .inr (5, [.int nu, .int (mw J), .ref sb, .int x1, .int x2, .int y1, .int y2])), (sb, .inl (cI, 5, .inl (fun z9 => if z9 < 5 then mc (5 * J + z9) else 0)))]) hP hD hk hFc hP1 hD1 [0, 1, 2, 3] [] [0, 1, 2, 3] rfl rfl (by decide) (by decide) (by decide) rfl
  clear hPc hDc hFc hP1 hD1 hk hz
  generalize H1 = H at hP hS ⊢
  have hP : va_P D ccl [(h0, .inr (2, [.ref mk, .int (nI kc), .int (nI kl), .int (nI kg), .int (nI ke)])), (mk, .inl (cJ, 1263, .inr (.inl g2))), (hs, .inr (5, [.int nu, .int (mw J), .ref sb, .int x1, .int x2, .int y1, .int y2])), (sb, .inl (cI, 5, .inl (fun z9 => if z9 < 5 then mc (5 * J + z9) else 0)))] H := hP
  have hD : va_D A [(h0, .inr (2, [.ref mk, .int (nI kc), .int (nI kl), .int (nI kg), .int (nI ke)])), (mk, .inl (cJ, 1263, .inr (.inl g2))), (hs, .inr (5, [.int nu, .int (mw J), .ref sb, .int x1, .int x2, .int y1, .int y2])), (sb, .inl (cI, 5, .inl (fun z9 => if z9 < 5 then mc (5 * J + z9) else 0)))] := hD
  obtain ⟨n, hstp, rfl, hM2⟩ := hq_5
  have hn9 := wayN_le hX hst hstp.1
  have hT : ∀ k, k < n → tv (nxO mc mw J) st k < 40401 := fun k hk => way_lt hX hst hstp.1 hk
  refine lv_istore_n (lv' := [(3, .int (oI (tr (nxO mc mw J) st n))), (0, .ref h0), (1, .ref hs), (2, .int (nI st))]) hx hb dX1_tryFrom_8 rfl hl (by decide) rfl (fun ls hl => ?_)
  by_cases hnone : tr (nxO mc mw J) st n = none
  · have hl : lv_has ls 5 [(3, .int (-1)), (0, .ref h0), (1, .ref hs), (2, .int (nI st))] := by rw [hnone] at hl; exact hl
    refine lv_aload_n hx hb dX1_tryFrom_9 rfl (lv_at hl 1 rfl) ?_
    refine lv_iload_n hx hb dX1_tryFrom_10 rfl (lv_at hl 0 rfl) ?_
    have hPc := hP.sub (ws' := [(h0, .inr (2, [.ref mk, .int (nI kc), .int (nI kl), .int (nI kg), .int (nI ke)])), (mk, .inl (cJ, 1263, .inr (.inl g2)))]) [0, 1] rfl
    have hDc := hD.sub (ws' := [(h0, .inr (2, [.ref mk, .int (nI kc), .int (nI kl), .int (nI kg), .int (nI ke)])), (mk, .inl (cJ, 1263, .inr (.inl g2)))]) [0, 1] (by decide) rfl
    have hFc := va_free (wc := [(h0, .inr (2, [.ref mk, .int (nI kc), .int (nI kl), .int (nI kg), .int (nI ke)])), (mk, .inl (cJ, 1263, .inr (.inl g2)))]) hD hS hA [0, 1] rfl
    refine g_Vi (As := [.int (-1)]) (rest := []) CF (c_X1_markOf_n l D cI cJ cO df H.size h0 mk g2 (nI kc) (nI kl) (nI kg) (nI ke) ) (cwV 1 hts gX1_tryFrom_X1_markOf rfl rfl rfl (by decide +kernel) ⟨Nat.le_of_ble_eq_true rfl, Nat.le_of_ble_eq_true rfl⟩) (va_recv hK hP (ci := 2) (q0 := 0) rfl rfl) hPc hK hDc hV hH hS hFc rfl hl.1 rfl (Nat.le_of_ble_eq_true rfl) dX1_tryFrom_11 ⟨Nat.le_of_ble_eq_true rfl, Nat.le_of_ble_eq_true rfl⟩ (fun r_11 w1 H1 locs1 hq hP1 hD1 hk hS hz => ?_)
    obtain ⟨rfl, hr_11⟩ := hq
    have hP := g_keepR hP hD [0, 1] rfl hk hP1
    clear hPc hDc hFc hP1 hD1 hk hz
    generalize H1 = H at hP hS ⊢
    have hP : va_P D ccl [(h0, .inr (2, [.ref mk, .int (nI kc), .int (nI kl), .int (nI kg), .int (nI ke)])), (mk, .inl (cJ, 1263, .inr (.inl g2))), (hs, .inr (5, [.int nu, .int (mw J), .ref sb, .int x1, .int x2, .int y1, .int y2])), (sb, .inl (cI, 5, .inl (fun z9 => if z9 < 5 then mc (5 * J + z9) else 0)))] H := hP
    have hD : va_D A [(h0, .inr (2, [.ref mk, .int (nI kc), .int (nI kl), .int (nI kg), .int (nI ke)])), (mk, .inl (cJ, 1263, .inr (.inl g2))), (hs, .inr (5, [.int nu, .int (mw J), .ref sb, .int x1, .int x2, .int y1, .int y2])), (sb, .inl (cI, 5, .inl (fun z9 => if z9 < 5 then mc (5 * J + z9) else 0)))] := hD
    subst hr_11
    refine lv_istore (lv' := [(4, .int 3), (3, .int (-1)), (0, .ref h0), (1, .ref hs), (2, .int (nI st))]) hx hb dX1_tryFrom_14 hl (by decide) rfl (fun ls hl => ?_)
    refine lv_iload hx hb dX1_tryFrom_16 (lv_at hl 0 rfl) ?_
    refine lv_iconst (v := 1) hx hb dX1_tryFrom_18 (by decide) ?_
    refine lv_icmp_ne (tgt := 35) hx hb dX1_tryFrom_19 (by decide) (fun c_19 => ?_) (fun c_19 => ?_)
    · refine lv_aload_n hx hb dX1_tryFrom_35 rfl (lv_at hl 2 rfl) ?_
      refine lv_aload_n hx hb dX1_tryFrom_36 rfl (lv_at hl 3 rfl) ?_
      refine lv_iload_n hx hb dX1_tryFrom_37 rfl (lv_at hl 4 rfl) ?_
      refine lv_iconst (v := 1) hx hb dX1_tryFrom_38 (by decide) ?_
      refine lv_iload hx hb dX1_tryFrom_39 (lv_at hl 0 rfl) ?_
      refine lv_iconst (v := 3) hx hb dX1_tryFrom_41 (by decide) ?_
      refine lv_icmp_ne (tgt := 49) hx hb dX1_tryFrom_42 (by decide) (fun c_42 => ?_) (fun c_42 => ?_)
      · exact absurd c_42 (by decide)
      · refine lv_iconst (v := 3) hx hb dX1_tryFrom_45 (by decide) ?_
        refine lv_goto (tgt := 50) hx hb dX1_tryFrom_46 (by decide) ?_
        have hPc := hP.sub (ws' := [(h0, .inr (2, [.ref mk, .int (nI kc), .int (nI kl), .int (nI kg), .int (nI ke)])), (mk, .inl (cJ, 1263, .inr (.inl g2))), (hs, .inr (5, [.int nu, .int (mw J), .ref sb, .int x1, .int x2, .int y1, .int y2])), (sb, .inl (cI, 5, .inl (fun z9 => if z9 < 5 then mc (5 * J + z9) else 0)))]) [0, 1, 2, 3] rfl
        have hDc := hD.sub (ws' := [(h0, .inr (2, [.ref mk, .int (nI kc), .int (nI kl), .int (nI kg), .int (nI ke)])), (mk, .inl (cJ, 1263, .inr (.inl g2))), (hs, .inr (5, [.int nu, .int (mw J), .ref sb, .int x1, .int x2, .int y1, .int y2])), (sb, .inl (cI, 5, .inl (fun z9 => if z9 < 5 then mc (5 * J + z9) else 0)))]) [0, 1, 2, 3] (by decide) rfl
        have hFc := va_free (wc := [(h0, .inr (2, [.ref mk, .int (nI kc), .int (nI kl), .int (nI kg), .int (nI ke)])), (mk, .inl (cJ, 1263, .inr (.inl g2))), (hs, .inr (5, [.int nu, .int (mw J), .ref sb, .int x1, .int x2, .int y1, .int y2])), (sb, .inl (cI, 5, .inl (fun z9 => if z9 < 5 then mc (5 * J + z9) else 0)))]) hD hS hA [0, 1, 2, 3] rfl
        refine g_Vi (As := [.ref hs, .int (nI st), .int 1, .int 3]) (rest := []) CF (c_X1_walk_d l D cI cJ cO df H.size h0 mk g2 (nI kc) (nI kl) (nI kg) (nI ke) hs sb nu x1 x2 y1 y2 mc mw J st A1 n 3 hJ hc hw hst hstp hno1 (by decide) hM2) (cwV 4 hts gX1_tryFrom_X1_walk rfl rfl rfl (by decide +kernel) ⟨Nat.le_of_ble_eq_true rfl, Nat.le_of_ble_eq_true rfl⟩) (va_recv hK hP (ci := 2) (q0 := 0) rfl rfl) hPc hK hDc hV hH hS hFc rfl hl.1 rfl (Nat.le_of_ble_eq_true rfl) dX1_tryFrom_50 ⟨Nat.le_of_ble_eq_true rfl, Nat.le_of_ble_eq_true rfl⟩ (fun r_50 w1 H1 locs1 hq hP1 hD1 hk hS hz => ?_)
        obtain ⟨g3, rfl, hq_50⟩ := hq
        obtain ⟨hP, hD⟩ := g_join (ws' := [(h0, .inr (2, [.ref mk, .int (nI kc), .int (nI kl), .int (nI kg), .int (nI ke)])), (mk, .inl (cJ, 1263, .inr (.inl g3))), (hs, .inr (5, [.int nu, .int (mw J), .ref sb, .int x1, .int x2, .int y1, .int y2])), (sb, .inl (cI, 5, .inl (fun z9 => if z9 < 5 then mc (5 * J + z9) else 0)))]) hP hD hk hFc hP1 hD1 [0, 1, 2, 3] [] [0, 1, 2, 3] rfl rfl (by decide) (by decide) (by decide) rfl
        clear hPc hDc hFc hP1 hD1 hk hz
        generalize H1 = H at hP hS ⊢
        have hP : va_P D ccl [(h0, .inr (2, [.ref mk, .int (nI kc), .int (nI kl), .int (nI kg), .int (nI ke)])), (mk, .inl (cJ, 1263, .inr (.inl g3))), (hs, .inr (5, [.int nu, .int (mw J), .ref sb, .int x1, .int x2, .int y1, .int y2])), (sb, .inl (cI, 5, .inl (fun z9 => if z9 < 5 then mc (5 * J + z9) else 0)))] H := hP
        have hD : va_D A [(h0, .inr (2, [.ref mk, .int (nI kc), .int (nI kl), .int (nI kg), .int (nI ke)])), (mk, .inl (cJ, 1263, .inr (.inl g3))), (hs, .inr (5, [.int nu, .int (mw J), .ref sb, .int x1, .int x2, .int y1, .int y2])), (sb, .inl (cI, 5, .inl (fun z9 => if z9 < 5 then mc (5 * J + z9) else 0)))] := hD
        have hM3 := hq_50
        refine lv_pop hx hb dX1_tryFrom_53 rfl ?_
        refine lv_iload hx hb dX1_tryFrom_54 (lv_at hl 0 rfl) ?_
        refine lv_iconst (v := 3) hx hb dX1_tryFrom_56 (by decide) ?_
        refine lv_icmp_ne (tgt := 70) hx hb dX1_tryFrom_57 (by decide) (fun c_57 => ?_) (fun c_57 => ?_)
        · exact absurd c_57 (by decide)
        · refine lv_aload_n hx hb dX1_tryFrom_60 rfl (lv_at hl 2 rfl) ?_
          refine lv_dup hx hb dX1_tryFrom_61 rfl ?_
          refine va_get (D := D) (ci := 2) (v := .int (nI ke)) (C := RX1) (T := TX1) (N := 5) hx hb hts inX1 hown hK hP 0 rfl rfl 4 (by decide) hfieldLink_RX1_29 (fun _ h9 => h9) rfl dX1_tryFrom_62 ?_
          refine lv_iconst (v := 1) hx hb dX1_tryFrom_65 (by decide) ?_
          refine lv_iadd hx hb dX1_tryFrom_66 ?_
          refine lv_topi (fun f ef => ?_)
          obtain rfl : f = nI (ke + 1) := ef.trans (nI_add _ _)
          refine va_put (D := D) (ci := 2) (v := .int (nI (ke + 1))) (ty := .int) (C := RX1) (T := TX1) (N := 5) hx hb hts inX1 tyX1 tyX1_ok nmX1 hown hK hP hD hS 0 rfl rfl 4 (by decide) hfieldLink_RX1_29 (fun _ h9 => h9) rfl (by decide +kernel) rfl rfl (Nat.le_of_ble_eq_true rfl) dX1_tryFrom_67 (fun H locs hP hD hS => ?_)
          have hP : va_P D ccl [(h0, .inr (2, [.ref mk, .int (nI kc), .int (nI kl), .int (nI kg), .int (nI (ke + 1))])), (mk, .inl (cJ, 1263, .inr (.inl g3))), (hs, .inr (5, [.int nu, .int (mw J), .ref sb, .int x1, .int x2, .int y1, .int y2])), (sb, .inl (cI, 5, .inl (fun z9 => if z9 < 5 then mc (5 * J + z9) else 0)))] H := hP
          have hD : va_D A [(h0, .inr (2, [.ref mk, .int (nI kc), .int (nI kl), .int (nI kg), .int (nI (ke + 1))])), (mk, .inl (cJ, 1263, .inr (.inl g3))), (hs, .inr (5, [.int nu, .int (mw J), .ref sb, .int x1, .int x2, .int y1, .int y2])), (sb, .inl (cI, 5, .inl (fun z9 => if z9 < 5 then mc (5 * J + z9) else 0)))] := hD
          refine g_vret hx hb hr hlk hP hK hD hS (Nat.le_of_ble_eq_true rfl) (Nat.le_of_ble_eq_true rfl) dX1_tryFrom_70 ?_
          have hs9 : amk (nxO mc mw J) st A1 3 n st = 3 := amk_st (fun h9 => by rw [h9] at hnone; cases hnone)
          have hs3 :  amk (nxO mc mw J) st A1 3 n st = 3 := hs9
          exact ⟨_, (amk (nxO mc mw J) st A1 3 n), kc, kl, kg, (ke + 1), rfl, hM3, amk_023 hA0 (by decide), ⟨n, hstp, by
            unfold kd; rw [hnone], ⟨fun i9 hi9 h9 => (by rw [hnone] at h9; cases h9), fun _ => ⟨rfl, rfl, rfl⟩⟩⟩, by rw [if_pos hs3], by omega, by omega, hkg⟩
    · exact absurd c_19 (by decide)
  · obtain ⟨a, ha⟩ := Option.ne_none_iff_exists'.mp hnone
    have hal : a < 40401 := tr_lt hX hst n a ha
    have hl : lv_has ls 5 [(3, .int (nI a)), (0, .ref h0), (1, .ref hs), (2, .int (nI st))] := by rw [ha] at hl; exact hl
    refine lv_aload_n hx hb dX1_tryFrom_9 rfl (lv_at hl 1 rfl) ?_
    refine lv_iload_n hx hb dX1_tryFrom_10 rfl (lv_at hl 0 rfl) ?_
    have hPc := hP.sub (ws' := [(h0, .inr (2, [.ref mk, .int (nI kc), .int (nI kl), .int (nI kg), .int (nI ke)])), (mk, .inl (cJ, 1263, .inr (.inl g2)))]) [0, 1] rfl
    have hDc := hD.sub (ws' := [(h0, .inr (2, [.ref mk, .int (nI kc), .int (nI kl), .int (nI kg), .int (nI ke)])), (mk, .inl (cJ, 1263, .inr (.inl g2)))]) [0, 1] (by decide) rfl
    have hFc := va_free (wc := [(h0, .inr (2, [.ref mk, .int (nI kc), .int (nI kl), .int (nI kg), .int (nI ke)])), (mk, .inl (cJ, 1263, .inr (.inl g2)))]) hD hS hA [0, 1] rfl
    refine g_Vi (As := [.int (nI a)]) (rest := []) CF (c_X1_markOf l D cI cJ cO df H.size h0 mk g2 (nI kc) (nI kl) (nI kg) (nI ke) a (amk (nxO mc mw J) st A1 1 n) hal hM2) (cwV 1 hts gX1_tryFrom_X1_markOf rfl rfl rfl (by decide +kernel) ⟨Nat.le_of_ble_eq_true rfl, Nat.le_of_ble_eq_true rfl⟩) (va_recv hK hP (ci := 2) (q0 := 0) rfl rfl) hPc hK hDc hV hH hS hFc rfl hl.1 rfl (Nat.le_of_ble_eq_true rfl) dX1_tryFrom_11 ⟨Nat.le_of_ble_eq_true rfl, Nat.le_of_ble_eq_true rfl⟩ (fun r_11 w1 H1 locs1 hq hP1 hD1 hk hS hz => ?_)
    obtain ⟨rfl, hr_11⟩ := hq
    have hP := g_keepR hP hD [0, 1] rfl hk hP1
    clear hPc hDc hFc hP1 hD1 hk hz
    generalize H1 = H at hP hS ⊢
    have hP : va_P D ccl [(h0, .inr (2, [.ref mk, .int (nI kc), .int (nI kl), .int (nI kg), .int (nI ke)])), (mk, .inl (cJ, 1263, .inr (.inl g2))), (hs, .inr (5, [.int nu, .int (mw J), .ref sb, .int x1, .int x2, .int y1, .int y2])), (sb, .inl (cI, 5, .inl (fun z9 => if z9 < 5 then mc (5 * J + z9) else 0)))] H := hP
    have hD : va_D A [(h0, .inr (2, [.ref mk, .int (nI kc), .int (nI kl), .int (nI kg), .int (nI ke)])), (mk, .inl (cJ, 1263, .inr (.inl g2))), (hs, .inr (5, [.int nu, .int (mw J), .ref sb, .int x1, .int x2, .int y1, .int y2])), (sb, .inl (cI, 5, .inl (fun z9 => if z9 < 5 then mc (5 * J + z9) else 0)))] := hD
    subst hr_11
    by_cases hrep : ∃ i, i < n ∧ tv (nxO mc mw J) st i = a
    · obtain ⟨i, hi, hia⟩ := hrep
      refine lv_topi (fun f ef => ?_)
      obtain rfl : f = 1 := ef.trans (show _ = nI 1 from congrArg nI (amk_in ⟨i, hi, hia⟩))
      refine lv_istore (lv' := [(4, .int 1), (3, .int (nI a)), (0, .ref h0), (1, .ref hs), (2, .int (nI st))]) hx hb dX1_tryFrom_14 hl (by decide) rfl (fun ls hl => ?_)
      refine lv_iload hx hb dX1_tryFrom_16 (lv_at hl 0 rfl) ?_
      refine lv_iconst (v := 1) hx hb dX1_tryFrom_18 (by decide) ?_
      refine lv_icmp_ne (tgt := 35) hx hb dX1_tryFrom_19 (by decide) (fun c_19 => ?_) (fun c_19 => ?_)
      · exact absurd c_19 (by decide)
      · refine lv_iload_n hx hb dX1_tryFrom_22 rfl (lv_at hl 1 rfl) ?_
        refine lv_sipush (v := 20200) hx hb dX1_tryFrom_23 (by decide) ?_
        have hT8 : a < 40401 := hal
        refine lv_icmp_eq (tgt := 35) hx hb dX1_tryFrom_26 (by decide) (fun c_26 => ?_) (fun c_26 => ?_)
        · have c_26 : a = 20200 := g_eq (a := a) (b := 20200) c_26 (by omega) (by omega)
          refine lv_aload_n hx hb dX1_tryFrom_35 rfl (lv_at hl 2 rfl) ?_
          refine lv_aload_n hx hb dX1_tryFrom_36 rfl (lv_at hl 3 rfl) ?_
          refine lv_iload_n hx hb dX1_tryFrom_37 rfl (lv_at hl 4 rfl) ?_
          refine lv_iconst (v := 1) hx hb dX1_tryFrom_38 (by decide) ?_
          refine lv_iload hx hb dX1_tryFrom_39 (lv_at hl 0 rfl) ?_
          refine lv_iconst (v := 3) hx hb dX1_tryFrom_41 (by decide) ?_
          refine lv_icmp_ne (tgt := 49) hx hb dX1_tryFrom_42 (by decide) (fun c_42 => ?_) (fun c_42 => ?_)
          · refine lv_iconst (v := 2) hx hb dX1_tryFrom_49 (by decide) ?_
            have hPc := hP.sub (ws' := [(h0, .inr (2, [.ref mk, .int (nI kc), .int (nI kl), .int (nI kg), .int (nI ke)])), (mk, .inl (cJ, 1263, .inr (.inl g2))), (hs, .inr (5, [.int nu, .int (mw J), .ref sb, .int x1, .int x2, .int y1, .int y2])), (sb, .inl (cI, 5, .inl (fun z9 => if z9 < 5 then mc (5 * J + z9) else 0)))]) [0, 1, 2, 3] rfl
            have hDc := hD.sub (ws' := [(h0, .inr (2, [.ref mk, .int (nI kc), .int (nI kl), .int (nI kg), .int (nI ke)])), (mk, .inl (cJ, 1263, .inr (.inl g2))), (hs, .inr (5, [.int nu, .int (mw J), .ref sb, .int x1, .int x2, .int y1, .int y2])), (sb, .inl (cI, 5, .inl (fun z9 => if z9 < 5 then mc (5 * J + z9) else 0)))]) [0, 1, 2, 3] (by decide) rfl
            have hFc := va_free (wc := [(h0, .inr (2, [.ref mk, .int (nI kc), .int (nI kl), .int (nI kg), .int (nI ke)])), (mk, .inl (cJ, 1263, .inr (.inl g2))), (hs, .inr (5, [.int nu, .int (mw J), .ref sb, .int x1, .int x2, .int y1, .int y2])), (sb, .inl (cI, 5, .inl (fun z9 => if z9 < 5 then mc (5 * J + z9) else 0)))]) hD hS hA [0, 1, 2, 3] rfl
            refine g_Vi (As := [.ref hs, .int (nI st), .int 1, .int 2]) (rest := []) CF (c_X1_walk_d l D cI cJ cO df H.size h0 mk g2 (nI kc) (nI kl) (nI kg) (nI ke) hs sb nu x1 x2 y1 y2 mc mw J st A1 n 2 hJ hc hw hst hstp hno1 (by decide) hM2) (cwV 4 hts gX1_tryFrom_X1_walk rfl rfl rfl (by decide +kernel) ⟨Nat.le_of_ble_eq_true rfl, Nat.le_of_ble_eq_true rfl⟩) (va_recv hK hP (ci := 2) (q0 := 0) rfl rfl) hPc hK hDc hV hH hS hFc rfl hl.1 rfl (Nat.le_of_ble_eq_true rfl) dX1_tryFrom_50 ⟨Nat.le_of_ble_eq_true rfl, Nat.le_of_ble_eq_true rfl⟩ (fun r_50 w1 H1 locs1 hq hP1 hD1 hk hS hz => ?_)
            obtain ⟨g3, rfl, hq_50⟩ := hq
            obtain ⟨hP, hD⟩ := g_join (ws' := [(h0, .inr (2, [.ref mk, .int (nI kc), .int (nI kl), .int (nI kg), .int (nI ke)])), (mk, .inl (cJ, 1263, .inr (.inl g3))), (hs, .inr (5, [.int nu, .int (mw J), .ref sb, .int x1, .int x2, .int y1, .int y2])), (sb, .inl (cI, 5, .inl (fun z9 => if z9 < 5 then mc (5 * J + z9) else 0)))]) hP hD hk hFc hP1 hD1 [0, 1, 2, 3] [] [0, 1, 2, 3] rfl rfl (by decide) (by decide) (by decide) rfl
            clear hPc hDc hFc hP1 hD1 hk hz
            generalize H1 = H at hP hS ⊢
            have hP : va_P D ccl [(h0, .inr (2, [.ref mk, .int (nI kc), .int (nI kl), .int (nI kg), .int (nI ke)])), (mk, .inl (cJ, 1263, .inr (.inl g3))), (hs, .inr (5, [.int nu, .int (mw J), .ref sb, .int x1, .int x2, .int y1, .int y2])), (sb, .inl (cI, 5, .inl (fun z9 => if z9 < 5 then mc (5 * J + z9) else 0)))] H := hP
            have hD : va_D A [(h0, .inr (2, [.ref mk, .int (nI kc), .int (nI kl), .int (nI kg), .int (nI ke)])), (mk, .inl (cJ, 1263, .inr (.inl g3))), (hs, .inr (5, [.int nu, .int (mw J), .ref sb, .int x1, .int x2, .int y1, .int y2])), (sb, .inl (cI, 5, .inl (fun z9 => if z9 < 5 then mc (5 * J + z9) else 0)))] := hD
            have hM3 := hq_50
            refine lv_pop hx hb dX1_tryFrom_53 rfl ?_
            refine lv_iload hx hb dX1_tryFrom_54 (lv_at hl 0 rfl) ?_
            refine lv_iconst (v := 3) hx hb dX1_tryFrom_56 (by decide) ?_
            refine lv_icmp_ne (tgt := 70) hx hb dX1_tryFrom_57 (by decide) (fun c_57 => ?_) (fun c_57 => ?_)
            · refine g_vret hx hb hr hlk hP hK hD hS (Nat.le_of_ble_eq_true rfl) (Nat.le_of_ble_eq_true rfl) dX1_tryFrom_70 ?_
              have hs9 : amk (nxO mc mw J) st A1 2 n st = 2 := amk_st (fun h9 => absurd (h9 ▸ hi) (Nat.not_lt_zero i))
              have hs3 : ¬ amk (nxO mc mw J) st A1 2 n st = 3 := (by rw [hs9]; decide)
              exact ⟨_, (amk (nxO mc mw J) st A1 2 n), kc, kl, kg, ke, rfl, hM3, amk_023 hA0 (by decide), ⟨n, hstp, by
                unfold kd; rw [ha]; dsimp only; rw [if_pos (by rw [← hia]; exact (hstp.1.1 i hi).2)], ⟨fun i9 hi9 h9 hne => absurd (by rw [ha] at h9; cases h9; exact c_26) hne, fun _ => ⟨rfl, rfl, rfl⟩⟩⟩, by rw [if_neg hs3]; rfl, by omega, by omega, hkg⟩
            · exact absurd c_57 (by decide)
          · exact absurd c_42 (by decide)
        · have c_26 : a ≠ 20200 := g_ne (a := a) (b := 20200) c_26 (by omega) (by omega)
          refine lv_aload_n hx hb dX1_tryFrom_29 rfl (lv_at hl 2 rfl) ?_
          refine lv_aload_n hx hb dX1_tryFrom_30 rfl (lv_at hl 3 rfl) ?_
          refine lv_iload_n hx hb dX1_tryFrom_31 rfl (lv_at hl 1 rfl) ?_
          have hPc := hP.sub (ws' := [(h0, .inr (2, [.ref mk, .int (nI kc), .int (nI kl), .int (nI kg), .int (nI ke)])), (mk, .inl (cJ, 1263, .inr (.inl g2))), (hs, .inr (5, [.int nu, .int (mw J), .ref sb, .int x1, .int x2, .int y1, .int y2])), (sb, .inl (cI, 5, .inl (fun z9 => if z9 < 5 then mc (5 * J + z9) else 0)))]) [0, 1, 2, 3] rfl
          have hDc := hD.sub (ws' := [(h0, .inr (2, [.ref mk, .int (nI kc), .int (nI kl), .int (nI kg), .int (nI ke)])), (mk, .inl (cJ, 1263, .inr (.inl g2))), (hs, .inr (5, [.int nu, .int (mw J), .ref sb, .int x1, .int x2, .int y1, .int y2])), (sb, .inl (cI, 5, .inl (fun z9 => if z9 < 5 then mc (5 * J + z9) else 0)))]) [0, 1, 2, 3] (by decide) rfl
          have hFc := va_free (wc := [(h0, .inr (2, [.ref mk, .int (nI kc), .int (nI kl), .int (nI kg), .int (nI ke)])), (mk, .inl (cJ, 1263, .inr (.inl g2))), (hs, .inr (5, [.int nu, .int (mw J), .ref sb, .int x1, .int x2, .int y1, .int y2])), (sb, .inl (cI, 5, .inl (fun z9 => if z9 < 5 then mc (5 * J + z9) else 0)))]) hD hS hA [0, 1, 2, 3] rfl
          refine g_Vv (As := [.ref hs, .int (nI a)]) (rest := []) CF (c_X1_countCycle l D cI cJ cO df H.size h0 mk g2 kc kl kg (nI ke) hs sb nu x1 x2 y1 y2 mc mw J st A1 n i a hJ hc hw hkc hkl hkg hst hstp.1 hi hia (by rw [ha, hia])) (cwV 2 hts gX1_tryFrom_X1_countCycle rfl rfl rfl (by decide +kernel) ⟨Nat.le_of_ble_eq_true rfl, Nat.le_of_ble_eq_true rfl⟩) (va_recv hK hP (ci := 2) (q0 := 0) rfl rfl) hPc hK hDc hV hH hS hFc rfl hl.1 rfl (Nat.le_of_ble_eq_true rfl) dX1_tryFrom_32 ⟨Nat.le_of_ble_eq_true rfl, Nat.le_of_ble_eq_true rfl⟩ (fun w1 H1 locs1 hq hP1 hD1 hk hS hz => ?_)
          obtain rfl := hq
          obtain ⟨hP, hD⟩ := g_join (ws' := [(h0, .inr (2, [.ref mk, .int (nI (kc + 1)), .int (nI (max kl (n - i))), .int (nI (gmx (nxO mc mw J) st kg i (n - i))), .int (nI ke)])), (mk, .inl (cJ, 1263, .inr (.inl g2))), (hs, .inr (5, [.int nu, .int (mw J), .ref sb, .int x1, .int x2, .int y1, .int y2])), (sb, .inl (cI, 5, .inl (fun z9 => if z9 < 5 then mc (5 * J + z9) else 0)))]) hP hD hk hFc hP1 hD1 [0, 1, 2, 3] [] [0, 1, 2, 3] rfl rfl (by decide) (by decide) (by decide) rfl
          clear hPc hDc hFc hP1 hD1 hk hz
          generalize H1 = H at hP hS ⊢
          have hP : va_P D ccl [(h0, .inr (2, [.ref mk, .int (nI (kc + 1)), .int (nI (max kl (n - i))), .int (nI (gmx (nxO mc mw J) st kg i (n - i))), .int (nI ke)])), (mk, .inl (cJ, 1263, .inr (.inl g2))), (hs, .inr (5, [.int nu, .int (mw J), .ref sb, .int x1, .int x2, .int y1, .int y2])), (sb, .inl (cI, 5, .inl (fun z9 => if z9 < 5 then mc (5 * J + z9) else 0)))] H := hP
          have hD : va_D A [(h0, .inr (2, [.ref mk, .int (nI (kc + 1)), .int (nI (max kl (n - i))), .int (nI (gmx (nxO mc mw J) st kg i (n - i))), .int (nI ke)])), (mk, .inl (cJ, 1263, .inr (.inl g2))), (hs, .inr (5, [.int nu, .int (mw J), .ref sb, .int x1, .int x2, .int y1, .int y2])), (sb, .inl (cI, 5, .inl (fun z9 => if z9 < 5 then mc (5 * J + z9) else 0)))] := hD
          refine lv_aload_n hx hb dX1_tryFrom_35 rfl (lv_at hl 2 rfl) ?_
          refine lv_aload_n hx hb dX1_tryFrom_36 rfl (lv_at hl 3 rfl) ?_
          refine lv_iload_n hx hb dX1_tryFrom_37 rfl (lv_at hl 4 rfl) ?_
          refine lv_iconst (v := 1) hx hb dX1_tryFrom_38 (by decide) ?_
          refine lv_iload hx hb dX1_tryFrom_39 (lv_at hl 0 rfl) ?_
          refine lv_iconst (v := 3) hx hb dX1_tryFrom_41 (by decide) ?_
          refine lv_icmp_ne (tgt := 49) hx hb dX1_tryFrom_42 (by decide) (fun c_42 => ?_) (fun c_42 => ?_)
          · refine lv_iconst (v := 2) hx hb dX1_tryFrom_49 (by decide) ?_
            have hPc := hP.sub (ws' := [(h0, .inr (2, [.ref mk, .int (nI (kc + 1)), .int (nI (max kl (n - i))), .int (nI (gmx (nxO mc mw J) st kg i (n - i))), .int (nI ke)])), (mk, .inl (cJ, 1263, .inr (.inl g2))), (hs, .inr (5, [.int nu, .int (mw J), .ref sb, .int x1, .int x2, .int y1, .int y2])), (sb, .inl (cI, 5, .inl (fun z9 => if z9 < 5 then mc (5 * J + z9) else 0)))]) [0, 1, 2, 3] rfl
            have hDc := hD.sub (ws' := [(h0, .inr (2, [.ref mk, .int (nI (kc + 1)), .int (nI (max kl (n - i))), .int (nI (gmx (nxO mc mw J) st kg i (n - i))), .int (nI ke)])), (mk, .inl (cJ, 1263, .inr (.inl g2))), (hs, .inr (5, [.int nu, .int (mw J), .ref sb, .int x1, .int x2, .int y1, .int y2])), (sb, .inl (cI, 5, .inl (fun z9 => if z9 < 5 then mc (5 * J + z9) else 0)))]) [0, 1, 2, 3] (by decide) rfl
            have hFc := va_free (wc := [(h0, .inr (2, [.ref mk, .int (nI (kc + 1)), .int (nI (max kl (n - i))), .int (nI (gmx (nxO mc mw J) st kg i (n - i))), .int (nI ke)])), (mk, .inl (cJ, 1263, .inr (.inl g2))), (hs, .inr (5, [.int nu, .int (mw J), .ref sb, .int x1, .int x2, .int y1, .int y2])), (sb, .inl (cI, 5, .inl (fun z9 => if z9 < 5 then mc (5 * J + z9) else 0)))]) hD hS hA [0, 1, 2, 3] rfl
            refine g_Vi (As := [.ref hs, .int (nI st), .int 1, .int 2]) (rest := []) CF (c_X1_walk_d l D cI cJ cO df H.size h0 mk g2 (nI (kc + 1)) (nI (max kl (n - i))) (nI (gmx (nxO mc mw J) st kg i (n - i))) (nI ke) hs sb nu x1 x2 y1 y2 mc mw J st A1 n 2 hJ hc hw hst hstp hno1 (by decide) hM2) (cwV 4 hts gX1_tryFrom_X1_walk rfl rfl rfl (by decide +kernel) ⟨Nat.le_of_ble_eq_true rfl, Nat.le_of_ble_eq_true rfl⟩) (va_recv hK hP (ci := 2) (q0 := 0) rfl rfl) hPc hK hDc hV hH hS hFc rfl hl.1 rfl (Nat.le_of_ble_eq_true rfl) dX1_tryFrom_50 ⟨Nat.le_of_ble_eq_true rfl, Nat.le_of_ble_eq_true rfl⟩ (fun r_50 w1 H1 locs1 hq hP1 hD1 hk hS hz => ?_)
            obtain ⟨g3, rfl, hq_50⟩ := hq
            obtain ⟨hP, hD⟩ := g_join (ws' := [(h0, .inr (2, [.ref mk, .int (nI (kc + 1)), .int (nI (max kl (n - i))), .int (nI (gmx (nxO mc mw J) st kg i (n - i))), .int (nI ke)])), (mk, .inl (cJ, 1263, .inr (.inl g3))), (hs, .inr (5, [.int nu, .int (mw J), .ref sb, .int x1, .int x2, .int y1, .int y2])), (sb, .inl (cI, 5, .inl (fun z9 => if z9 < 5 then mc (5 * J + z9) else 0)))]) hP hD hk hFc hP1 hD1 [0, 1, 2, 3] [] [0, 1, 2, 3] rfl rfl (by decide) (by decide) (by decide) rfl
            clear hPc hDc hFc hP1 hD1 hk hz
            generalize H1 = H at hP hS ⊢
            have hP : va_P D ccl [(h0, .inr (2, [.ref mk, .int (nI (kc + 1)), .int (nI (max kl (n - i))), .int (nI (gmx (nxO mc mw J) st kg i (n - i))), .int (nI ke)])), (mk, .inl (cJ, 1263, .inr (.inl g3))), (hs, .inr (5, [.int nu, .int (mw J), .ref sb, .int x1, .int x2, .int y1, .int y2])), (sb, .inl (cI, 5, .inl (fun z9 => if z9 < 5 then mc (5 * J + z9) else 0)))] H := hP
            have hD : va_D A [(h0, .inr (2, [.ref mk, .int (nI (kc + 1)), .int (nI (max kl (n - i))), .int (nI (gmx (nxO mc mw J) st kg i (n - i))), .int (nI ke)])), (mk, .inl (cJ, 1263, .inr (.inl g3))), (hs, .inr (5, [.int nu, .int (mw J), .ref sb, .int x1, .int x2, .int y1, .int y2])), (sb, .inl (cI, 5, .inl (fun z9 => if z9 < 5 then mc (5 * J + z9) else 0)))] := hD
            have hM3 := hq_50
            refine lv_pop hx hb dX1_tryFrom_53 rfl ?_
            refine lv_iload hx hb dX1_tryFrom_54 (lv_at hl 0 rfl) ?_
            refine lv_iconst (v := 3) hx hb dX1_tryFrom_56 (by decide) ?_
            refine lv_icmp_ne (tgt := 70) hx hb dX1_tryFrom_57 (by decide) (fun c_57 => ?_) (fun c_57 => ?_)
            · refine g_vret hx hb hr hlk hP hK hD hS (Nat.le_of_ble_eq_true rfl) (Nat.le_of_ble_eq_true rfl) dX1_tryFrom_70 ?_
              have hs9 : amk (nxO mc mw J) st A1 2 n st = 2 := amk_st (fun h9 => absurd (h9 ▸ hi) (Nat.not_lt_zero i))
              have hs3 : ¬ amk (nxO mc mw J) st A1 2 n st = 3 := (by rw [hs9]; decide)
              exact ⟨_, (amk (nxO mc mw J) st A1 2 n), (kc + 1), (max kl (n - i)), (gmx (nxO mc mw J) st kg i (n - i)), ke, rfl, hM3, amk_023 hA0 (by decide), ⟨n, hstp, by
                unfold kd; rw [ha]; dsimp only; rw [if_pos (by rw [← hia]; exact (hstp.1.1 i hi).2)], ⟨fun i9 hi9 h9 hne => by
                  rw [ha] at h9
                  obtain rfl : i9 = i := way_one hstp.1 hi9 hi ((Option.some.inj h9).symm.trans hia.symm)
                  exact ⟨rfl, rfl, rfl⟩, fun h9 => absurd (hia.symm.trans (h9 i hi (by rw [ha, hia]))) c_26⟩⟩, by rw [if_neg hs3]; rfl, by omega, by omega, gmx_le hkg (fun j9 hj9 => hT (i + j9) (by omega))⟩
            · exact absurd c_57 (by decide)
          · exact absurd c_42 (by decide)
    · have hAn : A1 a ≠ 0 := by
        rcases hstp.2 a ha with h9 | h9
        · exact h9
        · exact absurd h9 hrep
      have hAv : A1 a = 2 ∨ A1 a = 3 := by have := hA0 a; omega
      refine lv_topi (fun f ef => ?_)
      obtain rfl : f = nI (A1 a) := ef.trans (congrArg nI (amk_out (fun k hk h9 => hrep ⟨k, hk, h9⟩)))
      refine lv_istore (lv' := [(4, .int (nI (A1 a))), (3, .int (nI a)), (0, .ref h0), (1, .ref hs), (2, .int (nI st))]) hx hb dX1_tryFrom_14 hl (by decide) rfl (fun ls hl => ?_)
      refine lv_iload hx hb dX1_tryFrom_16 (lv_at hl 0 rfl) ?_
      refine lv_iconst (v := 1) hx hb dX1_tryFrom_18 (by decide) ?_
      refine lv_icmp_ne (tgt := 35) hx hb dX1_tryFrom_19 (by decide) (fun c_19 => ?_) (fun c_19 => ?_)
      · have c_19 : A1 a ≠ 1 := g_ne (a := A1 a) (b := 1) c_19 (by omega) (by omega)
        by_cases h3 : A1 a = 3
        · have hA9 : A1 a = 3 := h3
          refine lv_aload_n hx hb dX1_tryFrom_35 rfl (lv_at hl 2 rfl) ?_
          refine lv_aload_n hx hb dX1_tryFrom_36 rfl (lv_at hl 3 rfl) ?_
          refine lv_iload_n hx hb dX1_tryFrom_37 rfl (lv_at hl 4 rfl) ?_
          refine lv_iconst (v := 1) hx hb dX1_tryFrom_38 (by decide) ?_
          refine lv_iload hx hb dX1_tryFrom_39 (lv_at hl 0 rfl) ?_
          refine lv_iconst (v := 3) hx hb dX1_tryFrom_41 (by decide) ?_
          refine lv_icmp_ne (tgt := 49) hx hb dX1_tryFrom_42 (by decide) (fun c_42 => ?_) (fun c_42 => ?_)
          · have c_42 : A1 a ≠ 3 := g_ne (a := A1 a) (b := 3) c_42 (by omega) (by omega)
            exact absurd h3 c_42
          · have c_42 : A1 a = 3 := g_eq (a := A1 a) (b := 3) c_42 (by omega) (by omega)
            refine lv_iconst (v := 3) hx hb dX1_tryFrom_45 (by decide) ?_
            refine lv_goto (tgt := 50) hx hb dX1_tryFrom_46 (by decide) ?_
            have hPc := hP.sub (ws' := [(h0, .inr (2, [.ref mk, .int (nI kc), .int (nI kl), .int (nI kg), .int (nI ke)])), (mk, .inl (cJ, 1263, .inr (.inl g2))), (hs, .inr (5, [.int nu, .int (mw J), .ref sb, .int x1, .int x2, .int y1, .int y2])), (sb, .inl (cI, 5, .inl (fun z9 => if z9 < 5 then mc (5 * J + z9) else 0)))]) [0, 1, 2, 3] rfl
            have hDc := hD.sub (ws' := [(h0, .inr (2, [.ref mk, .int (nI kc), .int (nI kl), .int (nI kg), .int (nI ke)])), (mk, .inl (cJ, 1263, .inr (.inl g2))), (hs, .inr (5, [.int nu, .int (mw J), .ref sb, .int x1, .int x2, .int y1, .int y2])), (sb, .inl (cI, 5, .inl (fun z9 => if z9 < 5 then mc (5 * J + z9) else 0)))]) [0, 1, 2, 3] (by decide) rfl
            have hFc := va_free (wc := [(h0, .inr (2, [.ref mk, .int (nI kc), .int (nI kl), .int (nI kg), .int (nI ke)])), (mk, .inl (cJ, 1263, .inr (.inl g2))), (hs, .inr (5, [.int nu, .int (mw J), .ref sb, .int x1, .int x2, .int y1, .int y2])), (sb, .inl (cI, 5, .inl (fun z9 => if z9 < 5 then mc (5 * J + z9) else 0)))]) hD hS hA [0, 1, 2, 3] rfl
            refine g_Vi (As := [.ref hs, .int (nI st), .int 1, .int 3]) (rest := []) CF (c_X1_walk_d l D cI cJ cO df H.size h0 mk g2 (nI kc) (nI kl) (nI kg) (nI ke) hs sb nu x1 x2 y1 y2 mc mw J st A1 n 3 hJ hc hw hst hstp hno1 (by decide) hM2) (cwV 4 hts gX1_tryFrom_X1_walk rfl rfl rfl (by decide +kernel) ⟨Nat.le_of_ble_eq_true rfl, Nat.le_of_ble_eq_true rfl⟩) (va_recv hK hP (ci := 2) (q0 := 0) rfl rfl) hPc hK hDc hV hH hS hFc rfl hl.1 rfl (Nat.le_of_ble_eq_true rfl) dX1_tryFrom_50 ⟨Nat.le_of_ble_eq_true rfl, Nat.le_of_ble_eq_true rfl⟩ (fun r_50 w1 H1 locs1 hq hP1 hD1 hk hS hz => ?_)
            obtain ⟨g3, rfl, hq_50⟩ := hq
            obtain ⟨hP, hD⟩ := g_join (ws' := [(h0, .inr (2, [.ref mk, .int (nI kc), .int (nI kl), .int (nI kg), .int (nI ke)])), (mk, .inl (cJ, 1263, .inr (.inl g3))), (hs, .inr (5, [.int nu, .int (mw J), .ref sb, .int x1, .int x2, .int y1, .int y2])), (sb, .inl (cI, 5, .inl (fun z9 => if z9 < 5 then mc (5 * J + z9) else 0)))]) hP hD hk hFc hP1 hD1 [0, 1, 2, 3] [] [0, 1, 2, 3] rfl rfl (by decide) (by decide) (by decide) rfl
            clear hPc hDc hFc hP1 hD1 hk hz
            generalize H1 = H at hP hS ⊢
            have hP : va_P D ccl [(h0, .inr (2, [.ref mk, .int (nI kc), .int (nI kl), .int (nI kg), .int (nI ke)])), (mk, .inl (cJ, 1263, .inr (.inl g3))), (hs, .inr (5, [.int nu, .int (mw J), .ref sb, .int x1, .int x2, .int y1, .int y2])), (sb, .inl (cI, 5, .inl (fun z9 => if z9 < 5 then mc (5 * J + z9) else 0)))] H := hP
            have hD : va_D A [(h0, .inr (2, [.ref mk, .int (nI kc), .int (nI kl), .int (nI kg), .int (nI ke)])), (mk, .inl (cJ, 1263, .inr (.inl g3))), (hs, .inr (5, [.int nu, .int (mw J), .ref sb, .int x1, .int x2, .int y1, .int y2])), (sb, .inl (cI, 5, .inl (fun z9 => if z9 < 5 then mc (5 * J + z9) else 0)))] := hD
            have hM3 := hq_50
            refine lv_pop hx hb dX1_tryFrom_53 rfl ?_
            refine lv_iload hx hb dX1_tryFrom_54 (lv_at hl 0 rfl) ?_
            refine lv_iconst (v := 3) hx hb dX1_tryFrom_56 (by decide) ?_
            refine lv_icmp_ne (tgt := 70) hx hb dX1_tryFrom_57 (by decide) (fun c_57 => ?_) (fun c_57 => ?_)
            · have c_57 : A1 a ≠ 3 := g_ne (a := A1 a) (b := 3) c_57 (by omega) (by omega)
              exact absurd h3 c_57
            · have c_57 : A1 a = 3 := g_eq (a := A1 a) (b := 3) c_57 (by omega) (by omega)
              refine lv_aload_n hx hb dX1_tryFrom_60 rfl (lv_at hl 2 rfl) ?_
              refine lv_dup hx hb dX1_tryFrom_61 rfl ?_
              refine va_get (D := D) (ci := 2) (v := .int (nI ke)) (C := RX1) (T := TX1) (N := 5) hx hb hts inX1 hown hK hP 0 rfl rfl 4 (by decide) hfieldLink_RX1_29 (fun _ h9 => h9) rfl dX1_tryFrom_62 ?_
              refine lv_iconst (v := 1) hx hb dX1_tryFrom_65 (by decide) ?_
              refine lv_iadd hx hb dX1_tryFrom_66 ?_
              refine lv_topi (fun f ef => ?_)
              obtain rfl : f = nI (ke + 1) := ef.trans (nI_add _ _)
              refine va_put (D := D) (ci := 2) (v := .int (nI (ke + 1))) (ty := .int) (C := RX1) (T := TX1) (N := 5) hx hb hts inX1 tyX1 tyX1_ok nmX1 hown hK hP hD hS 0 rfl rfl 4 (by decide) hfieldLink_RX1_29 (fun _ h9 => h9) rfl (by decide +kernel) rfl rfl (Nat.le_of_ble_eq_true rfl) dX1_tryFrom_67 (fun H locs hP hD hS => ?_)
              have hP : va_P D ccl [(h0, .inr (2, [.ref mk, .int (nI kc), .int (nI kl), .int (nI kg), .int (nI (ke + 1))])), (mk, .inl (cJ, 1263, .inr (.inl g3))), (hs, .inr (5, [.int nu, .int (mw J), .ref sb, .int x1, .int x2, .int y1, .int y2])), (sb, .inl (cI, 5, .inl (fun z9 => if z9 < 5 then mc (5 * J + z9) else 0)))] H := hP
              have hD : va_D A [(h0, .inr (2, [.ref mk, .int (nI kc), .int (nI kl), .int (nI kg), .int (nI (ke + 1))])), (mk, .inl (cJ, 1263, .inr (.inl g3))), (hs, .inr (5, [.int nu, .int (mw J), .ref sb, .int x1, .int x2, .int y1, .int y2])), (sb, .inl (cI, 5, .inl (fun z9 => if z9 < 5 then mc (5 * J + z9) else 0)))] := hD
              refine g_vret hx hb hr hlk hP hK hD hS (Nat.le_of_ble_eq_true rfl) (Nat.le_of_ble_eq_true rfl) dX1_tryFrom_70 ?_
              have hs9 : amk (nxO mc mw J) st A1 3 n st = 3 := amk_st (fun h9 => by subst h9; cases ha; exact hA9)
              have hs3 :  amk (nxO mc mw J) st A1 3 n st = 3 := hs9
              exact ⟨_, (amk (nxO mc mw J) st A1 3 n), kc, kl, kg, (ke + 1), rfl, hM3, amk_023 hA0 (by decide), ⟨n, hstp, by
                unfold kd; rw [ha]; dsimp only; rw [if_neg (by omega), hA9], ⟨fun i9 hi9 h9 => absurd ⟨i9, hi9, by rw [ha] at h9; exact (Option.some.inj h9).symm⟩ hrep, fun _ => ⟨rfl, rfl, rfl⟩⟩⟩, by rw [if_pos hs3], by omega, by omega, hkg⟩
        · have hA9 : A1 a = 2 := by omega
          refine lv_aload_n hx hb dX1_tryFrom_35 rfl (lv_at hl 2 rfl) ?_
          refine lv_aload_n hx hb dX1_tryFrom_36 rfl (lv_at hl 3 rfl) ?_
          refine lv_iload_n hx hb dX1_tryFrom_37 rfl (lv_at hl 4 rfl) ?_
          refine lv_iconst (v := 1) hx hb dX1_tryFrom_38 (by decide) ?_
          refine lv_iload hx hb dX1_tryFrom_39 (lv_at hl 0 rfl) ?_
          refine lv_iconst (v := 3) hx hb dX1_tryFrom_41 (by decide) ?_
          refine lv_icmp_ne (tgt := 49) hx hb dX1_tryFrom_42 (by decide) (fun c_42 => ?_) (fun c_42 => ?_)
          · have c_42 : A1 a ≠ 3 := g_ne (a := A1 a) (b := 3) c_42 (by omega) (by omega)
            refine lv_iconst (v := 2) hx hb dX1_tryFrom_49 (by decide) ?_
            have hPc := hP.sub (ws' := [(h0, .inr (2, [.ref mk, .int (nI kc), .int (nI kl), .int (nI kg), .int (nI ke)])), (mk, .inl (cJ, 1263, .inr (.inl g2))), (hs, .inr (5, [.int nu, .int (mw J), .ref sb, .int x1, .int x2, .int y1, .int y2])), (sb, .inl (cI, 5, .inl (fun z9 => if z9 < 5 then mc (5 * J + z9) else 0)))]) [0, 1, 2, 3] rfl
            have hDc := hD.sub (ws' := [(h0, .inr (2, [.ref mk, .int (nI kc), .int (nI kl), .int (nI kg), .int (nI ke)])), (mk, .inl (cJ, 1263, .inr (.inl g2))), (hs, .inr (5, [.int nu, .int (mw J), .ref sb, .int x1, .int x2, .int y1, .int y2])), (sb, .inl (cI, 5, .inl (fun z9 => if z9 < 5 then mc (5 * J + z9) else 0)))]) [0, 1, 2, 3] (by decide) rfl
            have hFc := va_free (wc := [(h0, .inr (2, [.ref mk, .int (nI kc), .int (nI kl), .int (nI kg), .int (nI ke)])), (mk, .inl (cJ, 1263, .inr (.inl g2))), (hs, .inr (5, [.int nu, .int (mw J), .ref sb, .int x1, .int x2, .int y1, .int y2])), (sb, .inl (cI, 5, .inl (fun z9 => if z9 < 5 then mc (5 * J + z9) else 0)))]) hD hS hA [0, 1, 2, 3] rfl
            refine g_Vi (As := [.ref hs, .int (nI st), .int 1, .int 2]) (rest := []) CF (c_X1_walk_d l D cI cJ cO df H.size h0 mk g2 (nI kc) (nI kl) (nI kg) (nI ke) hs sb nu x1 x2 y1 y2 mc mw J st A1 n 2 hJ hc hw hst hstp hno1 (by decide) hM2) (cwV 4 hts gX1_tryFrom_X1_walk rfl rfl rfl (by decide +kernel) ⟨Nat.le_of_ble_eq_true rfl, Nat.le_of_ble_eq_true rfl⟩) (va_recv hK hP (ci := 2) (q0 := 0) rfl rfl) hPc hK hDc hV hH hS hFc rfl hl.1 rfl (Nat.le_of_ble_eq_true rfl) dX1_tryFrom_50 ⟨Nat.le_of_ble_eq_true rfl, Nat.le_of_ble_eq_true rfl⟩ (fun r_50 w1 H1 locs1 hq hP1 hD1 hk hS hz => ?_)
            obtain ⟨g3, rfl, hq_50⟩ := hq
            obtain ⟨hP, hD⟩ := g_join (ws' := [(h0, .inr (2, [.ref mk, .int (nI kc), .int (nI kl), .int (nI kg), .int (nI ke)])), (mk, .inl (cJ, 1263, .inr (.inl g3))), (hs, .inr (5, [.int nu, .int (mw J), .ref sb, .int x1, .int x2, .int y1, .int y2])), (sb, .inl (cI, 5, .inl (fun z9 => if z9 < 5 then mc (5 * J + z9) else 0)))]) hP hD hk hFc hP1 hD1 [0, 1, 2, 3] [] [0, 1, 2, 3] rfl rfl (by decide) (by decide) (by decide) rfl
            clear hPc hDc hFc hP1 hD1 hk hz
            generalize H1 = H at hP hS ⊢
            have hP : va_P D ccl [(h0, .inr (2, [.ref mk, .int (nI kc), .int (nI kl), .int (nI kg), .int (nI ke)])), (mk, .inl (cJ, 1263, .inr (.inl g3))), (hs, .inr (5, [.int nu, .int (mw J), .ref sb, .int x1, .int x2, .int y1, .int y2])), (sb, .inl (cI, 5, .inl (fun z9 => if z9 < 5 then mc (5 * J + z9) else 0)))] H := hP
            have hD : va_D A [(h0, .inr (2, [.ref mk, .int (nI kc), .int (nI kl), .int (nI kg), .int (nI ke)])), (mk, .inl (cJ, 1263, .inr (.inl g3))), (hs, .inr (5, [.int nu, .int (mw J), .ref sb, .int x1, .int x2, .int y1, .int y2])), (sb, .inl (cI, 5, .inl (fun z9 => if z9 < 5 then mc (5 * J + z9) else 0)))] := hD
            have hM3 := hq_50
            refine lv_pop hx hb dX1_tryFrom_53 rfl ?_
            refine lv_iload hx hb dX1_tryFrom_54 (lv_at hl 0 rfl) ?_
            refine lv_iconst (v := 3) hx hb dX1_tryFrom_56 (by decide) ?_
            refine lv_icmp_ne (tgt := 70) hx hb dX1_tryFrom_57 (by decide) (fun c_57 => ?_) (fun c_57 => ?_)
            · have c_57 : A1 a ≠ 3 := g_ne (a := A1 a) (b := 3) c_57 (by omega) (by omega)
              refine g_vret hx hb hr hlk hP hK hD hS (Nat.le_of_ble_eq_true rfl) (Nat.le_of_ble_eq_true rfl) dX1_tryFrom_70 ?_
              have hs9 : amk (nxO mc mw J) st A1 2 n st = 2 := amk_st (fun h9 => by subst h9; cases ha; exact hA9)
              have hs3 : ¬ amk (nxO mc mw J) st A1 2 n st = 3 := (by rw [hs9]; decide)
              exact ⟨_, (amk (nxO mc mw J) st A1 2 n), kc, kl, kg, ke, rfl, hM3, amk_023 hA0 (by decide), ⟨n, hstp, by
                unfold kd; rw [ha]; dsimp only; rw [if_neg (by omega), hA9], ⟨fun i9 hi9 h9 => absurd ⟨i9, hi9, by rw [ha] at h9; exact (Option.some.inj h9).symm⟩ hrep, fun _ => ⟨rfl, rfl, rfl⟩⟩⟩, by rw [if_neg hs3]; rfl, by omega, by omega, hkg⟩
            · have c_57 : A1 a = 3 := g_eq (a := A1 a) (b := 3) c_57 (by omega) (by omega)
              exact absurd c_57 h3
          · have c_42 : A1 a = 3 := g_eq (a := A1 a) (b := 3) c_42 (by omega) (by omega)
            exact absurd c_42 h3
      · have c_19 : A1 a = 1 := g_eq (a := A1 a) (b := 1) c_19 (by omega) (by omega)
        exact absurd c_19 (hno1 a)

set_option maxHeartbeats 4000000 in
set_option maxRecDepth 100000 in
theorem c_X1_tryAll (l : Launch) (D : va_G) (cI cJ cO : ClassId) (df sz : Nat) (h0 : Nat) (mk : Nat) (g : Nat → Int64) (fc : Int32) (fl : Int32) (fg : Int32) (fe : Int32) (hs : Nat) (sb : Nat) (nu : Int32) (x1 : Int32) (x2 : Int32) (y1 : Int32) (y2 : Int32) (mc : Nat → Int32) (mw : Nat → Int32) (J : Nat) (R0 : Nat) (hJ : J < 8) (hc : isC mc) (hw : isW (mw J)) (hR2 : R0 ≤ 12) : MetV l yX1_tryAll wsX1_tryAll ({ frames := 6, cells := 0, slots := 0, locals := 139 } : Room) D (gTY cI cJ cO) df [(h0, .inr (2, [.ref mk, .int fc, .int fl, .int fg, .int fe])), (mk, .inl (cJ, 1263, .inr (.inl g))), (hs, .inr (5, [.int nu, .int (mw J), .ref sb, .int x1, .int x2, .int y1, .int y2])), (sb, .inl (cI, 5, .inl (fun z9 => if z9 < 5 then mc (5 * J + z9) else 0)))] sz [.ref h0, .ref hs, .int (nI R0)] (fun (wZ : va_W) => ∃ (g1 : Nat → Int64), ∃ (A1 : Nat → Nat), ∃ (c1 : Nat), ∃ (l1 : Nat), ∃ (g9 : Nat), ∃ (e1 : Nat), wZ = [(h0, .inr (2, [.ref mk, .int (nI c1), .int (nI l1), .int (nI g9), .int (nI e1)])), (mk, .inl (cJ, 1263, .inr (.inl g1))), (hs, .inr (5, [.int nu, .int (mw J), .ref sb, .int x1, .int x2, .int y1, .int y2])), (sb, .inl (cI, 5, .inl (fun z9 => if z9 < 5 then mc (5 * J + z9) else 0)))] ∧ crun (nxO mc mw J) (otn R0 (2 * R0 + 1)) A1 c1 l1 g9 e1) := by
  refine g_of (cc := cX1_tryAll) (nL := 5) (ret := none) (D := D) (TY := (gTY cI cJ cO)) (df := df) (Qc := fun A => va_Qv (fun (wZ : va_W) => ∃ (g1 : Nat → Int64), ∃ (A1 : Nat → Nat), ∃ (c1 : Nat), ∃ (l1 : Nat), ∃ (g9 : Nat), ∃ (e1 : Nat), wZ = [(h0, .inr (2, [.ref mk, .int (nI c1), .int (nI l1), .int (nI g9), .int (nI e1)])), (mk, .inl (cJ, 1263, .inr (.inl g1))), (hs, .inr (5, [.int nu, .int (mw J), .ref sb, .int x1, .int x2, .int y1, .int y2])), (sb, .inl (cI, 5, .inl (fun z9 => if z9 < 5 then mc (5 * J + z9) else 0)))] ∧ crun (nxO mc mw J) (otn R0 (2 * R0 + 1)) A1 c1 l1 g9 e1) (gB D (gTY cI cJ cO) A) A) (by decide +kernel) rfl (Nat.le_of_ble_eq_true rfl) ?_
  intro p e s m below meth c ls A hsz C0 hin hl
  obtain ⟨CF, hr, hlk, hA, hS, hP, hK, hD, hV, hH⟩ := C0
  have CF : CallFix p m c cX1_tryAll 5 s _ wsX1_tryAll RX1 := CF
  obtain ⟨hx, hb, hml, hown, hts⟩ := id CF
  subst hsz
  have hfieldLink_RX1_9 : (Cond.fieldLink RX1 9 "TapLoom$CycleSearch" "marks" "[J").before _ s = true := hts _ (List.mem_of_getElem? (i := 1) rfl)
  have hmethodLink_RX1_13 : (Cond.methodLink RX1 13 yJ7_fill_d0a16).before _ s = true := hts _ (List.mem_of_getElem? (i := 6) rfl)
  have hfieldLink_RX1_19 : (Cond.fieldLink RX1 19 "TapLoom$CycleSearch" "count" "I").before _ s = true := hts _ (List.mem_of_getElem? (i := 2) rfl)
  have hfieldLink_RX1_23 : (Cond.fieldLink RX1 23 "TapLoom$CycleSearch" "longest" "I").before _ s = true := hts _ (List.mem_of_getElem? (i := 3) rfl)
  have hfieldLink_RX1_26 : (Cond.fieldLink RX1 26 "TapLoom$CycleSearch" "greatest" "I").before _ s = true := hts _ (List.mem_of_getElem? (i := 4) rfl)
  have hfieldLink_RX1_29 : (Cond.fieldLink RX1 29 "TapLoom$CycleSearch" "leaving" "I").before _ s = true := hts _ (List.mem_of_getElem? (i := 5) rfl)
  have hmethodLink_RX1_32 : (Cond.methodLink RX1 32 yX1_stateOf).before _ s = true := hts _ (List.mem_of_getElem? (i := 10) rfl)
  have hmethodLink_RX1_36 : (Cond.methodLink RX1 36 yX1_tryFrom).before _ s = true := hts _ (List.mem_of_getElem? (i := 18) rfl)
  have inX1 : ∀ w ∈ u_ws RX1 TX1 5, w ∈ wsX1_tryAll := fun w h => (List.mem_cons_of_mem _ (List.mem_append_left _ (List.mem_append_right _ h)))
  have hP : va_P D ccl [(h0, .inr (2, [.ref mk, .int fc, .int fl, .int fg, .int fe])), (mk, .inl (cJ, 1263, .inr (.inl g))), (hs, .inr (5, [.int nu, .int (mw J), .ref sb, .int x1, .int x2, .int y1, .int y2])), (sb, .inl (cI, 5, .inl (fun z9 => if z9 < 5 then mc (5 * J + z9) else 0)))] s.heap := hP
  have hl : lv_has ls 5 [(0, .ref h0), (1, .ref hs), (2, .int (nI R0))] := hl
  refine lv_aload_n hx hb dX1_tryAll_0 rfl (lv_at hl 0 rfl) ?_
  refine va_get (D := D) (ci := 2) (v := .ref mk) (C := RX1) (T := TX1) (N := 5) hx hb hts inX1 hown hK hP 0 rfl rfl 0 (by decide) hfieldLink_RX1_9 (fun _ h9 => h9) rfl dX1_tryAll_1 ?_
  refine lv_lconst (v := 0) hx hb dX1_tryAll_4 (by decide) ?_
  have hPc := hP.sub (ws' := [(mk, .inl (cJ, 1263, .inr (.inl g)))]) [1] rfl
  have hDc := hD.sub (ws' := [(mk, .inl (cJ, 1263, .inr (.inl g)))]) [1] (by decide) rfl
  have hFc := va_free (wc := [(mk, .inl (cJ, 1263, .inr (.inl g)))]) hD hS hA [1] rfl
  refine g_Sv (As := [.ref mk, .long 0]) (rest := []) CF (c_J7_fill_d0a16 l D cI cJ cO df s.heap.size mk 1263 g 0 (by decide)) (va_cwS 2 hts gX1_tryAll_J7_fill_d0a16 rfl rfl rfl (by decide +kernel) ⟨Nat.le_of_ble_eq_true rfl, Nat.le_of_ble_eq_true rfl⟩)  hPc hK hDc hV hH hS hFc rfl hl.1 rfl (Nat.le_of_ble_eq_true rfl) dX1_tryAll_5 ⟨Nat.le_of_ble_eq_true rfl, Nat.le_of_ble_eq_true rfl⟩ (fun w1 H1 locs1 hq hP1 hD1 hk hS hz => ?_)
  obtain rfl := hq
  obtain ⟨hP, hD⟩ := g_join (ws' := [(h0, .inr (2, [.ref mk, .int fc, .int fl, .int fg, .int fe])), (mk, .inl (cJ, 1263, .inr (.inl (fun i => if i < 1263 then 0 else g i)))), (hs, .inr (5, [.int nu, .int (mw J), .ref sb, .int x1, .int x2, .int y1, .int y2])), (sb, .inl (cI, 5, .inl (fun z9 => if z9 < 5 then mc (5 * J + z9) else 0)))]) hP hD hk hFc hP1 hD1 [1] [0, 2, 3] [0, 3, 1, 2] rfl rfl (by decide) (by decide) (by decide) rfl
  clear hPc hDc hFc hP1 hD1 hk hz
  generalize H1 = H at hP hS ⊢
  have hP : va_P D ccl [(h0, .inr (2, [.ref mk, .int fc, .int fl, .int fg, .int fe])), (mk, .inl (cJ, 1263, .inr (.inl (fun i => if i < 1263 then 0 else g i)))), (hs, .inr (5, [.int nu, .int (mw J), .ref sb, .int x1, .int x2, .int y1, .int y2])), (sb, .inl (cI, 5, .inl (fun z9 => if z9 < 5 then mc (5 * J + z9) else 0)))] H := hP
  have hD : va_D A [(h0, .inr (2, [.ref mk, .int fc, .int fl, .int fg, .int fe])), (mk, .inl (cJ, 1263, .inr (.inl (fun i => if i < 1263 then 0 else g i)))), (hs, .inr (5, [.int nu, .int (mw J), .ref sb, .int x1, .int x2, .int y1, .int y2])), (sb, .inl (cI, 5, .inl (fun z9 => if z9 < 5 then mc (5 * J + z9) else 0)))] := hD
  refine lv_aload_n hx hb dX1_tryAll_8 rfl (lv_at hl 0 rfl) ?_
  refine lv_iconst (v := 0) hx hb dX1_tryAll_9 (by decide) ?_
  refine va_put (D := D) (ci := 2) (v := .int 0) (ty := .int) (C := RX1) (T := TX1) (N := 5) hx hb hts inX1 tyX1 tyX1_ok nmX1 hown hK hP hD hS 0 rfl rfl 1 (by decide) hfieldLink_RX1_19 (fun _ h9 => h9) rfl (by decide +kernel) rfl rfl (Nat.le_of_ble_eq_true rfl) dX1_tryAll_10 (fun H locs hP hD hS => ?_)
  have hP : va_P D ccl [(h0, .inr (2, [.ref mk, .int 0, .int fl, .int fg, .int fe])), (mk, .inl (cJ, 1263, .inr (.inl (fun i => if i < 1263 then 0 else g i)))), (hs, .inr (5, [.int nu, .int (mw J), .ref sb, .int x1, .int x2, .int y1, .int y2])), (sb, .inl (cI, 5, .inl (fun z9 => if z9 < 5 then mc (5 * J + z9) else 0)))] H := hP
  have hD : va_D A [(h0, .inr (2, [.ref mk, .int 0, .int fl, .int fg, .int fe])), (mk, .inl (cJ, 1263, .inr (.inl (fun i => if i < 1263 then 0 else g i)))), (hs, .inr (5, [.int nu, .int (mw J), .ref sb, .int x1, .int x2, .int y1, .int y2])), (sb, .inl (cI, 5, .inl (fun z9 => if z9 < 5 then mc (5 * J + z9) else 0)))] := hD
  refine lv_aload_n hx hb dX1_tryAll_13 rfl (lv_at hl 0 rfl) ?_
  refine lv_iconst (v := 0) hx hb dX1_tryAll_14 (by decide) ?_
  refine va_put (D := D) (ci := 2) (v := .int 0) (ty := .int) (C := RX1) (T := TX1) (N := 5) hx hb hts inX1 tyX1 tyX1_ok nmX1 hown hK hP hD hS 0 rfl rfl 2 (by decide) hfieldLink_RX1_23 (fun _ h9 => h9) rfl (by decide +kernel) rfl rfl (Nat.le_of_ble_eq_true rfl) dX1_tryAll_15 (fun H locs hP hD hS => ?_)
  have hP : va_P D ccl [(h0, .inr (2, [.ref mk, .int 0, .int 0, .int fg, .int fe])), (mk, .inl (cJ, 1263, .inr (.inl (fun i => if i < 1263 then 0 else g i)))), (hs, .inr (5, [.int nu, .int (mw J), .ref sb, .int x1, .int x2, .int y1, .int y2])), (sb, .inl (cI, 5, .inl (fun z9 => if z9 < 5 then mc (5 * J + z9) else 0)))] H := hP
  have hD : va_D A [(h0, .inr (2, [.ref mk, .int 0, .int 0, .int fg, .int fe])), (mk, .inl (cJ, 1263, .inr (.inl (fun i => if i < 1263 then 0 else g i)))), (hs, .inr (5, [.int nu, .int (mw J), .ref sb, .int x1, .int x2, .int y1, .int y2])), (sb, .inl (cI, 5, .inl (fun z9 => if z9 < 5 then mc (5 * J + z9) else 0)))] := hD
  refine lv_aload_n hx hb dX1_tryAll_18 rfl (lv_at hl 0 rfl) ?_
  refine lv_iconst (v := 0) hx hb dX1_tryAll_19 (by decide) ?_
  refine va_put (D := D) (ci := 2) (v := .int 0) (ty := .int) (C := RX1) (T := TX1) (N := 5) hx hb hts inX1 tyX1 tyX1_ok nmX1 hown hK hP hD hS 0 rfl rfl 3 (by decide) hfieldLink_RX1_26 (fun _ h9 => h9) rfl (by decide +kernel) rfl rfl (Nat.le_of_ble_eq_true rfl) dX1_tryAll_20 (fun H locs hP hD hS => ?_)
  have hP : va_P D ccl [(h0, .inr (2, [.ref mk, .int 0, .int 0, .int 0, .int fe])), (mk, .inl (cJ, 1263, .inr (.inl (fun i => if i < 1263 then 0 else g i)))), (hs, .inr (5, [.int nu, .int (mw J), .ref sb, .int x1, .int x2, .int y1, .int y2])), (sb, .inl (cI, 5, .inl (fun z9 => if z9 < 5 then mc (5 * J + z9) else 0)))] H := hP
  have hD : va_D A [(h0, .inr (2, [.ref mk, .int 0, .int 0, .int 0, .int fe])), (mk, .inl (cJ, 1263, .inr (.inl (fun i => if i < 1263 then 0 else g i)))), (hs, .inr (5, [.int nu, .int (mw J), .ref sb, .int x1, .int x2, .int y1, .int y2])), (sb, .inl (cI, 5, .inl (fun z9 => if z9 < 5 then mc (5 * J + z9) else 0)))] := hD
  refine lv_aload_n hx hb dX1_tryAll_23 rfl (lv_at hl 0 rfl) ?_
  refine lv_iconst (v := 0) hx hb dX1_tryAll_24 (by decide) ?_
  refine va_put (D := D) (ci := 2) (v := .int 0) (ty := .int) (C := RX1) (T := TX1) (N := 5) hx hb hts inX1 tyX1 tyX1_ok nmX1 hown hK hP hD hS 0 rfl rfl 4 (by decide) hfieldLink_RX1_29 (fun _ h9 => h9) rfl (by decide +kernel) rfl rfl (Nat.le_of_ble_eq_true rfl) dX1_tryAll_25 (fun H locs hP hD hS => ?_)
  have hP : va_P D ccl [(h0, .inr (2, [.ref mk, .int 0, .int 0, .int 0, .int 0])), (mk, .inl (cJ, 1263, .inr (.inl (fun i => if i < 1263 then 0 else g i)))), (hs, .inr (5, [.int nu, .int (mw J), .ref sb, .int x1, .int x2, .int y1, .int y2])), (sb, .inl (cI, 5, .inl (fun z9 => if z9 < 5 then mc (5 * J + z9) else 0)))] H := hP
  have hD : va_D A [(h0, .inr (2, [.ref mk, .int 0, .int 0, .int 0, .int 0])), (mk, .inl (cJ, 1263, .inr (.inl (fun i => if i < 1263 then 0 else g i)))), (hs, .inr (5, [.int nu, .int (mw J), .ref sb, .int x1, .int x2, .int y1, .int y2])), (sb, .inl (cI, 5, .inl (fun z9 => if z9 < 5 then mc (5 * J + z9) else 0)))] := hD
  refine lv_iload_n hx hb dX1_tryAll_28 rfl (lv_at hl 2 rfl) ?_
  refine lv_ineg hx hb dX1_tryAll_29 ?_
  refine lv_topi (fun f ef => ?_)
  obtain rfl : f = nI 0 - nI R0 := ef.trans ((Int32.zero_sub _).symm)
  refine lv_istore_n (lv' := [(3, .int (nI 0 - nI R0)), (0, .ref h0), (1, .ref hs), (2, .int (nI R0))]) hx hb dX1_tryAll_30 rfl hl (by decide) rfl (fun ls hl => ?_)
  refine W.widen (k := 0) (n := 0) (Nat.le_refl _) (Nat.le_refl _) ?_
  refine g_while (σ := Nat × (Nat → Int64) × (Nat → Nat) × Nat × Nat × Nat × Nat) (st := []) (nL := 5) (fun z => match z with | (u, g2, A9, c9, l9, g9, e9) => [(h0, .inr (2, [.ref mk, .int (nI c9), .int (nI l9), .int (nI g9), .int (nI e9)])), (mk, .inl (cJ, 1263, .inr (.inl g2))), (hs, .inr (5, [.int nu, .int (mw J), .ref sb, .int x1, .int x2, .int y1, .int y2])), (sb, .inl (cI, 5, .inl (fun z9 => if z9 < 5 then mc (5 * J + z9) else 0)))])
    (fun z => match z with | (u, g2, A9, c9, l9, g9, e9) => [(0, .ref h0), (1, .ref hs), (2, .int (nI R0)), (3, .int (nI u - nI R0))])
    (fun z => match z with | (u, g2, A9, c9, l9, g9, e9) => u ≤ 2 * R0 + 1 ∧ crun (nxO mc mw J) (otn R0 u) A9 c9 l9 g9 e9 ∧ mkR g2 A9 ∧ (∀ q, A9 q = 0 ∨ A9 q = 2 ∨ A9 q = 3) ∧ c9 ≤ 25 * u ∧ l9 ≤ 40401 ∧ g9 ≤ 200 ∧ e9 ≤ 25 * u)
    (fun z => match z with | (u, g2, A9, c9, l9, g9, e9) => 2 * R0 + 1 - u) (fun z => match z with | (u, g2, A9, c9, l9, g9, e9) => 0) (fun z => match z with | (u, g2, A9, c9, l9, g9, e9) => 0)
    ?_ (0, (fun i => if i < 1263 then 0 else g i), (fun _ => 0), 0, 0, 0, 0) ⟨Nat.zero_le _, ⟨rfl, rfl, rfl, rfl, rfl⟩, mkR_0, fun q => Or.inl rfl, Nat.zero_le _, Nat.zero_le _, Nat.zero_le _, Nat.zero_le _⟩ hP hD hS (lv_sub hl [1, 2, 3, 0] rfl)
  rintro ⟨u, g2, A9, c9, l9, g9, e9⟩ hI H locs ls hP hD hS hl ih
  have hI : u ≤ 2 * R0 + 1 ∧ crun (nxO mc mw J) (otn R0 u) A9 c9 l9 g9 e9 ∧ mkR g2 A9 ∧ (∀ q, A9 q = 0 ∨ A9 q = 2 ∨ A9 q = 3) ∧ c9 ≤ 25 * u ∧ l9 ≤ 40401 ∧ g9 ≤ 200 ∧ e9 ≤ 25 * u := hI
  have hP : va_P D ccl [(h0, .inr (2, [.ref mk, .int (nI c9), .int (nI l9), .int (nI g9), .int (nI e9)])), (mk, .inl (cJ, 1263, .inr (.inl g2))), (hs, .inr (5, [.int nu, .int (mw J), .ref sb, .int x1, .int x2, .int y1, .int y2])), (sb, .inl (cI, 5, .inl (fun z9 => if z9 < 5 then mc (5 * J + z9) else 0)))] H := hP
  have hD : va_D A [(h0, .inr (2, [.ref mk, .int (nI c9), .int (nI l9), .int (nI g9), .int (nI e9)])), (mk, .inl (cJ, 1263, .inr (.inl g2))), (hs, .inr (5, [.int nu, .int (mw J), .ref sb, .int x1, .int x2, .int y1, .int y2])), (sb, .inl (cI, 5, .inl (fun z9 => if z9 < 5 then mc (5 * J + z9) else 0)))] := hD
  have hl : lv_has ls 5 [(0, .ref h0), (1, .ref hs), (2, .int (nI R0)), (3, .int (nI u - nI R0))] := hl
  change W p l e _ s m _ below meth c H locs 0 0 _ (F0 m 31 ls [])
  have ih_31 := ih
  clear ih
  obtain ⟨hu, hcr, hM, hA9, hc1, hl1, hg1, he1⟩ := hI
  refine lv_iload_n hx hb dX1_tryAll_31 rfl (lv_at hl 3 rfl) ?_
  refine lv_iload_n hx hb dX1_tryAll_32 rfl (lv_at hl 2 rfl) ?_
  refine lv_icmp_gt (tgt := 69) hx hb dX1_tryAll_33 (by decide) (fun c_33 => ?_) (fun c_33 => ?_)
  · have c_33 := (off_gt (by omega) (by omega)).mp c_33
    obtain rfl : u = 2 * R0 + 1 := by omega
    refine g_vret hx hb hr hlk hP hK hD hS (Nat.le_of_ble_eq_true rfl) (Nat.le_of_ble_eq_true rfl) dX1_tryAll_69 ?_
    exact ⟨_, _, _, _, _, _, rfl, hcr⟩
  · have c_33 : u ≤ 2 * R0 := Nat.le_of_not_lt (fun h9 => c_33 ((off_gt (by omega) (by omega)).mpr h9))
    refine lv_iload_n hx hb dX1_tryAll_36 rfl (lv_at hl 2 rfl) ?_
    refine lv_ineg hx hb dX1_tryAll_37 ?_
    refine lv_topi (fun f ef => ?_)
    obtain rfl : f = nI 0 - nI R0 := ef.trans ((Int32.zero_sub _).symm)
    refine lv_istore (lv' := [(4, .int (nI 0 - nI R0)), (0, .ref h0), (1, .ref hs), (2, .int (nI R0)), (3, .int (nI u - nI R0))]) hx hb dX1_tryAll_38 hl (by decide) rfl (fun ls hl => ?_)
    refine W.widen (k := 0) (n := 0) (Nat.le_refl _) (Nat.le_refl _) ?_
    refine g_while (σ := Nat × (Nat → Int64) × (Nat → Nat) × Nat × Nat × Nat × Nat) (st := []) (nL := 5) (fun z => match z with | (v, g2, A9, c9, l9, g9, e9) => [(h0, .inr (2, [.ref mk, .int (nI c9), .int (nI l9), .int (nI g9), .int (nI e9)])), (mk, .inl (cJ, 1263, .inr (.inl g2))), (hs, .inr (5, [.int nu, .int (mw J), .ref sb, .int x1, .int x2, .int y1, .int y2])), (sb, .inl (cI, 5, .inl (fun z9 => if z9 < 5 then mc (5 * J + z9) else 0)))])
      (fun z => match z with | (v, g2, A9, c9, l9, g9, e9) => [(0, .ref h0), (1, .ref hs), (2, .int (nI R0)), (3, .int (nI u - nI R0)), (4, .int (nI v - nI R0))])
      (fun z => match z with | (v, g2, A9, c9, l9, g9, e9) => v ≤ 2 * R0 + 1 ∧ crun (nxO mc mw J) (inn R0 u (otn R0 u) v) A9 c9 l9 g9 e9 ∧ mkR g2 A9 ∧ (∀ q, A9 q = 0 ∨ A9 q = 2 ∨ A9 q = 3) ∧ c9 ≤ 25 * u + v ∧ l9 ≤ 40401 ∧ g9 ≤ 200 ∧ e9 ≤ 25 * u + v)
      (fun z => match z with | (v, g2, A9, c9, l9, g9, e9) => 2 * R0 + 1 - v) (fun z => match z with | (v, g2, A9, c9, l9, g9, e9) => 0) (fun z => match z with | (v, g2, A9, c9, l9, g9, e9) => 0)
      ?_ (0, g2, A9, c9, l9, g9, e9) ⟨Nat.zero_le _, hcr, hM, hA9, hc1, hl1, hg1, he1⟩ hP hD hS (lv_sub hl [1, 2, 3, 4, 0] rfl)
    rintro ⟨v, g2, A9, c9, l9, g9, e9⟩ hI H locs ls hP hD hS hl ih
    have hI : v ≤ 2 * R0 + 1 ∧ crun (nxO mc mw J) (inn R0 u (otn R0 u) v) A9 c9 l9 g9 e9 ∧ mkR g2 A9 ∧ (∀ q, A9 q = 0 ∨ A9 q = 2 ∨ A9 q = 3) ∧ c9 ≤ 25 * u + v ∧ l9 ≤ 40401 ∧ g9 ≤ 200 ∧ e9 ≤ 25 * u + v := hI
    have hP : va_P D ccl [(h0, .inr (2, [.ref mk, .int (nI c9), .int (nI l9), .int (nI g9), .int (nI e9)])), (mk, .inl (cJ, 1263, .inr (.inl g2))), (hs, .inr (5, [.int nu, .int (mw J), .ref sb, .int x1, .int x2, .int y1, .int y2])), (sb, .inl (cI, 5, .inl (fun z9 => if z9 < 5 then mc (5 * J + z9) else 0)))] H := hP
    have hD : va_D A [(h0, .inr (2, [.ref mk, .int (nI c9), .int (nI l9), .int (nI g9), .int (nI e9)])), (mk, .inl (cJ, 1263, .inr (.inl g2))), (hs, .inr (5, [.int nu, .int (mw J), .ref sb, .int x1, .int x2, .int y1, .int y2])), (sb, .inl (cI, 5, .inl (fun z9 => if z9 < 5 then mc (5 * J + z9) else 0)))] := hD
    have hl : lv_has ls 5 [(0, .ref h0), (1, .ref hs), (2, .int (nI R0)), (3, .int (nI u - nI R0)), (4, .int (nI v - nI R0))] := hl
    change W p l e _ s m _ below meth c H locs 0 0 _ (F0 m 40 ls [])
    have ih_40 := ih
    clear ih
    clear hcr hM hA9 hc1 hl1 hg1 he1
    obtain ⟨hv, hcr, hM, hA9, hc1, hl1, hg1, he1⟩ := hI
    refine lv_iload hx hb dX1_tryAll_40 (lv_at hl 4 rfl) ?_
    refine lv_iload_n hx hb dX1_tryAll_42 rfl (lv_at hl 2 rfl) ?_
    refine lv_icmp_gt (tgt := 63) hx hb dX1_tryAll_43 (by decide) (fun c_43 => ?_) (fun c_43 => ?_)
    · have c_43 := (off_gt (by omega) (by omega)).mp c_43
      obtain rfl : v = 2 * R0 + 1 := by omega
      refine lv_iinc (v := nI (u + 1) - nI R0) (lv' := [(3, .int (nI (u + 1) - nI R0)), (0, .ref h0), (1, .ref hs), (2, .int (nI R0)), (4, .int (nI (2 * R0 + 1) - nI R0))]) hx hb dX1_tryAll_63 hl (k := 3) rfl (by exact off_s) (by decide) rfl (fun ls hl => ?_)
      refine lv_goto (tgt := 31) hx hb dX1_tryAll_66 (by decide) ?_
      refine W.widen (k := 0) (n := 0) (Nat.le_refl _) (Nat.le_refl _) ?_
      exact ih_31 (u + 1, g2, A9, c9, l9, g9, e9) _ _ _ (show (u + 1) ≤ 2 * R0 + 1 ∧ crun (nxO mc mw J) (otn R0 (u + 1)) A9 c9 l9 g9 e9 ∧ mkR g2 A9 ∧ (∀ q, A9 q = 0 ∨ A9 q = 2 ∨ A9 q = 3) ∧ c9 ≤ 25 * (u + 1) ∧ l9 ≤ 40401 ∧ g9 ≤ 200 ∧ e9 ≤ 25 * (u + 1) from (by exact ⟨by omega, hcr, hM, hA9, by omega, hl1, hg1, by omega⟩)) (show 2 * R0 + 1 - (u + 1) < 2 * R0 + 1 - u by omega) hP hD hS (lv_sub hl [1, 2, 3, 0] rfl)
    · have c_43 : v ≤ 2 * R0 := Nat.le_of_not_lt (fun h9 => c_43 ((off_gt (by omega) (by omega)).mpr h9))
      have hsl := sI_lt hR2 c_33 c_43
      refine lv_aload_n hx hb dX1_tryAll_46 rfl (lv_at hl 0 rfl) ?_
      refine lv_aload_n hx hb dX1_tryAll_47 rfl (lv_at hl 1 rfl) ?_
      refine lv_iload_n hx hb dX1_tryAll_48 rfl (lv_at hl 3 rfl) ?_
      refine lv_iload hx hb dX1_tryAll_49 (lv_at hl 4 rfl) ?_
      have hPc : va_P D ccl [] H := fun k q h => by simp at h
      have hDc : va_D A [] := ⟨fun i j p q h => by simp at h, fun k q h => by simp at h⟩
      have hFc := va_free (wc := []) hD hS hA [] rfl
      refine g_Si (As := [.int (nI u - nI R0), .int (nI v - nI R0)]) (rest := [.ref hs, .ref h0]) CF (c_X1_stateOf l D cI cJ cO df H.size (nI u - nI R0) (nI v - nI R0) ) (va_cwS 2 hts gX1_tryAll_X1_stateOf rfl rfl rfl (by decide +kernel) ⟨Nat.le_of_ble_eq_true rfl, Nat.le_of_ble_eq_true rfl⟩)  hPc hK hDc hV hH hS hFc rfl hl.1 rfl (Nat.le_of_ble_eq_true rfl) dX1_tryAll_51 ⟨Nat.le_of_ble_eq_true rfl, Nat.le_of_ble_eq_true rfl⟩ (fun r_51 w1 H1 locs1 hq hP1 hD1 hk hS hz => ?_)
      obtain ⟨rfl, hr_51⟩ := hq
      have hP := g_keep0 hP hk
      clear hPc hDc hFc hP1 hD1 hk hz
      generalize H1 = H at hP hS ⊢
      have hP : va_P D ccl [(h0, .inr (2, [.ref mk, .int (nI c9), .int (nI l9), .int (nI g9), .int (nI e9)])), (mk, .inl (cJ, 1263, .inr (.inl g2))), (hs, .inr (5, [.int nu, .int (mw J), .ref sb, .int x1, .int x2, .int y1, .int y2])), (sb, .inl (cI, 5, .inl (fun z9 => if z9 < 5 then mc (5 * J + z9) else 0)))] H := hP
      have hD : va_D A [(h0, .inr (2, [.ref mk, .int (nI c9), .int (nI l9), .int (nI g9), .int (nI e9)])), (mk, .inl (cJ, 1263, .inr (.inl g2))), (hs, .inr (5, [.int nu, .int (mw J), .ref sb, .int x1, .int x2, .int y1, .int y2])), (sb, .inl (cI, 5, .inl (fun z9 => if z9 < 5 then mc (5 * J + z9) else 0)))] := hD
      subst hr_51
      refine lv_topi (fun f ef => ?_)
      obtain rfl : f = nI (sI R0 u v) := ef.trans (stC_sI hR2 c_33 c_43)
      have hPc := hP.sub (ws' := [(h0, .inr (2, [.ref mk, .int (nI c9), .int (nI l9), .int (nI g9), .int (nI e9)])), (mk, .inl (cJ, 1263, .inr (.inl g2))), (hs, .inr (5, [.int nu, .int (mw J), .ref sb, .int x1, .int x2, .int y1, .int y2])), (sb, .inl (cI, 5, .inl (fun z9 => if z9 < 5 then mc (5 * J + z9) else 0)))]) [0, 1, 2, 3] rfl
      have hDc := hD.sub (ws' := [(h0, .inr (2, [.ref mk, .int (nI c9), .int (nI l9), .int (nI g9), .int (nI e9)])), (mk, .inl (cJ, 1263, .inr (.inl g2))), (hs, .inr (5, [.int nu, .int (mw J), .ref sb, .int x1, .int x2, .int y1, .int y2])), (sb, .inl (cI, 5, .inl (fun z9 => if z9 < 5 then mc (5 * J + z9) else 0)))]) [0, 1, 2, 3] (by decide) rfl
      have hFc := va_free (wc := [(h0, .inr (2, [.ref mk, .int (nI c9), .int (nI l9), .int (nI g9), .int (nI e9)])), (mk, .inl (cJ, 1263, .inr (.inl g2))), (hs, .inr (5, [.int nu, .int (mw J), .ref sb, .int x1, .int x2, .int y1, .int y2])), (sb, .inl (cI, 5, .inl (fun z9 => if z9 < 5 then mc (5 * J + z9) else 0)))]) hD hS hA [0, 1, 2, 3] rfl
      refine g_Vv (As := [.ref hs, .int (nI (sI R0 u v))]) (rest := []) CF (c_X1_tryFrom l D cI cJ cO df H.size h0 mk g2 c9 l9 g9 e9 hs sb nu x1 x2 y1 y2 mc mw J (sI R0 u v) A9 hJ hc hw (by omega) hl1 hg1 (by omega) hsl hA9 hM) (cwV 2 hts gX1_tryAll_X1_tryFrom rfl rfl rfl (by decide +kernel) ⟨Nat.le_of_ble_eq_true rfl, Nat.le_of_ble_eq_true rfl⟩) (va_recv hK hP (ci := 2) (q0 := 0) rfl rfl) hPc hK hDc hV hH hS hFc rfl hl.1 rfl (Nat.le_of_ble_eq_true rfl) dX1_tryAll_54 ⟨Nat.le_of_ble_eq_true rfl, Nat.le_of_ble_eq_true rfl⟩ (fun w1 H1 locs1 hq hP1 hD1 hk hS hz => ?_)
      obtain ⟨g3, A3, c3, l3, g4, e3, rfl, hq_54⟩ := hq
      obtain ⟨hP, hD⟩ := g_join (ws' := [(h0, .inr (2, [.ref mk, .int (nI c3), .int (nI l3), .int (nI g4), .int (nI e3)])), (mk, .inl (cJ, 1263, .inr (.inl g3))), (hs, .inr (5, [.int nu, .int (mw J), .ref sb, .int x1, .int x2, .int y1, .int y2])), (sb, .inl (cI, 5, .inl (fun z9 => if z9 < 5 then mc (5 * J + z9) else 0)))]) hP hD hk hFc hP1 hD1 [0, 1, 2, 3] [] [0, 1, 2, 3] rfl rfl (by decide) (by decide) (by decide) rfl
      clear hPc hDc hFc hP1 hD1 hk hz
      generalize H1 = H at hP hS ⊢
      have hP : va_P D ccl [(h0, .inr (2, [.ref mk, .int (nI c3), .int (nI l3), .int (nI g4), .int (nI e3)])), (mk, .inl (cJ, 1263, .inr (.inl g3))), (hs, .inr (5, [.int nu, .int (mw J), .ref sb, .int x1, .int x2, .int y1, .int y2])), (sb, .inl (cI, 5, .inl (fun z9 => if z9 < 5 then mc (5 * J + z9) else 0)))] H := hP
      have hD : va_D A [(h0, .inr (2, [.ref mk, .int (nI c3), .int (nI l3), .int (nI g4), .int (nI e3)])), (mk, .inl (cJ, 1263, .inr (.inl g3))), (hs, .inr (5, [.int nu, .int (mw J), .ref sb, .int x1, .int x2, .int y1, .int y2])), (sb, .inl (cI, 5, .inl (fun z9 => if z9 < 5 then mc (5 * J + z9) else 0)))] := hD
      obtain ⟨hM3, hA3, hwr, he3, hc3, hl3, hg3⟩ := hq_54
      refine lv_iinc (v := nI (v + 1) - nI R0) (lv' := [(4, .int (nI (v + 1) - nI R0)), (0, .ref h0), (1, .ref hs), (2, .int (nI R0)), (3, .int (nI u - nI R0))]) hx hb dX1_tryAll_57 hl (k := 4) rfl (by exact off_s) (by decide) rfl (fun ls hl => ?_)
      refine lv_goto (tgt := 40) hx hb dX1_tryAll_60 (by decide) ?_
      refine W.widen (k := 0) (n := 0) (Nat.le_refl _) (Nat.le_refl _) ?_
      exact ih_40 (v + 1, g3, A3, c3, l3, g4, e3) _ _ _ (show (v + 1) ≤ 2 * R0 + 1 ∧ crun (nxO mc mw J) (inn R0 u (otn R0 u) (v + 1)) A3 c3 l3 g4 e3 ∧ mkR g3 A3 ∧ (∀ q, A3 q = 0 ∨ A3 q = 2 ∨ A3 q = 3) ∧ c3 ≤ 25 * u + (v + 1) ∧ l3 ≤ 40401 ∧ g4 ≤ 200 ∧ e3 ≤ 25 * u + (v + 1) from (by exact ⟨by omega, ⟨_, _, _, _, _, hcr, hwr, he3⟩, hM3, hA3, by omega, hl3, hg3, by rw [he3]; split <;> omega⟩)) (show 2 * R0 + 1 - (v + 1) < 2 * R0 + 1 - v by omega) hP hD hS (lv_sub hl [1, 2, 3, 4, 0] rfl)

set_option maxHeartbeats 4000000 in
set_option maxRecDepth 100000 in
theorem c_X1_found (l : Launch) (D : va_G) (cI cJ cO : ClassId) (df sz : Nat) (h0 : Nat) (mk : Nat) (g : Nat → Int64) (kc : Nat) (kl : Nat) (kg : Nat) (ke : Nat) (w : Nat) (hw : w ≤ 3) : MetI l yX1_found wsX1_found ({ frames := 0, cells := 0, slots := 0, locals := 0 } : Room) D (gTY cI cJ cO) df [(h0, .inr (2, [.ref mk, .int (nI kc), .int (nI kl), .int (nI kg), .int (nI ke)])), (mk, .inl (cJ, 1263, .inr (.inl g)))] sz [.ref h0, .int (nI w)] (fun (r : Int32) (wZ : va_W) => wZ = [(h0, .inr (2, [.ref mk, .int (nI kc), .int (nI kl), .int (nI kg), .int (nI ke)])), (mk, .inl (cJ, 1263, .inr (.inl g)))] ∧ r = nI (pick w kc kl kg ke)) := by
  refine g_of (cc := cX1_found) (nL := 2) (ret := (some .int)) (D := D) (TY := (gTY cI cJ cO)) (df := df) (Qc := fun A => va_Qi (fun (r : Int32) (wZ : va_W) => wZ = [(h0, .inr (2, [.ref mk, .int (nI kc), .int (nI kl), .int (nI kg), .int (nI ke)])), (mk, .inl (cJ, 1263, .inr (.inl g)))] ∧ r = nI (pick w kc kl kg ke)) (gB D (gTY cI cJ cO) A) A) (by decide +kernel) rfl (Nat.le_of_ble_eq_true rfl) ?_
  intro p e s m below meth c ls A hsz C0 hin hl
  obtain ⟨CF, hr, hlk, hA, hS, hP, hK, hD, hV, hH⟩ := C0
  have CF : CallFix p m c cX1_found 2 s _ wsX1_found RX1 := CF
  obtain ⟨hx, hb, hml, hown, hts⟩ := id CF
  subst hsz
  have hfieldLink_RX1_19 : (Cond.fieldLink RX1 19 "TapLoom$CycleSearch" "count" "I").before _ s = true := hts _ (List.mem_of_getElem? (i := 1) rfl)
  have hfieldLink_RX1_23 : (Cond.fieldLink RX1 23 "TapLoom$CycleSearch" "longest" "I").before _ s = true := hts _ (List.mem_of_getElem? (i := 2) rfl)
  have hfieldLink_RX1_26 : (Cond.fieldLink RX1 26 "TapLoom$CycleSearch" "greatest" "I").before _ s = true := hts _ (List.mem_of_getElem? (i := 3) rfl)
  have hfieldLink_RX1_29 : (Cond.fieldLink RX1 29 "TapLoom$CycleSearch" "leaving" "I").before _ s = true := hts _ (List.mem_of_getElem? (i := 4) rfl)
  have inX1 : ∀ w ∈ u_ws RX1 TX1 5, w ∈ wsX1_found := fun w h => (List.mem_cons_of_mem _ (List.mem_append_right _ h))
  have hP : va_P D ccl [(h0, .inr (2, [.ref mk, .int (nI kc), .int (nI kl), .int (nI kg), .int (nI ke)])), (mk, .inl (cJ, 1263, .inr (.inl g)))] s.heap := hP
  have hl : lv_has ls 2 [(0, .ref h0), (1, .int (nI w))] := hl
  refine lv_iload_n hx hb dX1_found_0 rfl (lv_at hl 1 rfl) ?_
  by_cases s_1_0 : nI w = 0
  · have c_1_0 := s_1_0
    have c_1_0 : w = 0 := g_eq (a := w) (b := 0) c_1_0 (by omega) (by omega)
    refine lv_tableIn (off := 27) (tgt := 28) hx hb dX1_found_1 (by rw [s_1_0]; decide) (by rw [s_1_0]; decide) (by rw [s_1_0]; rfl) (by decide) ?_
    refine lv_aload_n hx hb dX1_found_28 rfl (lv_at hl 0 rfl) ?_
    refine va_get (D := D) (ci := 2) (v := .int (nI kc)) (C := RX1) (T := TX1) (N := 5) hx hb hts inX1 hown hK hP 0 rfl rfl 1 (by decide) hfieldLink_RX1_19 (fun _ h9 => h9) rfl dX1_found_29 ?_
    refine g_iret (v := nI kc) hx hb hr hlk hP hK hD hS (Nat.le_of_ble_eq_true rfl) (Nat.le_of_ble_eq_true rfl) dX1_found_32 ?_
    exact ⟨rfl, by unfold pick; (repeat (first | rw [if_pos (by assumption)] | rw [if_neg (by assumption)]))⟩
  have c_1_0 := s_1_0
  have c_1_0 : w ≠ 0 := g_ne (a := w) (b := 0) c_1_0 (by omega) (by omega)
  by_cases s_1_1 : nI w = 1
  · have c_1_1 := s_1_1
    have c_1_1 : w = 1 := g_eq (a := w) (b := 1) c_1_1 (by omega) (by omega)
    refine lv_tableIn (off := 32) (tgt := 33) hx hb dX1_found_1 (by rw [s_1_1]; decide) (by rw [s_1_1]; decide) (by rw [s_1_1]; rfl) (by decide) ?_
    refine lv_aload_n hx hb dX1_found_33 rfl (lv_at hl 0 rfl) ?_
    refine va_get (D := D) (ci := 2) (v := .int (nI kl)) (C := RX1) (T := TX1) (N := 5) hx hb hts inX1 hown hK hP 0 rfl rfl 2 (by decide) hfieldLink_RX1_23 (fun _ h9 => h9) rfl dX1_found_34 ?_
    refine g_iret (v := nI kl) hx hb hr hlk hP hK hD hS (Nat.le_of_ble_eq_true rfl) (Nat.le_of_ble_eq_true rfl) dX1_found_37 ?_
    exact ⟨rfl, by unfold pick; (repeat (first | rw [if_pos (by assumption)] | rw [if_neg (by assumption)]))⟩
  have c_1_1 := s_1_1
  have c_1_1 : w ≠ 1 := g_ne (a := w) (b := 1) c_1_1 (by omega) (by omega)
  by_cases s_1_2 : nI w = 2
  · have c_1_2 := s_1_2
    have c_1_2 : w = 2 := g_eq (a := w) (b := 2) c_1_2 (by omega) (by omega)
    refine lv_tableIn (off := 37) (tgt := 38) hx hb dX1_found_1 (by rw [s_1_2]; decide) (by rw [s_1_2]; decide) (by rw [s_1_2]; rfl) (by decide) ?_
    refine lv_aload_n hx hb dX1_found_38 rfl (lv_at hl 0 rfl) ?_
    refine va_get (D := D) (ci := 2) (v := .int (nI kg)) (C := RX1) (T := TX1) (N := 5) hx hb hts inX1 hown hK hP 0 rfl rfl 3 (by decide) hfieldLink_RX1_26 (fun _ h9 => h9) rfl dX1_found_39 ?_
    refine g_iret (v := nI kg) hx hb hr hlk hP hK hD hS (Nat.le_of_ble_eq_true rfl) (Nat.le_of_ble_eq_true rfl) dX1_found_42 ?_
    exact ⟨rfl, by unfold pick; (repeat (first | rw [if_pos (by assumption)] | rw [if_neg (by assumption)]))⟩
  have c_1_2 := s_1_2
  have c_1_2 : w ≠ 2 := g_ne (a := w) (b := 2) c_1_2 (by omega) (by omega)
  refine lv_tableOut (tgt := 43) hx hb dX1_found_1 (by have z0 := lv_neT (a := 0) s_1_0 (by decide); have z1 := lv_neT (a := 1) s_1_1 (by decide); have z2 := lv_neT (a := 2) s_1_2 (by decide); omega) (by decide) ?_
  refine lv_aload_n hx hb dX1_found_43 rfl (lv_at hl 0 rfl) ?_
  refine va_get (D := D) (ci := 2) (v := .int (nI ke)) (C := RX1) (T := TX1) (N := 5) hx hb hts inX1 hown hK hP 0 rfl rfl 4 (by decide) hfieldLink_RX1_29 (fun _ h9 => h9) rfl dX1_found_44 ?_
  refine g_iret (v := nI ke) hx hb hr hlk hP hK hD hS (Nat.le_of_ble_eq_true rfl) (Nat.le_of_ble_eq_true rfl) dX1_found_47 ?_
  exact ⟨rfl, by unfold pick; (repeat (first | rw [if_pos (by assumption)] | rw [if_neg (by assumption)]))⟩
