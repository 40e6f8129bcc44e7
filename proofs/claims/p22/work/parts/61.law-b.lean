set_option maxHeartbeats 4000000 in
set_option maxRecDepth 100000 in
theorem c_L_cycle (l : Launch) (D : va_G) (cI cJ cO : ClassId) (df sz : Nat) (kc : Nat) (fc : Nat → Int32) (mc : Nat → Int32) (ms : Nat → Int32) (mw : Nat → Int32) (N : Nat) (J : Nat) (q : Nat) (hR : RC fc mc ms mw N) (hJ4 : J < 4) (hJN : J < N) (hc : isC mc) (hw : ∀ j, j < 8 → isW (mw j)) (hq4 : q < 40401) : MetI l yL_cycle wsL_cycle ({ frames := 1, cells := 0, slots := 0, locals := 26 } : Room) D (gTY cI cJ cO) df [(kc, .inl (cI, 40, .inl fc))] sz [.ref kc, .int (nI (10 * J)), .int (nI (lE q))] (fun (r : Int32) (wZ : va_W) => wZ = [(kc, .inl (cI, 40, .inl fc))] ∧ ((lvS (nxO mc mw J) q ∧ r = -1) ∨ ∃ L, cyL (nxO mc mw J) q L ∧ L < 40401 ∧ r = nI (lE L))) := by
  refine g_of (cc := cL_cycle) (nL := 8) (ret := (some .int)) (D := D) (TY := (gTY cI cJ cO)) (df := df) (Qc := fun A => va_Qi (fun (r : Int32) (wZ : va_W) => wZ = [(kc, .inl (cI, 40, .inl fc))] ∧ ((lvS (nxO mc mw J) q ∧ r = -1) ∨ ∃ L, cyL (nxO mc mw J) q L ∧ L < 40401 ∧ r = nI (lE L))) (gB D (gTY cI cJ cO) A) A) (by decide +kernel) rfl (Nat.le_of_ble_eq_true rfl) ?_
  intro p e s m below meth c ls A hsz C0 hin hl
  obtain ⟨CF, hr, hlk, hA, hS, hP, hK, hD, hV, hH⟩ := C0
  have CF : CallFix p m c cL_cycle 8 s _ wsL_cycle RL := CF
  obtain ⟨hx, hb, hml, hown, hts⟩ := id CF
  subst hsz
  have hmethodLink_RL_46 : (Cond.methodLink RL 46 yL_next).before _ s = true := hts _ (List.mem_of_getElem? (i := 1) rfl)
  have hP : va_P D ccl [(kc, .inl (cI, 40, .inl fc))] s.heap := hP
  have hl : lv_has ls 8 [(0, .ref kc), (1, .int (nI (10 * J))), (2, .int (nI (lE q)))] := hl
  have hX : ∀ q t, q < 40401 → nxO mc mw J q = some t → t < 40401 := fun q t h1 h2 => nxO_lt h1 h2
  obtain ⟨B, hB⟩ := floyd_bd hX hq4
  refine lv_iload_n hx hb dL_cycle_0 rfl (lv_at hl 2 rfl) ?_
  refine lv_istore_n (lv' := [(3, .int (nI (lE q))), (0, .ref kc), (1, .int (nI (10 * J))), (2, .int (nI (lE q)))]) hx hb dL_cycle_1 rfl hl (by decide) rfl (fun ls hl => ?_)
  refine lv_iload_n hx hb dL_cycle_2 rfl (lv_at hl 3 rfl) ?_
  refine lv_istore (lv' := [(4, .int (nI (lE q))), (3, .int (nI (lE q))), (0, .ref kc), (1, .int (nI (10 * J))), (2, .int (nI (lE q)))]) hx hb dL_cycle_3 hl (by decide) rfl (fun ls hl => ?_)
  refine lv_iconst (v := 0) hx hb dL_cycle_5 (by decide) ?_
  refine lv_istore (lv' := [(5, .int 0), (4, .int (nI (lE q))), (3, .int (nI (lE q))), (0, .ref kc), (1, .int (nI (10 * J))), (2, .int (nI (lE q)))]) hx hb dL_cycle_6 hl (by decide) rfl (fun ls hl => ?_)
  refine W.widen (k := 0) (n := 0) (Nat.le_refl _) (Nat.le_refl _) ?_
  refine g_while (σ := Nat) (st := []) (nL := 8) (fun i => [(kc, .inl (cI, 40, .inl fc))])
    (fun i => [(0, .ref kc), (1, .int (nI (10 * J))), (2, .int (nI (lE q))), (3, .int (nI (lE (tv (nxO mc mw J) q (i))))), (4, .int (nI (lE (tv (nxO mc mw J) q (2 * i))))), (5, .int (nFl (i ≠ 0 ∧ tr (nxO mc mw J) q (i) = tr (nxO mc mw J) q (2 * i))))])
    (fun i => (∀ j, j ≤ 2 * i → tr (nxO mc mw J) q (j) ≠ none) ∧ (∀ j, 1 ≤ j → j < i → tr (nxO mc mw J) q (j) ≠ tr (nxO mc mw J) q (2 * j)))
    (fun i => B + 1 - i) (fun i => 0) (fun i => 0)
    ?_ 0 ⟨fun j hj h9 => (by (obtain rfl : j = 0 := by omega); cases h9), fun j h1 h2 => absurd h2 (Nat.not_lt_zero j)⟩ hP hD hS (lv_sub hl [3, 4, 5, 2, 1, 0] rfl)
  intro i hI H locs ls hP hD hS hl ih
  have hI : (∀ j, j ≤ 2 * i → tr (nxO mc mw J) q (j) ≠ none) ∧ (∀ j, 1 ≤ j → j < i → tr (nxO mc mw J) q (j) ≠ tr (nxO mc mw J) q (2 * j)) := hI
  have hP : va_P D ccl [(kc, .inl (cI, 40, .inl fc))] H := hP
  have hD : va_D A [(kc, .inl (cI, 40, .inl fc))] := hD
  have hl : lv_has ls 8 [(0, .ref kc), (1, .int (nI (10 * J))), (2, .int (nI (lE q))), (3, .int (nI (lE (tv (nxO mc mw J) q (i))))), (4, .int (nI (lE (tv (nxO mc mw J) q (2 * i))))), (5, .int (nFl (i ≠ 0 ∧ tr (nxO mc mw J) q (i) = tr (nxO mc mw J) q (2 * i))))] := hl
  change W p l e _ s m _ below meth c H locs 0 0 _ (F0 m 8 ls [])
  have ih_8 := ih
  clear ih
  obtain ⟨hso, hne⟩ := hI
  obtain ⟨x, hx9⟩ := Option.ne_none_iff_exists'.mp (hso i (by omega))
  obtain ⟨y, hy9⟩ := Option.ne_none_iff_exists'.mp (hso (2 * i) (Nat.le_refl _))
  have ex9 := tv_of hx9
  have ey9 := tv_of hy9
  have hx4 := tr_lt hX hq4 i x hx9
  have hy4 := tr_lt hX hq4 (2 * i) y hy9
  refine lv_iload hx hb dL_cycle_8 (lv_at hl 5 rfl) ?_
  refine lv_if_ne (tgt := 70) hx hb dL_cycle_10 (by decide) (fun c_10 => ?_) (fun c_10 => ?_)
  · have c_10 := nFl_1 c_10
    have hit : tr (nxO mc mw J) x i = some x := by have h9 := tr_add hx9 i; rw [show i + i = 2 * i by omega, ← c_10.2, hx9] at h9; exact h9.symm
    have hi0 : i ≠ 0 := c_10.1
    refine lv_iload_n hx hb dL_cycle_70 rfl (lv_at hl 3 rfl) ?_
    refine lv_topi (fun f ef => ?_)
    obtain rfl : f = nI (lE (mnx (nxO mc mw J) x 0)) := ef.trans (congrArg (fun z9 => nI (lE z9)) ex9)
    refine lv_istore (lv' := [(6, .int (nI (lE (mnx (nxO mc mw J) x 0)))), (0, .ref kc), (1, .int (nI (10 * J))), (2, .int (nI (lE q))), (3, .int (nI (lE (tv (nxO mc mw J) q (i))))), (4, .int (nI (lE (tv (nxO mc mw J) q (2 * i))))), (5, .int (nFl (i ≠ 0 ∧ tr (nxO mc mw J) q (i) = tr (nxO mc mw J) q (2 * i))))]) hx hb dL_cycle_71 hl (by decide) rfl (fun ls hl => ?_)
    refine lv_aload_n hx hb dL_cycle_73 rfl (lv_at hl 1 rfl) ?_
    refine lv_iload_n hx hb dL_cycle_74 rfl (lv_at hl 2 rfl) ?_
    refine lv_iload_n hx hb dL_cycle_75 rfl (lv_at hl 4 rfl) ?_
    have hPc := hP.sub (ws' := [(kc, .inl (cI, 40, .inl fc))]) [0] rfl
    have hDc := hD.sub (ws' := [(kc, .inl (cI, 40, .inl fc))]) [0] (by decide) rfl
    have hFc := va_free (wc := [(kc, .inl (cI, 40, .inl fc))]) hD hS hA [0] rfl
    refine g_Si (As := [.ref kc, .int (nI (10 * J)), .int (nI (lE (tv (nxO mc mw J) q (i))))]) (rest := []) CF (c_L_next l D cI cJ cO df H.size kc fc mc ms mw N J (tv (nxO mc mw J) q (i)) hR hJ4 hJN hc hw (by rw [ex9]; exact hx4)) (va_cwS 3 hts gL_cycle_L_next rfl rfl rfl (by decide +kernel) ⟨Nat.le_of_ble_eq_true rfl, Nat.le_of_ble_eq_true rfl⟩)  hPc hK hDc hV hH hS hFc rfl hl.1 rfl (Nat.le_of_ble_eq_true rfl) dL_cycle_76 ⟨Nat.le_of_ble_eq_true rfl, Nat.le_of_ble_eq_true rfl⟩ (fun r_76 w1 H1 locs1 hq hP1 hD1 hk hS hz => ?_)
    obtain ⟨rfl, hr_76⟩ := hq
    have hP := g_keepR hP hD [0] rfl hk hP1
    clear hPc hDc hFc hP1 hD1 hk hz
    generalize H1 = H at hP hS ⊢
    have hP : va_P D ccl [(kc, .inl (cI, 40, .inl fc))] H := hP
    have hD : va_D A [(kc, .inl (cI, 40, .inl fc))] := hD
    subst hr_76
    refine lv_topi (fun f ef => ?_)
    obtain rfl : f = nI (lE (tv (nxO mc mw J) x (0 + 1))) := ef.trans (by obtain ⟨z1, hz1⟩ := per_some (by omega) hit 1; rw [ex9, tv_of (show tr (nxO mc mw J) x (0 + 1) = some z1 from hz1)]; have h9 : tr (nxO mc mw J) x 1 = nxO mc mw J x := rfl; rw [← h9, hz1]; rfl)
    refine lv_istore (lv' := [(7, .int (nI (lE (tv (nxO mc mw J) x (0 + 1))))), (6, .int (nI (lE (mnx (nxO mc mw J) x 0)))), (0, .ref kc), (1, .int (nI (10 * J))), (2, .int (nI (lE q))), (3, .int (nI (lE (tv (nxO mc mw J) q (i))))), (4, .int (nI (lE (tv (nxO mc mw J) q (2 * i))))), (5, .int (nFl (i ≠ 0 ∧ tr (nxO mc mw J) q (i) = tr (nxO mc mw J) q (2 * i))))]) hx hb dL_cycle_79 hl (by decide) rfl (fun ls hl => ?_)
    refine W.widen (k := 0) (n := 0) (Nat.le_refl _) (Nat.le_refl _) ?_
    refine g_while (σ := Nat) (st := []) (nL := 8) (fun j => [(kc, .inl (cI, 40, .inl fc))])
      (fun j => [(0, .ref kc), (1, .int (nI (10 * J))), (3, .int (nI (lE (tv (nxO mc mw J) q (i))))), (6, .int (nI (lE (mnx (nxO mc mw J) x j)))), (7, .int (nI (lE (tv (nxO mc mw J) x (j + 1)))))])
      (fun j => j + 1 ≤ i ∧ ∀ k, 0 < k → k ≤ j → tv (nxO mc mw J) x (k) ≠ x)
      (fun j => i - j) (fun j => 0) (fun j => 0)
      ?_ 0 ⟨by omega, fun k h1 h2 => by omega⟩ hP hD hS (lv_sub hl [2, 3, 5, 1, 0] rfl)
    intro j hI H locs ls hP hD hS hl ih
    have hI : j + 1 ≤ i ∧ ∀ k, 0 < k → k ≤ j → tv (nxO mc mw J) x (k) ≠ x := hI
    have hP : va_P D ccl [(kc, .inl (cI, 40, .inl fc))] H := hP
    have hD : va_D A [(kc, .inl (cI, 40, .inl fc))] := hD
    have hl : lv_has ls 8 [(0, .ref kc), (1, .int (nI (10 * J))), (3, .int (nI (lE (tv (nxO mc mw J) q (i))))), (6, .int (nI (lE (mnx (nxO mc mw J) x j)))), (7, .int (nI (lE (tv (nxO mc mw J) x (j + 1)))))] := hl
    change W p l e _ s m _ below meth c H locs 0 0 _ (F0 m 81 ls [])
    have ih_81 := ih
    clear ih
    obtain ⟨hj, hno⟩ := hI
    obtain ⟨z1, hz1⟩ := per_some (by omega) hit (j + 1)
    obtain ⟨z2, hz2⟩ := per_some (by omega) hit (j + 2)
    have ez1 := tv_of hz1
    have ez2 := tv_of hz2
    have hz14 := tr_lt hX hx4 _ z1 hz1
    have hz24 := tr_lt hX hx4 _ z2 hz2
    have hml9 : mnx (nxO mc mw J) x j < 40401 := by
      obtain ⟨k9, hk9, e9⟩ := mnx_in (nx := (nxO mc mw J)) (a := x) (j := j)
      obtain ⟨y9, hy8⟩ := per_some (by omega) hit k9
      rw [e9, tv_of hy8]; exact tr_lt hX hx4 _ y9 hy8
    have hl1 := lE_le hml9
    have hl2 := lE_le hz14
    have hl3 := lE_le hx4
    have hl4 := lE_le hz24
    have hl5 : lE (tv (nxO mc mw J) x (j + 1)) ≤ 600600 := by rw [ez1]; exact hl2
    have hl6 : lE (tv (nxO mc mw J) q (i)) ≤ 600600 := by rw [ex9]; exact hl3
    have hl7 : lE (tv (nxO mc mw J) x (j + 1 + 1)) ≤ 600600 := by rw [show j + 1 + 1 = j + 2 from rfl, ez2]; exact hl4
    refine lv_iload hx hb dL_cycle_81 (lv_at hl 4 rfl) ?_
    refine lv_iload_n hx hb dL_cycle_83 rfl (lv_at hl 2 rfl) ?_
    refine lv_icmp_eq (tgt := 115) hx hb dL_cycle_84 (by decide) (fun c_84 => ?_) (fun c_84 => ?_)
    · have c_84 : lE (tv (nxO mc mw J) x (j + 1)) = lE (tv (nxO mc mw J) q (i)) := g_eq (a := lE (tv (nxO mc mw J) x (j + 1))) (b := lE (tv (nxO mc mw J) q (i))) c_84 (by omega) (by omega)
      have c_84 : z1 = x := by rw [ex9, ez1] at c_84; exact lE_inj c_84
      refine lv_iload hx hb dL_cycle_115 (lv_at hl 3 rfl) ?_
      refine g_iret (v := nI (lE (mnx (nxO mc mw J) x j))) hx hb hr hlk hP hK hD hS (Nat.le_of_ble_eq_true rfl) (Nat.le_of_ble_eq_true rfl) dL_cycle_117 ?_
      exact ⟨rfl, Or.inr ⟨_, mnx_cyL hx9 (by rw [hz1, c_84]), hml9, rfl⟩⟩
    · have c_84 : lE (tv (nxO mc mw J) x (j + 1)) ≠ lE (tv (nxO mc mw J) q (i)) := g_ne (a := lE (tv (nxO mc mw J) x (j + 1))) (b := lE (tv (nxO mc mw J) q (i))) c_84 (by omega) (by omega)
      have c_84 : z1 ≠ x := fun h9 => by rw [ex9, ez1, h9] at c_84; exact c_84 rfl
      have hz1x : tv (nxO mc mw J) x (j + 1) ≠ x := by rw [ez1]; exact c_84
      have hji : j + 1 ≠ i := fun h9 => c_84 (by rw [← h9, hz1] at hit; exact Option.some.inj hit)
      refine lv_iload hx hb dL_cycle_87 (lv_at hl 4 rfl) ?_
      refine lv_iload hx hb dL_cycle_89 (lv_at hl 3 rfl) ?_
      refine g_phii (ls := ls) (J := 101) (st1 := []) (REL := fun v6 => v6 = nI (lE (mnx (nxO mc mw J) x (j + 1)))) (fun v6 hb_101 => ?_) (fun hJ_101 => ?_)
      · subst hb_101
        refine lv_istore (lv' := [(6, .int (nI (lE (mnx (nxO mc mw J) x (j + 1))))), (0, .ref kc), (1, .int (nI (10 * J))), (3, .int (nI (lE (tv (nxO mc mw J) q (i))))), (7, .int (nI (lE (tv (nxO mc mw J) x (j + 1)))))]) hx hb dL_cycle_101 hl (by decide) rfl (fun ls hl => ?_)
        refine lv_aload_n hx hb dL_cycle_103 rfl (lv_at hl 1 rfl) ?_
        refine lv_iload_n hx hb dL_cycle_104 rfl (lv_at hl 2 rfl) ?_
        refine lv_iload hx hb dL_cycle_105 (lv_at hl 4 rfl) ?_
        have hPc := hP.sub (ws' := [(kc, .inl (cI, 40, .inl fc))]) [0] rfl
        have hDc := hD.sub (ws' := [(kc, .inl (cI, 40, .inl fc))]) [0] (by decide) rfl
        have hFc := va_free (wc := [(kc, .inl (cI, 40, .inl fc))]) hD hS hA [0] rfl
        refine g_Si (As := [.ref kc, .int (nI (10 * J)), .int (nI (lE (tv (nxO mc mw J) x (j + 1))))]) (rest := []) CF (c_L_next l D cI cJ cO df H.size kc fc mc ms mw N J (tv (nxO mc mw J) x (j + 1)) hR hJ4 hJN hc hw (by rw [ez1]; exact hz14)) (va_cwS 3 hts gL_cycle_L_next rfl rfl rfl (by decide +kernel) ⟨Nat.le_of_ble_eq_true rfl, Nat.le_of_ble_eq_true rfl⟩)  hPc hK hDc hV hH hS hFc rfl hl.1 rfl (Nat.le_of_ble_eq_true rfl) dL_cycle_107 ⟨Nat.le_of_ble_eq_true rfl, Nat.le_of_ble_eq_true rfl⟩ (fun r_107 w1 H1 locs1 hq hP1 hD1 hk hS hz => ?_)
        obtain ⟨rfl, hr_107⟩ := hq
        have hP := g_keepR hP hD [0] rfl hk hP1
        clear hPc hDc hFc hP1 hD1 hk hz
        generalize H1 = H at hP hS ⊢
        have hP : va_P D ccl [(kc, .inl (cI, 40, .inl fc))] H := hP
        have hD : va_D A [(kc, .inl (cI, 40, .inl fc))] := hD
        subst hr_107
        refine lv_topi (fun f ef => ?_)
        obtain rfl : f = nI (lE (tv (nxO mc mw J) x (j + 1 + 1))) := ef.trans (by rw [show j + 1 + 1 = j + 2 from rfl, ez1, ez2, ← tr_s hz1, hz2]; rfl)
        refine lv_istore (lv' := [(7, .int (nI (lE (tv (nxO mc mw J) x (j + 1 + 1))))), (6, .int (nI (lE (mnx (nxO mc mw J) x (j + 1))))), (0, .ref kc), (1, .int (nI (10 * J))), (3, .int (nI (lE (tv (nxO mc mw J) q (i)))))]) hx hb dL_cycle_110 hl (by decide) rfl (fun ls hl => ?_)
        refine lv_goto (tgt := 81) hx hb dL_cycle_112 (by decide) ?_
        refine W.widen (k := 0) (n := 0) (Nat.le_refl _) (Nat.le_refl _) ?_
        exact ih_81 (j + 1) _ _ _ (show (j + 1) + 1 ≤ i ∧ ∀ k, 0 < k → k ≤ (j + 1) → tv (nxO mc mw J) x (k) ≠ x from (by exact ⟨by omega, fun k h1 h2 => by by_cases h9 : k = j + 1; subst h9; exact hz1x; exact hno k h1 (by omega)⟩)) (show i - (j + 1) < i - j by omega) hP hD hS (lv_sub hl [2, 3, 4, 1, 0] rfl)
      · refine lv_icmp_ge (tgt := 99) hx hb dL_cycle_91 (by decide) (fun c_91 => ?_) (fun c_91 => ?_)
        · have c_91 : lE (mnx (nxO mc mw J) x j) ≤ lE (tv (nxO mc mw J) x (j + 1)) := g_le (a := lE (mnx (nxO mc mw J) x j)) (b := lE (tv (nxO mc mw J) x (j + 1))) c_91 (by omega) (by omega)
          refine lv_iload hx hb dL_cycle_99 (lv_at hl 3 rfl) ?_
          exact hJ_101 _ (by rw [mnx_s9]; first | rw [if_pos (lE_lt.mp c_91)] | rw [if_neg (fun h9 => absurd (lE_lt.mpr h9) (Nat.not_lt.mpr c_91))])
        · have c_91 : lE (tv (nxO mc mw J) x (j + 1)) < lE (mnx (nxO mc mw J) x j) := g_nle (a := lE (mnx (nxO mc mw J) x j)) (b := lE (tv (nxO mc mw J) x (j + 1))) c_91 (by omega) (by omega)
          refine lv_iload hx hb dL_cycle_94 (lv_at hl 4 rfl) ?_
          refine lv_goto (tgt := 101) hx hb dL_cycle_96 (by decide) ?_
          exact hJ_101 _ (by rw [mnx_s9]; first | rw [if_pos (lE_lt.mp c_91)] | rw [if_neg (fun h9 => absurd (lE_lt.mpr h9) (Nat.not_lt.mpr c_91))])
  · have c_10 := nFl_0 c_10
    refine lv_aload_n hx hb dL_cycle_13 rfl (lv_at hl 0 rfl) ?_
    refine lv_iload_n hx hb dL_cycle_14 rfl (lv_at hl 1 rfl) ?_
    refine lv_iload hx hb dL_cycle_15 (lv_at hl 4 rfl) ?_
    have hPc := hP.sub (ws' := [(kc, .inl (cI, 40, .inl fc))]) [0] rfl
    have hDc := hD.sub (ws' := [(kc, .inl (cI, 40, .inl fc))]) [0] (by decide) rfl
    have hFc := va_free (wc := [(kc, .inl (cI, 40, .inl fc))]) hD hS hA [0] rfl
    refine g_Si (As := [.ref kc, .int (nI (10 * J)), .int (nI (lE (tv (nxO mc mw J) q (2 * i))))]) (rest := []) CF (c_L_next l D cI cJ cO df H.size kc fc mc ms mw N J (tv (nxO mc mw J) q (2 * i)) hR hJ4 hJN hc hw (by rw [ey9]; exact hy4)) (va_cwS 3 hts gL_cycle_L_next rfl rfl rfl (by decide +kernel) ⟨Nat.le_of_ble_eq_true rfl, Nat.le_of_ble_eq_true rfl⟩)  hPc hK hDc hV hH hS hFc rfl hl.1 rfl (Nat.le_of_ble_eq_true rfl) dL_cycle_17 ⟨Nat.le_of_ble_eq_true rfl, Nat.le_of_ble_eq_true rfl⟩ (fun r_17 w1 H1 locs1 hq hP1 hD1 hk hS hz => ?_)
    obtain ⟨rfl, hr_17⟩ := hq
    have hP := g_keepR hP hD [0] rfl hk hP1
    clear hPc hDc hFc hP1 hD1 hk hz
    generalize H1 = H at hP hS ⊢
    have hP : va_P D ccl [(kc, .inl (cI, 40, .inl fc))] H := hP
    have hD : va_D A [(kc, .inl (cI, 40, .inl fc))] := hD
    subst hr_17
    refine lv_topi (fun f ef => ?_)
    obtain rfl : f = oE (tr (nxO mc mw J) q (2 * i + 1)) := ef.trans (by rw [ey9, tr_s hy9])
    by_cases hn1 : tr (nxO mc mw J) q (2 * i + 1) = none
    · refine lv_topi (fun f ef => ?_)
      obtain rfl : f = (-1) := ef.trans (by rw [hn1]; rfl)
      refine lv_istore (lv' := [(4, .int (-1)), (0, .ref kc), (1, .int (nI (10 * J))), (2, .int (nI (lE q))), (3, .int (nI (lE (tv (nxO mc mw J) q (i))))), (5, .int (nFl (i ≠ 0 ∧ tr (nxO mc mw J) q (i) = tr (nxO mc mw J) q (2 * i))))]) hx hb dL_cycle_20 hl (by decide) rfl (fun ls hl => ?_)
      refine lv_iload hx hb dL_cycle_22 (lv_at hl 0 rfl) ?_
      refine lv_if_ge (tgt := 31) hx hb dL_cycle_24 (by decide) (fun c_24 => ?_) (fun c_24 => ?_)
      · exact absurd c_24 (by decide)
      · refine lv_iconst (v := (-1)) hx hb dL_cycle_27 (by decide) ?_
        refine lv_goto (tgt := 38) hx hb dL_cycle_28 (by decide) ?_
        refine lv_istore (lv' := [(4, .int (-1)), (0, .ref kc), (1, .int (nI (10 * J))), (2, .int (nI (lE q))), (3, .int (nI (lE (tv (nxO mc mw J) q (i))))), (5, .int (nFl (i ≠ 0 ∧ tr (nxO mc mw J) q (i) = tr (nxO mc mw J) q (2 * i))))]) hx hb dL_cycle_38 hl (by decide) rfl (fun ls hl => ?_)
        refine lv_iload hx hb dL_cycle_40 (lv_at hl 0 rfl) ?_
        refine lv_if_ge (tgt := 47) hx hb dL_cycle_42 (by decide) (fun c_42 => ?_) (fun c_42 => ?_)
        · exact absurd c_42 (by decide)
        · refine lv_iconst (v := (-1)) hx hb dL_cycle_45 (by decide) ?_
          refine g_iret (v := (-1)) hx hb hr hlk hP hK hD hS (Nat.le_of_ble_eq_true rfl) (Nat.le_of_ble_eq_true rfl) dL_cycle_46 ?_
          exact ⟨rfl, Or.inl ⟨⟨_, hn1⟩, rfl⟩⟩
    · obtain ⟨z, hz9⟩ := Option.ne_none_iff_exists'.mp hn1
      have hz4 := tr_lt hX hq4 _ z hz9
      have hz5 := lE_le hz4
      refine lv_topi (fun f ef => ?_)
      obtain rfl : f = nI (lE z) := ef.trans (by rw [hz9]; rfl)
      refine lv_istore (lv' := [(4, .int (nI (lE z))), (0, .ref kc), (1, .int (nI (10 * J))), (2, .int (nI (lE q))), (3, .int (nI (lE (tv (nxO mc mw J) q (i))))), (5, .int (nFl (i ≠ 0 ∧ tr (nxO mc mw J) q (i) = tr (nxO mc mw J) q (2 * i))))]) hx hb dL_cycle_20 hl (by decide) rfl (fun ls hl => ?_)
      refine lv_iload hx hb dL_cycle_22 (lv_at hl 0 rfl) ?_
      refine lv_if_ge (tgt := 31) hx hb dL_cycle_24 (by decide) (fun c_24 => ?_) (fun c_24 => ?_)
      · have c_24 : 0 ≤ lE z := g_le (a := 0) (b := lE z) c_24 (by omega) (by omega)
        refine lv_aload_n hx hb dL_cycle_31 rfl (lv_at hl 1 rfl) ?_
        refine lv_iload_n hx hb dL_cycle_32 rfl (lv_at hl 2 rfl) ?_
        refine lv_iload hx hb dL_cycle_33 (lv_at hl 0 rfl) ?_
        have hPc := hP.sub (ws' := [(kc, .inl (cI, 40, .inl fc))]) [0] rfl
        have hDc := hD.sub (ws' := [(kc, .inl (cI, 40, .inl fc))]) [0] (by decide) rfl
        have hFc := va_free (wc := [(kc, .inl (cI, 40, .inl fc))]) hD hS hA [0] rfl
        refine g_Si (As := [.ref kc, .int (nI (10 * J)), .int (nI (lE z))]) (rest := []) CF (c_L_next l D cI cJ cO df H.size kc fc mc ms mw N J z hR hJ4 hJN hc hw hz4) (va_cwS 3 hts gL_cycle_L_next rfl rfl rfl (by decide +kernel) ⟨Nat.le_of_ble_eq_true rfl, Nat.le_of_ble_eq_true rfl⟩)  hPc hK hDc hV hH hS hFc rfl hl.1 rfl (Nat.le_of_ble_eq_true rfl) dL_cycle_35 ⟨Nat.le_of_ble_eq_true rfl, Nat.le_of_ble_eq_true rfl⟩ (fun r_35 w1 H1 locs1 hq hP1 hD1 hk hS hz => ?_)
        obtain ⟨rfl, hr_35⟩ := hq
        have hP := g_keepR hP hD [0] rfl hk hP1
        clear hPc hDc hFc hP1 hD1 hk hz
        generalize H1 = H at hP hS ⊢
        have hP : va_P D ccl [(kc, .inl (cI, 40, .inl fc))] H := hP
        have hD : va_D A [(kc, .inl (cI, 40, .inl fc))] := hD
        subst hr_35
        refine lv_topi (fun f ef => ?_)
        obtain rfl : f = oE (tr (nxO mc mw J) q (2 * i + 2)) := ef.trans (by rw [tr_s hz9])
        by_cases hn2 : tr (nxO mc mw J) q (2 * i + 2) = none
        · refine lv_topi (fun f ef => ?_)
          obtain rfl : f = (-1) := ef.trans (by rw [hn2]; rfl)
          refine lv_istore (lv' := [(4, .int (-1)), (0, .ref kc), (1, .int (nI (10 * J))), (2, .int (nI (lE q))), (3, .int (nI (lE (tv (nxO mc mw J) q (i))))), (5, .int (nFl (i ≠ 0 ∧ tr (nxO mc mw J) q (i) = tr (nxO mc mw J) q (2 * i))))]) hx hb dL_cycle_38 hl (by decide) rfl (fun ls hl => ?_)
          refine lv_iload hx hb dL_cycle_40 (lv_at hl 0 rfl) ?_
          refine lv_if_ge (tgt := 47) hx hb dL_cycle_42 (by decide) (fun c_42 => ?_) (fun c_42 => ?_)
          · exact absurd c_42 (by decide)
          · refine lv_iconst (v := (-1)) hx hb dL_cycle_45 (by decide) ?_
            refine g_iret (v := (-1)) hx hb hr hlk hP hK hD hS (Nat.le_of_ble_eq_true rfl) (Nat.le_of_ble_eq_true rfl) dL_cycle_46 ?_
            exact ⟨rfl, Or.inl ⟨⟨_, hn2⟩, rfl⟩⟩
        · obtain ⟨u, hu9⟩ := Option.ne_none_iff_exists'.mp hn2
          have hu4 := tr_lt hX hq4 _ u hu9
          have eu9 : tv (nxO mc mw J) q (2 * (i + 1)) = u := tv_of (show tr (nxO mc mw J) q (2 * (i + 1)) = some u from hu9)
          have hu5 : lE (tv (nxO mc mw J) q (2 * (i + 1))) ≤ 600600 := by rw [eu9]; exact lE_le hu4
          refine lv_topi (fun f ef => ?_)
          obtain rfl : f = nI (lE (tv (nxO mc mw J) q (2 * (i + 1)))) := ef.trans (by rw [hu9, eu9]; rfl)
          refine lv_istore (lv' := [(4, .int (nI (lE (tv (nxO mc mw J) q (2 * (i + 1)))))), (0, .ref kc), (1, .int (nI (10 * J))), (2, .int (nI (lE q))), (3, .int (nI (lE (tv (nxO mc mw J) q (i))))), (5, .int (nFl (i ≠ 0 ∧ tr (nxO mc mw J) q (i) = tr (nxO mc mw J) q (2 * i))))]) hx hb dL_cycle_38 hl (by decide) rfl (fun ls hl => ?_)
          refine lv_iload hx hb dL_cycle_40 (lv_at hl 0 rfl) ?_
          refine lv_if_ge (tgt := 47) hx hb dL_cycle_42 (by decide) (fun c_42 => ?_) (fun c_42 => ?_)
          · have c_42 : 0 ≤ lE (tv (nxO mc mw J) q (2 * (i + 1))) := g_le (a := 0) (b := lE (tv (nxO mc mw J) q (2 * (i + 1)))) c_42 (by omega) (by omega)
            obtain ⟨v, hv9⟩ : ∃ v, tr (nxO mc mw J) q (i + 1) = some v := Option.ne_none_iff_exists'.mp (fun h9 => by have h8 := tr_none h9 (i + 1); rw [show i + 1 + (i + 1) = 2 * i + 2 by omega] at h8; exact hn2 h8)
            have hv4 := tr_lt hX hq4 _ v hv9
            have ev9 := tv_of hv9
            have hv5 : lE (tv (nxO mc mw J) q (i + 1)) ≤ 600600 := by rw [ev9]; exact lE_le hv4
            refine lv_aload_n hx hb dL_cycle_47 rfl (lv_at hl 1 rfl) ?_
            refine lv_iload_n hx hb dL_cycle_48 rfl (lv_at hl 2 rfl) ?_
            refine lv_iload_n hx hb dL_cycle_49 rfl (lv_at hl 4 rfl) ?_
            have hPc := hP.sub (ws' := [(kc, .inl (cI, 40, .inl fc))]) [0] rfl
            have hDc := hD.sub (ws' := [(kc, .inl (cI, 40, .inl fc))]) [0] (by decide) rfl
            have hFc := va_free (wc := [(kc, .inl (cI, 40, .inl fc))]) hD hS hA [0] rfl
            refine g_Si (As := [.ref kc, .int (nI (10 * J)), .int (nI (lE (tv (nxO mc mw J) q (i))))]) (rest := []) CF (c_L_next l D cI cJ cO df H.size kc fc mc ms mw N J (tv (nxO mc mw J) q (i)) hR hJ4 hJN hc hw (by rw [ex9]; exact hx4)) (va_cwS 3 hts gL_cycle_L_next rfl rfl rfl (by decide +kernel) ⟨Nat.le_of_ble_eq_true rfl, Nat.le_of_ble_eq_true rfl⟩)  hPc hK hDc hV hH hS hFc rfl hl.1 rfl (Nat.le_of_ble_eq_true rfl) dL_cycle_50 ⟨Nat.le_of_ble_eq_true rfl, Nat.le_of_ble_eq_true rfl⟩ (fun r_50 w1 H1 locs1 hq hP1 hD1 hk hS hz => ?_)
            obtain ⟨rfl, hr_50⟩ := hq
            have hP := g_keepR hP hD [0] rfl hk hP1
            clear hPc hDc hFc hP1 hD1 hk hz
            generalize H1 = H at hP hS ⊢
            have hP : va_P D ccl [(kc, .inl (cI, 40, .inl fc))] H := hP
            have hD : va_D A [(kc, .inl (cI, 40, .inl fc))] := hD
            subst hr_50
            refine lv_topi (fun f ef => ?_)
            obtain rfl : f = nI (lE (tv (nxO mc mw J) q (i + 1))) := ef.trans (by rw [ex9, ← tr_s hx9, hv9, ev9]; rfl)
            refine lv_istore_n (lv' := [(3, .int (nI (lE (tv (nxO mc mw J) q (i + 1))))), (4, .int (nI (lE (tv (nxO mc mw J) q (2 * (i + 1)))))), (0, .ref kc), (1, .int (nI (10 * J))), (2, .int (nI (lE q))), (5, .int (nFl (i ≠ 0 ∧ tr (nxO mc mw J) q (i) = tr (nxO mc mw J) q (2 * i))))]) hx hb dL_cycle_53 rfl hl (by decide) rfl (fun ls hl => ?_)
            refine lv_iload_n hx hb dL_cycle_54 rfl (lv_at hl 0 rfl) ?_
            refine lv_iload hx hb dL_cycle_55 (lv_at hl 1 rfl) ?_
            refine g_phii (ls := ls) (J := 65) (st1 := []) (REL := fun v5 => v5 = nFl ((i + 1) ≠ 0 ∧ tr (nxO mc mw J) q ((i + 1)) = tr (nxO mc mw J) q (2 * (i + 1)))) (fun v5 hb_65 => ?_) (fun hJ_65 => ?_)
            · subst hb_65
              refine lv_istore (lv' := [(5, .int (nFl ((i + 1) ≠ 0 ∧ tr (nxO mc mw J) q ((i + 1)) = tr (nxO mc mw J) q (2 * (i + 1))))), (3, .int (nI (lE (tv (nxO mc mw J) q (i + 1))))), (4, .int (nI (lE (tv (nxO mc mw J) q (2 * (i + 1)))))), (0, .ref kc), (1, .int (nI (10 * J))), (2, .int (nI (lE q)))]) hx hb dL_cycle_65 hl (by decide) rfl (fun ls hl => ?_)
              refine lv_goto (tgt := 8) hx hb dL_cycle_67 (by decide) ?_
              refine W.widen (k := 0) (n := 0) (Nat.le_refl _) (Nat.le_refl _) ?_
              exact ih_8 (i + 1) _ _ _ (show (∀ j, j ≤ 2 * (i + 1) → tr (nxO mc mw J) q (j) ≠ none) ∧ (∀ j, 1 ≤ j → j < (i + 1) → tr (nxO mc mw J) q (j) ≠ tr (nxO mc mw J) q (2 * j)) from (by exact ⟨fun j hj => by rcases (show j ≤ 2 * i ∨ j = 2 * i + 1 ∨ j = 2 * i + 2 by omega) with h9 | rfl | rfl; exact hso j h9; exact hn1; exact hn2, fun j h1 h2 => by by_cases h9 : j = i; subst h9; exact fun h8 => c_10 ⟨by omega, h8⟩; exact hne j h1 (by omega)⟩)) (show B + 1 - (i + 1) < B + 1 - i from by have := hB i (fun j h1 h2 => ⟨hso (2 * j) (by omega), by by_cases h9 : j = i; subst h9; exact fun h8 => c_10 ⟨by omega, h8⟩; exact hne j h1 (by omega)⟩); omega) hP hD hS (lv_sub hl [3, 4, 5, 1, 2, 0] rfl)
            · refine lv_icmp_ne (tgt := 64) hx hb dL_cycle_57 (by decide) (fun c_57 => ?_) (fun c_57 => ?_)
              · have c_57 : lE (tv (nxO mc mw J) q (i + 1)) ≠ lE (tv (nxO mc mw J) q (2 * (i + 1))) := g_ne (a := lE (tv (nxO mc mw J) q (i + 1))) (b := lE (tv (nxO mc mw J) q (2 * (i + 1)))) c_57 (by omega) (by omega)
                refine lv_iconst (v := 0) hx hb dL_cycle_64 (by decide) ?_
                exact hJ_65 _ (by rw [ev9, eu9] at c_57; exact (if_neg (fun h9 => c_57 (by have h8 := h9.2; rw [show 2 * (i + 1) = 2 * i + 2 by omega, hv9, hu9] at h8; rw [Option.some.inj h8]))).symm)
              · have c_57 : lE (tv (nxO mc mw J) q (i + 1)) = lE (tv (nxO mc mw J) q (2 * (i + 1))) := g_eq (a := lE (tv (nxO mc mw J) q (i + 1))) (b := lE (tv (nxO mc mw J) q (2 * (i + 1)))) c_57 (by omega) (by omega)
                refine lv_iconst (v := 1) hx hb dL_cycle_60 (by decide) ?_
                refine lv_goto (tgt := 65) hx hb dL_cycle_61 (by decide) ?_
                exact hJ_65 _ (by rw [ev9, eu9] at c_57; exact (if_pos ⟨by omega, by rw [show 2 * (i + 1) = 2 * i + 2 by omega, hv9, hu9, lE_inj c_57]⟩).symm)
          · have c_42 : lE (tv (nxO mc mw J) q (2 * (i + 1))) < 0 := g_nle (a := 0) (b := lE (tv (nxO mc mw J) q (2 * (i + 1)))) c_42 (by omega) (by omega)
            omega
      · have c_24 : lE z < 0 := g_nle (a := 0) (b := lE z) c_24 (by omega) (by omega)
        omega

set_option maxHeartbeats 4000000 in
set_option maxRecDepth 100000 in
theorem c_L_isChained (l : Launch) (hfl : l.stackTraces = false) (D : va_G) (cI cJ cO : ClassId) (df sz : Nat) (t0 : Nat) (w : va_W) (kq : Nat) (km : Nat) (N : Nat) (mc : Nat → Int32) (ms : Nat → Int32) (mw : Nat → Int32) (C : Nat) (mo : Nat → Int32) (K : Nat) (mu : Nat → Int32) (Y : Nat) (rw0 : Nat → Int32) (tf : Nat → Int32) (qf : Nat → Int32) (mp : Nat → Int32) (J : Nat) (hCL : CLS cI cJ cO df t0 w N mc ms mw C mo K mu Y rw0 tf qf) (hW : WF N mc ms mw C mo K Y rw0 mp tf qf) (hN4 : N ≤ 4) (hJ : J < N) : MetI l yL_isChained wsL_isChained ({ frames := 13, cells := 8, slots := 50, locals := 421 } : Room) D (gTY cI cJ cO) df (([(kq, .inl (cI, 4, .inl mo)), (km, .inl (cI, 4, .inl (mF N C K Y)))] : va_W) ++ w) sz [.ref t0, .ref kq, .ref km, .int (nI J)] (fun (r : Int32) (wZ : va_W) => ∃ (C1 : Nat), ∃ (mo1 : Nat → Int32), ∃ (w1 : va_W), wZ = ([(kq, .inl (cI, 4, .inl mo1)), (km, .inl (cI, 4, .inl (mF N C1 K Y)))] : va_W) ++ w1 ∧ r = 1 ∧ CLS cI cJ cO df t0 w1 N mc ms mw C1 mo1 K mu Y rw0 tf qf ∧ WF N mc ms mw C1 mo1 K Y rw0 mp tf qf) := by
  refine g_of (cc := cL_isChained) (nL := 6) (ret := (some .boolean)) (D := D) (TY := (gTY cI cJ cO)) (df := df) (Qc := fun A => va_Qi (fun (r : Int32) (wZ : va_W) => ∃ (C1 : Nat), ∃ (mo1 : Nat → Int32), ∃ (w1 : va_W), wZ = ([(kq, .inl (cI, 4, .inl mo1)), (km, .inl (cI, 4, .inl (mF N C1 K Y)))] : va_W) ++ w1 ∧ r = 1 ∧ CLS cI cJ cO df t0 w1 N mc ms mw C1 mo1 K mu Y rw0 tf qf ∧ WF N mc ms mw C1 mo1 K Y rw0 mp tf qf) (gB D (gTY cI cJ cO) A) A) (by decide +kernel) rfl (Nat.le_of_ble_eq_true rfl) ?_
  intro p e s m below meth c ls A hsz C0 hin hl
  obtain ⟨CF, hr, hlk, hA, hS, hP, hK, hD, hV, hH⟩ := C0
  have CF : CallFix p m c cL_isChained 6 s _ wsL_isChained RL := CF
  obtain ⟨hx, hb, hml, hown, hts⟩ := id CF
  subst hsz
  have hmethodLink_RL_88 : (Cond.methodLink RL 88 yX6_chain).before _ s = true := hts _ (List.mem_of_getElem? (i := 1) rfl)
  have hP : va_P D ccl (([(kq, .inl (cI, 4, .inl mo)), (km, .inl (cI, 4, .inl (mF N C K Y)))] : va_W) ++ w) s.heap := hP
  have hl : lv_has ls 6 [(0, .ref t0), (1, .ref kq), (2, .ref km), (3, .int (nI J))] := hl
  obtain ⟨hN8, hC8, hmz, hsz9, hc, hs, hw, hO, hiM, hK6, hY, hrw, hm8, hp, ht, hq⟩ := id hW
  have hCN := wf_CN hW
  have hK9 : gGo (isSec N (nI J)) 1 1 = 0 := k_one (k_sec hJ hN8)
  refine lv_iconst (v := 0) hx hb dL_isChained_0 (by decide) ?_
  refine lv_istore (lv' := [(4, .int 0), (0, .ref t0), (1, .ref kq), (2, .ref km), (3, .int (nI J))]) hx hb dL_isChained_1 hl (by decide) rfl (fun ls hl => ?_)
  refine W.widen (k := 0) (n := 0) (Nat.le_refl _) (Nat.le_refl _) ?_
  refine g_while (σ := Nat) (st := []) (nL := 6) (fun i => ([(kq, .inl (cI, 4, .inl mo)), (km, .inl (cI, 4, .inl (mF N C K Y)))] : va_W) ++ w)
    (fun i => [(0, .ref t0), (1, .ref kq), (2, .ref km), (3, .int (nI J)), (4, .int (nI i))])
    (fun i => i ≤ C ∧ ∀ t, t < i → ¬ mo t = nI J)
    (fun i => C - i) (fun i => 0) (fun i => 0)
    ?_ 0 ⟨Nat.zero_le C, fun t ht => absurd ht (Nat.not_lt_zero t)⟩ hP hD hS (lv_sub hl [1, 2, 3, 4, 0] rfl)
  intro i hI H locs ls hP hD hS hl ih
  have hI : i ≤ C ∧ ∀ t, t < i → ¬ mo t = nI J := hI
  have hP : va_P D ccl (([(kq, .inl (cI, 4, .inl mo)), (km, .inl (cI, 4, .inl (mF N C K Y)))] : va_W) ++ w) H := hP
  have hD : va_D A (([(kq, .inl (cI, 4, .inl mo)), (km, .inl (cI, 4, .inl (mF N C K Y)))] : va_W) ++ w) := hD
  have hl : lv_has ls 6 [(0, .ref t0), (1, .ref kq), (2, .ref km), (3, .int (nI J)), (4, .int (nI i))] := hl
  change W p l e _ s m _ below meth c H locs 0 0 _ (F0 m 3 ls [])
  have ih_3 := ih
  clear ih
  obtain ⟨hi, hno⟩ := hI
  refine lv_iload hx hb dL_isChained_3 (lv_at hl 4 rfl) ?_
  refine lv_aload_n hx hb dL_isChained_5 rfl (lv_at hl 2 rfl) ?_
  refine lv_iconst (v := 1) hx hb dL_isChained_6 (by decide) ?_
  refine va_iald hx hb hK hP 1 0 rfl rfl (by unfold vp_in; decide) dL_isChained_7 ?_
  refine lv_topi (fun f ef => ?_)
  obtain rfl : f = (mF N C K Y) 1 := ef.trans (congrArg (mF N C K Y) (show (1 : Int32).toNatClampNeg = 1 by decide))
  refine lv_topi (fun f ef => ?_)
  obtain rfl : f = nI C := ef.trans (rfl)
  refine lv_icmp_ge (tgt := 25) hx hb dL_isChained_8 (by decide) (fun c_8 => ?_) (fun c_8 => ?_)
  · have c_8 : C ≤ i := g_le (a := C) (b := i) c_8 (by omega) (by omega)
    refine lv_iload hx hb dL_isChained_25 (lv_at hl 4 rfl) ?_
    refine lv_aload_n hx hb dL_isChained_27 rfl (lv_at hl 2 rfl) ?_
    refine lv_iconst (v := 1) hx hb dL_isChained_28 (by decide) ?_
    refine va_iald hx hb hK hP 1 0 rfl rfl (by unfold vp_in; decide) dL_isChained_29 ?_
    refine lv_topi (fun f ef => ?_)
    obtain rfl : f = (mF N C K Y) 1 := ef.trans (congrArg (mF N C K Y) (show (1 : Int32).toNatClampNeg = 1 by decide))
    refine lv_topi (fun f ef => ?_)
    obtain rfl : f = nI C := ef.trans (rfl)
    refine lv_icmp_ne (tgt := 48) hx hb dL_isChained_30 (by decide) (fun c_30 => ?_) (fun c_30 => ?_)
    · have c_30 : i ≠ C := g_ne (a := i) (b := C) c_30 (by omega) (by omega)
      omega
    · have c_30 : i = C := g_eq (a := i) (b := C) c_30 (by omega) (by omega)
      obtain rfl : C = i := by omega
      have hC4 := wf_add hW hJ hno
      have hla : lastAt mo (nI J) C = -1 := lastAt_none (fun t ht h9 => hno t ht h9)
      refine lv_aload_n hx hb dL_isChained_33 rfl (lv_at hl 1 rfl) ?_
      refine lv_iload hx hb dL_isChained_34 (lv_at hl 4 rfl) ?_
      refine lv_iload_n hx hb dL_isChained_36 rfl (lv_at hl 3 rfl) ?_
      refine va_iast hx hb hK hP hD hS 0 0 rfl rfl (vp_in_nI (by omega) (by omega)) dL_isChained_37 (fun H locs hP hD hS => ?_)
      rw [show (nI C).toNatClampNeg = C from (nI_clamp (by omega))] at hP hD
      have hP : va_P D ccl (([(kq, .inl (cI, 4, .inl (upd mo C (nI J)))), (km, .inl (cI, 4, .inl (mF N C K Y)))] : va_W) ++ w) H := hP
      have hD : va_D A (([(kq, .inl (cI, 4, .inl (upd mo C (nI J)))), (km, .inl (cI, 4, .inl (mF N C K Y)))] : va_W) ++ w) := hD
      refine lv_aload_n hx hb dL_isChained_38 rfl (lv_at hl 2 rfl) ?_
      refine lv_iconst (v := 1) hx hb dL_isChained_39 (by decide) ?_
      refine lv_dup2_11 hx hb dL_isChained_40 rfl rfl ?_
      refine va_iald hx hb hK hP 1 0 rfl rfl (by unfold vp_in; decide) dL_isChained_41 ?_
      refine lv_topi (fun f ef => ?_)
      obtain rfl : f = (mF N C K Y) 1 := ef.trans (congrArg (mF N C K Y) (show (1 : Int32).toNatClampNeg = 1 by decide))
      refine lv_topi (fun f ef => ?_)
      obtain rfl : f = nI C := ef.trans (rfl)
      refine lv_iconst (v := 1) hx hb dL_isChained_42 (by decide) ?_
      refine lv_iadd hx hb dL_isChained_43 ?_
      refine lv_topi (fun f ef => ?_)
      obtain rfl : f = nI (C + 1) := ef.trans (nI_add _ _)
      refine va_iast hx hb hK hP hD hS 1 0 rfl rfl (by unfold vp_in; decide) dL_isChained_44 (fun H locs hP hD hS => ?_)
      rw [show ((1 : Int32)).toNatClampNeg = 1 from (by decide)] at hP hD
      rw [show upd (mF N C K Y) 1 (nI (C + 1)) = mF N (C + 1) K Y from mF_1 rfl] at hP hD
      have hP : va_P D ccl (([(kq, .inl (cI, 4, .inl (upd mo C (nI J)))), (km, .inl (cI, 4, .inl (mF N (C + 1) K Y)))] : va_W) ++ w) H := hP
      have hD : va_D A (([(kq, .inl (cI, 4, .inl (upd mo C (nI J)))), (km, .inl (cI, 4, .inl (mF N (C + 1) K Y)))] : va_W) ++ w) := hD
      refine lv_goto (tgt := 83) hx hb dL_isChained_45 (by decide) ?_
      refine lv_aload_n hx hb dL_isChained_83 rfl (lv_at hl 0 rfl) ?_
      refine lv_iload_n hx hb dL_isChained_84 rfl (lv_at hl 3 rfl) ?_
      have hPc := hP.part (X := [(kq, .inl (cI, 4, .inl (upd mo C (nI J)))), (km, .inl (cI, 4, .inl (mF N (C + 1) K Y)))]) (cx := []) [] rfl
      have hDc := hD.part (X := [(kq, .inl (cI, 4, .inl (upd mo C (nI J)))), (km, .inl (cI, 4, .inl (mF N (C + 1) K Y)))]) (cx := []) [] (by decide) rfl
      have hFc := va_freeP (X := [(kq, .inl (cI, 4, .inl (upd mo C (nI J)))), (km, .inl (cI, 4, .inl (mF N (C + 1) K Y)))]) (cx := []) hD hS hA [] rfl
      refine g_Vi (As := [.int (nI J)]) (rest := []) CF (c3_X6_chain l hfl D cI cJ cO df H.size t0 w N mc ms mw C mo K mu Y rw0 tf qf mp (nI J) hCL hW hK9) (cwV 1 hts gL_isChained_X6_chain rfl rfl rfl (by decide +kernel) ⟨Nat.le_of_ble_eq_true rfl, Nat.le_of_ble_eq_true rfl⟩) (cls_recv (X := [(kq, .inl (cI, 4, .inl (upd mo C (nI J)))), (km, .inl (cI, 4, .inl (mF N (C + 1) K Y)))]) hCL hK hP) hPc hK hDc hV hH hS hFc rfl hl.1 rfl (Nat.le_of_ble_eq_true rfl) dL_isChained_85 ⟨Nat.le_of_ble_eq_true rfl, Nat.le_of_ble_eq_true rfl⟩ (fun r_85 w1 H1 locs1 hq hP1 hD1 hk hS hz => ?_)
      obtain ⟨w2, C2, mo2, ew_85, hq_85⟩ := hq
      rw [ew_85] at hP1 hD1
      obtain ⟨hP, hD⟩ := g_joinP (X := [(kq, .inl (cI, 4, .inl (upd mo C (nI J)))), (km, .inl (cI, 4, .inl (mF N (C + 1) K Y)))]) (cx := []) (rx := []) (X' := [(kq, .inl (cI, 4, .inl (upd mo C (nI J)))), (km, .inl (cI, 4, .inl (mF N (C + 1) K Y)))]) hP hD hk hFc hP1 hD1 [] [0, 1] [0, 1] rfl rfl (by decide) (by decide) (by decide) rfl
      clear hPc hDc hFc hP1 hD1 hk hz
      generalize H1 = H at hP hS ⊢
      have hP : va_P D ccl (([(kq, .inl (cI, 4, .inl (upd mo C (nI J)))), (km, .inl (cI, 4, .inl (mF N (C + 1) K Y)))] : va_W) ++ w2) H := hP
      have hD : va_D A (([(kq, .inl (cI, 4, .inl (upd mo C (nI J)))), (km, .inl (cI, 4, .inl (mF N (C + 1) K Y)))] : va_W) ++ w2) := hD
      obtain ⟨hCL, hq_85⟩ := hq_85
      obtain ⟨er85, hway⟩ := hq_85
      subst er85
      obtain ⟨rfl, rfl⟩ : C2 = C + 1 ∧ mo2 = upd mo C (nI J) := by
        rcases hway with ⟨_, h2, h3⟩ | ⟨Q9, hQ9, h1, _⟩
        · exact ⟨h2, h3⟩
        · exact (nI_ne_m1 (by omega) (h1.symm.trans hla)).elim
      refine lv_aload_n hx hb dL_isChained_88 rfl (lv_at hl 2 rfl) ?_
      refine lv_iconst (v := 1) hx hb dL_isChained_89 (by decide) ?_
      refine va_iald hx hb hK hP 1 0 rfl rfl (by unfold vp_in; decide) dL_isChained_90 ?_
      refine lv_topi (fun f ef => ?_)
      obtain rfl : f = (mF N (C + 1) K Y) 1 := ef.trans (congrArg (mF N (C + 1) K Y) (show (1 : Int32).toNatClampNeg = 1 by decide))
      refine lv_topi (fun f ef => ?_)
      obtain rfl : f = nI (C + 1) := ef.trans (rfl)
      refine lv_icmp_ne (tgt := 98) hx hb dL_isChained_91 (by decide) (fun c_91 => ?_) (fun c_91 => ?_)
      · have c_91 : C + 1 ≠ C + 1 := g_ne (a := C + 1) (b := C + 1) c_91 (by omega) (by omega)
        exact absurd rfl c_91
      · have c_91 : C + 1 = C + 1 := g_eq (a := C + 1) (b := C + 1) c_91 (by omega) (by omega)
        refine lv_iconst (v := 1) hx hb dL_isChained_94 (by decide) ?_
        refine lv_goto (tgt := 99) hx hb dL_isChained_95 (by decide) ?_
        refine g_zret (v := 1) hx hb hr hlk hP hK hD hS (Nat.le_of_ble_eq_true rfl) (Nat.le_of_ble_eq_true rfl) dL_isChained_99 (by decide +kernel) ?_
        exact ⟨_, _, _, rfl, rfl, hCL, wf_chainA hW hK9 hla⟩
  · have c_8 : i < C := g_nle (a := C) (b := i) c_8 (by omega) (by omega)
    refine lv_aload_n hx hb dL_isChained_11 rfl (lv_at hl 1 rfl) ?_
    refine lv_iload hx hb dL_isChained_12 (lv_at hl 4 rfl) ?_
    refine va_iald hx hb hK hP 0 0 rfl rfl (vp_in_nI (by omega) (by omega)) dL_isChained_14 ?_
    refine lv_topi (fun f ef => ?_)
    obtain rfl : f = mo i := ef.trans (congrArg mo (nI_clamp (n := i) (by omega)))
    refine lv_iload_n hx hb dL_isChained_15 rfl (lv_at hl 3 rfl) ?_
    refine lv_icmp_eq (tgt := 25) hx hb dL_isChained_16 (by decide) (fun c_16 => ?_) (fun c_16 => ?_)
    · refine lv_iload hx hb dL_isChained_25 (lv_at hl 4 rfl) ?_
      refine lv_aload_n hx hb dL_isChained_27 rfl (lv_at hl 2 rfl) ?_
      refine lv_iconst (v := 1) hx hb dL_isChained_28 (by decide) ?_
      refine va_iald hx hb hK hP 1 0 rfl rfl (by unfold vp_in; decide) dL_isChained_29 ?_
      refine lv_topi (fun f ef => ?_)
      obtain rfl : f = (mF N C K Y) 1 := ef.trans (congrArg (mF N C K Y) (show (1 : Int32).toNatClampNeg = 1 by decide))
      refine lv_topi (fun f ef => ?_)
      obtain rfl : f = nI C := ef.trans (rfl)
      refine lv_icmp_ne (tgt := 48) hx hb dL_isChained_30 (by decide) (fun c_30 => ?_) (fun c_30 => ?_)
      · have c_30 : i ≠ C := g_ne (a := i) (b := C) c_30 (by omega) (by omega)
        have hla : lastAt mo (nI J) C = nI i := lastAt_first c_8 c_16 (fun t ht h9 => hiM t i ht c_8 (by rw [h9, c_16]))
        refine lv_aload_n hx hb dL_isChained_48 rfl (lv_at hl 2 rfl) ?_
        refine lv_iconst (v := 1) hx hb dL_isChained_49 (by decide) ?_
        refine lv_dup2_11 hx hb dL_isChained_50 rfl rfl ?_
        refine va_iald hx hb hK hP 1 0 rfl rfl (by unfold vp_in; decide) dL_isChained_51 ?_
        refine lv_topi (fun f ef => ?_)
        obtain rfl : f = (mF N C K Y) 1 := ef.trans (congrArg (mF N C K Y) (show (1 : Int32).toNatClampNeg = 1 by decide))
        refine lv_topi (fun f ef => ?_)
        obtain rfl : f = nI C := ef.trans (rfl)
        refine lv_iconst (v := 1) hx hb dL_isChained_52 (by decide) ?_
        refine lv_isub hx hb dL_isChained_53 ?_
        refine lv_topi (fun f ef => ?_)
        obtain rfl : f = nI (C - 1) := ef.trans (pk_sub (a := C) (b := 1) (by omega))
        refine va_iast hx hb hK hP hD hS 1 0 rfl rfl (by unfold vp_in; decide) dL_isChained_54 (fun H locs hP hD hS => ?_)
        rw [show ((1 : Int32)).toNatClampNeg = 1 from (by decide)] at hP hD
        rw [show upd (mF N C K Y) 1 (nI (C - 1)) = mF N (C - 1) K Y from mF_1 rfl] at hP hD
        have hP : va_P D ccl (([(kq, .inl (cI, 4, .inl mo)), (km, .inl (cI, 4, .inl (mF N (C - 1) K Y)))] : va_W) ++ w) H := hP
        have hD : va_D A (([(kq, .inl (cI, 4, .inl mo)), (km, .inl (cI, 4, .inl (mF N (C - 1) K Y)))] : va_W) ++ w) := hD
        refine lv_iload hx hb dL_isChained_55 (lv_at hl 4 rfl) ?_
        refine lv_istore (lv' := [(5, .int (nI i)), (0, .ref t0), (1, .ref kq), (2, .ref km), (3, .int (nI J)), (4, .int (nI i))]) hx hb dL_isChained_57 hl (by decide) rfl (fun ls hl => ?_)
        refine W.widen (k := 0) (n := 0) (Nat.le_refl _) (Nat.le_refl _) ?_
        refine g_while (σ := Nat × (Nat → Int32)) (st := []) (nL := 6) (fun z => match z with | (j, o1) => ([(kq, .inl (cI, 4, .inl o1)), (km, .inl (cI, 4, .inl (mF N (C - 1) K Y)))] : va_W) ++ w)
          (fun z => match z with | (j, o1) => [(0, .ref t0), (1, .ref kq), (2, .ref km), (3, .int (nI J)), (5, .int (nI j))])
          (fun z => match z with | (j, o1) => i ≤ j ∧ j ≤ C - 1 ∧ o1 = rmAt mo i j)
          (fun z => match z with | (j, o1) => C - j) (fun z => match z with | (j, o1) => 0) (fun z => match z with | (j, o1) => 0)
          ?_ (i, mo) ⟨Nat.le_refl i, by omega, rmAt_0⟩ hP hD hS (lv_sub hl [1, 2, 3, 4, 0] rfl)
        rintro ⟨j, o1⟩ hI H locs ls hP hD hS hl ih
        have hI : i ≤ j ∧ j ≤ C - 1 ∧ o1 = rmAt mo i j := hI
        have hP : va_P D ccl (([(kq, .inl (cI, 4, .inl o1)), (km, .inl (cI, 4, .inl (mF N (C - 1) K Y)))] : va_W) ++ w) H := hP
        have hD : va_D A (([(kq, .inl (cI, 4, .inl o1)), (km, .inl (cI, 4, .inl (mF N (C - 1) K Y)))] : va_W) ++ w) := hD
        have hl : lv_has ls 6 [(0, .ref t0), (1, .ref kq), (2, .ref km), (3, .int (nI J)), (5, .int (nI j))] := hl
        change W p l e _ s m _ below meth c H locs 0 0 _ (F0 m 59 ls [])
        have ih_59 := ih
        clear ih
        obtain ⟨hi0, hi1, rfl⟩ := hI
        refine lv_iload hx hb dL_isChained_59 (lv_at hl 4 rfl) ?_
        refine lv_aload_n hx hb dL_isChained_61 rfl (lv_at hl 2 rfl) ?_
        refine lv_iconst (v := 1) hx hb dL_isChained_62 (by decide) ?_
        refine va_iald hx hb hK hP 1 0 rfl rfl (by unfold vp_in; decide) dL_isChained_63 ?_
        refine lv_topi (fun f ef => ?_)
        obtain rfl : f = (mF N (C - 1) K Y) 1 := ef.trans (congrArg (mF N (C - 1) K Y) (show (1 : Int32).toNatClampNeg = 1 by decide))
        refine lv_topi (fun f ef => ?_)
        obtain rfl : f = nI (C - 1) := ef.trans (rfl)
        refine lv_icmp_ge (tgt := 83) hx hb dL_isChained_64 (by decide) (fun c_64 => ?_) (fun c_64 => ?_)
        · have c_64 : C - 1 ≤ j := g_le (a := C - 1) (b := j) c_64 (by omega) (by omega)
          obtain rfl : j = C - 1 := by omega
          refine lv_aload_n hx hb dL_isChained_83 rfl (lv_at hl 0 rfl) ?_
          refine lv_iload_n hx hb dL_isChained_84 rfl (lv_at hl 3 rfl) ?_
          have hPc := hP.part (X := [(kq, .inl (cI, 4, .inl (rmAt mo i (C - 1)))), (km, .inl (cI, 4, .inl (mF N (C - 1) K Y)))]) (cx := []) [] rfl
          have hDc := hD.part (X := [(kq, .inl (cI, 4, .inl (rmAt mo i (C - 1)))), (km, .inl (cI, 4, .inl (mF N (C - 1) K Y)))]) (cx := []) [] (by decide) rfl
          have hFc := va_freeP (X := [(kq, .inl (cI, 4, .inl (rmAt mo i (C - 1)))), (km, .inl (cI, 4, .inl (mF N (C - 1) K Y)))]) (cx := []) hD hS hA [] rfl
          refine g_Vi (As := [.int (nI J)]) (rest := []) CF (c3_X6_chain l hfl D cI cJ cO df H.size t0 w N mc ms mw C mo K mu Y rw0 tf qf mp (nI J) hCL hW hK9) (cwV 1 hts gL_isChained_X6_chain rfl rfl rfl (by decide +kernel) ⟨Nat.le_of_ble_eq_true rfl, Nat.le_of_ble_eq_true rfl⟩) (cls_recv (X := [(kq, .inl (cI, 4, .inl (rmAt mo i (C - 1)))), (km, .inl (cI, 4, .inl (mF N (C - 1) K Y)))]) hCL hK hP) hPc hK hDc hV hH hS hFc rfl hl.1 rfl (Nat.le_of_ble_eq_true rfl) dL_isChained_85 ⟨Nat.le_of_ble_eq_true rfl, Nat.le_of_ble_eq_true rfl⟩ (fun r_85 w1 H1 locs1 hq hP1 hD1 hk hS hz => ?_)
          obtain ⟨w2, C2, mo2, ew_85, hq_85⟩ := hq
          rw [ew_85] at hP1 hD1
          obtain ⟨hP, hD⟩ := g_joinP (X := [(kq, .inl (cI, 4, .inl (rmAt mo i (C - 1)))), (km, .inl (cI, 4, .inl (mF N (C - 1) K Y)))]) (cx := []) (rx := []) (X' := [(kq, .inl (cI, 4, .inl (rmAt mo i (C - 1)))), (km, .inl (cI, 4, .inl (mF N (C - 1) K Y)))]) hP hD hk hFc hP1 hD1 [] [0, 1] [0, 1] rfl rfl (by decide) (by decide) (by decide) rfl
          clear hPc hDc hFc hP1 hD1 hk hz
          generalize H1 = H at hP hS ⊢
          have hP : va_P D ccl (([(kq, .inl (cI, 4, .inl (rmAt mo i (C - 1)))), (km, .inl (cI, 4, .inl (mF N (C - 1) K Y)))] : va_W) ++ w2) H := hP
          have hD : va_D A (([(kq, .inl (cI, 4, .inl (rmAt mo i (C - 1)))), (km, .inl (cI, 4, .inl (mF N (C - 1) K Y)))] : va_W) ++ w2) := hD
          obtain ⟨hCL, hq_85⟩ := hq_85
          obtain ⟨er85, hway⟩ := hq_85
          subst er85
          obtain ⟨rfl, rfl⟩ : C2 = C - 1 ∧ mo2 = rmAt mo i (C - 1) := by
            rcases hway with ⟨h1, _⟩ | ⟨Q9, hQ9, h1, h2, h3⟩
            · exact (nI_ne_m1 (by omega) (hla.symm.trans h1)).elim
            · obtain rfl : i = Q9 := g_eq (hla.symm.trans h1) (by omega) (by omega)
              exact ⟨h2, h3⟩
          refine lv_aload_n hx hb dL_isChained_88 rfl (lv_at hl 2 rfl) ?_
          refine lv_iconst (v := 1) hx hb dL_isChained_89 (by decide) ?_
          refine va_iald hx hb hK hP 1 0 rfl rfl (by unfold vp_in; decide) dL_isChained_90 ?_
          refine lv_topi (fun f ef => ?_)
          obtain rfl : f = (mF N (C - 1) K Y) 1 := ef.trans (congrArg (mF N (C - 1) K Y) (show (1 : Int32).toNatClampNeg = 1 by decide))
          refine lv_topi (fun f ef => ?_)
          obtain rfl : f = nI (C - 1) := ef.trans (rfl)
          refine lv_icmp_ne (tgt := 98) hx hb dL_isChained_91 (by decide) (fun c_91 => ?_) (fun c_91 => ?_)
          · have c_91 : (C - 1) ≠ C - 1 := g_ne (a := (C - 1)) (b := C - 1) c_91 (by omega) (by omega)
            exact absurd rfl c_91
          · have c_91 : (C - 1) = C - 1 := g_eq (a := (C - 1)) (b := C - 1) c_91 (by omega) (by omega)
            refine lv_iconst (v := 1) hx hb dL_isChained_94 (by decide) ?_
            refine lv_goto (tgt := 99) hx hb dL_isChained_95 (by decide) ?_
            refine g_zret (v := 1) hx hb hr hlk hP hK hD hS (Nat.le_of_ble_eq_true rfl) (Nat.le_of_ble_eq_true rfl) dL_isChained_99 (by decide +kernel) ?_
            exact ⟨_, _, _, rfl, rfl, hCL, wf_chainR hW c_8⟩
        · have c_64 : j < C - 1 := g_nle (a := C - 1) (b := j) c_64 (by omega) (by omega)
          refine lv_aload_n hx hb dL_isChained_67 rfl (lv_at hl 1 rfl) ?_
          refine lv_iload hx hb dL_isChained_68 (lv_at hl 4 rfl) ?_
          refine lv_aload_n hx hb dL_isChained_70 rfl (lv_at hl 1 rfl) ?_
          refine lv_iload hx hb dL_isChained_71 (lv_at hl 4 rfl) ?_
          refine lv_iconst (v := 1) hx hb dL_isChained_73 (by decide) ?_
          refine lv_iadd hx hb dL_isChained_74 ?_
          refine lv_topi (fun f ef => ?_)
          obtain rfl : f = nI (j + 1) := ef.trans (nI_add _ _)
          refine va_iald hx hb hK hP 0 0 rfl rfl (vp_in_nI (by omega) (by omega)) dL_isChained_75 ?_
          refine lv_topi (fun f ef => ?_)
          obtain rfl : f = (rmAt mo i j) (j + 1) := ef.trans (congrArg (rmAt mo i j) (nI_clamp (n := j + 1) (by omega)))
          refine va_iast hx hb hK hP hD hS 0 0 rfl rfl (vp_in_nI (by omega) (by omega)) dL_isChained_76 (fun H locs hP hD hS => ?_)
          rw [show (nI j).toNatClampNeg = j from (nI_clamp (by omega))] at hP hD
          have hP : va_P D ccl (([(kq, .inl (cI, 4, .inl (upd (rmAt mo i j) j ((rmAt mo i j) (j + 1))))), (km, .inl (cI, 4, .inl (mF N (C - 1) K Y)))] : va_W) ++ w) H := hP
          have hD : va_D A (([(kq, .inl (cI, 4, .inl (upd (rmAt mo i j) j ((rmAt mo i j) (j + 1))))), (km, .inl (cI, 4, .inl (mF N (C - 1) K Y)))] : va_W) ++ w) := hD
          refine lv_iinc (v := nI (j + 1)) (lv' := [(5, .int (nI (j + 1))), (0, .ref t0), (1, .ref kq), (2, .ref km), (3, .int (nI J))]) hx hb dL_isChained_77 hl (k := 4) rfl (by exact nI_1 _) (by decide) rfl (fun ls hl => ?_)
          refine lv_goto (tgt := 59) hx hb dL_isChained_80 (by decide) ?_
          refine W.widen (k := 0) (n := 0) (Nat.le_refl _) (Nat.le_refl _) ?_
          exact ih_59 (j + 1, (upd (rmAt mo i j) j ((rmAt mo i j) (j + 1)))) _ _ _ (show i ≤ (j + 1) ∧ (j + 1) ≤ C - 1 ∧ (upd (rmAt mo i j) j ((rmAt mo i j) (j + 1))) = rmAt mo i (j + 1) from (by exact ⟨by omega, by omega, rmAt_s hi0⟩)) (show C - (j + 1) < C - j by omega) hP hD hS (lv_sub hl [1, 2, 3, 4, 0] rfl)
      · have c_30 : i = C := g_eq (a := i) (b := C) c_30 (by omega) (by omega)
        omega
    · refine lv_iinc (v := nI (i + 1)) (lv' := [(4, .int (nI (i + 1))), (0, .ref t0), (1, .ref kq), (2, .ref km), (3, .int (nI J))]) hx hb dL_isChained_19 hl (k := 4) rfl (by exact nI_1 _) (by decide) rfl (fun ls hl => ?_)
      refine lv_goto (tgt := 3) hx hb dL_isChained_22 (by decide) ?_
      refine W.widen (k := 0) (n := 0) (Nat.le_refl _) (Nat.le_refl _) ?_
      exact ih_3 (i + 1) _ _ _ (show (i + 1) ≤ C ∧ ∀ t, t < (i + 1) → ¬ mo t = nI J from (by exact ⟨by omega, fun t ht => by by_cases h9 : t = i; subst h9; exact c_16; exact hno t (by omega)⟩)) (show C - (i + 1) < C - i by omega) hP hD hS (lv_sub hl [1, 2, 3, 4, 0] rfl)
