set_option maxHeartbeats 4000000 in
set_option maxRecDepth 100000 in
theorem c_L_output (l : Launch) (D : va_G) (cI cJ cO : ClassId) (df sz : Nat) (kc : Nat) (fc : Nat → Int32) (mc : Nat → Int32) (ms : Nat → Int32) (mw : Nat → Int32) (N : Nat) (J : Nat) (x : Int32) (hR : RC fc mc ms mw N) (hJ4 : J < 4) (hJN : J < N) (hc : isC mc) (hw : ∀ j, j < 8 → isW (mw j)) (hs : isS ms) (hxb : -32767 ≤ x.toInt ∧ x.toInt ≤ 32767) : MetI l yL_output wsL_output ({ frames := 0, cells := 0, slots := 0, locals := 0 } : Room) D (gTY cI cJ cO) df [(kc, .inl (cI, 40, .inl fc))] sz [.ref kc, .int (nI (10 * J)), .int x] (fun (r : Int32) (wZ : va_W) => wZ = [(kc, .inl (cI, 40, .inl fc))] ∧ r = goY mc mw ms J x) := by
  refine g_of (cc := cL_output) (nL := 6) (ret := (some .int)) (D := D) (TY := (gTY cI cJ cO)) (df := df) (Qc := fun A => va_Qi (fun (r : Int32) (wZ : va_W) => wZ = [(kc, .inl (cI, 40, .inl fc))] ∧ r = goY mc mw ms J x) (gB D (gTY cI cJ cO) A) A) (by decide +kernel) rfl (Nat.le_of_ble_eq_true rfl) ?_
  intro p e s m below meth c ls A hsz C0 hin hl
  obtain ⟨CF, hr, hlk, hA, hS, hP, hK, hD, hV, hH⟩ := C0
  have CF : CallFix p m c cL_output 6 s _ wsL_output RL := CF
  obtain ⟨hx, hb, hml, hown, hts⟩ := id CF
  subst hsz
  have hP : va_P D ccl [(kc, .inl (cI, 40, .inl fc))] s.heap := hP
  have hl : lv_has ls 6 [(0, .ref kc), (1, .int (nI (10 * J))), (2, .int x)] := hl
  obtain ⟨ec0, ec1, ec2, ec3, ec4, es0, es1, es2, es3⟩ := rc_all hR hJ4
  have ec5 := (hR J hJ4).2.2 hJN
  have hwJ := hw J (by omega)
  have hbd := fSum_bd (J := J) hc hs (by omega) hxb
  refine lv_aload_n hx hb dL_output_0 rfl (lv_at hl 0 rfl) ?_
  refine lv_iload_n hx hb dL_output_1 rfl (lv_at hl 1 rfl) ?_
  refine va_iald hx hb hK hP 0 0 rfl rfl (vp_in_nI (by omega) (by omega)) dL_output_2 ?_
  refine lv_topi (fun f ef => ?_)
  obtain rfl : f = fc (10 * J) := ef.trans (congrArg fc (nI_clamp (n := 10 * J) (by omega)))
  refine lv_iload_n hx hb dL_output_3 rfl (lv_at hl 2 rfl) ?_
  refine lv_imul hx hb dL_output_4 ?_
  refine lv_aload_n hx hb dL_output_5 rfl (lv_at hl 0 rfl) ?_
  refine lv_iload_n hx hb dL_output_6 rfl (lv_at hl 1 rfl) ?_
  refine lv_iconst (v := 1) hx hb dL_output_7 (by decide) ?_
  refine lv_iadd hx hb dL_output_8 ?_
  refine lv_topi (fun f ef => ?_)
  obtain rfl : f = nI ((10 * J) + 1) := ef.trans (nI_add _ _)
  refine va_iald hx hb hK hP 0 0 rfl rfl (vp_in_nI (by omega) (by omega)) dL_output_9 ?_
  refine lv_topi (fun f ef => ?_)
  obtain rfl : f = fc ((10 * J) + 1) := ef.trans (congrArg fc (nI_clamp (n := (10 * J) + 1) (by omega)))
  refine lv_aload_n hx hb dL_output_10 rfl (lv_at hl 0 rfl) ?_
  refine lv_iload_n hx hb dL_output_11 rfl (lv_at hl 1 rfl) ?_
  refine lv_bipush (v := 6) hx hb dL_output_12 (by decide) ?_
  refine lv_iadd hx hb dL_output_14 ?_
  refine lv_topi (fun f ef => ?_)
  obtain rfl : f = nI ((10 * J) + 6) := ef.trans (nI_add _ _)
  refine va_iald hx hb hK hP 0 0 rfl rfl (vp_in_nI (by omega) (by omega)) dL_output_15 ?_
  refine lv_topi (fun f ef => ?_)
  obtain rfl : f = fc ((10 * J) + 6) := ef.trans (congrArg fc (nI_clamp (n := (10 * J) + 6) (by omega)))
  refine lv_imul hx hb dL_output_16 ?_
  refine lv_iadd hx hb dL_output_17 ?_
  refine lv_aload_n hx hb dL_output_18 rfl (lv_at hl 0 rfl) ?_
  refine lv_iload_n hx hb dL_output_19 rfl (lv_at hl 1 rfl) ?_
  refine lv_iconst (v := 2) hx hb dL_output_20 (by decide) ?_
  refine lv_iadd hx hb dL_output_21 ?_
  refine lv_topi (fun f ef => ?_)
  obtain rfl : f = nI ((10 * J) + 2) := ef.trans (nI_add _ _)
  refine va_iald hx hb hK hP 0 0 rfl rfl (vp_in_nI (by omega) (by omega)) dL_output_22 ?_
  refine lv_topi (fun f ef => ?_)
  obtain rfl : f = fc ((10 * J) + 2) := ef.trans (congrArg fc (nI_clamp (n := (10 * J) + 2) (by omega)))
  refine lv_aload_n hx hb dL_output_23 rfl (lv_at hl 0 rfl) ?_
  refine lv_iload_n hx hb dL_output_24 rfl (lv_at hl 1 rfl) ?_
  refine lv_bipush (v := 7) hx hb dL_output_25 (by decide) ?_
  refine lv_iadd hx hb dL_output_27 ?_
  refine lv_topi (fun f ef => ?_)
  obtain rfl : f = nI ((10 * J) + 7) := ef.trans (nI_add _ _)
  refine va_iald hx hb hK hP 0 0 rfl rfl (vp_in_nI (by omega) (by omega)) dL_output_28 ?_
  refine lv_topi (fun f ef => ?_)
  obtain rfl : f = fc ((10 * J) + 7) := ef.trans (congrArg fc (nI_clamp (n := (10 * J) + 7) (by omega)))
  refine lv_imul hx hb dL_output_29 ?_
  refine lv_iadd hx hb dL_output_30 ?_
  refine lv_aload_n hx hb dL_output_31 rfl (lv_at hl 0 rfl) ?_
  refine lv_iload_n hx hb dL_output_32 rfl (lv_at hl 1 rfl) ?_
  refine lv_iconst (v := 3) hx hb dL_output_33 (by decide) ?_
  refine lv_iadd hx hb dL_output_34 ?_
  refine lv_topi (fun f ef => ?_)
  obtain rfl : f = nI ((10 * J) + 3) := ef.trans (nI_add _ _)
  refine va_iald hx hb hK hP 0 0 rfl rfl (vp_in_nI (by omega) (by omega)) dL_output_35 ?_
  refine lv_topi (fun f ef => ?_)
  obtain rfl : f = fc ((10 * J) + 3) := ef.trans (congrArg fc (nI_clamp (n := (10 * J) + 3) (by omega)))
  refine lv_aload_n hx hb dL_output_36 rfl (lv_at hl 0 rfl) ?_
  refine lv_iload_n hx hb dL_output_37 rfl (lv_at hl 1 rfl) ?_
  refine lv_bipush (v := 8) hx hb dL_output_38 (by decide) ?_
  refine lv_iadd hx hb dL_output_40 ?_
  refine lv_topi (fun f ef => ?_)
  obtain rfl : f = nI ((10 * J) + 8) := ef.trans (nI_add _ _)
  refine va_iald hx hb hK hP 0 0 rfl rfl (vp_in_nI (by omega) (by omega)) dL_output_41 ?_
  refine lv_topi (fun f ef => ?_)
  obtain rfl : f = fc ((10 * J) + 8) := ef.trans (congrArg fc (nI_clamp (n := (10 * J) + 8) (by omega)))
  refine lv_imul hx hb dL_output_42 ?_
  refine lv_isub hx hb dL_output_43 ?_
  refine lv_aload_n hx hb dL_output_44 rfl (lv_at hl 0 rfl) ?_
  refine lv_iload_n hx hb dL_output_45 rfl (lv_at hl 1 rfl) ?_
  refine lv_iconst (v := 4) hx hb dL_output_46 (by decide) ?_
  refine lv_iadd hx hb dL_output_47 ?_
  refine lv_topi (fun f ef => ?_)
  obtain rfl : f = nI ((10 * J) + 4) := ef.trans (nI_add _ _)
  refine va_iald hx hb hK hP 0 0 rfl rfl (vp_in_nI (by omega) (by omega)) dL_output_48 ?_
  refine lv_topi (fun f ef => ?_)
  obtain rfl : f = fc ((10 * J) + 4) := ef.trans (congrArg fc (nI_clamp (n := (10 * J) + 4) (by omega)))
  refine lv_aload_n hx hb dL_output_49 rfl (lv_at hl 0 rfl) ?_
  refine lv_iload_n hx hb dL_output_50 rfl (lv_at hl 1 rfl) ?_
  refine lv_bipush (v := 9) hx hb dL_output_51 (by decide) ?_
  refine lv_iadd hx hb dL_output_53 ?_
  refine lv_topi (fun f ef => ?_)
  obtain rfl : f = nI ((10 * J) + 9) := ef.trans (nI_add _ _)
  refine va_iald hx hb hK hP 0 0 rfl rfl (vp_in_nI (by omega) (by omega)) dL_output_54 ?_
  refine lv_topi (fun f ef => ?_)
  obtain rfl : f = fc ((10 * J) + 9) := ef.trans (congrArg fc (nI_clamp (n := (10 * J) + 9) (by omega)))
  refine lv_imul hx hb dL_output_55 ?_
  refine lv_isub hx hb dL_output_56 ?_
  refine lv_topi (fun f ef => ?_)
  obtain rfl : f = fSum mc ms J x := ef.trans (by unfold fSum; rw [ec0, ec1, ec2, ec3, ec4, es0, es1, es2, es3])
  refine lv_istore_n (lv' := [(3, .int (fSum mc ms J x)), (0, .ref kc), (1, .int (nI (10 * J))), (2, .int x)]) hx hb dL_output_57 rfl hl (by decide) rfl (fun ls hl => ?_)
  refine lv_aload_n hx hb dL_output_58 rfl (lv_at hl 1 rfl) ?_
  refine lv_iload_n hx hb dL_output_59 rfl (lv_at hl 2 rfl) ?_
  refine lv_iconst (v := 5) hx hb dL_output_60 (by decide) ?_
  refine lv_iadd hx hb dL_output_61 ?_
  refine lv_topi (fun f ef => ?_)
  obtain rfl : f = nI ((10 * J) + 5) := ef.trans (nI_add _ _)
  refine va_iald hx hb hK hP 0 0 rfl rfl (vp_in_nI (by omega) (by omega)) dL_output_62 ?_
  refine lv_topi (fun f ef => ?_)
  obtain rfl : f = fc ((10 * J) + 5) := ef.trans (congrArg fc (nI_clamp (n := (10 * J) + 5) (by omega)))
  refine lv_topi (fun f ef => ?_)
  obtain rfl : f = mw J := ef.trans (ec5)
  refine lv_iconst (v := 2) hx hb dL_output_63 (by decide) ?_
  refine g_phii (ls := ls) (J := 75) (st1 := []) (REL := fun v => v = lPl (fSum mc ms J x) (mw J)) (fun v hb_75 => ?_) (fun hJ_75 => ?_)
  · subst hb_75
    refine lv_istore (lv' := [(4, .int (lPl (fSum mc ms J x) (mw J))), (3, .int (fSum mc ms J x)), (0, .ref kc), (1, .int (nI (10 * J))), (2, .int x)]) hx hb dL_output_75 hl (by decide) rfl (fun ls hl => ?_)
    refine lv_iload hx hb dL_output_77 (lv_at hl 0 rfl) ?_
    refine lv_bipush (v := 64) hx hb dL_output_79 (by decide) ?_
    refine lv_idiv hx hb dL_output_81 (by decide) ?_
    refine lv_istore (lv' := [(5, .int ((lPl (fSum mc ms J x) (mw J)) / 64)), (4, .int (lPl (fSum mc ms J x) (mw J))), (3, .int (fSum mc ms J x)), (0, .ref kc), (1, .int (nI (10 * J))), (2, .int x)]) hx hb dL_output_82 hl (by decide) rfl (fun ls hl => ?_)
    refine lv_aload_n hx hb dL_output_84 rfl (lv_at hl 3 rfl) ?_
    refine lv_iload_n hx hb dL_output_85 rfl (lv_at hl 4 rfl) ?_
    refine lv_iconst (v := 5) hx hb dL_output_86 (by decide) ?_
    refine lv_iadd hx hb dL_output_87 ?_
    refine lv_topi (fun f ef => ?_)
    obtain rfl : f = nI ((10 * J) + 5) := ef.trans (nI_add _ _)
    refine va_iald hx hb hK hP 0 0 rfl rfl (vp_in_nI (by omega) (by omega)) dL_output_88 ?_
    refine lv_topi (fun f ef => ?_)
    obtain rfl : f = fc ((10 * J) + 5) := ef.trans (congrArg fc (nI_clamp (n := (10 * J) + 5) (by omega)))
    refine lv_topi (fun f ef => ?_)
    obtain rfl : f = mw J := ef.trans (ec5)
    refine g_phii (ls := ls) (J := 109) (st1 := []) (REL := fun v => v = lDn (lPl (fSum mc ms J x) (mw J)) (mw J)) (fun v hb_109 => ?_) (fun hJ_109 => ?_)
    · subst hb_109
      refine lv_istore (lv' := [(5, .int (lDn (lPl (fSum mc ms J x) (mw J)) (mw J))), (4, .int (lPl (fSum mc ms J x) (mw J))), (3, .int (fSum mc ms J x)), (0, .ref kc), (1, .int (nI (10 * J))), (2, .int x)]) hx hb dL_output_109 hl (by decide) rfl (fun ls hl => ?_)
      refine lv_iload hx hb dL_output_111 (lv_at hl 0 rfl) ?_
      refine lv_sipush (v := 32767) hx hb dL_output_113 (by decide) ?_
      refine lv_icmp_le (tgt := 125) hx hb dL_output_116 (by decide) (fun c_116 => ?_) (fun c_116 => ?_)
      · refine lv_iload hx hb dL_output_125 (lv_at hl 0 rfl) ?_
        refine lv_sipush (v := (-32767)) hx hb dL_output_127 (by decide) ?_
        refine lv_icmp_ge (tgt := 139) hx hb dL_output_130 (by decide) (fun c_130 => ?_) (fun c_130 => ?_)
        · refine lv_iload hx hb dL_output_139 (lv_at hl 0 rfl) ?_
          refine g_iret (v := lDn (lPl (fSum mc ms J x) (mw J)) (mw J)) hx hb hr hlk hP hK hD hS (Nat.le_of_ble_eq_true rfl) (Nat.le_of_ble_eq_true rfl) dL_output_141 ?_
          have e9 := lDn_eq (v := fSum mc ms J x) hwJ (by omega) (by omega)
          exact ⟨rfl, by
            show _ = mRnd (fSum mc ms J x) (mw J)
            rw [← e9, ← lClamp]
            first | rw [if_neg c_116] | rw [if_pos c_116, if_pos c_130] | rw [if_pos c_116, if_neg c_130]⟩
        · refine lv_sipush (v := (-32767)) hx hb dL_output_133 (by decide) ?_
          refine lv_goto (tgt := 141) hx hb dL_output_136 (by decide) ?_
          refine g_iret (v := (-32767)) hx hb hr hlk hP hK hD hS (Nat.le_of_ble_eq_true rfl) (Nat.le_of_ble_eq_true rfl) dL_output_141 ?_
          have e9 := lDn_eq (v := fSum mc ms J x) hwJ (by omega) (by omega)
          exact ⟨rfl, by
            show _ = mRnd (fSum mc ms J x) (mw J)
            rw [← e9, ← lClamp]
            first | rw [if_neg c_116] | rw [if_pos c_116, if_pos c_130] | rw [if_pos c_116, if_neg c_130]⟩
      · refine lv_sipush (v := 32767) hx hb dL_output_119 (by decide) ?_
        refine lv_goto (tgt := 141) hx hb dL_output_122 (by decide) ?_
        refine g_iret (v := 32767) hx hb hr hlk hP hK hD hS (Nat.le_of_ble_eq_true rfl) (Nat.le_of_ble_eq_true rfl) dL_output_141 ?_
        have e9 := lDn_eq (v := fSum mc ms J x) hwJ (by omega) (by omega)
        exact ⟨rfl, by
          show _ = mRnd (fSum mc ms J x) (mw J)
          rw [← e9, ← lClamp]
          first | rw [if_neg c_116] | rw [if_pos c_116, if_pos c_130] | rw [if_pos c_116, if_neg c_130]⟩
    · refine lv_if_le (tgt := 107) hx hb dL_output_89 (by decide) (fun c_89 => ?_) (fun c_89 => ?_)
      · have c_89 : ¬ 0 < (mw J) := Int32.not_lt.mpr c_89
        refine lv_iload hx hb dL_output_107 (lv_at hl 0 rfl) ?_
        exact hJ_109 _ (by unfold lDn; first | rw [if_neg c_89] | rw [if_pos c_89, if_neg c_97] | rw [if_pos c_89, if_pos c_97])
      · have c_89 : 0 < (mw J) := Int32.not_le.mp c_89
        refine lv_iload hx hb dL_output_92 (lv_at hl 1 rfl) ?_
        refine lv_bipush (v := 64) hx hb dL_output_94 (by decide) ?_
        refine lv_irem hx hb dL_output_96 (by decide) ?_
        refine lv_if_ge (tgt := 107) hx hb dL_output_97 (by decide) (fun c_97 => ?_) (fun c_97 => ?_)
        · have c_97 : ¬ ((lPl (fSum mc ms J x) (mw J)) - (lPl (fSum mc ms J x) (mw J)) / 64 * 64) < 0 := Int32.not_lt.mpr c_97
          refine lv_iload hx hb dL_output_107 (lv_at hl 0 rfl) ?_
          exact hJ_109 _ (by unfold lDn; first | rw [if_neg c_89] | rw [if_pos c_89, if_neg c_97] | rw [if_pos c_89, if_pos c_97])
        · have c_97 : ((lPl (fSum mc ms J x) (mw J)) - (lPl (fSum mc ms J x) (mw J)) / 64 * 64) < 0 := Int32.not_le.mp c_97
          refine lv_iload hx hb dL_output_100 (lv_at hl 0 rfl) ?_
          refine lv_iconst (v := 1) hx hb dL_output_102 (by decide) ?_
          refine lv_isub hx hb dL_output_103 ?_
          refine lv_goto (tgt := 109) hx hb dL_output_104 (by decide) ?_
          exact hJ_109 _ (by unfold lDn; first | rw [if_neg c_89] | rw [if_pos c_89, if_neg c_97] | rw [if_pos c_89, if_pos c_97])
  · refine lv_icmp_ne (tgt := 74) hx hb dL_output_64 (by decide) (fun c_64 => ?_) (fun c_64 => ?_)
    · refine lv_iload_n hx hb dL_output_74 rfl (lv_at hl 0 rfl) ?_
      exact hJ_75 _ (by unfold lPl; first | rw [if_neg c_64] | rw [if_pos c_64])
    · refine lv_iload_n hx hb dL_output_67 rfl (lv_at hl 0 rfl) ?_
      refine lv_bipush (v := 32) hx hb dL_output_68 (by decide) ?_
      refine lv_iadd hx hb dL_output_70 ?_
      refine lv_goto (tgt := 75) hx hb dL_output_71 (by decide) ?_
      exact hJ_75 _ (by unfold lPl; first | rw [if_neg c_64] | rw [if_pos c_64])

set_option maxHeartbeats 4000000 in
set_option maxRecDepth 100000 in
theorem c_L_run (l : Launch) (D : va_G) (cI cJ cO : ClassId) (df sz : Nat) (kc : Nat) (kq : Nat) (ku : Nat) (km : Nat) (fc : Nat → Int32) (mc : Nat → Int32) (ms : Nat → Int32) (mw : Nat → Int32) (mo : Nat → Int32) (mu : Nat → Int32) (N : Nat) (C : Nat) (K : Nat) (Y : Nat) (x : Int32) (hR : RC fc mc ms mw N) (hN4 : N ≤ 4) (hC4 : C ≤ 4) (hK6 : K ≤ 16) (hO : ∀ i, i < C → gN (mo i) < N ∧ mo i = nI (gN (mo i))) (hc : isC mc) (hw : ∀ j, j < 8 → isW (mw j)) (hs : isS ms) (hxb : -32767 ≤ x.toInt ∧ x.toInt ≤ 32767) : MetI l yL_run wsL_run ({ frames := 1, cells := 0, slots := 0, locals := 25 } : Room) D (gTY cI cJ cO) df [(kc, .inl (cI, 40, .inl fc)), (kq, .inl (cI, 4, .inl mo)), (ku, .inl (cI, 16, .inl mu)), (km, .inl (cI, 4, .inl (mF N C K Y)))] sz [.ref kc, .ref kq, .ref ku, .ref km, .int x] (fun (r : Int32) (wZ : va_W) => ∃ (f2 : Nat → Int32), wZ = [(kc, .inl (cI, 40, .inl f2)), (kq, .inl (cI, 4, .inl mo)), (ku, .inl (cI, 16, .inl (shiftIn 16 mu (rnM mc mw mo ms x C).2))), (km, .inl (cI, 4, .inl (mF N C (if K < 16 then K + 1 else K) Y)))] ∧ r = (rnM mc mw mo ms x C).2 ∧ RC f2 mc (rnM mc mw mo ms x C).1 mw N) := by
  refine g_of (cc := cL_run) (nL := 9) (ret := (some .int)) (D := D) (TY := (gTY cI cJ cO)) (df := df) (Qc := fun A => va_Qi (fun (r : Int32) (wZ : va_W) => ∃ (f2 : Nat → Int32), wZ = [(kc, .inl (cI, 40, .inl f2)), (kq, .inl (cI, 4, .inl mo)), (ku, .inl (cI, 16, .inl (shiftIn 16 mu (rnM mc mw mo ms x C).2))), (km, .inl (cI, 4, .inl (mF N C (if K < 16 then K + 1 else K) Y)))] ∧ r = (rnM mc mw mo ms x C).2 ∧ RC f2 mc (rnM mc mw mo ms x C).1 mw N) (gB D (gTY cI cJ cO) A) A) (by decide +kernel) rfl (Nat.le_of_ble_eq_true rfl) ?_
  intro p e s m below meth c ls A hsz C0 hin hl
  obtain ⟨CF, hr, hlk, hA, hS, hP, hK, hD, hV, hH⟩ := C0
  have CF : CallFix p m c cL_run 9 s _ wsL_run RL := CF
  obtain ⟨hx, hb, hml, hown, hts⟩ := id CF
  subst hsz
  have hmethodLink_RL_9 : (Cond.methodLink RL 9 yL_output).before _ s = true := hts _ (List.mem_of_getElem? (i := 1) rfl)
  have hP : va_P D ccl [(kc, .inl (cI, 40, .inl fc)), (kq, .inl (cI, 4, .inl mo)), (ku, .inl (cI, 16, .inl mu)), (km, .inl (cI, 4, .inl (mF N C K Y)))] s.heap := hP
  have hl : lv_has ls 9 [(0, .ref kc), (1, .ref kq), (2, .ref ku), (3, .ref km), (4, .int x)] := hl
  refine lv_iload hx hb dL_run_0 (lv_at hl 4 rfl) ?_
  refine lv_istore (lv' := [(5, .int x), (0, .ref kc), (1, .ref kq), (2, .ref ku), (3, .ref km), (4, .int x)]) hx hb dL_run_2 hl (by decide) rfl (fun ls hl => ?_)
  refine lv_iconst (v := 0) hx hb dL_run_4 (by decide) ?_
  refine lv_istore (lv' := [(6, .int 0), (5, .int x), (0, .ref kc), (1, .ref kq), (2, .ref ku), (3, .ref km), (4, .int x)]) hx hb dL_run_5 hl (by decide) rfl (fun ls hl => ?_)
  refine W.widen (k := 0) (n := 0) (Nat.le_refl _) (Nat.le_refl _) ?_
  refine g_while (σ := Nat × (Nat → Int32) × Int32) (st := []) (nL := 9) (fun z => match z with | (k, f1, z1) => [(kc, .inl (cI, 40, .inl f1)), (kq, .inl (cI, 4, .inl mo)), (ku, .inl (cI, 16, .inl mu)), (km, .inl (cI, 4, .inl (mF N C K Y)))])
    (fun z => match z with | (k, f1, z1) => [(0, .ref kc), (1, .ref kq), (2, .ref ku), (3, .ref km), (4, .int x), (5, .int z1), (6, .int (nI k))])
    (fun z => match z with | (k, f1, z1) => k ≤ C ∧ RC f1 mc (rnM mc mw mo ms x k).1 mw N ∧ z1 = (rnM mc mw mo ms x k).2)
    (fun z => match z with | (k, f1, z1) => C - k) (fun z => match z with | (k, f1, z1) => 0) (fun z => match z with | (k, f1, z1) => 0)
    ?_ (0, fc, x) ⟨Nat.zero_le C, hR, rfl⟩ hP hD hS (lv_sub hl [2, 3, 4, 5, 6, 1, 0] rfl)
  rintro ⟨k, f1, z1⟩ hI H locs ls hP hD hS hl ih
  have hI : k ≤ C ∧ RC f1 mc (rnM mc mw mo ms x k).1 mw N ∧ z1 = (rnM mc mw mo ms x k).2 := hI
  have hP : va_P D ccl [(kc, .inl (cI, 40, .inl f1)), (kq, .inl (cI, 4, .inl mo)), (ku, .inl (cI, 16, .inl mu)), (km, .inl (cI, 4, .inl (mF N C K Y)))] H := hP
  have hD : va_D A [(kc, .inl (cI, 40, .inl f1)), (kq, .inl (cI, 4, .inl mo)), (ku, .inl (cI, 16, .inl mu)), (km, .inl (cI, 4, .inl (mF N C K Y)))] := hD
  have hl : lv_has ls 9 [(0, .ref kc), (1, .ref kq), (2, .ref ku), (3, .ref km), (4, .int x), (5, .int z1), (6, .int (nI k))] := hl
  change W p l e _ s m _ below meth c H locs 0 0 _ (F0 m 7 ls [])
  have ih_7 := ih
  clear ih
  obtain ⟨hk, hR, rfl⟩ := hI
  have hr9 := rn_ok (mc := mc) (mw := mw) (mo := mo) hs hxb (fun i hi => Nat.lt_of_lt_of_le (hO i hi).1 (by omega)) hk
  refine lv_iload hx hb dL_run_7 (lv_at hl 6 rfl) ?_
  refine lv_aload_n hx hb dL_run_9 rfl (lv_at hl 3 rfl) ?_
  refine lv_iconst (v := 1) hx hb dL_run_10 (by decide) ?_
  refine va_iald hx hb hK hP 3 0 rfl rfl (by unfold vp_in; decide) dL_run_11 ?_
  refine lv_topi (fun f ef => ?_)
  obtain rfl : f = (mF N C K Y) 1 := ef.trans (congrArg (mF N C K Y) (show (1 : Int32).toNatClampNeg = 1 by decide))
  refine lv_topi (fun f ef => ?_)
  obtain rfl : f = nI C := ef.trans (rfl)
  refine lv_icmp_ge (tgt := 90) hx hb dL_run_12 (by decide) (fun c_12 => ?_) (fun c_12 => ?_)
  · have c_12 : C ≤ k := g_le (a := C) (b := k) c_12 (by omega) (by omega)
    obtain rfl : C = k := by omega
    refine lv_bipush (v := 15) hx hb dL_run_90 (by decide) ?_
    refine lv_istore (lv' := [(6, .int 15), (0, .ref kc), (1, .ref kq), (2, .ref ku), (3, .ref km), (4, .int x), (5, .int ((rnM mc mw mo ms x C).2))]) hx hb dL_run_92 hl (by decide) rfl (fun ls hl => ?_)
    refine W.widen (k := 0) (n := 0) (Nat.le_refl _) (Nat.le_refl _) ?_
    refine g_while (σ := Nat × (Nat → Int32)) (st := []) (nL := 9) (fun z => match z with | (j, u1) => [(kc, .inl (cI, 40, .inl f1)), (kq, .inl (cI, 4, .inl mo)), (ku, .inl (cI, 16, .inl u1)), (km, .inl (cI, 4, .inl (mF N C K Y)))])
      (fun z => match z with | (j, u1) => [(0, .ref kc), (1, .ref kq), (2, .ref ku), (3, .ref km), (4, .int x), (5, .int ((rnM mc mw mo ms x C).2)), (6, .int (nI j))])
      (fun z => match z with | (j, u1) => j ≤ 15 ∧ u1 = shAt 16 mu j)
      (fun z => match z with | (j, u1) => j) (fun z => match z with | (j, u1) => 0) (fun z => match z with | (j, u1) => 0)
      ?_ (15, mu) ⟨Nat.le_refl 15, shAt_0⟩ hP hD hS (lv_sub hl [1, 2, 3, 4, 5, 6, 0] rfl)
    rintro ⟨j, u1⟩ hI H locs ls hP hD hS hl ih
    have hI : j ≤ 15 ∧ u1 = shAt 16 mu j := hI
    have hP : va_P D ccl [(kc, .inl (cI, 40, .inl f1)), (kq, .inl (cI, 4, .inl mo)), (ku, .inl (cI, 16, .inl u1)), (km, .inl (cI, 4, .inl (mF N C K Y)))] H := hP
    have hD : va_D A [(kc, .inl (cI, 40, .inl f1)), (kq, .inl (cI, 4, .inl mo)), (ku, .inl (cI, 16, .inl u1)), (km, .inl (cI, 4, .inl (mF N C K Y)))] := hD
    have hl : lv_has ls 9 [(0, .ref kc), (1, .ref kq), (2, .ref ku), (3, .ref km), (4, .int x), (5, .int ((rnM mc mw mo ms x C).2)), (6, .int (nI j))] := hl
    change W p l e _ s m _ below meth c H locs 0 0 _ (F0 m 94 ls [])
    have ih_94 := ih
    clear ih
    obtain ⟨hj, rfl⟩ := hI
    refine lv_iload hx hb dL_run_94 (lv_at hl 6 rfl) ?_
    refine lv_if_le (tgt := 115) hx hb dL_run_96 (by decide) (fun c_96 => ?_) (fun c_96 => ?_)
    · have c_96 : j ≤ 0 := g_le (a := j) (b := 0) c_96 (by omega) (by omega)
      obtain rfl : j = 0 := by omega
      refine lv_aload_n hx hb dL_run_115 rfl (lv_at hl 2 rfl) ?_
      refine lv_iconst (v := 0) hx hb dL_run_116 (by decide) ?_
      refine lv_iload hx hb dL_run_117 (lv_at hl 5 rfl) ?_
      refine va_iast hx hb hK hP hD hS 2 0 rfl rfl (by unfold vp_in; decide) dL_run_119 (fun H locs hP hD hS => ?_)
      rw [show ((0 : Int32)).toNatClampNeg = 0 from (by decide)] at hP hD
      rw [show upd (shAt 16 mu 0) 0 ((rnM mc mw mo ms x C).2) = shiftIn 16 mu (rnM mc mw mo ms x C).2 from shAt_end] at hP hD
      have hP : va_P D ccl [(kc, .inl (cI, 40, .inl f1)), (kq, .inl (cI, 4, .inl mo)), (ku, .inl (cI, 16, .inl (shiftIn 16 mu (rnM mc mw mo ms x C).2))), (km, .inl (cI, 4, .inl (mF N C K Y)))] H := hP
      have hD : va_D A [(kc, .inl (cI, 40, .inl f1)), (kq, .inl (cI, 4, .inl mo)), (ku, .inl (cI, 16, .inl (shiftIn 16 mu (rnM mc mw mo ms x C).2))), (km, .inl (cI, 4, .inl (mF N C K Y)))] := hD
      refine lv_aload_n hx hb dL_run_120 rfl (lv_at hl 3 rfl) ?_
      refine lv_iconst (v := 2) hx hb dL_run_121 (by decide) ?_
      refine lv_dup2_11 hx hb dL_run_122 rfl rfl ?_
      refine va_iald hx hb hK hP 3 0 rfl rfl (by unfold vp_in; decide) dL_run_123 ?_
      refine lv_topi (fun f ef => ?_)
      obtain rfl : f = (mF N C K Y) 2 := ef.trans (congrArg (mF N C K Y) (show (2 : Int32).toNatClampNeg = 2 by decide))
      refine lv_topi (fun f ef => ?_)
      obtain rfl : f = nI K := ef.trans (rfl)
      refine lv_aload_n hx hb dL_run_124 rfl (lv_at hl 3 rfl) ?_
      refine lv_iconst (v := 2) hx hb dL_run_125 (by decide) ?_
      refine va_iald hx hb hK hP 3 0 rfl rfl (by unfold vp_in; decide) dL_run_126 ?_
      refine lv_topi (fun f ef => ?_)
      obtain rfl : f = (mF N C K Y) 2 := ef.trans (congrArg (mF N C K Y) (show (2 : Int32).toNatClampNeg = 2 by decide))
      refine lv_topi (fun f ef => ?_)
      obtain rfl : f = nI K := ef.trans (rfl)
      refine lv_bipush (v := 16) hx hb dL_run_127 (by decide) ?_
      refine g_phii (ls := ls) (J := 137) (st1 := [.int (nI K), .int 2, .ref km]) (REL := fun v => v = if K < 16 then (1 : Int32) else 0) (fun v hb_137 => ?_) (fun hJ_137 => ?_)
      · subst hb_137
        refine lv_iadd hx hb dL_run_137 ?_
        refine lv_topi (fun f ef => ?_)
        obtain rfl : f = nI (if K < 16 then K + 1 else K) := ef.trans (by by_cases h : K < 16 <;> simp [h, nI_1])
        refine va_iast hx hb hK hP hD hS 3 0 rfl rfl (by unfold vp_in; decide) dL_run_138 (fun H locs hP hD hS => ?_)
        rw [show ((2 : Int32)).toNatClampNeg = 2 from (by decide)] at hP hD
        rw [show upd (mF N C K Y) 2 (nI (if K < 16 then K + 1 else K)) = mF N C (if K < 16 then K + 1 else K) Y from mF_2 rfl] at hP hD
        have hP : va_P D ccl [(kc, .inl (cI, 40, .inl f1)), (kq, .inl (cI, 4, .inl mo)), (ku, .inl (cI, 16, .inl (shiftIn 16 mu (rnM mc mw mo ms x C).2))), (km, .inl (cI, 4, .inl (mF N C (if K < 16 then K + 1 else K) Y)))] H := hP
        have hD : va_D A [(kc, .inl (cI, 40, .inl f1)), (kq, .inl (cI, 4, .inl mo)), (ku, .inl (cI, 16, .inl (shiftIn 16 mu (rnM mc mw mo ms x C).2))), (km, .inl (cI, 4, .inl (mF N C (if K < 16 then K + 1 else K) Y)))] := hD
        refine lv_iload hx hb dL_run_139 (lv_at hl 5 rfl) ?_
        refine g_iret (v := (rnM mc mw mo ms x C).2) hx hb hr hlk hP hK hD hS (Nat.le_of_ble_eq_true rfl) (Nat.le_of_ble_eq_true rfl) dL_run_141 ?_
        exact ⟨_, rfl, rfl, hR⟩
      · refine lv_icmp_ge (tgt := 136) hx hb dL_run_129 (by decide) (fun c_129 => ?_) (fun c_129 => ?_)
        · have c_129 : 16 ≤ K := g_le (a := 16) (b := K) c_129 (by omega) (by omega)
          refine lv_iconst (v := 0) hx hb dL_run_136 (by decide) ?_
          exact hJ_137 _ (by first | rw [if_pos (by omega)] | rw [if_neg (by omega)])
        · have c_129 : K < 16 := g_nle (a := 16) (b := K) c_129 (by omega) (by omega)
          refine lv_iconst (v := 1) hx hb dL_run_132 (by decide) ?_
          refine lv_goto (tgt := 137) hx hb dL_run_133 (by decide) ?_
          exact hJ_137 _ (by first | rw [if_pos (by omega)] | rw [if_neg (by omega)])
    · have c_96 : 0 < j := g_nle (a := j) (b := 0) c_96 (by omega) (by omega)
      refine lv_aload_n hx hb dL_run_99 rfl (lv_at hl 2 rfl) ?_
      refine lv_iload hx hb dL_run_100 (lv_at hl 6 rfl) ?_
      refine lv_aload_n hx hb dL_run_102 rfl (lv_at hl 2 rfl) ?_
      refine lv_iload hx hb dL_run_103 (lv_at hl 6 rfl) ?_
      refine lv_iconst (v := 1) hx hb dL_run_105 (by decide) ?_
      refine lv_isub hx hb dL_run_106 ?_
      refine lv_topi (fun f ef => ?_)
      obtain rfl : f = nI (j - 1) := ef.trans (pk_sub (a := j) (b := 1) (by omega))
      refine va_iald hx hb hK hP 2 0 rfl rfl (vp_in_nI (by omega) (by omega)) dL_run_107 ?_
      refine lv_topi (fun f ef => ?_)
      obtain rfl : f = (shAt 16 mu j) (j - 1) := ef.trans (congrArg (shAt 16 mu j) (nI_clamp (n := j - 1) (by omega)))
      refine va_iast hx hb hK hP hD hS 2 0 rfl rfl (vp_in_nI (by omega) (by omega)) dL_run_108 (fun H locs hP hD hS => ?_)
      rw [show (nI j).toNatClampNeg = j from (nI_clamp (by omega))] at hP hD
      have hP : va_P D ccl [(kc, .inl (cI, 40, .inl f1)), (kq, .inl (cI, 4, .inl mo)), (ku, .inl (cI, 16, .inl (upd (shAt 16 mu j) j ((shAt 16 mu j) (j - 1))))), (km, .inl (cI, 4, .inl (mF N C K Y)))] H := hP
      have hD : va_D A [(kc, .inl (cI, 40, .inl f1)), (kq, .inl (cI, 4, .inl mo)), (ku, .inl (cI, 16, .inl (upd (shAt 16 mu j) j ((shAt 16 mu j) (j - 1))))), (km, .inl (cI, 4, .inl (mF N C K Y)))] := hD
      refine lv_iinc (v := nI (j - 1)) (lv' := [(6, .int (nI (j - 1))), (0, .ref kc), (1, .ref kq), (2, .ref ku), (3, .ref km), (4, .int x), (5, .int ((rnM mc mw mo ms x C).2))]) hx hb dL_run_109 hl (k := 6) rfl (by exact sb_m1 (by omega)) (by decide) rfl (fun ls hl => ?_)
      refine lv_goto (tgt := 94) hx hb dL_run_112 (by decide) ?_
      refine W.widen (k := 0) (n := 0) (Nat.le_refl _) (Nat.le_refl _) ?_
      exact ih_94 (j - 1, (upd (shAt 16 mu j) j ((shAt 16 mu j) (j - 1)))) _ _ _ (show (j - 1) ≤ 15 ∧ (upd (shAt 16 mu j) j ((shAt 16 mu j) (j - 1))) = shAt 16 mu (j - 1) from (by exact ⟨by omega, shAt_step (by omega) (by omega)⟩)) (show (j - 1) < j by omega) hP hD hS (lv_sub hl [1, 2, 3, 4, 5, 6, 0] rfl)
  · have c_12 : k < C := g_nle (a := C) (b := k) c_12 (by omega) (by omega)
    have hJN := (hO k c_12).1
    have hJ4 : gN (mo k) < 4 := by omega
    refine lv_bipush (v := 10) hx hb dL_run_15 (by decide) ?_
    refine lv_aload_n hx hb dL_run_17 rfl (lv_at hl 1 rfl) ?_
    refine lv_iload hx hb dL_run_18 (lv_at hl 6 rfl) ?_
    refine va_iald hx hb hK hP 1 0 rfl rfl (vp_in_nI (by omega) (by omega)) dL_run_20 ?_
    refine lv_topi (fun f ef => ?_)
    obtain rfl : f = mo k := ef.trans (congrArg mo (nI_clamp (n := k) (by omega)))
    refine lv_topi (fun f ef => ?_)
    obtain rfl : f = nI (gN (mo k)) := ef.trans ((hO k c_12).2)
    refine lv_imul hx hb dL_run_21 ?_
    refine lv_topi (fun f ef => ?_)
    obtain rfl : f = nI (10 * (gN (mo k))) := ef.trans (pk_mul _ _)
    refine lv_istore (lv' := [(7, .int (nI (10 * (gN (mo k))))), (0, .ref kc), (1, .ref kq), (2, .ref ku), (3, .ref km), (4, .int x), (5, .int ((rnM mc mw mo ms x k).2)), (6, .int (nI k))]) hx hb dL_run_22 hl (by decide) rfl (fun ls hl => ?_)
    refine lv_aload_n hx hb dL_run_24 rfl (lv_at hl 1 rfl) ?_
    refine lv_iload hx hb dL_run_25 (lv_at hl 0 rfl) ?_
    refine lv_iload hx hb dL_run_27 (lv_at hl 6 rfl) ?_
    have hPc := hP.sub (ws' := [(kc, .inl (cI, 40, .inl f1))]) [0] rfl
    have hDc := hD.sub (ws' := [(kc, .inl (cI, 40, .inl f1))]) [0] (by decide) rfl
    have hFc := va_free (wc := [(kc, .inl (cI, 40, .inl f1))]) hD hS hA [0] rfl
    refine g_Si (As := [.ref kc, .int (nI (10 * (gN (mo k)))), .int ((rnM mc mw mo ms x k).2)]) (rest := []) CF (c_L_output l D cI cJ cO df H.size kc f1 mc ((rnM mc mw mo ms x k).1) mw N (gN (mo k)) ((rnM mc mw mo ms x k).2) hR hJ4 hJN hc hw hr9.1 hr9.2) (va_cwS 3 hts gL_run_L_output rfl rfl rfl (by decide +kernel) ⟨Nat.le_of_ble_eq_true rfl, Nat.le_of_ble_eq_true rfl⟩)  hPc hK hDc hV hH hS hFc rfl hl.1 rfl (Nat.le_of_ble_eq_true rfl) dL_run_29 ⟨Nat.le_of_ble_eq_true rfl, Nat.le_of_ble_eq_true rfl⟩ (fun r_29 w1 H1 locs1 hq hP1 hD1 hk hS hz => ?_)
    obtain ⟨rfl, hr_29⟩ := hq
    have hP := g_keepR hP hD [0] rfl hk hP1
    clear hPc hDc hFc hP1 hD1 hk hz
    generalize H1 = H at hP hS ⊢
    have hP : va_P D ccl [(kc, .inl (cI, 40, .inl f1)), (kq, .inl (cI, 4, .inl mo)), (ku, .inl (cI, 16, .inl mu)), (km, .inl (cI, 4, .inl (mF N C K Y)))] H := hP
    have hD : va_D A [(kc, .inl (cI, 40, .inl f1)), (kq, .inl (cI, 4, .inl mo)), (ku, .inl (cI, 16, .inl mu)), (km, .inl (cI, 4, .inl (mF N C K Y)))] := hD
    subst hr_29
    refine lv_istore (lv' := [(8, .int (goY mc mw ((rnM mc mw mo ms x k).1) (gN (mo k)) ((rnM mc mw mo ms x k).2))), (7, .int (nI (10 * (gN (mo k))))), (0, .ref kc), (1, .ref kq), (2, .ref ku), (3, .ref km), (4, .int x), (5, .int ((rnM mc mw mo ms x k).2)), (6, .int (nI k))]) hx hb dL_run_32 hl (by decide) rfl (fun ls hl => ?_)
    refine lv_aload_n hx hb dL_run_34 rfl (lv_at hl 2 rfl) ?_
    refine lv_iload hx hb dL_run_35 (lv_at hl 1 rfl) ?_
    refine lv_bipush (v := 7) hx hb dL_run_37 (by decide) ?_
    refine lv_iadd hx hb dL_run_39 ?_
    refine lv_topi (fun f ef => ?_)
    obtain rfl : f = nI ((10 * (gN (mo k))) + 7) := ef.trans (nI_add _ _)
    refine lv_aload_n hx hb dL_run_40 rfl (lv_at hl 2 rfl) ?_
    refine lv_iload hx hb dL_run_41 (lv_at hl 1 rfl) ?_
    refine lv_bipush (v := 6) hx hb dL_run_43 (by decide) ?_
    refine lv_iadd hx hb dL_run_45 ?_
    refine lv_topi (fun f ef => ?_)
    obtain rfl : f = nI ((10 * (gN (mo k))) + 6) := ef.trans (nI_add _ _)
    refine va_iald hx hb hK hP 0 0 rfl rfl (vp_in_nI (by omega) (by omega)) dL_run_46 ?_
    refine lv_topi (fun f ef => ?_)
    obtain rfl : f = f1 ((10 * (gN (mo k))) + 6) := ef.trans (congrArg f1 (nI_clamp (n := (10 * (gN (mo k))) + 6) (by omega)))
    refine va_iast hx hb hK hP hD hS 0 0 rfl rfl (vp_in_nI (by omega) (by omega)) dL_run_47 (fun H locs hP hD hS => ?_)
    rw [show (nI ((10 * (gN (mo k))) + 7)).toNatClampNeg = (10 * (gN (mo k))) + 7 from (nI_clamp (by omega))] at hP hD
    have hP : va_P D ccl [(kc, .inl (cI, 40, .inl (upd f1 ((10 * (gN (mo k))) + 7) (f1 ((10 * (gN (mo k))) + 6))))), (kq, .inl (cI, 4, .inl mo)), (ku, .inl (cI, 16, .inl mu)), (km, .inl (cI, 4, .inl (mF N C K Y)))] H := hP
    have hD : va_D A [(kc, .inl (cI, 40, .inl (upd f1 ((10 * (gN (mo k))) + 7) (f1 ((10 * (gN (mo k))) + 6))))), (kq, .inl (cI, 4, .inl mo)), (ku, .inl (cI, 16, .inl mu)), (km, .inl (cI, 4, .inl (mF N C K Y)))] := hD
    refine lv_aload_n hx hb dL_run_48 rfl (lv_at hl 2 rfl) ?_
    refine lv_iload hx hb dL_run_49 (lv_at hl 1 rfl) ?_
    refine lv_bipush (v := 6) hx hb dL_run_51 (by decide) ?_
    refine lv_iadd hx hb dL_run_53 ?_
    refine lv_topi (fun f ef => ?_)
    obtain rfl : f = nI ((10 * (gN (mo k))) + 6) := ef.trans (nI_add _ _)
    refine lv_iload hx hb dL_run_54 (lv_at hl 7 rfl) ?_
    refine va_iast hx hb hK hP hD hS 0 0 rfl rfl (vp_in_nI (by omega) (by omega)) dL_run_56 (fun H locs hP hD hS => ?_)
    rw [show (nI ((10 * (gN (mo k))) + 6)).toNatClampNeg = (10 * (gN (mo k))) + 6 from (nI_clamp (by omega))] at hP hD
    have hP : va_P D ccl [(kc, .inl (cI, 40, .inl (upd (upd f1 ((10 * (gN (mo k))) + 7) (f1 ((10 * (gN (mo k))) + 6))) ((10 * (gN (mo k))) + 6) ((rnM mc mw mo ms x k).2)))), (kq, .inl (cI, 4, .inl mo)), (ku, .inl (cI, 16, .inl mu)), (km, .inl (cI, 4, .inl (mF N C K Y)))] H := hP
    have hD : va_D A [(kc, .inl (cI, 40, .inl (upd (upd f1 ((10 * (gN (mo k))) + 7) (f1 ((10 * (gN (mo k))) + 6))) ((10 * (gN (mo k))) + 6) ((rnM mc mw mo ms x k).2)))), (kq, .inl (cI, 4, .inl mo)), (ku, .inl (cI, 16, .inl mu)), (km, .inl (cI, 4, .inl (mF N C K Y)))] := hD
    refine lv_aload_n hx hb dL_run_57 rfl (lv_at hl 2 rfl) ?_
    refine lv_iload hx hb dL_run_58 (lv_at hl 1 rfl) ?_
    refine lv_bipush (v := 9) hx hb dL_run_60 (by decide) ?_
    refine lv_iadd hx hb dL_run_62 ?_
    refine lv_topi (fun f ef => ?_)
    obtain rfl : f = nI ((10 * (gN (mo k))) + 9) := ef.trans (nI_add _ _)
    refine lv_aload_n hx hb dL_run_63 rfl (lv_at hl 2 rfl) ?_
    refine lv_iload hx hb dL_run_64 (lv_at hl 1 rfl) ?_
    refine lv_bipush (v := 8) hx hb dL_run_66 (by decide) ?_
    refine lv_iadd hx hb dL_run_68 ?_
    refine lv_topi (fun f ef => ?_)
    obtain rfl : f = nI ((10 * (gN (mo k))) + 8) := ef.trans (nI_add _ _)
    refine va_iald hx hb hK hP 0 0 rfl rfl (vp_in_nI (by omega) (by omega)) dL_run_69 ?_
    refine lv_topi (fun f ef => ?_)
    obtain rfl : f = (upd (upd f1 ((10 * (gN (mo k))) + 7) (f1 ((10 * (gN (mo k))) + 6))) ((10 * (gN (mo k))) + 6) ((rnM mc mw mo ms x k).2)) ((10 * (gN (mo k))) + 8) := ef.trans (congrArg (upd (upd f1 ((10 * (gN (mo k))) + 7) (f1 ((10 * (gN (mo k))) + 6))) ((10 * (gN (mo k))) + 6) ((rnM mc mw mo ms x k).2)) (nI_clamp (n := (10 * (gN (mo k))) + 8) (by omega)))
    refine lv_topi (fun f ef => ?_)
    obtain rfl : f = f1 (10 * gN (mo k) + 8) := ef.trans (by unfold upd; rw [if_neg (by omega), if_neg (by omega)])
    refine va_iast hx hb hK hP hD hS 0 0 rfl rfl (vp_in_nI (by omega) (by omega)) dL_run_70 (fun H locs hP hD hS => ?_)
    rw [show (nI ((10 * (gN (mo k))) + 9)).toNatClampNeg = (10 * (gN (mo k))) + 9 from (nI_clamp (by omega))] at hP hD
    have hP : va_P D ccl [(kc, .inl (cI, 40, .inl (upd (upd (upd f1 ((10 * (gN (mo k))) + 7) (f1 ((10 * (gN (mo k))) + 6))) ((10 * (gN (mo k))) + 6) ((rnM mc mw mo ms x k).2)) ((10 * (gN (mo k))) + 9) (f1 (10 * gN (mo k) + 8))))), (kq, .inl (cI, 4, .inl mo)), (ku, .inl (cI, 16, .inl mu)), (km, .inl (cI, 4, .inl (mF N C K Y)))] H := hP
    have hD : va_D A [(kc, .inl (cI, 40, .inl (upd (upd (upd f1 ((10 * (gN (mo k))) + 7) (f1 ((10 * (gN (mo k))) + 6))) ((10 * (gN (mo k))) + 6) ((rnM mc mw mo ms x k).2)) ((10 * (gN (mo k))) + 9) (f1 (10 * gN (mo k) + 8))))), (kq, .inl (cI, 4, .inl mo)), (ku, .inl (cI, 16, .inl mu)), (km, .inl (cI, 4, .inl (mF N C K Y)))] := hD
    refine lv_aload_n hx hb dL_run_71 rfl (lv_at hl 2 rfl) ?_
    refine lv_iload hx hb dL_run_72 (lv_at hl 1 rfl) ?_
    refine lv_bipush (v := 8) hx hb dL_run_74 (by decide) ?_
    refine lv_iadd hx hb dL_run_76 ?_
    refine lv_topi (fun f ef => ?_)
    obtain rfl : f = nI ((10 * (gN (mo k))) + 8) := ef.trans (nI_add _ _)
    refine lv_iload hx hb dL_run_77 (lv_at hl 0 rfl) ?_
    refine va_iast hx hb hK hP hD hS 0 0 rfl rfl (vp_in_nI (by omega) (by omega)) dL_run_79 (fun H locs hP hD hS => ?_)
    rw [show (nI ((10 * (gN (mo k))) + 8)).toNatClampNeg = (10 * (gN (mo k))) + 8 from (nI_clamp (by omega))] at hP hD
    rw [show upd (upd (upd (upd f1 ((10 * (gN (mo k))) + 7) (f1 ((10 * (gN (mo k))) + 6))) ((10 * (gN (mo k))) + 6) ((rnM mc mw mo ms x k).2)) ((10 * (gN (mo k))) + 9) (f1 (10 * gN (mo k) + 8))) ((10 * (gN (mo k))) + 8) (goY mc mw ((rnM mc mw mo ms x k).1) (gN (mo k)) ((rnM mc mw mo ms x k).2)) = rcG f1 (gN (mo k)) (rnM mc mw mo ms x k).2 (goY mc mw (rnM mc mw mo ms x k).1 (gN (mo k)) (rnM mc mw mo ms x k).2) from rfl] at hP hD
    have hP : va_P D ccl [(kc, .inl (cI, 40, .inl (rcG f1 (gN (mo k)) (rnM mc mw mo ms x k).2 (goY mc mw (rnM mc mw mo ms x k).1 (gN (mo k)) (rnM mc mw mo ms x k).2)))), (kq, .inl (cI, 4, .inl mo)), (ku, .inl (cI, 16, .inl mu)), (km, .inl (cI, 4, .inl (mF N C K Y)))] H := hP
    have hD : va_D A [(kc, .inl (cI, 40, .inl (rcG f1 (gN (mo k)) (rnM mc mw mo ms x k).2 (goY mc mw (rnM mc mw mo ms x k).1 (gN (mo k)) (rnM mc mw mo ms x k).2)))), (kq, .inl (cI, 4, .inl mo)), (ku, .inl (cI, 16, .inl mu)), (km, .inl (cI, 4, .inl (mF N C K Y)))] := hD
    refine lv_iload hx hb dL_run_80 (lv_at hl 0 rfl) ?_
    refine lv_topi (fun f ef => ?_)
    obtain rfl : f = (rnM mc mw mo ms x (k + 1)).2 := ef.trans (rfl)
    refine lv_istore (lv' := [(5, .int ((rnM mc mw mo ms x (k + 1)).2)), (8, .int (goY mc mw ((rnM mc mw mo ms x k).1) (gN (mo k)) ((rnM mc mw mo ms x k).2))), (7, .int (nI (10 * (gN (mo k))))), (0, .ref kc), (1, .ref kq), (2, .ref ku), (3, .ref km), (4, .int x), (6, .int (nI k))]) hx hb dL_run_82 hl (by decide) rfl (fun ls hl => ?_)
    refine lv_iinc (v := nI (k + 1)) (lv' := [(6, .int (nI (k + 1))), (5, .int ((rnM mc mw mo ms x (k + 1)).2)), (8, .int (goY mc mw ((rnM mc mw mo ms x k).1) (gN (mo k)) ((rnM mc mw mo ms x k).2))), (7, .int (nI (10 * (gN (mo k))))), (0, .ref kc), (1, .ref kq), (2, .ref ku), (3, .ref km), (4, .int x)]) hx hb dL_run_84 hl (k := 8) rfl (by exact nI_1 _) (by decide) rfl (fun ls hl => ?_)
    refine lv_goto (tgt := 7) hx hb dL_run_87 (by decide) ?_
    refine W.widen (k := 0) (n := 0) (Nat.le_refl _) (Nat.le_refl _) ?_
    exact ih_7 (k + 1, (rcG f1 (gN (mo k)) (rnM mc mw mo ms x k).2 (goY mc mw (rnM mc mw mo ms x k).1 (gN (mo k)) (rnM mc mw mo ms x k).2)), (rnM mc mw mo ms x (k + 1)).2) _ _ _ (show (k + 1) ≤ C ∧ RC (rcG f1 (gN (mo k)) (rnM mc mw mo ms x k).2 (goY mc mw (rnM mc mw mo ms x k).1 (gN (mo k)) (rnM mc mw mo ms x k).2)) mc (rnM mc mw mo ms x (k + 1)).1 mw N ∧ ((rnM mc mw mo ms x (k + 1)).2) = (rnM mc mw mo ms x (k + 1)).2 from (by exact ⟨c_12, rc_go hR hJ4, rfl⟩)) (show C - (k + 1) < C - k by omega) hP hD hS (lv_sub hl [4, 5, 6, 7, 8, 1, 0] rfl)

set_option maxHeartbeats 4000000 in
set_option maxRecDepth 100000 in
theorem c_L_abs (l : Launch) (D : va_G) (cI cJ cO : ClassId) (df sz : Nat) (v : Int32)  : MetI l yL_abs wsL_abs ({ frames := 0, cells := 0, slots := 0, locals := 0 } : Room) D (gTY cI cJ cO) df [] sz [.int v] (fun (r : Int32) (wZ : va_W) => wZ = [] ∧ r = mSize v) := by
  refine g_of (cc := cL_abs) (nL := 1) (ret := (some .int)) (D := D) (TY := (gTY cI cJ cO)) (df := df) (Qc := fun A => va_Qi (fun (r : Int32) (wZ : va_W) => wZ = [] ∧ r = mSize v) (gB D (gTY cI cJ cO) A) A) (by decide +kernel) rfl (Nat.le_of_ble_eq_true rfl) ?_
  intro p e s m below meth c ls A hsz C0 hin hl
  obtain ⟨CF, hr, hlk, hA, hS, hP, hK, hD, hV, hH⟩ := C0
  have CF : CallFix p m c cL_abs 1 s _ wsL_abs RL := CF
  obtain ⟨hx, hb, hml, hown, hts⟩ := id CF
  subst hsz
  have hP : va_P D ccl [] s.heap := hP
  have hl : lv_has ls 1 [(0, .int v)] := hl
  refine lv_iload_n hx hb dL_abs_0 rfl (lv_at hl 0 rfl) ?_
  refine lv_if_le (tgt := 8) hx hb dL_abs_1 (by decide) (fun c_1 => ?_) (fun c_1 => ?_)
  · have c_1 : ¬ 0 < v := Int32.not_lt.mpr c_1
    refine lv_iload_n hx hb dL_abs_8 rfl (lv_at hl 0 rfl) ?_
    refine lv_ineg hx hb dL_abs_9 ?_
    refine g_iret (v := -v) hx hb hr hlk hP hK hD hS (Nat.le_of_ble_eq_true rfl) (Nat.le_of_ble_eq_true rfl) dL_abs_10 ?_
    exact ⟨rfl, by rw [← lAbs]; first | rw [if_neg c_1] | rw [if_pos c_1]⟩
  · have c_1 : 0 < v := Int32.not_le.mp c_1
    refine lv_iload_n hx hb dL_abs_4 rfl (lv_at hl 0 rfl) ?_
    refine lv_goto (tgt := 10) hx hb dL_abs_5 (by decide) ?_
    refine g_iret (v := v) hx hb hr hlk hP hK hD hS (Nat.le_of_ble_eq_true rfl) (Nat.le_of_ble_eq_true rfl) dL_abs_10 ?_
    exact ⟨rfl, by rw [← lAbs]; first | rw [if_neg c_1] | rw [if_pos c_1]⟩

set_option maxHeartbeats 4000000 in
set_option maxRecDepth 100000 in
theorem c_L_isStable (l : Launch) (D : va_G) (cI cJ cO : ClassId) (df sz : Nat) (kc : Nat) (fc : Nat → Int32) (mc : Nat → Int32) (ms : Nat → Int32) (mw : Nat → Int32) (N : Nat) (J : Nat) (hR : RC fc mc ms mw N) (hJ4 : J < 4) (hc : isC mc) : MetI l yL_isStable wsL_isStable ({ frames := 1, cells := 0, slots := 0, locals := 20 } : Room) D (gTY cI cJ cO) df [(kc, .inl (cI, 40, .inl fc))] sz [.ref kc, .int (nI J)] (fun (r : Int32) (wZ : va_W) => wZ = [(kc, .inl (cI, 40, .inl fc))] ∧ r = mStab mc J) := by
  refine g_of (cc := cL_isStable) (nL := 2) (ret := (some .boolean)) (D := D) (TY := (gTY cI cJ cO)) (df := df) (Qc := fun A => va_Qi (fun (r : Int32) (wZ : va_W) => wZ = [(kc, .inl (cI, 40, .inl fc))] ∧ r = mStab mc J) (gB D (gTY cI cJ cO) A) A) (by decide +kernel) rfl (Nat.le_of_ble_eq_true rfl) ?_
  intro p e s m below meth c ls A hsz C0 hin hl
  obtain ⟨CF, hr, hlk, hA, hS, hP, hK, hD, hV, hH⟩ := C0
  have CF : CallFix p m c cL_isStable 2 s _ wsL_isStable RL := CF
  obtain ⟨hx, hb, hml, hown, hts⟩ := id CF
  subst hsz
  have hmethodLink_RL_15 : (Cond.methodLink RL 15 yL_abs).before _ s = true := hts _ (List.mem_of_getElem? (i := 1) rfl)
  have hP : va_P D ccl [(kc, .inl (cI, 40, .inl fc))] s.heap := hP
  have hl : lv_has ls 2 [(0, .ref kc), (1, .int (nI J))] := hl
  obtain ⟨-, -, -, ec3, ec4, -, -, -, -⟩ := rc_all hR hJ4
  refine lv_aload_n hx hb dL_isStable_0 rfl (lv_at hl 0 rfl) ?_
  refine lv_bipush (v := 10) hx hb dL_isStable_1 (by decide) ?_
  refine lv_iload_n hx hb dL_isStable_3 rfl (lv_at hl 1 rfl) ?_
  refine lv_imul hx hb dL_isStable_4 ?_
  refine lv_topi (fun f ef => ?_)
  obtain rfl : f = nI (10 * J) := ef.trans (pk_mul _ _)
  refine lv_iconst (v := 4) hx hb dL_isStable_5 (by decide) ?_
  refine lv_iadd hx hb dL_isStable_6 ?_
  refine lv_topi (fun f ef => ?_)
  obtain rfl : f = nI ((10 * J) + 4) := ef.trans (nI_add _ _)
  refine va_iald hx hb hK hP 0 0 rfl rfl (vp_in_nI (by omega) (by omega)) dL_isStable_7 ?_
  refine lv_topi (fun f ef => ?_)
  obtain rfl : f = fc ((10 * J) + 4) := ef.trans (congrArg fc (nI_clamp (n := (10 * J) + 4) (by omega)))
  refine lv_topi (fun f ef => ?_)
  obtain rfl : f = mc (5 * J + 4) := ef.trans (ec4)
  refine lv_bipush (v := (-63)) hx hb dL_isStable_8 (by decide) ?_
  refine lv_icmp_lt (tgt := 55) hx hb dL_isStable_10 (by decide) (fun c_10 => ?_) (fun c_10 => ?_)
  · refine lv_iconst (v := 0) hx hb dL_isStable_55 (by decide) ?_
    refine g_zret (v := 0) hx hb hr hlk hP hK hD hS (Nat.le_of_ble_eq_true rfl) (Nat.le_of_ble_eq_true rfl) dL_isStable_56 (by decide +kernel) ?_
    have k1 : (-63 : Int32).toInt = -63 := by decide
    have k2 : (63 : Int32).toInt = 63 := by decide
    have r4 := hc (5 * J + 4) (by omega)
    have s4 : (mc (5 * J + 4) + 63).toInt = (mc (5 * J + 4)).toInt + 63 := by rw [fb_addI (by rw [k2]; omega) (by rw [k2]; omega), k2]
    rw [Int32.lt_iff_toInt_lt, k1] at c_10
    exact ⟨rfl, by rw [lStab hc (by omega)]; first | rw [if_pos (by omega)] | rw [if_neg (by omega)]⟩
  · refine lv_aload_n hx hb dL_isStable_13 rfl (lv_at hl 0 rfl) ?_
    refine lv_bipush (v := 10) hx hb dL_isStable_14 (by decide) ?_
    refine lv_iload_n hx hb dL_isStable_16 rfl (lv_at hl 1 rfl) ?_
    refine lv_imul hx hb dL_isStable_17 ?_
    refine lv_topi (fun f ef => ?_)
    obtain rfl : f = nI (10 * J) := ef.trans (pk_mul _ _)
    refine lv_iconst (v := 4) hx hb dL_isStable_18 (by decide) ?_
    refine lv_iadd hx hb dL_isStable_19 ?_
    refine lv_topi (fun f ef => ?_)
    obtain rfl : f = nI ((10 * J) + 4) := ef.trans (nI_add _ _)
    refine va_iald hx hb hK hP 0 0 rfl rfl (vp_in_nI (by omega) (by omega)) dL_isStable_20 ?_
    refine lv_topi (fun f ef => ?_)
    obtain rfl : f = fc ((10 * J) + 4) := ef.trans (congrArg fc (nI_clamp (n := (10 * J) + 4) (by omega)))
    refine lv_topi (fun f ef => ?_)
    obtain rfl : f = mc (5 * J + 4) := ef.trans (ec4)
    refine lv_bipush (v := 63) hx hb dL_isStable_21 (by decide) ?_
    refine lv_icmp_gt (tgt := 55) hx hb dL_isStable_23 (by decide) (fun c_23 => ?_) (fun c_23 => ?_)
    · refine lv_iconst (v := 0) hx hb dL_isStable_55 (by decide) ?_
      refine g_zret (v := 0) hx hb hr hlk hP hK hD hS (Nat.le_of_ble_eq_true rfl) (Nat.le_of_ble_eq_true rfl) dL_isStable_56 (by decide +kernel) ?_
      have k1 : (-63 : Int32).toInt = -63 := by decide
      have k2 : (63 : Int32).toInt = 63 := by decide
      have r4 := hc (5 * J + 4) (by omega)
      have s4 : (mc (5 * J + 4) + 63).toInt = (mc (5 * J + 4)).toInt + 63 := by rw [fb_addI (by rw [k2]; omega) (by rw [k2]; omega), k2]
      rw [Int32.lt_iff_toInt_lt, k1] at c_10
      rw [Int32.lt_iff_toInt_lt, k2] at c_23
      exact ⟨rfl, by rw [lStab hc (by omega)]; first | rw [if_pos (by omega)] | rw [if_neg (by omega)]⟩
    · refine lv_aload_n hx hb dL_isStable_26 rfl (lv_at hl 0 rfl) ?_
      refine lv_bipush (v := 10) hx hb dL_isStable_27 (by decide) ?_
      refine lv_iload_n hx hb dL_isStable_29 rfl (lv_at hl 1 rfl) ?_
      refine lv_imul hx hb dL_isStable_30 ?_
      refine lv_topi (fun f ef => ?_)
      obtain rfl : f = nI (10 * J) := ef.trans (pk_mul _ _)
      refine lv_iconst (v := 3) hx hb dL_isStable_31 (by decide) ?_
      refine lv_iadd hx hb dL_isStable_32 ?_
      refine lv_topi (fun f ef => ?_)
      obtain rfl : f = nI ((10 * J) + 3) := ef.trans (nI_add _ _)
      refine va_iald hx hb hK hP 0 0 rfl rfl (vp_in_nI (by omega) (by omega)) dL_isStable_33 ?_
      refine lv_topi (fun f ef => ?_)
      obtain rfl : f = fc ((10 * J) + 3) := ef.trans (congrArg fc (nI_clamp (n := (10 * J) + 3) (by omega)))
      refine lv_topi (fun f ef => ?_)
      obtain rfl : f = mc (5 * J + 3) := ef.trans (ec3)
      have hPc : va_P D ccl [] s.heap := fun k q h => by simp at h
      have hDc : va_D A [] := ⟨fun i j p q h => by simp at h, fun k q h => by simp at h⟩
      have hFc := va_free (wc := []) hD hS hA [] rfl
      refine g_Si (As := [.int (mc (5 * J + 3))]) (rest := []) CF (c_L_abs l D cI cJ cO df s.heap.size (mc (5 * J + 3)) ) (va_cwS 1 hts gL_isStable_L_abs rfl rfl rfl (by decide +kernel) ⟨Nat.le_of_ble_eq_true rfl, Nat.le_of_ble_eq_true rfl⟩)  hPc hK hDc hV hH hS hFc rfl hl.1 rfl (Nat.le_of_ble_eq_true rfl) dL_isStable_34 ⟨Nat.le_of_ble_eq_true rfl, Nat.le_of_ble_eq_true rfl⟩ (fun r_34 w1 H1 locs1 hq hP1 hD1 hk hS hz => ?_)
      obtain ⟨rfl, hr_34⟩ := hq
      have hP := g_keep0 hP hk
      clear hPc hDc hFc hP1 hD1 hk hz
      generalize H1 = H at hP hS ⊢
      have hP : va_P D ccl [(kc, .inl (cI, 40, .inl fc))] H := hP
      have hD : va_D A [(kc, .inl (cI, 40, .inl fc))] := hD
      subst hr_34
      refine lv_aload_n hx hb dL_isStable_37 rfl (lv_at hl 0 rfl) ?_
      refine lv_bipush (v := 10) hx hb dL_isStable_38 (by decide) ?_
      refine lv_iload_n hx hb dL_isStable_40 rfl (lv_at hl 1 rfl) ?_
      refine lv_imul hx hb dL_isStable_41 ?_
      refine lv_topi (fun f ef => ?_)
      obtain rfl : f = nI (10 * J) := ef.trans (pk_mul _ _)
      refine lv_iconst (v := 4) hx hb dL_isStable_42 (by decide) ?_
      refine lv_iadd hx hb dL_isStable_43 ?_
      refine lv_topi (fun f ef => ?_)
      obtain rfl : f = nI ((10 * J) + 4) := ef.trans (nI_add _ _)
      refine va_iald hx hb hK hP 0 0 rfl rfl (vp_in_nI (by omega) (by omega)) dL_isStable_44 ?_
      refine lv_topi (fun f ef => ?_)
      obtain rfl : f = fc ((10 * J) + 4) := ef.trans (congrArg fc (nI_clamp (n := (10 * J) + 4) (by omega)))
      refine lv_topi (fun f ef => ?_)
      obtain rfl : f = mc (5 * J + 4) := ef.trans (ec4)
      refine lv_bipush (v := 63) hx hb dL_isStable_45 (by decide) ?_
      refine lv_iadd hx hb dL_isStable_47 ?_
      refine lv_icmp_gt (tgt := 55) hx hb dL_isStable_48 (by decide) (fun c_48 => ?_) (fun c_48 => ?_)
      · refine lv_iconst (v := 0) hx hb dL_isStable_55 (by decide) ?_
        refine g_zret (v := 0) hx hb hr hlk hP hK hD hS (Nat.le_of_ble_eq_true rfl) (Nat.le_of_ble_eq_true rfl) dL_isStable_56 (by decide +kernel) ?_
        have k1 : (-63 : Int32).toInt = -63 := by decide
        have k2 : (63 : Int32).toInt = 63 := by decide
        have r4 := hc (5 * J + 4) (by omega)
        have s4 : (mc (5 * J + 4) + 63).toInt = (mc (5 * J + 4)).toInt + 63 := by rw [fb_addI (by rw [k2]; omega) (by rw [k2]; omega), k2]
        rw [Int32.lt_iff_toInt_lt, k1] at c_10
        rw [Int32.lt_iff_toInt_lt, k2] at c_23
        rw [Int32.lt_iff_toInt_lt, s4] at c_48
        exact ⟨rfl, by rw [lStab hc (by omega)]; first | rw [if_pos (by omega)] | rw [if_neg (by omega)]⟩
      · refine lv_iconst (v := 1) hx hb dL_isStable_51 (by decide) ?_
        refine lv_goto (tgt := 56) hx hb dL_isStable_52 (by decide) ?_
        refine g_zret (v := 1) hx hb hr hlk hP hK hD hS (Nat.le_of_ble_eq_true rfl) (Nat.le_of_ble_eq_true rfl) dL_isStable_56 (by decide +kernel) ?_
        have k1 : (-63 : Int32).toInt = -63 := by decide
        have k2 : (63 : Int32).toInt = 63 := by decide
        have r4 := hc (5 * J + 4) (by omega)
        have s4 : (mc (5 * J + 4) + 63).toInt = (mc (5 * J + 4)).toInt + 63 := by rw [fb_addI (by rw [k2]; omega) (by rw [k2]; omega), k2]
        rw [Int32.lt_iff_toInt_lt, k1] at c_10
        rw [Int32.lt_iff_toInt_lt, k2] at c_23
        rw [Int32.lt_iff_toInt_lt, s4] at c_48
        exact ⟨rfl, by rw [lStab hc (by omega)]; first | rw [if_pos (by omega)] | rw [if_neg (by omega)]⟩

set_option maxHeartbeats 4000000 in
set_option maxRecDepth 100000 in
theorem c_L_common (l : Launch) (D : va_G) (cI cJ cO : ClassId) (df sz : Nat) (xx : Int64) (yy : Int64) (hx1 : xx.toInt.natAbs < 4611686018427387904) (hy1 : yy.toInt.natAbs < 4611686018427387904) : MetL l yL_common wsL_common ({ frames := 0, cells := 0, slots := 0, locals := 0 } : Room) D (gTY cI cJ cO) df [] sz [.long xx, .long yy] (fun (r : Int64) (wZ : va_W) => wZ = [] ∧ r = lN (Nat.gcd xx.toInt.natAbs yy.toInt.natAbs)) := by
  refine g_of (cc := cL_common) (nL := 6) (ret := (some .long)) (D := D) (TY := (gTY cI cJ cO)) (df := df) (Qc := fun A => va_Ql (fun (r : Int64) (wZ : va_W) => wZ = [] ∧ r = lN (Nat.gcd xx.toInt.natAbs yy.toInt.natAbs)) (gB D (gTY cI cJ cO) A) A) (by decide +kernel) rfl (Nat.le_of_ble_eq_true rfl) ?_
  intro p e s m below meth c ls A hsz C0 hin hl
  obtain ⟨CF, hr, hlk, hA, hS, hP, hK, hD, hV, hH⟩ := C0
  have CF : CallFix p m c cL_common 6 s _ wsL_common RL := CF
  obtain ⟨hx, hb, hml, hown, hts⟩ := id CF
  subst hsz
  have hP : va_P D ccl [] s.heap := hP
  have hl : lv_has ls 6 [(0, .long xx), (2, .long yy)] := hl
  refine W.widen (k := 0) (n := 0) (Nat.le_refl _) (Nat.le_refl _) ?_
  refine g_while (σ := Int64 × Int64) (st := []) (nL := 6) (fun z => match z with | (a1, b1) => [])
    (fun z => match z with | (a1, b1) => [(0, .long a1), (2, .long b1)])
    (fun z => match z with | (a1, b1) => a1.toInt.natAbs < 4611686018427387904 ∧ b1.toInt.natAbs < 4611686018427387904 ∧ Nat.gcd a1.toInt.natAbs b1.toInt.natAbs = Nat.gcd xx.toInt.natAbs yy.toInt.natAbs)
    (fun z => match z with | (a1, b1) => b1.toInt.natAbs) (fun z => match z with | (a1, b1) => 0) (fun z => match z with | (a1, b1) => 0)
    ?_ (xx, yy) ⟨hx1, hy1, rfl⟩ hP hD hS (lv_sub hl [0, 1] rfl)
  rintro ⟨a1, b1⟩ hI H locs ls hP hD hS hl ih
  have hI : a1.toInt.natAbs < 4611686018427387904 ∧ b1.toInt.natAbs < 4611686018427387904 ∧ Nat.gcd a1.toInt.natAbs b1.toInt.natAbs = Nat.gcd xx.toInt.natAbs yy.toInt.natAbs := hI
  have hP : va_P D ccl [] H := hP
  have hD : va_D A [] := hD
  have hl : lv_has ls 6 [(0, .long a1), (2, .long b1)] := hl
  change W p l e _ s m _ below meth c H locs 0 0 _ (F0 m 0 ls [])
  have ih_0 := ih
  clear ih
  obtain ⟨hU, hV9, hG⟩ := hI
  refine lv_lload_n hx hb dL_common_0 rfl (lv_at hl 1 rfl) ?_
  refine lv_lconst (v := 0) hx hb dL_common_1 (by decide) ?_
  refine W.lcmp hx hb dL_common_2 ?_
  refine lv_if_eq (tgt := 19) hx hb dL_common_3 (by decide) (fun c_3 => ?_) (fun c_3 => ?_)
  · have c_3 : b1.toInt = 0 := g_cmp_eq.mp c_3
    refine lv_lload_n hx hb dL_common_19 rfl (lv_at hl 0 rfl) ?_
    refine lv_lconst (v := 0) hx hb dL_common_20 (by decide) ?_
    refine W.lcmp hx hb dL_common_21 ?_
    refine lv_if_ge (tgt := 30) hx hb dL_common_22 (by decide) (fun c_22 => ?_) (fun c_22 => ?_)
    · have c_22 : 0 ≤ a1.toInt := g_cmp_ge.mp c_22
      refine lv_lload_n hx hb dL_common_30 rfl (lv_at hl 0 rfl) ?_
      refine g_lret (v := a1) hx hb hr hlk hP hK hD hS (Nat.le_of_ble_eq_true rfl) (Nat.le_of_ble_eq_true rfl) dL_common_31 ?_
      exact ⟨rfl, by
        rw [← hG, c_3]
        rw [show (0 : Int).natAbs = 0 from rfl, Nat.gcd_zero_right]
        exact L_pos (by omega)⟩
    · have c_22 : ¬ 0 ≤ a1.toInt := fun h9 => c_22 (g_cmp_ge.mpr h9)
      refine lv_lload_n hx hb dL_common_25 rfl (lv_at hl 0 rfl) ?_
      refine lv_lneg hx hb dL_common_26 ?_
      refine lv_goto (tgt := 31) hx hb dL_common_27 (by decide) ?_
      refine g_lret (v := -a1) hx hb hr hlk hP hK hD hS (Nat.le_of_ble_eq_true rfl) (Nat.le_of_ble_eq_true rfl) dL_common_31 ?_
      exact ⟨rfl, by
        rw [← hG, c_3]
        rw [show (0 : Int).natAbs = 0 from rfl, Nat.gcd_zero_right]
        exact L_neg (by omega) (by omega)⟩
  · have c_3 : ¬ b1.toInt = 0 := fun h9 => c_3 (g_cmp_eq.mpr h9)
    refine lv_lload_n hx hb dL_common_6 rfl (lv_at hl 0 rfl) ?_
    refine lv_lload_n hx hb dL_common_7 rfl (lv_at hl 1 rfl) ?_
    refine lv_lrem hx hb dL_common_8 (fun h9 => c_3 (by rw [h9]; rfl)) ?_
    refine lv_topl (fun rs ers => ?_)
    have ers2 : rs.toInt.natAbs = a1.toInt.natAbs % b1.toInt.natAbs := by rw [ers, remL_toInt (by omega), Int.natAbs_tmod]
    refine lv_lstore (lv' := [(4, .long rs), (0, .long a1), (2, .long b1)]) hx hb dL_common_9 hl (by decide) rfl (fun ls hl => ?_)
    refine lv_lload_n hx hb dL_common_11 rfl (lv_at hl 2 rfl) ?_
    refine lv_lstore_n (lv' := [(0, .long b1), (4, .long rs), (2, .long b1)]) hx hb dL_common_12 rfl hl (by decide) rfl (fun ls hl => ?_)
    refine lv_lload hx hb dL_common_13 (lv_at hl 1 rfl) ?_
    refine lv_lstore_n (lv' := [(2, .long rs), (0, .long b1), (4, .long rs)]) hx hb dL_common_15 rfl hl (by decide) rfl (fun ls hl => ?_)
    refine lv_goto (tgt := 0) hx hb dL_common_16 (by decide) ?_
    refine W.widen (k := 0) (n := 0) (Nat.le_refl _) (Nat.le_refl _) ?_
    exact ih_0 (b1, rs) _ _ _ (show b1.toInt.natAbs < 4611686018427387904 ∧ rs.toInt.natAbs < 4611686018427387904 ∧ Nat.gcd b1.toInt.natAbs rs.toInt.natAbs = Nat.gcd xx.toInt.natAbs yy.toInt.natAbs from (by exact ⟨hV9, by rw [ers2]; exact Nat.lt_trans (Nat.mod_lt _ (by omega)) hV9, by rw [ers2, ← hG, Nat.gcd_comm b1.toInt.natAbs, ← Nat.gcd_rec, Nat.gcd_comm]⟩)) (show rs.toInt.natAbs < b1.toInt.natAbs by rw [ers2]; exact Nat.mod_lt _ (by omega)) hP hD hS (lv_sub hl [1, 0] rfl)

set_option maxHeartbeats 4000000 in
set_option maxRecDepth 100000 in
theorem c_L_gain_o (l : Launch) (D : va_G) (cI cJ cO : ClassId) (df sz : Nat) (kc : Nat) (kq : Nat) (km : Nat) (fc : Nat → Int32) (mc : Nat → Int32) (ms : Nat → Int32) (mw : Nat → Int32) (mo : Nat → Int32) (N : Nat) (C : Nat) (K : Nat) (Y : Nat) (w : Nat) (hR : RC fc mc ms mw N) (hN4 : N ≤ 4) (hC4 : C ≤ 4) (hO : ∀ i, i < C → gN (mo i) < N ∧ mo i = nI (gN (mo i))) (hc : isC mc) (hw2 : w ≤ 2) (hCw : C ≤ (if w = 2 then 2 else 4)) : MetL l yL_gain wsL_gain ({ frames := 0, cells := 0, slots := 0, locals := 0 } : Room) D (gTY cI cJ cO) df [(kc, .inl (cI, 40, .inl fc)), (kq, .inl (cI, 4, .inl mo)), (km, .inl (cI, 4, .inl (mF N C K Y)))] sz [.ref kc, .ref kq, .ref km, .int (nI w), .int 0] (fun (r : Int64) (wZ : va_W) => wZ = [(kc, .inl (cI, 40, .inl fc)), (kq, .inl (cI, 4, .inl mo)), (km, .inl (cI, 4, .inl (mF N C K Y)))] ∧ r.toInt = zO mc mo w C) := by
  refine g_of (cc := cL_gain) (nL := 15) (ret := (some .long)) (D := D) (TY := (gTY cI cJ cO)) (df := df) (Qc := fun A => va_Ql (fun (r : Int64) (wZ : va_W) => wZ = [(kc, .inl (cI, 40, .inl fc)), (kq, .inl (cI, 4, .inl mo)), (km, .inl (cI, 4, .inl (mF N C K Y)))] ∧ r.toInt = zO mc mo w C) (gB D (gTY cI cJ cO) A) A) (by decide +kernel) rfl (Nat.le_of_ble_eq_true rfl) ?_
  intro p e s m below meth c ls A hsz C0 hin hl
  obtain ⟨CF, hr, hlk, hA, hS, hP, hK, hD, hV, hH⟩ := C0
  have CF : CallFix p m c cL_gain 15 s _ wsL_gain RL := CF
  obtain ⟨hx, hb, hml, hown, hts⟩ := id CF
  subst hsz
  have hP : va_P D ccl [(kc, .inl (cI, 40, .inl fc)), (kq, .inl (cI, 4, .inl mo)), (km, .inl (cI, 4, .inl (mF N C K Y)))] s.heap := hP
  have hl : lv_has ls 15 [(0, .ref kc), (1, .ref kq), (2, .ref km), (3, .int (nI w)), (4, .int 0)] := hl
  refine lv_lconst (v := 1) hx hb dL_gain_0 (by decide) ?_
  refine lv_lstore (lv' := [(5, .long 1), (0, .ref kc), (1, .ref kq), (2, .ref km), (3, .int (nI w)), (4, .int 0)]) hx hb dL_gain_1 hl (by decide) rfl (fun ls hl => ?_)
  refine lv_iconst (v := 0) hx hb dL_gain_3 (by decide) ?_
  refine lv_istore (lv' := [(7, .int 0), (5, .long 1), (0, .ref kc), (1, .ref kq), (2, .ref km), (3, .int (nI w)), (4, .int 0)]) hx hb dL_gain_4 hl (by decide) rfl (fun ls hl => ?_)
  refine W.widen (k := 0) (n := 0) (Nat.le_refl _) (Nat.le_refl _) ?_
  refine g_while (σ := Nat × Int64) (st := []) (nL := 15) (fun z => match z with | (k, p1) => [(kc, .inl (cI, 40, .inl fc)), (kq, .inl (cI, 4, .inl mo)), (km, .inl (cI, 4, .inl (mF N C K Y)))])
    (fun z => match z with | (k, p1) => [(0, .ref kc), (1, .ref kq), (2, .ref km), (3, .int (nI w)), (4, .int 0), (5, .long p1), (7, .int (nI k))])
    (fun z => match z with | (k, p1) => k ≤ C ∧ p1.toInt = zO mc mo w k)
    (fun z => match z with | (k, p1) => C - k) (fun z => match z with | (k, p1) => 0) (fun z => match z with | (k, p1) => 0)
    ?_ (0, 1) ⟨Nat.zero_le C, rfl⟩ hP hD hS (lv_sub hl [2, 3, 4, 5, 6, 1, 0] rfl)
  rintro ⟨k, p1⟩ hI H locs ls hP hD hS hl ih
  have hI : k ≤ C ∧ p1.toInt = zO mc mo w k := hI
  have hP : va_P D ccl [(kc, .inl (cI, 40, .inl fc)), (kq, .inl (cI, 4, .inl mo)), (km, .inl (cI, 4, .inl (mF N C K Y)))] H := hP
  have hD : va_D A [(kc, .inl (cI, 40, .inl fc)), (kq, .inl (cI, 4, .inl mo)), (km, .inl (cI, 4, .inl (mF N C K Y)))] := hD
  have hl : lv_has ls 15 [(0, .ref kc), (1, .ref kq), (2, .ref km), (3, .int (nI w)), (4, .int 0), (5, .long p1), (7, .int (nI k))] := hl
  change W p l e _ s m _ below meth c H locs 0 0 _ (F0 m 6 ls [])
  have ih_6 := ih
  clear ih
  obtain ⟨hk, ep⟩ := hI
  refine lv_iload hx hb dL_gain_6 (lv_at hl 6 rfl) ?_
  refine lv_aload_n hx hb dL_gain_8 rfl (lv_at hl 2 rfl) ?_
  refine lv_iconst (v := 1) hx hb dL_gain_9 (by decide) ?_
  refine va_iald hx hb hK hP 2 0 rfl rfl (by unfold vp_in; decide) dL_gain_10 ?_
  refine lv_topi (fun f ef => ?_)
  obtain rfl : f = (mF N C K Y) 1 := ef.trans (congrArg (mF N C K Y) (show (1 : Int32).toNatClampNeg = 1 by decide))
  refine lv_topi (fun f ef => ?_)
  obtain rfl : f = nI C := ef.trans (rfl)
  refine lv_icmp_ge (tgt := 148) hx hb dL_gain_11 (by decide) (fun c_11 => ?_) (fun c_11 => ?_)
  · have c_11 : C ≤ k := g_le (a := C) (b := k) c_11 (by omega) (by omega)
    obtain rfl : C = k := by omega
    refine lv_lload hx hb dL_gain_148 (lv_at hl 5 rfl) ?_
    refine g_lret (v := p1) hx hb hr hlk hP hK hD hS (Nat.le_of_ble_eq_true rfl) (Nat.le_of_ble_eq_true rfl) dL_gain_150 ?_
    exact ⟨rfl, ep⟩
  · have c_11 : k < C := g_nle (a := C) (b := k) c_11 (by omega) (by omega)
    have hJN := (hO k c_11).1
    have hJ4 : gN (mo k) < 4 := by omega
    obtain ⟨ec0, ec1, ec2, ec3, ec4, -, -, -, -⟩ := rc_all hR hJ4
    have hb8 := zOU_le (k := k + 1) hc hCw c_11 (fun j hj => Nat.lt_of_lt_of_le (hO j hj).1 (by omega))
    have hq9 : (if w = 2 then 6503616025 else 21071715921) ≤ 21071715921 := by split <;> decide
    refine lv_bipush (v := 10) hx hb dL_gain_14 (by decide) ?_
    refine lv_aload_n hx hb dL_gain_16 rfl (lv_at hl 1 rfl) ?_
    refine lv_iload hx hb dL_gain_17 (lv_at hl 6 rfl) ?_
    refine va_iald hx hb hK hP 1 0 rfl rfl (vp_in_nI (by omega) (by omega)) dL_gain_19 ?_
    refine lv_topi (fun f ef => ?_)
    obtain rfl : f = mo k := ef.trans (congrArg mo (nI_clamp (n := k) (by omega)))
    refine lv_topi (fun f ef => ?_)
    obtain rfl : f = nI (gN (mo k)) := ef.trans ((hO k c_11).2)
    refine lv_imul hx hb dL_gain_20 ?_
    refine lv_topi (fun f ef => ?_)
    obtain rfl : f = nI (10 * (gN (mo k))) := ef.trans (pk_mul _ _)
    refine lv_istore (lv' := [(8, .int (nI (10 * (gN (mo k))))), (0, .ref kc), (1, .ref kq), (2, .ref km), (3, .int (nI w)), (4, .int 0), (5, .long p1), (7, .int (nI k))]) hx hb dL_gain_21 hl (by decide) rfl (fun ls hl => ?_)
    refine lv_iload hx hb dL_gain_23 (lv_at hl 5 rfl) ?_
    refine lv_if_eq (tgt := 34) hx hb dL_gain_25 (by decide) (fun c_25 => ?_) (fun c_25 => ?_)
    · refine lv_aload_n hx hb dL_gain_34 rfl (lv_at hl 1 rfl) ?_
      refine lv_iload hx hb dL_gain_35 (lv_at hl 0 rfl) ?_
      refine va_iald hx hb hK hP 0 0 rfl rfl (vp_in_nI (by omega) (by omega)) dL_gain_37 ?_
      refine lv_topi (fun f ef => ?_)
      obtain rfl : f = fc (10 * (gN (mo k))) := ef.trans (congrArg fc (nI_clamp (n := 10 * (gN (mo k))) (by omega)))
      refine lv_topi (fun f ef => ?_)
      obtain rfl : f = mc (5 * (gN (mo k))) := ef.trans (ec0)
      refine lv_i2l (v := (mc (5 * (gN (mo k)))).toInt64) hx hb dL_gain_38 rfl ?_
      refine lv_lstore (lv' := [(9, .long ((mc (5 * (gN (mo k)))).toInt64)), (8, .int (nI (10 * (gN (mo k))))), (0, .ref kc), (1, .ref kq), (2, .ref km), (3, .int (nI w)), (4, .int 0), (5, .long p1), (7, .int (nI k))]) hx hb dL_gain_39 hl (by decide) rfl (fun ls hl => ?_)
      refine lv_iload hx hb dL_gain_41 (lv_at hl 6 rfl) ?_
      refine lv_if_eq (tgt := 56) hx hb dL_gain_43 (by decide) (fun c_43 => ?_) (fun c_43 => ?_)
      · refine lv_aload_n hx hb dL_gain_56 rfl (lv_at hl 2 rfl) ?_
        refine lv_iload hx hb dL_gain_57 (lv_at hl 1 rfl) ?_
        refine lv_iconst (v := 1) hx hb dL_gain_59 (by decide) ?_
        refine lv_iadd hx hb dL_gain_60 ?_
        refine lv_topi (fun f ef => ?_)
        obtain rfl : f = nI ((10 * (gN (mo k))) + 1) := ef.trans (nI_add _ _)
        refine va_iald hx hb hK hP 0 0 rfl rfl (vp_in_nI (by omega) (by omega)) dL_gain_61 ?_
        refine lv_topi (fun f ef => ?_)
        obtain rfl : f = fc ((10 * (gN (mo k))) + 1) := ef.trans (congrArg fc (nI_clamp (n := (10 * (gN (mo k))) + 1) (by omega)))
        refine lv_topi (fun f ef => ?_)
        obtain rfl : f = mc (5 * (gN (mo k)) + 1) := ef.trans (ec1)
        refine lv_i2l (v := (mc (5 * (gN (mo k)) + 1)).toInt64) hx hb dL_gain_62 rfl ?_
        refine lv_lstore (lv' := [(11, .long ((mc (5 * (gN (mo k)) + 1)).toInt64)), (9, .long ((mc (5 * (gN (mo k)))).toInt64)), (8, .int (nI (10 * (gN (mo k))))), (0, .ref kc), (1, .ref kq), (2, .ref km), (3, .int (nI w)), (4, .int 0), (5, .long p1), (7, .int (nI k))]) hx hb dL_gain_63 hl (by decide) rfl (fun ls hl => ?_)
        refine lv_iload hx hb dL_gain_65 (lv_at hl 7 rfl) ?_
        refine lv_if_eq (tgt := 80) hx hb dL_gain_67 (by decide) (fun c_67 => ?_) (fun c_67 => ?_)
        · refine lv_aload_n hx hb dL_gain_80 rfl (lv_at hl 3 rfl) ?_
          refine lv_iload hx hb dL_gain_81 (lv_at hl 2 rfl) ?_
          refine lv_iconst (v := 2) hx hb dL_gain_83 (by decide) ?_
          refine lv_iadd hx hb dL_gain_84 ?_
          refine lv_topi (fun f ef => ?_)
          obtain rfl : f = nI ((10 * (gN (mo k))) + 2) := ef.trans (nI_add _ _)
          refine va_iald hx hb hK hP 0 0 rfl rfl (vp_in_nI (by omega) (by omega)) dL_gain_85 ?_
          refine lv_topi (fun f ef => ?_)
          obtain rfl : f = fc ((10 * (gN (mo k))) + 2) := ef.trans (congrArg fc (nI_clamp (n := (10 * (gN (mo k))) + 2) (by omega)))
          refine lv_topi (fun f ef => ?_)
          obtain rfl : f = mc (5 * (gN (mo k)) + 2) := ef.trans (ec2)
          refine lv_i2l (v := (mc (5 * (gN (mo k)) + 2)).toInt64) hx hb dL_gain_86 rfl ?_
          refine lv_lstore (lv' := [(13, .long ((mc (5 * (gN (mo k)) + 2)).toInt64)), (11, .long ((mc (5 * (gN (mo k)) + 1)).toInt64)), (9, .long ((mc (5 * (gN (mo k)))).toInt64)), (8, .int (nI (10 * (gN (mo k))))), (0, .ref kc), (1, .ref kq), (2, .ref km), (3, .int (nI w)), (4, .int 0), (5, .long p1), (7, .int (nI k))]) hx hb dL_gain_87 hl (by decide) rfl (fun ls hl => ?_)
          refine lv_lload hx hb dL_gain_89 (lv_at hl 9 rfl) ?_
          refine lv_iload_n hx hb dL_gain_91 rfl (lv_at hl 7 rfl) ?_
          refine g_phil (ls := ls) (J := 139) (st1 := [.long p1]) (REL := fun F1 => F1 = vAt w (mc (5 * (gN (mo k)))).toInt64 (mc (5 * (gN (mo k)) + 1)).toInt64 (mc (5 * (gN (mo k)) + 2)).toInt64) (fun F1 hb_139 => ?_) (fun hJ_139 => ?_)
          · refine lv_lmul hx hb dL_gain_139 ?_
            refine lv_topl (fun p2 ep2 => ?_)
            have eF : F1.toInt = zN w (mc (5 * (gN (mo k)))).toInt (mc (5 * (gN (mo k)) + 1)).toInt (mc (5 * (gN (mo k)) + 2)).toInt := by
              rw [hb_139, vAt_toInt hw2 (by rw [i32L]; exact hc _ (by omega)) (by rw [i32L]; exact hc _ (by omega)) (by rw [i32L]; exact hc _ (by omega))]
              rw [i32L, i32L, i32L]
            have ep3 : p2.toInt = zO mc mo w (k + 1) := by
              have e9 : p1.toInt * F1.toInt = zO mc mo w (k + 1) := by rw [ep, eF]; rfl
              rw [ep2, fb_mulL (by rw [e9]; omega) (by rw [e9]; omega), e9]
            refine lv_lstore (lv' := [(5, .long p2), (13, .long ((mc (5 * (gN (mo k)) + 2)).toInt64)), (11, .long ((mc (5 * (gN (mo k)) + 1)).toInt64)), (9, .long ((mc (5 * (gN (mo k)))).toInt64)), (8, .int (nI (10 * (gN (mo k))))), (0, .ref kc), (1, .ref kq), (2, .ref km), (3, .int (nI w)), (4, .int 0), (7, .int (nI k))]) hx hb dL_gain_140 hl (by decide) rfl (fun ls hl => ?_)
            refine lv_iinc (v := nI (k + 1)) (lv' := [(7, .int (nI (k + 1))), (5, .long p2), (13, .long ((mc (5 * (gN (mo k)) + 2)).toInt64)), (11, .long ((mc (5 * (gN (mo k)) + 1)).toInt64)), (9, .long ((mc (5 * (gN (mo k)))).toInt64)), (8, .int (nI (10 * (gN (mo k))))), (0, .ref kc), (1, .ref kq), (2, .ref km), (3, .int (nI w)), (4, .int 0)]) hx hb dL_gain_142 hl (k := 10) rfl (by exact nI_1 _) (by decide) rfl (fun ls hl => ?_)
            refine lv_goto (tgt := 6) hx hb dL_gain_145 (by decide) ?_
            refine W.widen (k := 0) (n := 0) (Nat.le_refl _) (Nat.le_refl _) ?_
            exact ih_6 (k + 1, p2) _ _ _ (show (k + 1) ≤ C ∧ p2.toInt = zO mc mo w (k + 1) from (by exact ⟨c_11, ep3⟩)) (show C - (k + 1) < C - k by omega) hP hD hS (lv_sub hl [6, 7, 8, 9, 10, 1, 0] rfl)
          · refine lv_if_ne (tgt := 106) hx hb dL_gain_92 (by decide) (fun c_92 => ?_) (fun c_92 => ?_)
            · have c_92 : w ≠ 0 := g_ne (a := w) (b := 0) c_92 (by omega) (by omega)
              refine lv_iload_n hx hb dL_gain_106 rfl (lv_at hl 7 rfl) ?_
              refine lv_iconst (v := 1) hx hb dL_gain_107 (by decide) ?_
              refine lv_icmp_ne (tgt := 122) hx hb dL_gain_108 (by decide) (fun c_108 => ?_) (fun c_108 => ?_)
              · have c_108 : w ≠ 1 := g_ne (a := w) (b := 1) c_108 (by omega) (by omega)
                refine lv_lload hx hb dL_gain_122 (lv_at hl 2 rfl) ?_
                refine lv_lload hx hb dL_gain_124 (lv_at hl 0 rfl) ?_
                refine lv_lsub hx hb dL_gain_126 ?_
                refine lv_lload hx hb dL_gain_127 (lv_at hl 2 rfl) ?_
                refine lv_lload hx hb dL_gain_129 (lv_at hl 0 rfl) ?_
                refine lv_lsub hx hb dL_gain_131 ?_
                refine lv_lmul hx hb dL_gain_132 ?_
                refine lv_lload hx hb dL_gain_133 (lv_at hl 1 rfl) ?_
                refine lv_lload hx hb dL_gain_135 (lv_at hl 1 rfl) ?_
                refine lv_lmul hx hb dL_gain_137 ?_
                refine lv_ladd hx hb dL_gain_138 ?_
                exact hJ_139 _ (by unfold vAt; first | rw [if_pos c_92] | rw [if_neg c_92, if_pos c_108] | rw [if_neg c_92, if_neg c_108])
              · have c_108 : w = 1 := g_eq (a := w) (b := 1) c_108 (by omega) (by omega)
                refine lv_lload hx hb dL_gain_111 (lv_at hl 2 rfl) ?_
                refine lv_lload hx hb dL_gain_113 (lv_at hl 1 rfl) ?_
                refine lv_lsub hx hb dL_gain_115 ?_
                refine lv_lload hx hb dL_gain_116 (lv_at hl 0 rfl) ?_
                refine lv_ladd hx hb dL_gain_118 ?_
                refine lv_goto (tgt := 139) hx hb dL_gain_119 (by decide) ?_
                exact hJ_139 _ (by unfold vAt; first | rw [if_pos c_92] | rw [if_neg c_92, if_pos c_108] | rw [if_neg c_92, if_neg c_108])
            · have c_92 : w = 0 := g_eq (a := w) (b := 0) c_92 (by omega) (by omega)
              refine lv_lload hx hb dL_gain_95 (lv_at hl 2 rfl) ?_
              refine lv_lload hx hb dL_gain_97 (lv_at hl 1 rfl) ?_
              refine lv_ladd hx hb dL_gain_99 ?_
              refine lv_lload hx hb dL_gain_100 (lv_at hl 0 rfl) ?_
              refine lv_ladd hx hb dL_gain_102 ?_
              refine lv_goto (tgt := 139) hx hb dL_gain_103 (by decide) ?_
              exact hJ_139 _ (by unfold vAt; first | rw [if_pos c_92] | rw [if_neg c_92, if_pos c_108] | rw [if_neg c_92, if_neg c_108])
        · exact absurd c_67 (by decide)
      · exact absurd c_43 (by decide)
    · exact absurd c_25 (by decide)

set_option maxHeartbeats 4000000 in
set_option maxRecDepth 100000 in
theorem c_L_gain_u (l : Launch) (D : va_G) (cI cJ cO : ClassId) (df sz : Nat) (kc : Nat) (kq : Nat) (km : Nat) (fc : Nat → Int32) (mc : Nat → Int32) (ms : Nat → Int32) (mw : Nat → Int32) (mo : Nat → Int32) (N : Nat) (C : Nat) (K : Nat) (Y : Nat) (w : Nat) (hR : RC fc mc ms mw N) (hN4 : N ≤ 4) (hC4 : C ≤ 4) (hO : ∀ i, i < C → gN (mo i) < N ∧ mo i = nI (gN (mo i))) (hc : isC mc) (hw2 : w ≤ 2) (hCw : C ≤ (if w = 2 then 2 else 4)) : MetL l yL_gain wsL_gain ({ frames := 0, cells := 0, slots := 0, locals := 0 } : Room) D (gTY cI cJ cO) df [(kc, .inl (cI, 40, .inl fc)), (kq, .inl (cI, 4, .inl mo)), (km, .inl (cI, 4, .inl (mF N C K Y)))] sz [.ref kc, .ref kq, .ref km, .int (nI w), .int 1] (fun (r : Int64) (wZ : va_W) => wZ = [(kc, .inl (cI, 40, .inl fc)), (kq, .inl (cI, 4, .inl mo)), (km, .inl (cI, 4, .inl (mF N C K Y)))] ∧ r.toInt = zU mc mo w C) := by
  refine g_of (cc := cL_gain) (nL := 15) (ret := (some .long)) (D := D) (TY := (gTY cI cJ cO)) (df := df) (Qc := fun A => va_Ql (fun (r : Int64) (wZ : va_W) => wZ = [(kc, .inl (cI, 40, .inl fc)), (kq, .inl (cI, 4, .inl mo)), (km, .inl (cI, 4, .inl (mF N C K Y)))] ∧ r.toInt = zU mc mo w C) (gB D (gTY cI cJ cO) A) A) (by decide +kernel) rfl (Nat.le_of_ble_eq_true rfl) ?_
  intro p e s m below meth c ls A hsz C0 hin hl
  obtain ⟨CF, hr, hlk, hA, hS, hP, hK, hD, hV, hH⟩ := C0
  have CF : CallFix p m c cL_gain 15 s _ wsL_gain RL := CF
  obtain ⟨hx, hb, hml, hown, hts⟩ := id CF
  subst hsz
  have hconstantLong_RL_19 : (Cond.constantLong RL 19 (64)).before _ s = true := hts _ (List.mem_of_getElem? (i := 1) rfl)
  have hP : va_P D ccl [(kc, .inl (cI, 40, .inl fc)), (kq, .inl (cI, 4, .inl mo)), (km, .inl (cI, 4, .inl (mF N C K Y)))] s.heap := hP
  have hl : lv_has ls 15 [(0, .ref kc), (1, .ref kq), (2, .ref km), (3, .int (nI w)), (4, .int 1)] := hl
  refine lv_lconst (v := 1) hx hb dL_gain_0 (by decide) ?_
  refine lv_lstore (lv' := [(5, .long 1), (0, .ref kc), (1, .ref kq), (2, .ref km), (3, .int (nI w)), (4, .int 1)]) hx hb dL_gain_1 hl (by decide) rfl (fun ls hl => ?_)
  refine lv_iconst (v := 0) hx hb dL_gain_3 (by decide) ?_
  refine lv_istore (lv' := [(7, .int 0), (5, .long 1), (0, .ref kc), (1, .ref kq), (2, .ref km), (3, .int (nI w)), (4, .int 1)]) hx hb dL_gain_4 hl (by decide) rfl (fun ls hl => ?_)
  refine W.widen (k := 0) (n := 0) (Nat.le_refl _) (Nat.le_refl _) ?_
  refine g_while (σ := Nat × Int64) (st := []) (nL := 15) (fun z => match z with | (k, p1) => [(kc, .inl (cI, 40, .inl fc)), (kq, .inl (cI, 4, .inl mo)), (km, .inl (cI, 4, .inl (mF N C K Y)))])
    (fun z => match z with | (k, p1) => [(0, .ref kc), (1, .ref kq), (2, .ref km), (3, .int (nI w)), (4, .int 1), (5, .long p1), (7, .int (nI k))])
    (fun z => match z with | (k, p1) => k ≤ C ∧ p1.toInt = zU mc mo w k)
    (fun z => match z with | (k, p1) => C - k) (fun z => match z with | (k, p1) => 0) (fun z => match z with | (k, p1) => 0)
    ?_ (0, 1) ⟨Nat.zero_le C, rfl⟩ hP hD hS (lv_sub hl [2, 3, 4, 5, 6, 1, 0] rfl)
  rintro ⟨k, p1⟩ hI H locs ls hP hD hS hl ih
  have hI : k ≤ C ∧ p1.toInt = zU mc mo w k := hI
  have hP : va_P D ccl [(kc, .inl (cI, 40, .inl fc)), (kq, .inl (cI, 4, .inl mo)), (km, .inl (cI, 4, .inl (mF N C K Y)))] H := hP
  have hD : va_D A [(kc, .inl (cI, 40, .inl fc)), (kq, .inl (cI, 4, .inl mo)), (km, .inl (cI, 4, .inl (mF N C K Y)))] := hD
  have hl : lv_has ls 15 [(0, .ref kc), (1, .ref kq), (2, .ref km), (3, .int (nI w)), (4, .int 1), (5, .long p1), (7, .int (nI k))] := hl
  change W p l e _ s m _ below meth c H locs 0 0 _ (F0 m 6 ls [])
  have ih_6 := ih
  clear ih
  obtain ⟨hk, ep⟩ := hI
  refine lv_iload hx hb dL_gain_6 (lv_at hl 6 rfl) ?_
  refine lv_aload_n hx hb dL_gain_8 rfl (lv_at hl 2 rfl) ?_
  refine lv_iconst (v := 1) hx hb dL_gain_9 (by decide) ?_
  refine va_iald hx hb hK hP 2 0 rfl rfl (by unfold vp_in; decide) dL_gain_10 ?_
  refine lv_topi (fun f ef => ?_)
  obtain rfl : f = (mF N C K Y) 1 := ef.trans (congrArg (mF N C K Y) (show (1 : Int32).toNatClampNeg = 1 by decide))
  refine lv_topi (fun f ef => ?_)
  obtain rfl : f = nI C := ef.trans (rfl)
  refine lv_icmp_ge (tgt := 148) hx hb dL_gain_11 (by decide) (fun c_11 => ?_) (fun c_11 => ?_)
  · have c_11 : C ≤ k := g_le (a := C) (b := k) c_11 (by omega) (by omega)
    obtain rfl : C = k := by omega
    refine lv_lload hx hb dL_gain_148 (lv_at hl 5 rfl) ?_
    refine g_lret (v := p1) hx hb hr hlk hP hK hD hS (Nat.le_of_ble_eq_true rfl) (Nat.le_of_ble_eq_true rfl) dL_gain_150 ?_
    exact ⟨rfl, ep⟩
  · have c_11 : k < C := g_nle (a := C) (b := k) c_11 (by omega) (by omega)
    have hJN := (hO k c_11).1
    have hJ4 : gN (mo k) < 4 := by omega
    obtain ⟨ec0, ec1, ec2, ec3, ec4, -, -, -, -⟩ := rc_all hR hJ4
    have hb8 := zOU_le (k := k + 1) hc hCw c_11 (fun j hj => Nat.lt_of_lt_of_le (hO j hj).1 (by omega))
    have hq9 : (if w = 2 then 6503616025 else 21071715921) ≤ 21071715921 := by split <;> decide
    refine lv_bipush (v := 10) hx hb dL_gain_14 (by decide) ?_
    refine lv_aload_n hx hb dL_gain_16 rfl (lv_at hl 1 rfl) ?_
    refine lv_iload hx hb dL_gain_17 (lv_at hl 6 rfl) ?_
    refine va_iald hx hb hK hP 1 0 rfl rfl (vp_in_nI (by omega) (by omega)) dL_gain_19 ?_
    refine lv_topi (fun f ef => ?_)
    obtain rfl : f = mo k := ef.trans (congrArg mo (nI_clamp (n := k) (by omega)))
    refine lv_topi (fun f ef => ?_)
    obtain rfl : f = nI (gN (mo k)) := ef.trans ((hO k c_11).2)
    refine lv_imul hx hb dL_gain_20 ?_
    refine lv_topi (fun f ef => ?_)
    obtain rfl : f = nI (10 * (gN (mo k))) := ef.trans (pk_mul _ _)
    refine lv_istore (lv' := [(8, .int (nI (10 * (gN (mo k))))), (0, .ref kc), (1, .ref kq), (2, .ref km), (3, .int (nI w)), (4, .int 1), (5, .long p1), (7, .int (nI k))]) hx hb dL_gain_21 hl (by decide) rfl (fun ls hl => ?_)
    refine lv_iload hx hb dL_gain_23 (lv_at hl 5 rfl) ?_
    refine lv_if_eq (tgt := 34) hx hb dL_gain_25 (by decide) (fun c_25 => ?_) (fun c_25 => ?_)
    · exact absurd c_25 (by decide)
    · refine lv_ldc2 (v := 64) hx hb hown hconstantLong_RL_19 dL_gain_28 ?_
      refine lv_goto (tgt := 39) hx hb dL_gain_31 (by decide) ?_
      refine lv_lstore (lv' := [(9, .long 64), (8, .int (nI (10 * (gN (mo k))))), (0, .ref kc), (1, .ref kq), (2, .ref km), (3, .int (nI w)), (4, .int 1), (5, .long p1), (7, .int (nI k))]) hx hb dL_gain_39 hl (by decide) rfl (fun ls hl => ?_)
      refine lv_iload hx hb dL_gain_41 (lv_at hl 6 rfl) ?_
      refine lv_if_eq (tgt := 56) hx hb dL_gain_43 (by decide) (fun c_43 => ?_) (fun c_43 => ?_)
      · exact absurd c_43 (by decide)
      · refine lv_aload_n hx hb dL_gain_46 rfl (lv_at hl 2 rfl) ?_
        refine lv_iload hx hb dL_gain_47 (lv_at hl 1 rfl) ?_
        refine lv_iconst (v := 3) hx hb dL_gain_49 (by decide) ?_
        refine lv_iadd hx hb dL_gain_50 ?_
        refine lv_topi (fun f ef => ?_)
        obtain rfl : f = nI ((10 * (gN (mo k))) + 3) := ef.trans (nI_add _ _)
        refine va_iald hx hb hK hP 0 0 rfl rfl (vp_in_nI (by omega) (by omega)) dL_gain_51 ?_
        refine lv_topi (fun f ef => ?_)
        obtain rfl : f = fc ((10 * (gN (mo k))) + 3) := ef.trans (congrArg fc (nI_clamp (n := (10 * (gN (mo k))) + 3) (by omega)))
        refine lv_topi (fun f ef => ?_)
        obtain rfl : f = mc (5 * (gN (mo k)) + 3) := ef.trans (ec3)
        refine lv_i2l (v := (mc (5 * (gN (mo k)) + 3)).toInt64) hx hb dL_gain_52 rfl ?_
        refine lv_goto (tgt := 63) hx hb dL_gain_53 (by decide) ?_
        refine lv_lstore (lv' := [(11, .long ((mc (5 * (gN (mo k)) + 3)).toInt64)), (9, .long 64), (8, .int (nI (10 * (gN (mo k))))), (0, .ref kc), (1, .ref kq), (2, .ref km), (3, .int (nI w)), (4, .int 1), (5, .long p1), (7, .int (nI k))]) hx hb dL_gain_63 hl (by decide) rfl (fun ls hl => ?_)
        refine lv_iload hx hb dL_gain_65 (lv_at hl 7 rfl) ?_
        refine lv_if_eq (tgt := 80) hx hb dL_gain_67 (by decide) (fun c_67 => ?_) (fun c_67 => ?_)
        · exact absurd c_67 (by decide)
        · refine lv_aload_n hx hb dL_gain_70 rfl (lv_at hl 3 rfl) ?_
          refine lv_iload hx hb dL_gain_71 (lv_at hl 2 rfl) ?_
          refine lv_iconst (v := 4) hx hb dL_gain_73 (by decide) ?_
          refine lv_iadd hx hb dL_gain_74 ?_
          refine lv_topi (fun f ef => ?_)
          obtain rfl : f = nI ((10 * (gN (mo k))) + 4) := ef.trans (nI_add _ _)
          refine va_iald hx hb hK hP 0 0 rfl rfl (vp_in_nI (by omega) (by omega)) dL_gain_75 ?_
          refine lv_topi (fun f ef => ?_)
          obtain rfl : f = fc ((10 * (gN (mo k))) + 4) := ef.trans (congrArg fc (nI_clamp (n := (10 * (gN (mo k))) + 4) (by omega)))
          refine lv_topi (fun f ef => ?_)
          obtain rfl : f = mc (5 * (gN (mo k)) + 4) := ef.trans (ec4)
          refine lv_i2l (v := (mc (5 * (gN (mo k)) + 4)).toInt64) hx hb dL_gain_76 rfl ?_
          refine lv_goto (tgt := 87) hx hb dL_gain_77 (by decide) ?_
          refine lv_lstore (lv' := [(13, .long ((mc (5 * (gN (mo k)) + 4)).toInt64)), (11, .long ((mc (5 * (gN (mo k)) + 3)).toInt64)), (9, .long 64), (8, .int (nI (10 * (gN (mo k))))), (0, .ref kc), (1, .ref kq), (2, .ref km), (3, .int (nI w)), (4, .int 1), (5, .long p1), (7, .int (nI k))]) hx hb dL_gain_87 hl (by decide) rfl (fun ls hl => ?_)
          refine lv_lload hx hb dL_gain_89 (lv_at hl 9 rfl) ?_
          refine lv_iload_n hx hb dL_gain_91 rfl (lv_at hl 7 rfl) ?_
          refine g_phil (ls := ls) (J := 139) (st1 := [.long p1]) (REL := fun F1 => F1 = vAt w 64 (mc (5 * (gN (mo k)) + 3)).toInt64 (mc (5 * (gN (mo k)) + 4)).toInt64) (fun F1 hb_139 => ?_) (fun hJ_139 => ?_)
          · refine lv_lmul hx hb dL_gain_139 ?_
            refine lv_topl (fun p2 ep2 => ?_)
            have eF : F1.toInt = zN w 64 (mc (5 * (gN (mo k)) + 3)).toInt (mc (5 * (gN (mo k)) + 4)).toInt := by
              rw [hb_139, vAt_toInt hw2 ⟨by decide, by decide⟩ (by rw [i32L]; exact hc _ (by omega)) (by rw [i32L]; exact hc _ (by omega))]
              rw [i32L, i32L]; rfl
            have ep3 : p2.toInt = zU mc mo w (k + 1) := by
              have e9 : p1.toInt * F1.toInt = zU mc mo w (k + 1) := by rw [ep, eF]; rfl
              rw [ep2, fb_mulL (by rw [e9]; omega) (by rw [e9]; omega), e9]
            refine lv_lstore (lv' := [(5, .long p2), (13, .long ((mc (5 * (gN (mo k)) + 4)).toInt64)), (11, .long ((mc (5 * (gN (mo k)) + 3)).toInt64)), (9, .long 64), (8, .int (nI (10 * (gN (mo k))))), (0, .ref kc), (1, .ref kq), (2, .ref km), (3, .int (nI w)), (4, .int 1), (7, .int (nI k))]) hx hb dL_gain_140 hl (by decide) rfl (fun ls hl => ?_)
            refine lv_iinc (v := nI (k + 1)) (lv' := [(7, .int (nI (k + 1))), (5, .long p2), (13, .long ((mc (5 * (gN (mo k)) + 4)).toInt64)), (11, .long ((mc (5 * (gN (mo k)) + 3)).toInt64)), (9, .long 64), (8, .int (nI (10 * (gN (mo k))))), (0, .ref kc), (1, .ref kq), (2, .ref km), (3, .int (nI w)), (4, .int 1)]) hx hb dL_gain_142 hl (k := 10) rfl (by exact nI_1 _) (by decide) rfl (fun ls hl => ?_)
            refine lv_goto (tgt := 6) hx hb dL_gain_145 (by decide) ?_
            refine W.widen (k := 0) (n := 0) (Nat.le_refl _) (Nat.le_refl _) ?_
            exact ih_6 (k + 1, p2) _ _ _ (show (k + 1) ≤ C ∧ p2.toInt = zU mc mo w (k + 1) from (by exact ⟨c_11, ep3⟩)) (show C - (k + 1) < C - k by omega) hP hD hS (lv_sub hl [6, 7, 8, 9, 10, 1, 0] rfl)
          · refine lv_if_ne (tgt := 106) hx hb dL_gain_92 (by decide) (fun c_92 => ?_) (fun c_92 => ?_)
            · have c_92 : w ≠ 0 := g_ne (a := w) (b := 0) c_92 (by omega) (by omega)
              refine lv_iload_n hx hb dL_gain_106 rfl (lv_at hl 7 rfl) ?_
              refine lv_iconst (v := 1) hx hb dL_gain_107 (by decide) ?_
              refine lv_icmp_ne (tgt := 122) hx hb dL_gain_108 (by decide) (fun c_108 => ?_) (fun c_108 => ?_)
              · have c_108 : w ≠ 1 := g_ne (a := w) (b := 1) c_108 (by omega) (by omega)
                refine lv_lload hx hb dL_gain_122 (lv_at hl 2 rfl) ?_
                refine lv_lload hx hb dL_gain_124 (lv_at hl 0 rfl) ?_
                refine lv_lsub hx hb dL_gain_126 ?_
                refine lv_lload hx hb dL_gain_127 (lv_at hl 2 rfl) ?_
                refine lv_lload hx hb dL_gain_129 (lv_at hl 0 rfl) ?_
                refine lv_lsub hx hb dL_gain_131 ?_
                refine lv_lmul hx hb dL_gain_132 ?_
                refine lv_lload hx hb dL_gain_133 (lv_at hl 1 rfl) ?_
                refine lv_lload hx hb dL_gain_135 (lv_at hl 1 rfl) ?_
                refine lv_lmul hx hb dL_gain_137 ?_
                refine lv_ladd hx hb dL_gain_138 ?_
                exact hJ_139 _ (by unfold vAt; first | rw [if_pos c_92] | rw [if_neg c_92, if_pos c_108] | rw [if_neg c_92, if_neg c_108])
              · have c_108 : w = 1 := g_eq (a := w) (b := 1) c_108 (by omega) (by omega)
                refine lv_lload hx hb dL_gain_111 (lv_at hl 2 rfl) ?_
                refine lv_lload hx hb dL_gain_113 (lv_at hl 1 rfl) ?_
                refine lv_lsub hx hb dL_gain_115 ?_
                refine lv_lload hx hb dL_gain_116 (lv_at hl 0 rfl) ?_
                refine lv_ladd hx hb dL_gain_118 ?_
                refine lv_goto (tgt := 139) hx hb dL_gain_119 (by decide) ?_
                exact hJ_139 _ (by unfold vAt; first | rw [if_pos c_92] | rw [if_neg c_92, if_pos c_108] | rw [if_neg c_92, if_neg c_108])
            · have c_92 : w = 0 := g_eq (a := w) (b := 0) c_92 (by omega) (by omega)
              refine lv_lload hx hb dL_gain_95 (lv_at hl 2 rfl) ?_
              refine lv_lload hx hb dL_gain_97 (lv_at hl 1 rfl) ?_
              refine lv_ladd hx hb dL_gain_99 ?_
              refine lv_lload hx hb dL_gain_100 (lv_at hl 0 rfl) ?_
              refine lv_ladd hx hb dL_gain_102 ?_
              refine lv_goto (tgt := 139) hx hb dL_gain_103 (by decide) ?_
              exact hJ_139 _ (by unfold vAt; first | rw [if_pos c_92] | rw [if_neg c_92, if_pos c_108] | rw [if_neg c_92, if_neg c_108])

set_option maxHeartbeats 4000000 in
set_option maxRecDepth 100000 in
theorem c_L_next (l : Launch) (D : va_G) (cI cJ cO : ClassId) (df sz : Nat) (kc : Nat) (fc : Nat → Int32) (mc : Nat → Int32) (ms : Nat → Int32) (mw : Nat → Int32) (N : Nat) (J : Nat) (q : Nat) (hR : RC fc mc ms mw N) (hJ4 : J < 4) (hJN : J < N) (hc : isC mc) (hw : ∀ j, j < 8 → isW (mw j)) (hq4 : q < 40401) : MetI l yL_next wsL_next ({ frames := 0, cells := 0, slots := 0, locals := 0 } : Room) D (gTY cI cJ cO) df [(kc, .inl (cI, 40, .inl fc))] sz [.ref kc, .int (nI (10 * J)), .int (nI (lE q))] (fun (r : Int32) (wZ : va_W) => wZ = [(kc, .inl (cI, 40, .inl fc))] ∧ r = oE (nxO mc mw J q)) := by
  refine g_of (cc := cL_next) (nL := 7) (ret := (some .int)) (D := D) (TY := (gTY cI cJ cO)) (df := df) (Qc := fun A => va_Qi (fun (r : Int32) (wZ : va_W) => wZ = [(kc, .inl (cI, 40, .inl fc))] ∧ r = oE (nxO mc mw J q)) (gB D (gTY cI cJ cO) A) A) (by decide +kernel) rfl (Nat.le_of_ble_eq_true rfl) ?_
  intro p e s m below meth c ls A hsz C0 hin hl
  obtain ⟨CF, hr, hlk, hA, hS, hP, hK, hD, hV, hH⟩ := C0
  have CF : CallFix p m c cL_next 7 s _ wsL_next RL := CF
  obtain ⟨hx, hb, hml, hown, hts⟩ := id CF
  subst hsz
  have hP : va_P D ccl [(kc, .inl (cI, 40, .inl fc))] s.heap := hP
  have hl : lv_has ls 7 [(0, .ref kc), (1, .int (nI (10 * J))), (2, .int (nI (lE q)))] := hl
  obtain ⟨-, -, -, ec3, ec4, -, -, -, -⟩ := rc_all hR hJ4
  have ec5 := (hR J hJ4).2.2 hJN
  have hwJ := hw J (by omega)
  have hbd := nyI_bd (mw := mw) (J := J) hc (by omega) hq4
  have hle := lE_le hq4
  have ey := mRnd_bd (v := -mc (5 * J + 3) * (nI (q / 201) - 100) - mc (5 * J + 4) * (nI (q % 201) - 100)) (wy := mw J) (by omega) (by omega) hwJ
  refine lv_iload_n hx hb dL_next_0 rfl (lv_at hl 2 rfl) ?_
  refine lv_sipush (v := 1000) hx hb dL_next_1 (by decide) ?_
  refine lv_idiv hx hb dL_next_4 (by decide) ?_
  refine lv_topi (fun f ef => ?_)
  obtain rfl : f = nI (q / 201 + 400) := ef.trans ((pk_div (a := lE q) (d := 1000) (by omega) (by omega) (by omega)).trans (congrArg nI lE_div))
  refine lv_sipush (v := 500) hx hb dL_next_5 (by decide) ?_
  refine lv_isub hx hb dL_next_8 ?_
  refine lv_topi (fun f ef => ?_)
  obtain rfl : f = nI (q / 201) - 100 := ef.trans (off4 (by omega))
  refine lv_istore_n (lv' := [(3, .int (nI (q / 201) - 100)), (0, .ref kc), (1, .int (nI (10 * J))), (2, .int (nI (lE q)))]) hx hb dL_next_9 rfl hl (by decide) rfl (fun ls hl => ?_)
  refine lv_iload_n hx hb dL_next_10 rfl (lv_at hl 3 rfl) ?_
  refine lv_sipush (v := 1000) hx hb dL_next_11 (by decide) ?_
  refine lv_irem hx hb dL_next_14 (by decide) ?_
  refine lv_topi (fun f ef => ?_)
  obtain rfl : f = nI (q % 201 + 400) := ef.trans ((pk_rem (a := lE q) (d := 1000) (by omega) (by omega) (by omega)).trans (congrArg nI lE_mod))
  refine lv_sipush (v := 500) hx hb dL_next_15 (by decide) ?_
  refine lv_isub hx hb dL_next_18 ?_
  refine lv_topi (fun f ef => ?_)
  obtain rfl : f = nI (q % 201) - 100 := ef.trans (off4 (by omega))
  refine lv_istore (lv' := [(4, .int (nI (q % 201) - 100)), (3, .int (nI (q / 201) - 100)), (0, .ref kc), (1, .int (nI (10 * J))), (2, .int (nI (lE q)))]) hx hb dL_next_19 hl (by decide) rfl (fun ls hl => ?_)
  refine lv_aload_n hx hb dL_next_21 rfl (lv_at hl 2 rfl) ?_
  refine lv_iload_n hx hb dL_next_22 rfl (lv_at hl 3 rfl) ?_
  refine lv_iconst (v := 3) hx hb dL_next_23 (by decide) ?_
  refine lv_iadd hx hb dL_next_24 ?_
  refine lv_topi (fun f ef => ?_)
  obtain rfl : f = nI ((10 * J) + 3) := ef.trans (nI_add _ _)
  refine va_iald hx hb hK hP 0 0 rfl rfl (vp_in_nI (by omega) (by omega)) dL_next_25 ?_
  refine lv_topi (fun f ef => ?_)
  obtain rfl : f = fc ((10 * J) + 3) := ef.trans (congrArg fc (nI_clamp (n := (10 * J) + 3) (by omega)))
  refine lv_topi (fun f ef => ?_)
  obtain rfl : f = mc (5 * J + 3) := ef.trans (ec3)
  refine lv_ineg hx hb dL_next_26 ?_
  refine lv_iload_n hx hb dL_next_27 rfl (lv_at hl 1 rfl) ?_
  refine lv_imul hx hb dL_next_28 ?_
  refine lv_aload_n hx hb dL_next_29 rfl (lv_at hl 2 rfl) ?_
  refine lv_iload_n hx hb dL_next_30 rfl (lv_at hl 3 rfl) ?_
  refine lv_iconst (v := 4) hx hb dL_next_31 (by decide) ?_
  refine lv_iadd hx hb dL_next_32 ?_
  refine lv_topi (fun f ef => ?_)
  obtain rfl : f = nI ((10 * J) + 4) := ef.trans (nI_add _ _)
  refine va_iald hx hb hK hP 0 0 rfl rfl (vp_in_nI (by omega) (by omega)) dL_next_33 ?_
  refine lv_topi (fun f ef => ?_)
  obtain rfl : f = fc ((10 * J) + 4) := ef.trans (congrArg fc (nI_clamp (n := (10 * J) + 4) (by omega)))
  refine lv_topi (fun f ef => ?_)
  obtain rfl : f = mc (5 * J + 4) := ef.trans (ec4)
  refine lv_iload hx hb dL_next_34 (lv_at hl 0 rfl) ?_
  refine lv_imul hx hb dL_next_36 ?_
  refine lv_isub hx hb dL_next_37 ?_
  refine lv_aload_n hx hb dL_next_38 rfl (lv_at hl 2 rfl) ?_
  refine lv_iload_n hx hb dL_next_39 rfl (lv_at hl 3 rfl) ?_
  refine lv_iconst (v := 5) hx hb dL_next_40 (by decide) ?_
  refine lv_iadd hx hb dL_next_41 ?_
  refine lv_topi (fun f ef => ?_)
  obtain rfl : f = nI ((10 * J) + 5) := ef.trans (nI_add _ _)
  refine va_iald hx hb hK hP 0 0 rfl rfl (vp_in_nI (by omega) (by omega)) dL_next_42 ?_
  refine lv_topi (fun f ef => ?_)
  obtain rfl : f = fc ((10 * J) + 5) := ef.trans (congrArg fc (nI_clamp (n := (10 * J) + 5) (by omega)))
  refine lv_topi (fun f ef => ?_)
  obtain rfl : f = mw J := ef.trans (ec5)
  refine lv_iconst (v := 2) hx hb dL_next_43 (by decide) ?_
  refine g_phii (ls := ls) (J := 53) (st1 := [.int (((-(mc (5 * J + 3))) * (nI (q / 201) - 100)) - ((mc (5 * J + 4)) * (nI (q % 201) - 100)))]) (REL := fun v => v = if mw J = 2 then (32 : Int32) else 0) (fun v hb_53 => ?_) (fun hJ_53 => ?_)
  · subst hb_53
    refine lv_iadd hx hb dL_next_53 ?_
    refine lv_topi (fun f ef => ?_)
    obtain rfl : f = lPl (-mc (5 * J + 3) * (nI (q / 201) - 100) - mc (5 * J + 4) * (nI (q % 201) - 100)) (mw J) := ef.trans (by unfold lPl; by_cases h9 : mw J = 2 <;> simp [h9])
    refine lv_istore (lv' := [(5, .int (lPl (-mc (5 * J + 3) * (nI (q / 201) - 100) - mc (5 * J + 4) * (nI (q % 201) - 100)) (mw J))), (4, .int (nI (q % 201) - 100)), (3, .int (nI (q / 201) - 100)), (0, .ref kc), (1, .int (nI (10 * J))), (2, .int (nI (lE q)))]) hx hb dL_next_54 hl (by decide) rfl (fun ls hl => ?_)
    refine lv_iload hx hb dL_next_56 (lv_at hl 0 rfl) ?_
    refine lv_bipush (v := 64) hx hb dL_next_58 (by decide) ?_
    refine lv_idiv hx hb dL_next_60 (by decide) ?_
    refine lv_istore (lv' := [(6, .int ((lPl (-mc (5 * J + 3) * (nI (q / 201) - 100) - mc (5 * J + 4) * (nI (q % 201) - 100)) (mw J)) / 64)), (5, .int (lPl (-mc (5 * J + 3) * (nI (q / 201) - 100) - mc (5 * J + 4) * (nI (q % 201) - 100)) (mw J))), (4, .int (nI (q % 201) - 100)), (3, .int (nI (q / 201) - 100)), (0, .ref kc), (1, .int (nI (10 * J))), (2, .int (nI (lE q)))]) hx hb dL_next_61 hl (by decide) rfl (fun ls hl => ?_)
    refine lv_aload_n hx hb dL_next_63 rfl (lv_at hl 4 rfl) ?_
    refine lv_iload_n hx hb dL_next_64 rfl (lv_at hl 5 rfl) ?_
    refine lv_iconst (v := 5) hx hb dL_next_65 (by decide) ?_
    refine lv_iadd hx hb dL_next_66 ?_
    refine lv_topi (fun f ef => ?_)
    obtain rfl : f = nI ((10 * J) + 5) := ef.trans (nI_add _ _)
    refine va_iald hx hb hK hP 0 0 rfl rfl (vp_in_nI (by omega) (by omega)) dL_next_67 ?_
    refine lv_topi (fun f ef => ?_)
    obtain rfl : f = fc ((10 * J) + 5) := ef.trans (congrArg fc (nI_clamp (n := (10 * J) + 5) (by omega)))
    refine lv_topi (fun f ef => ?_)
    obtain rfl : f = mw J := ef.trans (ec5)
    refine g_phii (ls := ls) (J := 88) (st1 := []) (REL := fun v => v = nyI mc mw J q) (fun v hb_88 => ?_) (fun hJ_88 => ?_)
    · subst hb_88
      refine lv_istore (lv' := [(6, .int (nyI mc mw J q)), (5, .int (lPl (-mc (5 * J + 3) * (nI (q / 201) - 100) - mc (5 * J + 4) * (nI (q % 201) - 100)) (mw J))), (4, .int (nI (q % 201) - 100)), (3, .int (nI (q / 201) - 100)), (0, .ref kc), (1, .int (nI (10 * J))), (2, .int (nI (lE q)))]) hx hb dL_next_88 hl (by decide) rfl (fun ls hl => ?_)
      refine lv_iload hx hb dL_next_90 (lv_at hl 0 rfl) ?_
      refine lv_bipush (v := 100) hx hb dL_next_92 (by decide) ?_
      refine lv_icmp_gt (tgt := 104) hx hb dL_next_94 (by decide) (fun c_94 => ?_) (fun c_94 => ?_)
      · refine lv_iconst (v := (-1)) hx hb dL_next_104 (by decide) ?_
        refine lv_goto (tgt := 124) hx hb dL_next_105 (by decide) ?_
        refine g_iret (v := (-1)) hx hb hr hlk hP hK hD hS (Nat.le_of_ble_eq_true rfl) (Nat.le_of_ble_eq_true rfl) dL_next_124 ?_
        have k1 : (-100 : Int32).toInt = -100 := by decide
        have k2 : (100 : Int32).toInt = 100 := by decide
        rw [Int32.lt_iff_toInt_lt, k2] at c_94
        
        exact ⟨rfl, by rw [nxO_out (by omega)]; rfl⟩
      · refine lv_iload hx hb dL_next_97 (lv_at hl 0 rfl) ?_
        refine lv_bipush (v := (-100)) hx hb dL_next_99 (by decide) ?_
        refine lv_icmp_ge (tgt := 108) hx hb dL_next_101 (by decide) (fun c_101 => ?_) (fun c_101 => ?_)
        · refine lv_sipush (v := 1000) hx hb dL_next_108 (by decide) ?_
          refine lv_iload hx hb dL_next_111 (lv_at hl 0 rfl) ?_
          refine lv_sipush (v := 500) hx hb dL_next_113 (by decide) ?_
          refine lv_iadd hx hb dL_next_116 ?_
          refine lv_imul hx hb dL_next_117 ?_
          refine lv_iload_n hx hb dL_next_118 rfl (lv_at hl 3 rfl) ?_
          refine lv_iadd hx hb dL_next_119 ?_
          refine lv_sipush (v := 500) hx hb dL_next_120 (by decide) ?_
          refine lv_iadd hx hb dL_next_123 ?_
          refine g_iret (v := ((1000 * ((nyI mc mw J q) + 500)) + (nI (q / 201) - 100)) + 500) hx hb hr hlk hP hK hD hS (Nat.le_of_ble_eq_true rfl) (Nat.le_of_ble_eq_true rfl) dL_next_124 ?_
          have k1 : (-100 : Int32).toInt = -100 := by decide
          have k2 : (100 : Int32).toInt = 100 := by decide
          rw [Int32.lt_iff_toInt_lt, k2] at c_94
          rw [Int32.le_iff_toInt_le, k1] at c_101
          exact ⟨rfl, by
            rw [nxO_in hq4 c_94 (by omega), ← Int32.toInt_inj]
            have k5 : (500 : Int32).toInt = 500 := by decide
            have k6 : (1000 : Int32).toInt = 1000 := by decide
            have e1 : (nyI mc mw J q + 500).toInt = (nyI mc mw J q).toInt + 500 := by rw [fb_addI (by rw [k5]; omega) (by rw [k5]; omega), k5]
            have e2 : (1000 * (nyI mc mw J q + 500) : Int32).toInt = 1000 * ((nyI mc mw J q).toInt + 500) := by rw [fb_mulI (by rw [e1, k6]; omega) (by rw [e1, k6]; omega), e1, k6]
            have e3 : (nI (q / 201) - 100 : Int32).toInt = ((q / 201 : Nat) : Int) - 100 := pk_sub_toInt (a := q / 201) (b := 100) (by omega) (by decide)
            have e4 : (1000 * (nyI mc mw J q + 500) + (nI (q / 201) - 100) : Int32).toInt = 1000 * ((nyI mc mw J q).toInt + 500) + (((q / 201 : Nat) : Int) - 100) := by rw [fb_addI (by rw [e2, e3]; omega) (by rw [e2, e3]; omega), e2, e3]
            rw [fb_addI (by rw [e4, k5]; omega) (by rw [e4, k5]; omega), e4, k5, nI_toInt (by omega)]
            omega⟩
        · refine lv_iconst (v := (-1)) hx hb dL_next_104 (by decide) ?_
          refine lv_goto (tgt := 124) hx hb dL_next_105 (by decide) ?_
          refine g_iret (v := (-1)) hx hb hr hlk hP hK hD hS (Nat.le_of_ble_eq_true rfl) (Nat.le_of_ble_eq_true rfl) dL_next_124 ?_
          have k1 : (-100 : Int32).toInt = -100 := by decide
          have k2 : (100 : Int32).toInt = 100 := by decide
          rw [Int32.lt_iff_toInt_lt, k2] at c_94
          rw [Int32.le_iff_toInt_le, k1] at c_101
          exact ⟨rfl, by rw [nxO_out (by omega)]; rfl⟩
    · refine lv_if_le (tgt := 86) hx hb dL_next_68 (by decide) (fun c_68 => ?_) (fun c_68 => ?_)
      · have c_68 : ¬ 0 < (mw J) := Int32.not_lt.mpr c_68
        refine lv_iload hx hb dL_next_86 (lv_at hl 0 rfl) ?_
        exact hJ_88 _ (by unfold nyI; rw [ey]; unfold lDn; first | rw [if_neg c_68] | rw [if_pos c_68, if_neg c_76] | rw [if_pos c_68, if_pos c_76])
      · have c_68 : 0 < (mw J) := Int32.not_le.mp c_68
        refine lv_iload hx hb dL_next_71 (lv_at hl 1 rfl) ?_
        refine lv_bipush (v := 64) hx hb dL_next_73 (by decide) ?_
        refine lv_irem hx hb dL_next_75 (by decide) ?_
        refine lv_if_ge (tgt := 86) hx hb dL_next_76 (by decide) (fun c_76 => ?_) (fun c_76 => ?_)
        · have c_76 : ¬ ((lPl (-mc (5 * J + 3) * (nI (q / 201) - 100) - mc (5 * J + 4) * (nI (q % 201) - 100)) (mw J)) - (lPl (-mc (5 * J + 3) * (nI (q / 201) - 100) - mc (5 * J + 4) * (nI (q % 201) - 100)) (mw J)) / 64 * 64) < 0 := Int32.not_lt.mpr c_76
          refine lv_iload hx hb dL_next_86 (lv_at hl 0 rfl) ?_
          exact hJ_88 _ (by unfold nyI; rw [ey]; unfold lDn; first | rw [if_neg c_68] | rw [if_pos c_68, if_neg c_76] | rw [if_pos c_68, if_pos c_76])
        · have c_76 : ((lPl (-mc (5 * J + 3) * (nI (q / 201) - 100) - mc (5 * J + 4) * (nI (q % 201) - 100)) (mw J)) - (lPl (-mc (5 * J + 3) * (nI (q / 201) - 100) - mc (5 * J + 4) * (nI (q % 201) - 100)) (mw J)) / 64 * 64) < 0 := Int32.not_le.mp c_76
          refine lv_iload hx hb dL_next_79 (lv_at hl 0 rfl) ?_
          refine lv_iconst (v := 1) hx hb dL_next_81 (by decide) ?_
          refine lv_isub hx hb dL_next_82 ?_
          refine lv_goto (tgt := 88) hx hb dL_next_83 (by decide) ?_
          exact hJ_88 _ (by unfold nyI; rw [ey]; unfold lDn; first | rw [if_neg c_68] | rw [if_pos c_68, if_neg c_76] | rw [if_pos c_68, if_pos c_76])
  · refine lv_icmp_ne (tgt := 52) hx hb dL_next_44 (by decide) (fun c_44 => ?_) (fun c_44 => ?_)
    · refine lv_iconst (v := 0) hx hb dL_next_52 (by decide) ?_
      exact hJ_53 _ (by first | rw [if_neg c_44] | rw [if_pos c_44])
    · refine lv_bipush (v := 32) hx hb dL_next_47 (by decide) ?_
      refine lv_goto (tgt := 53) hx hb dL_next_49 (by decide) ?_
      exact hJ_53 _ (by first | rw [if_neg c_44] | rw [if_pos c_44])

set_option maxHeartbeats 4000000 in
set_option maxRecDepth 100000 in
theorem c_L_power (l : Launch) (D : va_G) (cI cJ cO : ClassId) (df sz : Nat) (T : Nat) (hT : T < 2147483648) : MetI l yL_power wsL_power ({ frames := 0, cells := 0, slots := 0, locals := 0 } : Room) D (gTY cI cJ cO) df [] sz [.int (nI T)] (fun (r : Int32) (wZ : va_W) => wZ = [] ∧ r = nI (pw (T % 32))) := by
  refine g_of (cc := cL_power) (nL := 3) (ret := (some .int)) (D := D) (TY := (gTY cI cJ cO)) (df := df) (Qc := fun A => va_Qi (fun (r : Int32) (wZ : va_W) => wZ = [] ∧ r = nI (pw (T % 32))) (gB D (gTY cI cJ cO) A) A) (by decide +kernel) rfl (Nat.le_of_ble_eq_true rfl) ?_
  intro p e s m below meth c ls A hsz C0 hin hl
  obtain ⟨CF, hr, hlk, hA, hS, hP, hK, hD, hV, hH⟩ := C0
  have CF : CallFix p m c cL_power 3 s _ wsL_power RL := CF
  obtain ⟨hx, hb, hml, hown, hts⟩ := id CF
  subst hsz
  have hP : va_P D ccl [] s.heap := hP
  have hl : lv_has ls 3 [(0, .int (nI T))] := hl
  refine lv_iconst (v := 1) hx hb dL_power_0 (by decide) ?_
  refine lv_istore_n (lv' := [(1, .int 1), (0, .int (nI T))]) hx hb dL_power_1 rfl hl (by decide) rfl (fun ls hl => ?_)
  refine lv_iload_n hx hb dL_power_2 rfl (lv_at hl 1 rfl) ?_
  refine lv_bipush (v := 32) hx hb dL_power_3 (by decide) ?_
  refine lv_irem hx hb dL_power_5 (by decide) ?_
  refine lv_topi (fun f ef => ?_)
  obtain rfl : f = nI (T % 32) := ef.trans (pk_rem (a := T) (d := 32) (by omega) (by omega) (by omega))
  refine lv_istore_n (lv' := [(2, .int (nI (T % 32))), (1, .int 1), (0, .int (nI T))]) hx hb dL_power_6 rfl hl (by decide) rfl (fun ls hl => ?_)
  refine W.widen (k := 0) (n := 0) (Nat.le_refl _) (Nat.le_refl _) ?_
  refine g_while (σ := Nat) (st := []) (nL := 3) (fun i => [])
    (fun i => [(0, .int (nI T)), (1, .int (nI (pw i))), (2, .int (nI (T % 32 - i)))])
    (fun i => i ≤ T % 32)
    (fun i => T % 32 - i) (fun i => 0) (fun i => 0)
    ?_ 0 (Nat.zero_le _) hP hD hS (lv_sub hl [2, 1, 0] rfl)
  intro i hI H locs ls hP hD hS hl ih
  have hI : i ≤ T % 32 := hI
  have hP : va_P D ccl [] H := hP
  have hD : va_D A [] := hD
  have hl : lv_has ls 3 [(0, .int (nI T)), (1, .int (nI (pw i))), (2, .int (nI (T % 32 - i)))] := hl
  change W p l e _ s m _ below meth c H locs 0 0 _ (F0 m 7 ls [])
  have ih_7 := ih
  clear ih
  have hpw := pw_lt i
  refine lv_iload_n hx hb dL_power_7 rfl (lv_at hl 2 rfl) ?_
  refine lv_if_le (tgt := 25) hx hb dL_power_8 (by decide) (fun c_8 => ?_) (fun c_8 => ?_)
  · have c_8 : T % 32 - i ≤ 0 := g_le (a := T % 32 - i) (b := 0) c_8 (by omega) (by omega)
    obtain rfl : i = T % 32 := by omega
    refine lv_iload_n hx hb dL_power_25 rfl (lv_at hl 1 rfl) ?_
    refine g_iret (v := nI (pw (T % 32))) hx hb hr hlk hP hK hD hS (Nat.le_of_ble_eq_true rfl) (Nat.le_of_ble_eq_true rfl) dL_power_26 ?_
    exact ⟨rfl, (by first | rfl | (simp [c_8]; done))⟩
  · have c_8 : 0 < T % 32 - i := g_nle (a := T % 32 - i) (b := 0) c_8 (by omega) (by omega)
    refine lv_bipush (v := 28) hx hb dL_power_11 (by decide) ?_
    refine lv_iload_n hx hb dL_power_13 rfl (lv_at hl 1 rfl) ?_
    refine lv_imul hx hb dL_power_14 ?_
    refine lv_topi (fun f ef => ?_)
    obtain rfl : f = nI (pw i * 28) := ef.trans ((pk_mul 28 (pw i)).trans (congrArg nI (Nat.mul_comm _ _)))
    refine lv_bipush (v := 97) hx hb dL_power_15 (by decide) ?_
    refine lv_irem hx hb dL_power_17 (by decide) ?_
    refine lv_topi (fun f ef => ?_)
    obtain rfl : f = nI ((pw i * 28) % 97) := ef.trans (pk_rem (a := pw i * 28) (d := 97) (by omega) (by omega) (by omega))
    refine lv_topi (fun f ef => ?_)
    obtain rfl : f = nI (pw (i + 1)) := ef.trans (rfl)
    refine lv_istore_n (lv' := [(1, .int (nI (pw (i + 1)))), (0, .int (nI T)), (2, .int (nI (T % 32 - i)))]) hx hb dL_power_18 rfl hl (by decide) rfl (fun ls hl => ?_)
    refine lv_iinc (v := nI (T % 32 - (i + 1))) (lv' := [(2, .int (nI (T % 32 - (i + 1)))), (1, .int (nI (pw (i + 1)))), (0, .int (nI T))]) hx hb dL_power_19 hl (k := 2) rfl (by exact sb_m1 (by omega)) (by decide) rfl (fun ls hl => ?_)
    refine lv_goto (tgt := 7) hx hb dL_power_22 (by decide) ?_
    refine W.widen (k := 0) (n := 0) (Nat.le_refl _) (Nat.le_refl _) ?_
    exact ih_7 (i + 1) _ _ _ (show (i + 1) ≤ T % 32 from (by omega)) (show T % 32 - (i + 1) < T % 32 - i by omega) hP hD hS (lv_sub hl [2, 1, 0] rfl)

set_option maxHeartbeats 4000000 in
set_option maxRecDepth 100000 in
theorem c_L_answer (l : Launch) (D : va_G) (cI cJ cO : ClassId) (df sz : Nat) (kt : Nat) (tf : Nat → Int32) (T : Nat) (ht : isR tf 32) (hT : T < 2147483648) : MetI l yL_answer wsL_answer ({ frames := 1, cells := 0, slots := 0, locals := 22 } : Room) D (gTY cI cJ cO) df [(kt, .inl (cI, 32, .inl tf))] sz [.ref kt, .int (nI T)] (fun (r : Int32) (wZ : va_W) => wZ = [(kt, .inl (cI, 32, .inl tf))] ∧ r = nI (asum tf T 32)) := by
  refine g_of (cc := cL_answer) (nL := 5) (ret := (some .int)) (D := D) (TY := (gTY cI cJ cO)) (df := df) (Qc := fun A => va_Qi (fun (r : Int32) (wZ : va_W) => wZ = [(kt, .inl (cI, 32, .inl tf))] ∧ r = nI (asum tf T 32)) (gB D (gTY cI cJ cO) A) A) (by decide +kernel) rfl (Nat.le_of_ble_eq_true rfl) ?_
  intro p e s m below meth c ls A hsz C0 hin hl
  obtain ⟨CF, hr, hlk, hA, hS, hP, hK, hD, hV, hH⟩ := C0
  have CF : CallFix p m c cL_answer 5 s _ wsL_answer RL := CF
  obtain ⟨hx, hb, hml, hown, hts⟩ := id CF
  subst hsz
  have hmethodLink_RL_57 : (Cond.methodLink RL 57 yL_power).before _ s = true := hts _ (List.mem_of_getElem? (i := 1) rfl)
  have hP : va_P D ccl [(kt, .inl (cI, 32, .inl tf))] s.heap := hP
  have hl : lv_has ls 5 [(0, .ref kt), (1, .int (nI T))] := hl
  refine lv_iconst (v := 0) hx hb dL_answer_0 (by decide) ?_
  refine lv_istore_n (lv' := [(2, .int 0), (0, .ref kt), (1, .int (nI T))]) hx hb dL_answer_1 rfl hl (by decide) rfl (fun ls hl => ?_)
  refine lv_iload_n hx hb dL_answer_2 rfl (lv_at hl 2 rfl) ?_
  have hPc : va_P D ccl [] s.heap := fun k q h => by simp at h
  have hDc : va_D A [] := ⟨fun i j p q h => by simp at h, fun k q h => by simp at h⟩
  have hFc := va_free (wc := []) hD hS hA [] rfl
  refine g_Si (As := [.int (nI T)]) (rest := []) CF (c_L_power l D cI cJ cO df s.heap.size T (by omega)) (va_cwS 1 hts gL_answer_L_power rfl rfl rfl (by decide +kernel) ⟨Nat.le_of_ble_eq_true rfl, Nat.le_of_ble_eq_true rfl⟩)  hPc hK hDc hV hH hS hFc rfl hl.1 rfl (Nat.le_of_ble_eq_true rfl) dL_answer_3 ⟨Nat.le_of_ble_eq_true rfl, Nat.le_of_ble_eq_true rfl⟩ (fun r_3 w1 H1 locs1 hq hP1 hD1 hk hS hz => ?_)
  obtain ⟨rfl, hr_3⟩ := hq
  have hP := g_keep0 hP hk
  clear hPc hDc hFc hP1 hD1 hk hz
  generalize H1 = H at hP hS ⊢
  have hP : va_P D ccl [(kt, .inl (cI, 32, .inl tf))] H := hP
  have hD : va_D A [(kt, .inl (cI, 32, .inl tf))] := hD
  subst hr_3
  refine lv_istore_n (lv' := [(3, .int (nI (pw (T % 32)))), (2, .int 0), (0, .ref kt), (1, .int (nI T))]) hx hb dL_answer_6 rfl hl (by decide) rfl (fun ls hl => ?_)
  refine lv_bipush (v := 31) hx hb dL_answer_7 (by decide) ?_
  refine lv_istore (lv' := [(4, .int 31), (3, .int (nI (pw (T % 32)))), (2, .int 0), (0, .ref kt), (1, .int (nI T))]) hx hb dL_answer_9 hl (by decide) rfl (fun ls hl => ?_)
  refine W.widen (k := 0) (n := 0) (Nat.le_refl _) (Nat.le_refl _) ?_
  refine g_while (σ := Nat) (st := []) (nL := 5) (fun u => [(kt, .inl (cI, 32, .inl tf))])
    (fun u => [(0, .ref kt), (1, .int (nI T)), (2, .int (nI (hsum tf (pw (T % 32)) u))), (3, .int (nI (pw (T % 32)))), (4, .int (nI 31 - nI u))])
    (fun u => u ≤ 32)
    (fun u => 32 - u) (fun u => 0) (fun u => 0)
    ?_ 0 (Nat.zero_le _) hP hD hS (lv_sub hl [3, 4, 2, 1, 0] rfl)
  intro u hI H locs ls hP hD hS hl ih
  have hI : u ≤ 32 := hI
  have hP : va_P D ccl [(kt, .inl (cI, 32, .inl tf))] H := hP
  have hD : va_D A [(kt, .inl (cI, 32, .inl tf))] := hD
  have hl : lv_has ls 5 [(0, .ref kt), (1, .int (nI T)), (2, .int (nI (hsum tf (pw (T % 32)) u))), (3, .int (nI (pw (T % 32)))), (4, .int (nI 31 - nI u))] := hl
  change W p l e _ s m _ below meth c H locs 0 0 _ (F0 m 11 ls [])
  have ih_11 := ih
  clear ih
  have hh9 := hsum_lt tf (pw (T % 32)) u
  have hp9 := pw_lt (T % 32)
  refine lv_iload hx hb dL_answer_11 (lv_at hl 4 rfl) ?_
  refine lv_if_lt (tgt := 34) hx hb dL_answer_13 (by decide) (fun c_13 => ?_) (fun c_13 => ?_)
  · have c_13 := (dn_lt hI).mp c_13
    obtain rfl : u = 32 := by omega
    refine lv_iload_n hx hb dL_answer_34 rfl (lv_at hl 2 rfl) ?_
    refine g_iret (v := nI (hsum tf (pw (T % 32)) 32)) hx hb hr hlk hP hK hD hS (Nat.le_of_ble_eq_true rfl) (Nat.le_of_ble_eq_true rfl) dL_answer_35 ?_
    exact ⟨rfl, by rw [hsum_as]⟩
  · have c_13 : u ≤ 31 := Nat.le_of_not_lt (fun h9 => c_13 ((dn_lt hI).mpr h9))
    have e6 : nI 31 - nI u = nI (31 - u) := pk_sub (a := 31) (b := u) (by omega)
    have hl : lv_has ls 5 [(0, .ref kt), (1, .int (nI T)), (2, .int (nI (hsum tf (pw (T % 32)) u))), (3, .int (nI (pw (T % 32)))), (4, .int (nI (31 - u)))] := by rw [e6] at hl; exact hl
    refine lv_iload_n hx hb dL_answer_16 rfl (lv_at hl 2 rfl) ?_
    refine lv_iload_n hx hb dL_answer_17 rfl (lv_at hl 3 rfl) ?_
    refine lv_imul hx hb dL_answer_18 ?_
    refine lv_topi (fun f ef => ?_)
    obtain rfl : f = nI ((hsum tf (pw (T % 32)) u) * (pw (T % 32))) := ef.trans (pk_mul _ _)
    refine lv_aload_n hx hb dL_answer_19 rfl (lv_at hl 0 rfl) ?_
    refine lv_iload hx hb dL_answer_20 (lv_at hl 4 rfl) ?_
    refine va_iald hx hb hK hP 0 0 rfl rfl (vp_in_nI (by omega) (by omega)) dL_answer_22 ?_
    refine lv_topi (fun f ef => ?_)
    obtain rfl : f = tf (31 - u) := ef.trans (congrArg tf (nI_clamp (n := 31 - u) (by omega)))
    refine lv_topi (fun f ef => ?_)
    obtain rfl : f = nI (gN (tf (31 - u))) := ef.trans ((ht _ (by omega)).1)
    have hm9 := mul97 hh9 hp9
    have hg9 := (ht (31 - u) (by omega)).2
    refine lv_iadd hx hb dL_answer_23 ?_
    refine lv_topi (fun f ef => ?_)
    obtain rfl : f = nI (((hsum tf (pw (T % 32)) u) * (pw (T % 32))) + (gN (tf (31 - u)))) := ef.trans (nI_add _ _)
    refine lv_bipush (v := 97) hx hb dL_answer_24 (by decide) ?_
    refine lv_irem hx hb dL_answer_26 (by decide) ?_
    refine lv_topi (fun f ef => ?_)
    obtain rfl : f = nI (hsum tf (pw (T % 32)) (u + 1)) := ef.trans ((pk_rem (a := hsum tf (pw (T % 32)) u * pw (T % 32) + gN (tf (31 - u))) (d := 97) (by omega) (by omega) (by omega)).trans (congrArg nI hsum_step))
    refine lv_istore_n (lv' := [(2, .int (nI (hsum tf (pw (T % 32)) (u + 1)))), (0, .ref kt), (1, .int (nI T)), (3, .int (nI (pw (T % 32)))), (4, .int (nI (31 - u)))]) hx hb dL_answer_27 rfl hl (by decide) rfl (fun ls hl => ?_)
    refine lv_iinc (v := nI 31 - nI (u + 1)) (lv' := [(4, .int (nI 31 - nI (u + 1))), (2, .int (nI (hsum tf (pw (T % 32)) (u + 1)))), (0, .ref kt), (1, .int (nI T)), (3, .int (nI (pw (T % 32))))]) hx hb dL_answer_28 hl (k := 4) rfl (by exact dn_s c_13) (by decide) rfl (fun ls hl => ?_)
    refine lv_goto (tgt := 11) hx hb dL_answer_31 (by decide) ?_
    refine W.widen (k := 0) (n := 0) (Nat.le_refl _) (Nat.le_refl _) ?_
    exact ih_11 (u + 1) _ _ _ (show (u + 1) ≤ 32 from (by omega)) (show 32 - (u + 1) < 32 - u by omega) hP hD hS (lv_sub hl [2, 3, 1, 4, 0] rfl)

set_option maxHeartbeats 4000000 in
set_option maxRecDepth 100000 in
theorem c_L_rest (l : Launch) (D : va_G) (cI cJ cO : ClassId) (df sz : Nat) (v : Int32)  : MetI l yL_rest wsL_rest ({ frames := 0, cells := 0, slots := 0, locals := 0 } : Room) D (gTY cI cJ cO) df [] sz [.int v] (fun (r : Int32) (wZ : va_W) => wZ = [] ∧ r = rs97 v) := by
  refine g_of (cc := cL_rest) (nL := 1) (ret := (some .int)) (D := D) (TY := (gTY cI cJ cO)) (df := df) (Qc := fun A => va_Qi (fun (r : Int32) (wZ : va_W) => wZ = [] ∧ r = rs97 v) (gB D (gTY cI cJ cO) A) A) (by decide +kernel) rfl (Nat.le_of_ble_eq_true rfl) ?_
  intro p e s m below meth c ls A hsz C0 hin hl
  obtain ⟨CF, hr, hlk, hA, hS, hP, hK, hD, hV, hH⟩ := C0
  have CF : CallFix p m c cL_rest 1 s _ wsL_rest RL := CF
  obtain ⟨hx, hb, hml, hown, hts⟩ := id CF
  subst hsz
  have hP : va_P D ccl [] s.heap := hP
  have hl : lv_has ls 1 [(0, .int v)] := hl
  refine lv_iload_n hx hb dL_rest_0 rfl (lv_at hl 0 rfl) ?_
  refine lv_bipush (v := 97) hx hb dL_rest_1 (by decide) ?_
  refine lv_irem hx hb dL_rest_3 (by decide) ?_
  refine lv_if_ge (tgt := 17) hx hb dL_rest_4 (by decide) (fun c_4 => ?_) (fun c_4 => ?_)
  · refine lv_iload_n hx hb dL_rest_17 rfl (lv_at hl 0 rfl) ?_
    refine lv_bipush (v := 97) hx hb dL_rest_18 (by decide) ?_
    refine lv_irem hx hb dL_rest_20 (by decide) ?_
    refine g_iret (v := v - v / 97 * 97) hx hb hr hlk hP hK hD hS (Nat.le_of_ble_eq_true rfl) (Nat.le_of_ble_eq_true rfl) dL_rest_21 ?_
    have e0 : (0 : Int32).toInt = 0 := by decide
    have hm := (qr_toInt (x := v) (y := 97) (by rw [i97]; decide)).2.2
    rw [i97] at hm
    rw [Int32.le_iff_toInt_le, hm, e0] at c_4
    have t1 := Int.tmod_add_mul_tdiv v.toInt 97
    have t2 : v.toInt.tmod 97 < 97 := Int.tmod_lt_of_pos _ (by decide)
    have t3 : -97 < v.toInt.tmod 97 := Int.lt_tmod_of_pos _ (by decide)
    exact ⟨rfl, by
      rw [← Int32.toInt_inj, rs97_toInt]
      rw [hm]; omega⟩
  · refine lv_iload_n hx hb dL_rest_7 rfl (lv_at hl 0 rfl) ?_
    refine lv_bipush (v := 97) hx hb dL_rest_8 (by decide) ?_
    refine lv_irem hx hb dL_rest_10 (by decide) ?_
    refine lv_bipush (v := 97) hx hb dL_rest_11 (by decide) ?_
    refine lv_iadd hx hb dL_rest_13 ?_
    refine lv_goto (tgt := 21) hx hb dL_rest_14 (by decide) ?_
    refine g_iret (v := (v - v / 97 * 97) + 97) hx hb hr hlk hP hK hD hS (Nat.le_of_ble_eq_true rfl) (Nat.le_of_ble_eq_true rfl) dL_rest_21 ?_
    have e0 : (0 : Int32).toInt = 0 := by decide
    have hm := (qr_toInt (x := v) (y := 97) (by rw [i97]; decide)).2.2
    rw [i97] at hm
    rw [Int32.le_iff_toInt_le, hm, e0] at c_4
    have t1 := Int.tmod_add_mul_tdiv v.toInt 97
    have t2 : v.toInt.tmod 97 < 97 := Int.tmod_lt_of_pos _ (by decide)
    have t3 : -97 < v.toInt.tmod 97 := Int.lt_tmod_of_pos _ (by decide)
    exact ⟨rfl, by
      rw [← Int32.toInt_inj, rs97_toInt]
      rw [fb_addI (by rw [hm, i97]; omega) (by rw [hm, i97]; omega), hm, i97]; omega⟩

set_option maxHeartbeats 4000000 in
set_option maxRecDepth 100000 in
theorem c_L_sifted (l : Launch) (D : va_G) (cI cJ cO : ClassId) (df sz : Nat) (kt : Nat) (kp : Nat) (km : Nat) (tf : Nat → Int32) (mp : Nat → Int32) (N : Nat) (C : Nat) (K : Nat) (Y : Nat) (B : Nat) (ht : isR tf 32) (hp : isR mp 64) (hY : Y ≤ 64) (hB : B < 1000) : MetI l yL_sifted wsL_sifted ({ frames := 0, cells := 0, slots := 0, locals := 0 } : Room) D (gTY cI cJ cO) df [(kt, .inl (cI, 32, .inl tf)), (kp, .inl (cI, 64, .inl mp)), (km, .inl (cI, 4, .inl (mF N C K Y)))] sz [.ref kt, .ref kp, .ref km, .int (nI B)] (fun (r : Int32) (wZ : va_W) => wZ = [(kt, .inl (cI, 32, .inl tf)), (kp, .inl (cI, 64, .inl mp)), (km, .inl (cI, 4, .inl (mF N C K Y)))] ∧ r = (if B < Y then nI (ssum tf mp B Y 32) else -1)) := by
  refine g_of (cc := cL_sifted) (nL := 6) (ret := (some .int)) (D := D) (TY := (gTY cI cJ cO)) (df := df) (Qc := fun A => va_Qi (fun (r : Int32) (wZ : va_W) => wZ = [(kt, .inl (cI, 32, .inl tf)), (kp, .inl (cI, 64, .inl mp)), (km, .inl (cI, 4, .inl (mF N C K Y)))] ∧ r = (if B < Y then nI (ssum tf mp B Y 32) else -1)) (gB D (gTY cI cJ cO) A) A) (by decide +kernel) rfl (Nat.le_of_ble_eq_true rfl) ?_
  intro p e s m below meth c ls A hsz C0 hin hl
  obtain ⟨CF, hr, hlk, hA, hS, hP, hK, hD, hV, hH⟩ := C0
  have CF : CallFix p m c cL_sifted 6 s _ wsL_sifted RL := CF
  obtain ⟨hx, hb, hml, hown, hts⟩ := id CF
  subst hsz
  have hP : va_P D ccl [(kt, .inl (cI, 32, .inl tf)), (kp, .inl (cI, 64, .inl mp)), (km, .inl (cI, 4, .inl (mF N C K Y)))] s.heap := hP
  have hl : lv_has ls 6 [(0, .ref kt), (1, .ref kp), (2, .ref km), (3, .int (nI B))] := hl
  refine lv_iconst (v := 0) hx hb dL_sifted_0 (by decide) ?_
  refine lv_istore (lv' := [(4, .int 0), (0, .ref kt), (1, .ref kp), (2, .ref km), (3, .int (nI B))]) hx hb dL_sifted_1 hl (by decide) rfl (fun ls hl => ?_)
  refine lv_iload_n hx hb dL_sifted_3 rfl (lv_at hl 4 rfl) ?_
  refine lv_istore (lv' := [(5, .int (nI B)), (4, .int 0), (0, .ref kt), (1, .ref kp), (2, .ref km), (3, .int (nI B))]) hx hb dL_sifted_4 hl (by decide) rfl (fun ls hl => ?_)
  refine W.widen (k := 0) (n := 0) (Nat.le_refl _) (Nat.le_refl _) ?_
  refine g_while (σ := Nat) (st := []) (nL := 6) (fun i => [(kt, .inl (cI, 32, .inl tf)), (kp, .inl (cI, 64, .inl mp)), (km, .inl (cI, 4, .inl (mF N C K Y)))])
    (fun i => [(0, .ref kt), (1, .ref kp), (2, .ref km), (3, .int (nI B)), (4, .int (nI (csum tf (fun j => gN (mp (B + j))) i))), (5, .int (nI (B + i)))])
    (fun i => i ≤ 32 ∧ (i = 0 ∨ B + i ≤ Y))
    (fun i => 32 - i) (fun i => 0) (fun i => 0)
    ?_ 0 ⟨Nat.zero_le _, Or.inl rfl⟩ hP hD hS (lv_sub hl [2, 3, 4, 5, 1, 0] rfl)
  intro i hI H locs ls hP hD hS hl ih
  have hI : i ≤ 32 ∧ (i = 0 ∨ B + i ≤ Y) := hI
  have hP : va_P D ccl [(kt, .inl (cI, 32, .inl tf)), (kp, .inl (cI, 64, .inl mp)), (km, .inl (cI, 4, .inl (mF N C K Y)))] H := hP
  have hD : va_D A [(kt, .inl (cI, 32, .inl tf)), (kp, .inl (cI, 64, .inl mp)), (km, .inl (cI, 4, .inl (mF N C K Y)))] := hD
  have hl : lv_has ls 6 [(0, .ref kt), (1, .ref kp), (2, .ref km), (3, .int (nI B)), (4, .int (nI (csum tf (fun j => gN (mp (B + j))) i))), (5, .int (nI (B + i)))] := hl
  change W p l e _ s m _ below meth c H locs 0 0 _ (F0 m 6 ls [])
  have ih_6 := ih
  clear ih
  obtain ⟨hi, hiY⟩ := hI
  refine lv_iload hx hb dL_sifted_6 (lv_at hl 5 rfl) ?_
  refine lv_aload_n hx hb dL_sifted_8 rfl (lv_at hl 2 rfl) ?_
  refine lv_iconst (v := 3) hx hb dL_sifted_9 (by decide) ?_
  refine va_iald hx hb hK hP 2 0 rfl rfl (by unfold vp_in; decide) dL_sifted_10 ?_
  refine lv_topi (fun f ef => ?_)
  obtain rfl : f = (mF N C K Y) 3 := ef.trans (congrArg (mF N C K Y) (show (3 : Int32).toNatClampNeg = 3 by decide))
  refine lv_topi (fun f ef => ?_)
  obtain rfl : f = nI Y := ef.trans (rfl)
  refine lv_icmp_ge (tgt := 45) hx hb dL_sifted_11 (by decide) (fun c_11 => ?_) (fun c_11 => ?_)
  · have c_11 : Y ≤ B + i := g_le (a := Y) (b := B + i) c_11 (by omega) (by omega)
    refine lv_iload_n hx hb dL_sifted_45 rfl (lv_at hl 3 rfl) ?_
    refine lv_aload_n hx hb dL_sifted_46 rfl (lv_at hl 2 rfl) ?_
    refine lv_iconst (v := 3) hx hb dL_sifted_47 (by decide) ?_
    refine va_iald hx hb hK hP 2 0 rfl rfl (by unfold vp_in; decide) dL_sifted_48 ?_
    refine lv_topi (fun f ef => ?_)
    obtain rfl : f = (mF N C K Y) 3 := ef.trans (congrArg (mF N C K Y) (show (3 : Int32).toNatClampNeg = 3 by decide))
    refine lv_topi (fun f ef => ?_)
    obtain rfl : f = nI Y := ef.trans (rfl)
    refine lv_icmp_ge (tgt := 60) hx hb dL_sifted_49 (by decide) (fun c_49 => ?_) (fun c_49 => ?_)
    · have c_49 : Y ≤ B := g_le (a := Y) (b := B) c_49 (by omega) (by omega)
      refine lv_iconst (v := (-1)) hx hb dL_sifted_60 (by decide) ?_
      refine g_iret (v := (-1)) hx hb hr hlk hP hK hD hS (Nat.le_of_ble_eq_true rfl) (Nat.le_of_ble_eq_true rfl) dL_sifted_61 ?_
      exact ⟨rfl, by rw [if_neg (by omega)]⟩
    · have c_49 : B < Y := g_nle (a := Y) (b := B) c_49 (by omega) (by omega)
      have hle : csum tf (fun j => gN (mp (B + j))) i ≤ 9216 * 32 := Nat.le_trans (csum_le (g := fun j => gN (mp (B + j))) (n := i) (k := i) (fun j hj => ht j (by omega)) (fun j hj => (hp (B + j) (by omega)).2) (Nat.le_refl i)) (by omega)
      refine lv_iload hx hb dL_sifted_52 (lv_at hl 4 rfl) ?_
      refine lv_bipush (v := 97) hx hb dL_sifted_54 (by decide) ?_
      refine lv_irem hx hb dL_sifted_56 (by decide) ?_
      refine lv_topi (fun f ef => ?_)
      obtain rfl : f = nI ((csum tf (fun j => gN (mp (B + j))) i) % 97) := ef.trans (pk_rem (a := csum tf (fun j => gN (mp (B + j))) i) (d := 97) (by omega) (by omega) (by omega))
      refine lv_goto (tgt := 61) hx hb dL_sifted_57 (by decide) ?_
      refine g_iret (v := nI ((csum tf (fun j => gN (mp (B + j))) i) % 97)) hx hb hr hlk hP hK hD hS (Nat.le_of_ble_eq_true rfl) (Nat.le_of_ble_eq_true rfl) dL_sifted_61 ?_
      exact ⟨rfl, by
        rw [if_pos (by omega), csum_ssum (Y := Y) (by omega)]
        by_cases hi9 : i = 32
        · rw [hi9]
        · have h9 := ssum_stop (f := tf) (g := mp) (B := B) (Y := Y) (i := i) (by omega) (32 - i)
          rw [show i + (32 - i) = 32 by omega] at h9
          rw [h9]⟩
  · have c_11 : B + i < Y := g_nle (a := Y) (b := B + i) c_11 (by omega) (by omega)
    refine lv_iload hx hb dL_sifted_14 (lv_at hl 5 rfl) ?_
    refine lv_iload_n hx hb dL_sifted_16 rfl (lv_at hl 3 rfl) ?_
    refine lv_bipush (v := 32) hx hb dL_sifted_17 (by decide) ?_
    refine lv_iadd hx hb dL_sifted_19 ?_
    refine lv_topi (fun f ef => ?_)
    obtain rfl : f = nI (B + 32) := ef.trans (nI_add _ _)
    refine lv_icmp_ge (tgt := 45) hx hb dL_sifted_20 (by decide) (fun c_20 => ?_) (fun c_20 => ?_)
    · have c_20 : B + 32 ≤ B + i := g_le (a := B + 32) (b := B + i) c_20 (by omega) (by omega)
      refine lv_iload_n hx hb dL_sifted_45 rfl (lv_at hl 3 rfl) ?_
      refine lv_aload_n hx hb dL_sifted_46 rfl (lv_at hl 2 rfl) ?_
      refine lv_iconst (v := 3) hx hb dL_sifted_47 (by decide) ?_
      refine va_iald hx hb hK hP 2 0 rfl rfl (by unfold vp_in; decide) dL_sifted_48 ?_
      refine lv_topi (fun f ef => ?_)
      obtain rfl : f = (mF N C K Y) 3 := ef.trans (congrArg (mF N C K Y) (show (3 : Int32).toNatClampNeg = 3 by decide))
      refine lv_topi (fun f ef => ?_)
      obtain rfl : f = nI Y := ef.trans (rfl)
      refine lv_icmp_ge (tgt := 60) hx hb dL_sifted_49 (by decide) (fun c_49 => ?_) (fun c_49 => ?_)
      · have c_49 : Y ≤ B := g_le (a := Y) (b := B) c_49 (by omega) (by omega)
        refine lv_iconst (v := (-1)) hx hb dL_sifted_60 (by decide) ?_
        refine g_iret (v := (-1)) hx hb hr hlk hP hK hD hS (Nat.le_of_ble_eq_true rfl) (Nat.le_of_ble_eq_true rfl) dL_sifted_61 ?_
        exact ⟨rfl, by rw [if_neg (by omega)]⟩
      · have c_49 : B < Y := g_nle (a := Y) (b := B) c_49 (by omega) (by omega)
        have hle : csum tf (fun j => gN (mp (B + j))) i ≤ 9216 * 32 := Nat.le_trans (csum_le (g := fun j => gN (mp (B + j))) (n := i) (k := i) (fun j hj => ht j (by omega)) (fun j hj => (hp (B + j) (by omega)).2) (Nat.le_refl i)) (by omega)
        refine lv_iload hx hb dL_sifted_52 (lv_at hl 4 rfl) ?_
        refine lv_bipush (v := 97) hx hb dL_sifted_54 (by decide) ?_
        refine lv_irem hx hb dL_sifted_56 (by decide) ?_
        refine lv_topi (fun f ef => ?_)
        obtain rfl : f = nI ((csum tf (fun j => gN (mp (B + j))) i) % 97) := ef.trans (pk_rem (a := csum tf (fun j => gN (mp (B + j))) i) (d := 97) (by omega) (by omega) (by omega))
        refine lv_goto (tgt := 61) hx hb dL_sifted_57 (by decide) ?_
        refine g_iret (v := nI ((csum tf (fun j => gN (mp (B + j))) i) % 97)) hx hb hr hlk hP hK hD hS (Nat.le_of_ble_eq_true rfl) (Nat.le_of_ble_eq_true rfl) dL_sifted_61 ?_
        exact ⟨rfl, by
          rw [if_pos (by omega), csum_ssum (Y := Y) (by omega)]
          by_cases hi9 : i = 32
          · rw [hi9]
          · have h9 := ssum_stop (f := tf) (g := mp) (B := B) (Y := Y) (i := i) (by omega) (32 - i)
            rw [show i + (32 - i) = 32 by omega] at h9
            rw [h9]⟩
    · have c_20 : B + i < B + 32 := g_nle (a := B + 32) (b := B + i) c_20 (by omega) (by omega)
      refine lv_iload hx hb dL_sifted_23 (lv_at hl 4 rfl) ?_
      refine lv_aload_n hx hb dL_sifted_25 rfl (lv_at hl 0 rfl) ?_
      refine lv_iload hx hb dL_sifted_26 (lv_at hl 5 rfl) ?_
      refine lv_iload_n hx hb dL_sifted_28 rfl (lv_at hl 3 rfl) ?_
      refine lv_isub hx hb dL_sifted_29 ?_
      refine lv_topi (fun f ef => ?_)
      obtain rfl : f = nI i := ef.trans ((pk_sub (a := B + i) (b := B) (by omega)).trans (by rw [Nat.add_sub_cancel_left]))
      refine va_iald hx hb hK hP 0 0 rfl rfl (vp_in_nI (by omega) (by omega)) dL_sifted_30 ?_
      refine lv_topi (fun f ef => ?_)
      obtain rfl : f = tf i := ef.trans (congrArg tf (nI_clamp (n := i) (by omega)))
      refine lv_topi (fun f ef => ?_)
      obtain rfl : f = nI (gN (tf i)) := ef.trans ((ht i (by omega)).1)
      refine lv_aload_n hx hb dL_sifted_31 rfl (lv_at hl 1 rfl) ?_
      refine lv_iload hx hb dL_sifted_32 (lv_at hl 5 rfl) ?_
      refine va_iald hx hb hK hP 1 0 rfl rfl (vp_in_nI (by omega) (by omega)) dL_sifted_34 ?_
      refine lv_topi (fun f ef => ?_)
      obtain rfl : f = mp (B + i) := ef.trans (congrArg mp (nI_clamp (n := B + i) (by omega)))
      refine lv_topi (fun f ef => ?_)
      obtain rfl : f = nI (gN (mp (B + i))) := ef.trans ((hp (B + i) (by omega)).1)
      have hle := csum_le (g := fun j => gN (mp (B + j))) (n := i + 1) (k := i) (fun j hj => ht j (by omega)) (fun j hj => (hp (B + j) (by omega)).2) (by omega)
      have hm9 := mul97 (ht i (by omega)).2 (hp (B + i) (by omega)).2
      refine lv_imul hx hb dL_sifted_35 ?_
      refine lv_topi (fun f ef => ?_)
      obtain rfl : f = nI ((gN (tf i)) * (gN (mp (B + i)))) := ef.trans (pk_mul _ _)
      refine lv_iadd hx hb dL_sifted_36 ?_
      refine lv_topi (fun f ef => ?_)
      obtain rfl : f = nI (csum tf (fun j => gN (mp (B + j))) (i + 1)) := ef.trans (nI_add _ _)
      refine lv_istore (lv' := [(4, .int (nI (csum tf (fun j => gN (mp (B + j))) (i + 1)))), (0, .ref kt), (1, .ref kp), (2, .ref km), (3, .int (nI B)), (5, .int (nI (B + i)))]) hx hb dL_sifted_37 hl (by decide) rfl (fun ls hl => ?_)
      refine lv_iinc (v := nI ((B + i) + 1)) (lv' := [(5, .int (nI ((B + i) + 1))), (4, .int (nI (csum tf (fun j => gN (mp (B + j))) (i + 1)))), (0, .ref kt), (1, .ref kp), (2, .ref km), (3, .int (nI B))]) hx hb dL_sifted_39 hl (k := 5) rfl (by exact nI_1 _) (by decide) rfl (fun ls hl => ?_)
      refine lv_goto (tgt := 6) hx hb dL_sifted_42 (by decide) ?_
      refine W.widen (k := 0) (n := 0) (Nat.le_refl _) (Nat.le_refl _) ?_
      exact ih_6 (i + 1) _ _ _ (show (i + 1) ≤ 32 ∧ ((i + 1) = 0 ∨ B + (i + 1) ≤ Y) from (by exact ⟨by omega, Or.inr (by omega)⟩)) (show 32 - (i + 1) < 32 - i by omega) hP hD hS (lv_sub hl [2, 3, 4, 5, 1, 0] rfl)
