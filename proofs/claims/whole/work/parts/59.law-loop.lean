/-! THE CLAIM OUT OF ONE WALK OF THE LAW'S BODY. Your part is whole_start (and what it stands on); all else here is the same for every law, but numbers. -/
def R_law : String := "TapLoomLaw"
def lw_P (b : Addr) (xs : List Int32) (args : Array Value) (s : State) : Prop := args = #[.ref b] ∧ s.IntsAt b xs ∧ xs.length ≤ 2048 ∧ (Jvm.Cond.and given_1 narrow_1).before args s = true
def lw_Q (_ : Array Value) (s : State) (o : Outcome) (t : State) : Prop := o = .returned (some (.int 1)) ∧ Framed s o t [] 601024 7293034
def lw_Z (below : List Frame) (a : Array Value) (s : State) : State → Prop := fun t => ∃ o, t.status = .running ∧ Ended t below o ∧ lw_Q a s o t
/-- the law's own end, with 1 on the stack, nothing written that was there before, its room as the claim has it -/
theorem lw_ret {p : Program} {l : Launch} {e : Env} {s : State} {m : MethodId} {below : List Frame} {meth : Method} {c : Code} {b : Nat} (hx : p.tables.exec = Jvm.exec) (hb : c.code = code) (hr : meth.sig.returnType = ret) (hlocks : meth.locks = false) {pc : Nat} {H : Heap} {ls : Array Slot} (hdg : decode code pc = .ok (.ireturn, 1)) : W p l e room_1 s m #[Value.ref b] below meth c H [] 601024 7293034 (lw_Z below #[Value.ref b] s) (F0 m pc ls [.int 1]) := by
  intro T hT X
  obtain ⟨fs, hret, hrun, hended, hW, hframe⟩ := X.leave (v := some (.int 1)) (hlocks := hlocks) (fun h => by rw [hr] at h; cases h)
  have hmeth' : T.vm.method? m = some meth := X.method'
  refine ⟨T.setFrames fs, ?_, .returned (some (.int 1)), hrun, hended, rfl, ⟨_, rfl⟩, hW, hframe⟩
  jvm_step X.here [X.here.top, hx, hb, hdg, hmeth', hr, ret, narrow_b1]
  (try refine ⟨rfl, ?_⟩); (try refine ⟨rfl, ?_⟩)
  first | (intro acts; rw [hret _ acts rfl rfl rfl]) | rw [hret _ _ rfl rfl rfl]
  exact Steps.refl _
/-- what holds at the law's entry: the machine, the code, the tables' words (any of lw_tbl by 'hts w (by decide +kernel)'), the script of L ints xs at the cell b, what the Statement gives of the start (any of its parts by flat_of_before) -/
def lw_At (p : Program) (s : State) (m : MethodId) (meth : Method) (c : Code) (b L : Nat) (xs : Nat → Int32) : Prop :=
  p.tables.exec = Jvm.exec ∧ c.code = code ∧ meth.sig.returnType = ret ∧ c.maxLocals = 8 ∧ s.vm.findClass R_law = some m.cls ∧ (∀ w ∈ lw_tbl, w.before #[Value.ref b] s = true) ∧ va_X b L xs s s.heap ∧ b < s.heap.size ∧ meth.locks = false ∧ (Jvm.Cond.and given_1 narrow_1).before #[Value.ref b] s = true
section LWL
variable {p : Program} {l : Launch} {e : Env} {s : State} {m : MethodId} {below : List Frame} {meth : Method} {c : Code} {D : va_G} {cI cJ cO : ClassId} {df b L t0 o : Nat} {M : Nat → Nat} {xs : Nat → Int32} {H : Heap} {locs : List Loc} {ls : Array Slot}
set_option maxHeartbeats 4000000 in
set_option maxRecDepth 100000 in
theorem lw_loop (C9 : lwC p l s m c D cI cJ cO df b L xs (fun q : Nat => s.heap.size ≤ q)) (hr : meth.sig.returnType = ret) (hlk : meth.locks = false) {W0 : va_W} (hLI : LI cI cJ cO df t0 M o W0) (hP : va_P D ccl W0 H) (hD : va_D (fun q : Nat => s.heap.size ≤ q) W0) (hS : va_S (fun q : Nat => s.heap.size ≤ q) s.heap H locs) (hl : lv_has ls 8 [(0, .ref b), (1, .ref t0), (2, .ref (M 0)), (3, .ref o), (4, .int (nI (4 * 0)))]) : W p l e room_1 s m #[Value.ref b] below meth c H locs (40) (90000) (lw_Z below #[Value.ref b] s) (F0 m 23 ls []) := by
  obtain ⟨CF, hfl, hA, hbA, hbl, hX, hK, hV, hH, hL⟩ := id C9
  obtain ⟨hx, hb, hml, hown, hts⟩ := id CF
  refine W.widen (k := 40 + 6 * 0) (n := 90000 + 40 * 0) (by omega) (by omega) ?_
  refine g_while (σ := va_W × Nat) (st := []) (nL := 8) (fun z => z.1) (fun z => [(0, .ref b), (1, .ref t0), (2, .ref (M 0)), (3, .ref o), (4, .int (nI (4 * z.2)))]) (fun z => LI cI cJ cO df t0 M o z.1 ∧ z.2 ≤ 512) (fun z => 513 - z.2) (fun z => 40 + 6 * z.2) (fun z => 90000 + 40 * z.2) ?_ (W0, 0) ⟨hLI, by omega⟩ hP hD hS hl
  rintro ⟨W0, I⟩ hI H locs ls hP hD hS hl ih
  obtain ⟨hLI, hI5⟩ := hI
  replace hI5 : I ≤ 512 := hI5
  replace hLI : LI cI cJ cO df t0 M o W0 := hLI
  have hl : lv_has ls 8 [(0, .ref b), (1, .ref t0), (2, .ref (M 0)), (3, .ref o), (4, .int (nI (4 * I)))] := hl
  change W p l e room_1 s m #[Value.ref b] below meth c H locs (40 + 6 * I) (90000 + 40 * I) (lw_Z below #[Value.ref b] s) (F0 m 23 ls [])
  have kont : I + 1 ≤ 512 → ∀ (W1 : va_W) (H1 : Heap) (locs1 : List Loc) (ls1 : Array Slot), LI cI cJ cO df t0 M o W1 → va_P D ccl W1 H1 → va_D (fun q : Nat => s.heap.size ≤ q) W1 → va_S (fun q : Nat => s.heap.size ≤ q) s.heap H1 locs1 → lv_has ls1 8 [(0, .ref b), (1, .ref t0), (2, .ref (M 0)), (3, .ref o), (4, .int (nI (4 * I)))] → W p l e room_1 s m #[Value.ref b] below meth c H1 locs1 (40 + 6 * I + 6) (90000 + 40 * I + 40) (lw_Z below #[Value.ref b] s) (F0 m 1205 ls1 []) := by
    intro hI6 W1 H1 locs1 ls1 hLI1 hP1 hD1 hS1 hl1
    refine lv_iinc (v := nI (4 * I + 4)) (lv' := [(4, .int (nI (4 * I + 4))), (0, .ref b), (1, .ref t0), (2, .ref (M 0)), (3, .ref o)]) hx hb dL_law_1205 hl1 (k := 4) rfl (by exact nI_add _ 4) (by decide) rfl (fun ls hl => ?_)
    refine lv_goto (tgt := 23) hx hb dL_law_1208 (by decide) ?_
    refine W.widen (k := 40 + 6 * (I + 1)) (n := 90000 + 40 * (I + 1)) (by omega) (by omega) ?_
    exact ih (W1, I + 1) H1 locs1 ls ⟨hLI1, hI6⟩ (show 513 - (I + 1) < 513 - I by omega) hP1 hD1 hS1 (lv_sub hl [1, 2, 3, 4, 0] rfl)
  clear ih
  obtain ⟨g, w, N, mc, ms, mw, C, mo, K, mu, Y, rw0, tf, qf, mp, mf, ma, cy, lo, gr, ov, un, la, rfl, hCL, hW⟩ := hLI
  have hP : va_P D ccl (([(o, .inl (cJ, 1, .inr (.inl g))), (M 0, .inr (8, [.ref (M 1), .ref (M 2), .ref (M 3), .int (nI N), .ref (M 4), .int (nI C), .ref (M 5), .int (nI K), .ref (M 6), .ref (M 7), .ref (M 8), .int (nI Y), .ref (M 9), .ref (M 10), .int cy, .int lo, .int gr, .long ov, .long un, .int la])), (M 1, .inl (cI, 40, .inl mc)), (M 2, .inl (cI, 32, .inl ms)), (M 3, .inl (cI, 8, .inl mw)), (M 4, .inl (cI, 8, .inl mo)), (M 5, .inl (cI, 16, .inl mu)), (M 6, .inl (cI, 32, .inl tf)), (M 7, .inl (cI, 32, .inl qf)), (M 8, .inl (cI, 64, .inl mp)), (M 9, .inl (cI, 40401, .inl mf)), (M 10, .inl (cI, 40401, .inl ma))] : va_W) ++ w) H := hP
  have hD : va_D (fun q : Nat => s.heap.size ≤ q) (([(o, .inl (cJ, 1, .inr (.inl g))), (M 0, .inr (8, [.ref (M 1), .ref (M 2), .ref (M 3), .int (nI N), .ref (M 4), .int (nI C), .ref (M 5), .int (nI K), .ref (M 6), .ref (M 7), .ref (M 8), .int (nI Y), .ref (M 9), .ref (M 10), .int cy, .int lo, .int gr, .long ov, .long un, .int la])), (M 1, .inl (cI, 40, .inl mc)), (M 2, .inl (cI, 32, .inl ms)), (M 3, .inl (cI, 8, .inl mw)), (M 4, .inl (cI, 8, .inl mo)), (M 5, .inl (cI, 16, .inl mu)), (M 6, .inl (cI, 32, .inl tf)), (M 7, .inl (cI, 32, .inl qf)), (M 8, .inl (cI, 64, .inl mp)), (M 9, .inl (cI, 40401, .inl mf)), (M 10, .inl (cI, 40401, .inl ma))] : va_W) ++ w) := hD
  refine lv_iload hx hb dL_law_23 (lv_at hl 4 rfl) ?_
  refine lv_aload_n hx hb dL_law_25 rfl (lv_at hl 0 rfl) ?_
  refine va_slen hx hb hX hbl hbA hS dL_law_26 ?_
  refine lv_iconst (v := 4) hx hb dL_law_27 (by decide) ?_
  refine lv_isub hx hb dL_law_28 ?_
  refine lv_icmp_gt (tgt := 1211) hx hb dL_law_29 (by decide) (fun c_29 => ?_) (fun c_29 => ?_)
  · refine lv_iconst (v := 1) hx hb dL_law_1211 (by decide) ?_
    refine va_forget (fun q hq => hS.2.2 q hq) ?_
    refine W.widen (k := 601024) (n := 7293034) (show 40 + 6 * I ≤ _ by omega) (show 90000 + 40 * I ≤ _ by omega) ?_
    exact lw_ret hx hb hr hlk dL_law_1212
  · have h4 := lw_gt (by omega) hL c_29
    have kont := kont (by omega)
    refine lv_aload_n hx hb dL_law_32 rfl (lv_at hl 0 rfl) ?_
    refine lv_iload hx hb dL_law_33 (lv_at hl 4 rfl) ?_
    refine va_sld hx hb hX hbl hbA hS (vp_in_nI (n := 4 * I) (by omega) (by omega)) dL_law_35 ?_
    refine lv_topi (fun f ef => ?_)
    obtain rfl : f = xs (4 * I) := ef.trans (congrArg xs (nI_clamp (n := 4 * I) (by omega)))
    refine lv_bipush (v := 31) hx hb dL_law_36 (by decide) ?_
    refine lv_iand hx hb dL_law_38 ?_
    by_cases s_39_0 : (xs (4 * I)) &&& 31 = 0
    · have c_39_0 := s_39_0
      refine lv_tableIn (off := 89) (tgt := 128) hx hb dL_law_39 (by rw [s_39_0]; decide) (by rw [s_39_0]; decide) (by rw [s_39_0]; rfl) (by decide) ?_
      exact lw_section C9 h4 hCL hW hP hD hS hl kont
    have c_39_0 := s_39_0
    by_cases s_39_1 : (xs (4 * I)) &&& 31 = 1
    · have c_39_1 := s_39_1
      refine lv_tableIn (off := 145) (tgt := 184) hx hb dL_law_39 (by rw [s_39_1]; decide) (by rw [s_39_1]; decide) (by rw [s_39_1]; rfl) (by decide) ?_
      exact lw_set C9 h4 hCL hW hP hD hS hl kont
    have c_39_1 := s_39_1
    by_cases s_39_2 : (xs (4 * I)) &&& 31 = 2
    · have c_39_2 := s_39_2
      refine lv_tableIn (off := 225) (tgt := 264) hx hb dL_law_39 (by rw [s_39_2]; decide) (by rw [s_39_2]; decide) (by rw [s_39_2]; rfl) (by decide) ?_
      exact lw_chain C9 h4 hCL hW hP hD hS hl kont
    have c_39_2 := s_39_2
    by_cases s_39_3 : (xs (4 * I)) &&& 31 = 3
    · have c_39_3 := s_39_3
      refine lv_tableIn (off := 281) (tgt := 320) hx hb dL_law_39 (by rw [s_39_3]; decide) (by rw [s_39_3]; decide) (by rw [s_39_3]; rfl) (by decide) ?_
      exact lw_arrange C9 h4 hCL hW hP hD hS hl kont
    have c_39_3 := s_39_3
    by_cases s_39_4 : (xs (4 * I)) &&& 31 = 4
    · have c_39_4 := s_39_4
      refine lv_tableIn (off := 294) (tgt := 333) hx hb dL_law_39 (by rw [s_39_4]; decide) (by rw [s_39_4]; decide) (by rw [s_39_4]; rfl) (by decide) ?_
      exact lw_run C9 h4 hCL hW hP hD hS hl kont
    have c_39_4 := s_39_4
    by_cases s_39_5 : (xs (4 * I)) &&& 31 = 5
    · have c_39_5 := s_39_5
      refine lv_tableIn (off := 350) (tgt := 389) hx hb dL_law_39 (by rw [s_39_5]; decide) (by rw [s_39_5]; decide) (by rw [s_39_5]; rfl) (by decide) ?_
      exact lw_rest C9 h4 hCL hW hP hD hS hl kont
    have c_39_5 := s_39_5
    by_cases s_39_6 : (xs (4 * I)) &&& 31 = 6
    · have c_39_6 := s_39_6
      refine lv_tableIn (off := 363) (tgt := 402) hx hb dL_law_39 (by rw [s_39_6]; decide) (by rw [s_39_6]; decide) (by rw [s_39_6]; rfl) (by decide) ?_
      exact lw_tap C9 h4 hCL hW hP hD hS hl kont
    have c_39_6 := s_39_6
    by_cases s_39_7 : (xs (4 * I)) &&& 31 = 7
    · have c_39_7 := s_39_7
      refine lv_tableIn (off := 431) (tgt := 470) hx hb dL_law_39 (by rw [s_39_7]; decide) (by rw [s_39_7]; decide) (by rw [s_39_7]; rfl) (by decide) ?_
      exact lw_ask C9 h4 hCL hW hP hD hS hl kont
    have c_39_7 := s_39_7
    by_cases s_39_8 : (xs (4 * I)) &&& 31 = 8
    · have c_39_8 := s_39_8
      refine lv_tableIn (off := 499) (tgt := 538) hx hb dL_law_39 (by rw [s_39_8]; decide) (by rw [s_39_8]; decide) (by rw [s_39_8]; rfl) (by decide) ?_
      exact lw_design C9 h4 hCL hW hP hD hS hl kont
    have c_39_8 := s_39_8
    by_cases s_39_9 : (xs (4 * I)) &&& 31 = 9
    · have c_39_9 := s_39_9
      refine lv_tableIn (off := 512) (tgt := 551) hx hb dL_law_39 (by rw [s_39_9]; decide) (by rw [s_39_9]; decide) (by rw [s_39_9]; rfl) (by decide) ?_
      exact lw_sample C9 h4 hCL hW hP hD hS hl kont
    have c_39_9 := s_39_9
    by_cases s_39_10 : (xs (4 * I)) &&& 31 = 10
    · have c_39_10 := s_39_10
      refine lv_tableIn (off := 568) (tgt := 607) hx hb dL_law_39 (by rw [s_39_10]; decide) (by rw [s_39_10]; decide) (by rw [s_39_10]; rfl) (by decide) ?_
      exact lw_of C9 h4 hCL hW hP hD hS hl kont
    have c_39_10 := s_39_10
    by_cases s_39_11 : (xs (4 * I)) &&& 31 = 11
    · have c_39_11 := s_39_11
      refine lv_tableIn (off := 636) (tgt := 675) hx hb dL_law_39 (by rw [s_39_11]; decide) (by rw [s_39_11]; decide) (by rw [s_39_11]; rfl) (by decide) ?_
      exact lw_output C9 h4 hCL hW hP hD hS hl kont
    have c_39_11 := s_39_11
    by_cases s_39_12 : (xs (4 * I)) &&& 31 = 12
    · have c_39_12 := s_39_12
      refine lv_tableIn (off := 692) (tgt := 731) hx hb dL_law_39 (by rw [s_39_12]; decide) (by rw [s_39_12]; decide) (by rw [s_39_12]; rfl) (by decide) ?_
      exact lw_gain C9 h4 hCL hW hP hD hS hl kont
    have c_39_12 := s_39_12
    by_cases s_39_13 : (xs (4 * I)) &&& 31 = 13
    · have c_39_13 := s_39_13
      refine lv_tableIn (off := 775) (tgt := 814) hx hb dL_law_39 (by rw [s_39_13]; decide) (by rw [s_39_13]; decide) (by rw [s_39_13]; rfl) (by decide) ?_
      exact lw_meets C9 h4 hCL hW hP hD hS hl kont
    have c_39_13 := s_39_13
    by_cases s_39_14 : (xs (4 * I)) &&& 31 = 14
    · have c_39_14 := s_39_14
      refine lv_tableIn (off := 862) (tgt := 901) hx hb dL_law_39 (by rw [s_39_14]; decide) (by rw [s_39_14]; decide) (by rw [s_39_14]; rfl) (by decide) ?_
      exact lw_cycles C9 h4 hCL hW hP hD hS hl kont
    have c_39_14 := s_39_14
    by_cases s_39_15 : (xs (4 * I)) &&& 31 = 15
    · have c_39_15 := s_39_15
      refine lv_tableIn (off := 942) (tgt := 981) hx hb dL_law_39 (by rw [s_39_15]; decide) (by rw [s_39_15]; decide) (by rw [s_39_15]; rfl) (by decide) ?_
      exact lw_tapOf C9 h4 hCL hW hP hD hS hl kont
    have c_39_15 := s_39_15
    by_cases s_39_16 : (xs (4 * I)) &&& 31 = 16
    · have c_39_16 := s_39_16
      refine lv_tableIn (off := 998) (tgt := 1037) hx hb dL_law_39 (by rw [s_39_16]; decide) (by rw [s_39_16]; decide) (by rw [s_39_16]; rfl) (by decide) ?_
      exact lw_answer C9 h4 hCL hW hP hD hS hl kont
    have c_39_16 := s_39_16
    by_cases s_39_17 : (xs (4 * I)) &&& 31 = 17
    · have c_39_17 := s_39_17
      refine lv_tableIn (off := 1054) (tgt := 1093) hx hb dL_law_39 (by rw [s_39_17]; decide) (by rw [s_39_17]; decide) (by rw [s_39_17]; rfl) (by decide) ?_
      exact lw_answerAnew C9 h4 hCL hW hP hD hS hl kont
    have c_39_17 := s_39_17
    by_cases s_39_18 : (xs (4 * I)) &&& 31 = 18
    · have c_39_18 := s_39_18
      refine lv_tableIn (off := 1110) (tgt := 1149) hx hb dL_law_39 (by rw [s_39_18]; decide) (by rw [s_39_18]; decide) (by rw [s_39_18]; rfl) (by decide) ?_
      exact lw_sifted C9 h4 hCL hW hP hD hS hl kont
    have c_39_18 := s_39_18
    refine lv_tableOut (tgt := 1205) hx hb dL_law_39 (by have z0 := lv_neT (a := 0) s_39_0 (by decide); have z1 := lv_neT (a := 1) s_39_1 (by decide); have z2 := lv_neT (a := 2) s_39_2 (by decide); have z3 := lv_neT (a := 3) s_39_3 (by decide); have z4 := lv_neT (a := 4) s_39_4 (by decide); have z5 := lv_neT (a := 5) s_39_5 (by decide); have z6 := lv_neT (a := 6) s_39_6 (by decide); have z7 := lv_neT (a := 7) s_39_7 (by decide); have z8 := lv_neT (a := 8) s_39_8 (by decide); have z9 := lv_neT (a := 9) s_39_9 (by decide); have z10 := lv_neT (a := 10) s_39_10 (by decide); have z11 := lv_neT (a := 11) s_39_11 (by decide); have z12 := lv_neT (a := 12) s_39_12 (by decide); have z13 := lv_neT (a := 13) s_39_13 (by decide); have z14 := lv_neT (a := 14) s_39_14 (by decide); have z15 := lv_neT (a := 15) s_39_15 (by decide); have z16 := lv_neT (a := 16) s_39_16 (by decide); have z17 := lv_neT (a := 17) s_39_17 (by decide); have z18 := lv_neT (a := 18) s_39_18 (by decide); omega) (by decide) ?_
    refine W.widen (k := 40 + 6 * I + 6) (n := 90000 + 40 * I + 40) (by omega) (by omega) ?_
    exact kont _ _ _ _ ⟨g, w, N, mc, ms, mw, C, mo, K, mu, Y, rw0, tf, qf, mp, mf, ma, cy, lo, gr, ov, un, la, rfl, hCL, hW⟩ hP hD hS (lv_sub hl [0, 1, 2, 3, 4] rfl)
end LWL
