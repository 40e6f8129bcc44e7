/-! THE CLAIM OUT OF ONE WALK OF THE LAW'S BODY. Your part is whole_start (and what it stands on); all else here is the same for every law, but numbers. -/
def R_law : String := "TapLoomLaw"
def lw_P (b : Addr) (xs : List Int32) (args : Array Value) (s : State) : Prop := args = #[.ref b] ∧ s.IntsAt b xs ∧ xs.length ≤ 260 ∧ (Jvm.Cond.and given_1 narrow_1).before args s = true
def lw_Q (_ : Array Value) (s : State) (o : Outcome) (t : State) : Prop := o = .returned (some (.int 1)) ∧ Framed s o t [] 731727 6906288
def lw_Z (below : List Frame) (a : Array Value) (s : State) : State → Prop := fun t => ∃ o, t.status = .running ∧ Ended t below o ∧ lw_Q a s o t
/-- the law's own end, with 1 on the stack, nothing written that was there before, its room as the claim has it -/
theorem lw_ret {p : Program} {l : Launch} {e : Env} {s : State} {m : MethodId} {below : List Frame} {meth : Method} {c : Code} {b : Nat} (hx : p.tables.exec = Jvm.exec) (hb : c.code = code) (hr : meth.sig.returnType = ret) (hlocks : meth.locks = false) {pc : Nat} {H : Heap} {ls : Array Slot} (hdg : decode code pc = .ok (.ireturn, 1)) : W p l e room_1 s m #[Value.ref b] below meth c H [] 731727 6906288 (lw_Z below #[Value.ref b] s) (F0 m pc ls [.int 1]) := by
  intro T hT X
  obtain ⟨fs, hret, hrun, hended, hW, hframe⟩ := X.leave (v := some (.int 1)) (hlocks := hlocks) (fun h => by rw [hr] at h; cases h)
  have hmeth' : T.vm.method? m = some meth := X.method'
  refine ⟨T.setFrames fs, ?_, .returned (some (.int 1)), hrun, hended, rfl, ⟨_, rfl⟩, hW, hframe⟩
  jvm_step X.here [X.here.top, hx, hb, hdg, hmeth', hr, ret, narrow_b1]
  (try refine ⟨rfl, ?_⟩); (try refine ⟨rfl, ?_⟩)
  first | (intro acts; rw [hret _ acts rfl rfl rfl]) | rw [hret _ _ rfl rfl rfl]
  exact Steps.refl _
/-- what holds at the law's entry: the machine, the code, the tables' words (any of lw_tbl by 'hts w (by decide +kernel)'), the script of L ints xs at the cell b, what the Statement gives of the start (any of its parts by flat_of_before) -/
def lw_At (p : Program) (s : State) (m : MethodId) (meth : Method) (c : Code) (b L : Nat) (xs : Nat → Int32) : Prop :=
  p.tables.exec = Jvm.exec ∧ c.code = code ∧ meth.sig.returnType = ret ∧ c.maxLocals = 1 ∧ s.vm.findClass R_law = some m.cls ∧ (∀ w ∈ lw_tbl, w.before #[Value.ref b] s = true) ∧ va_X b L xs s s.heap ∧ b < s.heap.size ∧ meth.locks = false ∧ (Jvm.Cond.and given_1 narrow_1).before #[Value.ref b] s = true
theorem lw_strR {args : Array Value} {s : State} {k : Nat} {tx : String} (h1 : (Cond.stringRef "TapLoom" k tx).before args s = true) (h2 : (Cond.exactly (.string "TapLoom" k) "java/lang/String").before args s = true) : ∃ sa, vk_R "TapLoom" k tx sa s := by
  obtain ⟨a, -, -, -, ha, -⟩ := Cond.exactly_spec (args := args) (first := s) (o := none) (s := s) (idx := []) h2
  exact ⟨a, vk_R.of h1 ha⟩
theorem lw_gV {b : Nat} {s : State} (hts0 : ∀ w ∈ lw_tbl, w.before #[Value.ref b] s = true) (hq : ∀ w ∈ flatC (Jvm.Cond.and given_1 narrow_1), w.before #[Value.ref b] s = true) : gV s :=
  ⟨lw_strR (hts0 _ (show Cond.stringRef "TapLoom" 191 "there is none of this number" ∈ lw_tbl by decide +kernel)) (hq _ (by decide +kernel)), lw_strR (hts0 _ (show Cond.stringRef "TapLoom" 194 "there is none behind the latest one" ∈ lw_tbl by decide +kernel)) (hq _ (by decide +kernel)), lw_strR (hts0 _ (show Cond.stringRef "TapLoom" 198 "an argument is out of its range" ∈ lw_tbl by decide +kernel)) (hq _ (by decide +kernel)), lw_strR (hts0 _ (show Cond.stringRef "TapLoom" 204 "the chain has too many sections" ∈ lw_tbl by decide +kernel)) (hq _ (by decide +kernel)), lw_strR (hts0 _ (show Cond.stringRef "TapLoom" 61 "there are 8 sections" ∈ lw_tbl by decide +kernel)) (hq _ (by decide +kernel)), va_AO.of (hts0 (.arrayOver (.object "java/lang/Object")) (by decide +kernel)), gCast.of (hts0 (.castable RX4 "java/lang/Object") (by decide +kernel)), gCast.of (hts0 (.castable gIAE gIAE) (by decide +kernel)), gCast.of (hts0 (.castable gISE gISE) (by decide +kernel)), gCast.of (hts0 (.castable gIOB gIOB) (by decide +kernel)), va_Nc.of (hq (.not (.castable gISE gIAE)) (by decide +kernel)), va_Nc.of (hq (.not (.castable gIAE gIOB)) (by decide +kernel)), gDc.of (hts0 (.declares (Bundle.initS "java/lang/RuntimeException")) (by decide +kernel)), gDc.of (hts0 (.declares (Bundle.initS "java/lang/Exception")) (by decide +kernel)), gDc.of (hts0 (.declares (Bundle.initS Bundle.tN)) (by decide +kernel))⟩
theorem lw_gH {b : Nat} {s : State} {A : Nat → Prop} (hnA : ∀ a : Nat, a < s.heap.size → ¬ A a) (hts0 : ∀ w ∈ lw_tbl, w.before #[Value.ref b] s = true) (hq : ∀ w ∈ flatC (Jvm.Cond.and given_1 narrow_1), w.before #[Value.ref b] s = true) : ∃ df, gH df A s s.heap := by
  have hini := hts0 (.initialized Bundle.tN) (by decide +kernel)
  obtain ⟨t, h1, h2⟩ := va_Tof (tm := .static "java/util/ArrayList" "DEFAULTCAPACITY_EMPTY_ELEMENTDATA" "[Ljava/lang/Object;") (ty := .object "java/lang/Object") (N := 0) (f := fun _ => .null) (A := A) (by decide) (hq _ (by decide +kernel)) (va_eqt (z := 0) (hq _ (by decide +kernel))) (fun j h => absurd h (Nat.not_lt_zero j)) hnA
  exact ⟨t, vx_Zqof (hts0 (.laysStatic Bundle.tN "UNASSIGNED_STACK" Bundle.steD) (by decide +kernel)) hini (hq _ (by decide +kernel)) hnA, vx_Zqof (hts0 (.laysStatic Bundle.tN "SUPPRESSED_SENTINEL" Bundle.listD) (by decide +kernel)) hini (hq _ (by decide +kernel)) hnA, va_Zof (hts0 (.laysStatic "java/util/ArrayList" "DEFAULTCAPACITY_EMPTY_ELEMENTDATA" "[Ljava/lang/Object;") (by decide +kernel)) (hts0 (.initialized "java/util/ArrayList") (by decide +kernel)) h1 hnA, h2⟩
theorem lw_K {b : Nat} {s : State} (hts0 : ∀ w ∈ lw_tbl, w.before #[Value.ref b] s = true) : ∃ (D : va_G) (cI cJ cO : ClassId), va_K D ccl (gTY cI cJ cO) s := by
  have hts : ∀ w ∈ wsL_law, w.before #[Value.ref b] s = true := fun w h => hts0 w (wsL_law_in w h)
  obtain ⟨c0, i0, k0⟩ := u_known (C := RJx4a65c) (T := TJx4a65c) (N := 3) (n := 3) hts inlJx4a65c (hts0 (.instantiable RJx4a65c 3) (by decide +kernel))
  obtain ⟨c1, i1, k1⟩ := u_known (C := RX0) (T := TX0) (N := 1) (n := 1) hts inlX0 (hts0 (.instantiable RX0 1) (by decide +kernel))
  obtain ⟨c2, i2, k2⟩ := u_known (C := RX1) (T := TX1) (N := 5) (n := 5) hts inlX1 (hts0 (.instantiable RX1 5) (by decide +kernel))
  obtain ⟨c3, i3, k3⟩ := u_known (C := RX2) (T := TX2) (N := 2) (n := 2) hts inlX2 (hts0 (.instantiable RX2 2) (by decide +kernel))
  obtain ⟨c4, i4, k4⟩ := u_known (C := RX3) (T := TX3) (N := 2) (n := 2) hts inlX3 (hts0 (.instantiable RX3 2) (by decide +kernel))
  obtain ⟨c5, i5, k5⟩ := u_known (C := RX4) (T := TX4) (N := 7) (n := 7) hts inlX4 (hts0 (.instantiable RX4 7) (by decide +kernel))
  obtain ⟨c6, i6, k6⟩ := u_known (C := RX5) (T := TX5) (N := 3) (n := 3) hts inlX5 (hts0 (.instantiable RX5 3) (by decide +kernel))
  obtain ⟨c7, i7, k7⟩ := u_known (C := RX6) (T := TX6) (N := 6) (n := 6) hts inlX6 (hts0 (.instantiable RX6 6) (by decide +kernel))
  obtain ⟨cI, kI, pI, aI1, aI2, aI3⟩ := Cond.arrayClass_spec (args := #[Value.ref b]) (first := s) (o := none) (s := s) (idx := []) (hts0 (.arrayClass .int) (by decide +kernel))
  obtain ⟨cJ, kJ, pJ, aJ1, aJ2, aJ3⟩ := Cond.arrayClass_spec (args := #[Value.ref b]) (first := s) (o := none) (s := s) (idx := []) (hts0 (.arrayClass .long) (by decide +kernel))
  obtain ⟨pO, cO, kO, o1, -, o2, o3, o4⟩ := Cond.arrayOver_spec (args := #[Value.ref b]) (first := s) (o := none) (s := s) (idx := []) (hts0 (.arrayOver (.object "java/lang/Object")) (by decide +kernel))
  refine ⟨(fun k => [c0, c1, c2, c3, c4, c5, c6, c7].getD k c0, fun k => [i0, i1, i2, i3, i4, i5, i6, i7].getD k i0), cI, cJ, cO, fun k q h => ?_, fun k q h => ?_⟩
  · match k, h with
    | 0, h => cases h; exact k0
    | 1, h => cases h; exact k1
    | 2, h => cases h; exact k2
    | 3, h => cases h; exact k3
    | 4, h => cases h; exact k4
    | 5, h => cases h; exact k5
    | 6, h => cases h; exact k6
    | 7, h => cases h; exact k7
    | k + 8, h => simp [ccl] at h
  · match k, h with
    | 0, h => cases h; exact ⟨fun n z => ⟨fun k h => (by cases h), kI, aI2, pI, aI3⟩, aI1⟩
    | 1, h => cases h; exact ⟨fun n z => ⟨fun k h => (by cases h), kJ, aJ2, pJ, aJ3⟩, aJ1⟩
    | 2, h => cases h; exact ⟨fun n z => ⟨fun k h => (by cases h), kO, o2, pO, o3⟩, kO, pO, o2, o3, o1, o4⟩
    | k + 3, h => simp at h
set_option maxHeartbeats 4000000 in
set_option maxRecDepth 100000 in
theorem whole_start {p : Program} {e : Env} {s : State} {m : MethodId} {below : List Frame} {meth : Method} {c : Code} (l : Launch) (hflags : l.flags = flags0) {b L : Nat} {xs : Nat → Int32} (hL : L ≤ 260) (C0 : lw_At p s m meth c b L xs) : W p l e room_1 s m #[Value.ref b] below meth c s.heap [] 0 0 (lw_Z below #[Value.ref b] s) (entryFrame m ([Value.ref b] : List Value).toArray 1) := by
  obtain ⟨hx, hb, hr, hml, hown, hts0, hX, hbl, hlk, hgv⟩ := id C0
  have hfl : l.stackTraces = false := by unfold Launch.stackTraces; rw [hflags]; decide +kernel
  have hq := flat_of_before _ hgv
  have hts : ∀ w ∈ wsL_law, w.before #[Value.ref b] s = true := fun w h => hts0 w (wsL_law_in w h)
  have CF : CallFix p m c code 1 s #[Value.ref b] wsL_law RL := ⟨hx, hb, hml, hown, hts⟩
  replace hown : s.vm.findClass RL = some m.cls := hown
  obtain ⟨D, cI, cJ, cO, hK⟩ := lw_K hts0
  have hV := lw_gV hts0 hq
  obtain ⟨A, hAe⟩ : ∃ A : Nat → Prop, A = fun q : Nat => s.heap.size ≤ q := ⟨_, rfl⟩
  have hA : ∀ q : Nat, s.heap.size ≤ q → A q := by rw [hAe]; exact fun q h => h
  have hnA : ∀ a : Nat, a < s.heap.size → ¬ A a := by rw [hAe]; exact fun a h => Nat.not_le.mpr h
  have hbA := hnA b hbl
  have hX0 : va_X b L xs s s.heap ∧ b < s.heap.size ∧ ¬ A b := ⟨hX, hbl, hbA⟩
  obtain ⟨df, hH⟩ := lw_gH hnA hts0 hq
  have hS : va_S A s.heap s.heap [] := va_S.rf
  have hP : va_P D ccl [] s.heap := fun k q h => by simp at h
  have hD : va_D A [] := ⟨fun i j p q h => by simp at h, fun k q h => by simp at h⟩
  have hl := lv_entry ([.ref b]) (n := 1) (Nat.le_of_ble_eq_true rfl)
  rw [lg_entry_eq]
  generalize (lg_sl ([.ref b]) ++ List.replicate (1 - (lg_sl ([.ref b])).length) Slot.unset).toArray = ls at hl ⊢
  have hl : lv_has ls 1 [(0, .ref b)] := hl
  refine lv_aload_n hx hb dL_law_0 rfl (lv_at hl 0 rfl) ?_
  have hPc : va_P D ccl [] s.heap := fun k q h => by simp at h
  have hDc : va_D A [] := ⟨fun i j p q h => by simp at h, fun k q h => by simp at h⟩
  have hFc := va_free (wc := []) hD hS hA [] rfl
  refine gS_SiW (As := [.ref b]) (rest := []) hX0 CF (c_L_isHeld l hfl D cI cJ cO df s.heap.size b L xs hL) (vx_cwSW 1 hts gL_law_L_isHeld rfl rfl rfl (by decide +kernel) ⟨Nat.le_of_ble_eq_true rfl, Nat.le_of_ble_eq_true rfl⟩)  hPc hK hDc hV hH hS hFc rfl hl.1 rfl (Nat.le_of_ble_eq_true rfl) dL_law_1 ⟨Nat.le_of_ble_eq_true rfl, Nat.le_of_ble_eq_true rfl⟩ (fun r_1 w1 H1 locs1 hq hP1 hD1 hk hS hz => ?_)
  obtain ⟨w2, ew_1, hr_1⟩ := hq
  rw [ew_1] at hP1 hD1
  have hP := g_keep0 hP hk
  clear hPc hDc hFc hP1 hD1 hk hz
  generalize H1 = H at hP hS ⊢
  have hP : va_P D ccl [] H := hP
  have hD : va_D A [] := hD
  subst hr_1
  subst hAe
  refine va_forget (fun q hq => hS.2.2 q hq) ?_
  refine W.widen (k := 731727) (n := 6906288) (Nat.le_of_ble_eq_true rfl) (Nat.le_of_ble_eq_true rfl) ?_
  exact lw_ret hx hb hr hlk dL_law_4
