/-! methods with handlers of their own: start, call, weaker posts; the class's whole object -/
theorem g_ofH {l : Launch} {y : MethodName} {ws ws' : List Cond} {rm : Room} {cc : ByteArray} {nL : Nat} {ret : Option FieldType} {hh : List (Nat × Nat × Nat × Nat)} {D : va_G} {TY : List (ClassId × FieldType)} {df : Nat} {Ws : va_W} {sz : Nat} {av : List Value} {Qc : (Nat → Prop) → Array Value → State → Outcome → State → Prop}
    (hy : plainName y.cls = true) (hw : ws = Cond.codeWith y cc nL ret hh :: ws') (hav : (lg_sl av).length ≤ nL)
    (body : ∀ p e s m below meth c ls A, s.heap.size = sz → gAt p s m av.toArray meth c y ws cc nL ret D TY df Ws A → c.exceptionTable.toList = tableOf hh → lv_has ls nL (lv_args 0 av) →
      W p l e rm s m av.toArray below meth c s.heap [] 0 0 (MQ below (Qc A) av.toArray s rm.cells rm.slots A) (F0 m 0 ls [])) : Met l y ws rm (va_Pc av (gPre D TY df Ws sz)) (Qc (va_A Ws sz)) rm.cells rm.slots (va_A Ws sz) := by
  refine MetFree.of_bodyS (code := cc) (maxLocals := nL) (ret := ret) hy ?_ ?_
  · intro args s m h hn
    obtain ⟨m9, meth, c, hn9, h1, h2, h3, h4, -, h5, h6, -⟩ := Cond.codeWith_spec (atoms_spec (ws := ws) h _ (by rw [hw]; exact List.mem_cons_self))
    cases hn.symm.trans hn9
    exact ⟨meth, c, h1, h2, h3, h4, h5, h6⟩
  · intro p e s m args below meth c s₁ B hml hP _
    obtain ⟨rfl, hsz, hP, hK, hD0, hV, hH⟩ := hP
    subst hsz
    have hh0 : s₁.heap = s.heap := by rw [B.state]; rfl
    have hts := atoms_spec (ws := ws) B.pre
    have ht := vx_table (x := y) B (hts _ (by rw [hw]; exact List.mem_cons_self))
    have hl := lv_entry av (n := nL) hav
    have K := body p e s m below meth c _ _ rfl ⟨⟨B.exec, B.bytes, hml, findClass_of_methodNamed B.named, hts⟩, B.returns, B.notSynchronized, fun q h => Or.inr h, va_S.rf, hP, hK, hD0.self (sz := s.heap.size), hV, hH⟩ ht hl
    rw [← lg_entry_eq] at K
    obtain ⟨t, a1, o, b1, b2, b3⟩ := K s₁ hh0 (Stand.of_body B)
    exact ⟨t, o, a1, b1, b2, ⟨b3.1, b3.2⟩⟩
section GCW
variable {p : Program} {l : Launch} {e : Env} {R : Room} {s : State} {m : MethodId} {args : Array Value} {below : List Frame} {meth : Method} {c : Code} {H : Heap} {locs : List Loc} {cells slots : Nat} {cc : ByteArray} {pc : Nat} {ls : Array Slot} {A : Nat → Prop} {D : va_G} {TY : List (ClassId × FieldType)} {Q : State → Prop}
variable {nL n index maxL df : Nat} {Ts wy ws' : List Cond} {own C : String} {y : MethodName} {bytes : ByteArray} {ret : Option FieldType} {rm : Room} {Wx Wc Wr : va_W} {av As rest : List Value} {b : Nat} {hh : List (Nat × Nat × Nat × Nat)}
theorem g_SiW {post : Int32 → va_W → Prop} (CF : CallFix p m c cc nL s args Ts own) (hM : MetI l y wy rm D TY df Wc H.size As post) (cw : vx_CSW R s args own index y bytes maxL ret hh wy rm rm.cells rm.slots n) (hPc : va_P D ccl Wc H) (hK : va_K D ccl TY s) (hDc : va_D A Wc) (hV : gV s) (hH : gH df A s s.heap) (hS : va_S A s.heap H locs) (hF : ∀ q, va_A Wc H.size q → A q) (hn : As.length = n) (hsize : ls.size = nL) {st0 : List Value} (hstack : st0 = As.reverse ++ rest) (hW : (rest.map fun v => v.category).sum ≤ 8) (hdg : decode cc pc = .ok (.invokestatic index, 3)) (hf : cells + rm.cells ≤ R.cells ∧ slots + rm.slots ≤ R.slots)
    (kk : ∀ (r : Int32) (w1 : va_W) (H1 : Heap) (locs1 : List Loc), post r w1 → va_P D ccl w1 H1 → va_D (va_A Wc H.size) w1 → (∀ q : Nat, q < H.size → ¬ va_A Wc H.size q → H1[q]? = H[q]?) → va_S A s.heap H1 locs1 → H.size ≤ H1.size → W p l e R s m args below meth c H1 locs1 (cells + rm.cells) (slots + rm.slots) Q (F0 m (pc + 3) ls (.int r :: rest))) : W p l e R s m args below meth c H locs cells slots Q (F0 m pc ls st0) :=
  va_calli (vx_runSW (As := As) (rest := rest) CF hM cw ⟨gPre.blind, g_pre hS hPc hK hDc hV hH hF⟩ rfl hn hsize hstack (lv_room hW) hdg hf) hS (fun q _ h => hF q h) hF (fun r u t H1 locs1 ht hvm hw hB hz hk hS1 => kk r u H1 locs1 hw (by rw [← ht]; exact hB.1) hB.2.2 hk hS1 hz)
end GCW
theorem g_mono {l : Launch} {y : MethodName} {ws : List Cond} {rm : Room} {D : va_G} {TY : List (ClassId × FieldType)} {df : Nat} {Ws : va_W} {sz : Nat} {av : List Value} {P Q : Int32 → va_W → Prop} (h : MetI l y ws rm D TY df Ws sz av P) (hQ : ∀ r w, P r w → Q r w) : MetI l y ws rm D TY df Ws sz av Q :=
  MetFree.mono h (fun _ _ h => h) (fun _ _ _ _ _ h => h) (fun _ _ _ _ _ h => ⟨⟨by obtain ⟨r, u, h1, h2, h3⟩ := h.1.1; exact ⟨r, u, h1, hQ r u h2, h3⟩, h.1.2⟩, h.2⟩)
theorem gGo_1 {f : Int32} (h : ¬ gGo f 1 1 = 0) : gGo f 1 1 = 1 := by
  unfold gGo at h ⊢
  by_cases h1 : f = 0
  · rw [if_pos h1]
  · rw [if_neg h1, if_neg (by decide), if_neg (by decide)] at h; exact absurd rfl h
theorem gGo_2 {f s : Int32} (h : ¬ gGo f s 1 = 0) (h1 : ¬ gGo f s 1 = 1) : gGo f s 1 = 2 := by
  unfold gGo at h h1 ⊢
  by_cases hf : f = 0
  · rw [if_pos hf] at h1; exact absurd rfl h1
  · rw [if_neg hf] at h ⊢
    by_cases hs : s = 0
    · rw [if_pos hs]
    · rw [if_neg hs, if_neg (by decide)] at h; exact absurd rfl h
/-- the chain and the sections, by the forms of their lists -/
def TLF (cI cO : ClassId) (df sl ch : Nat) (tl : va_W) (N : Nat) (mc ms mw : Nat → Int32) (C : Nat) (mo : Nat → Int32) : Prop :=
  (∃ (lh er : Nat) (md : Int32) (fr : Nat → Option Nat) (smd : Int32) (ser : Nat) (sf : Nat → Option Nat) (SA SB : Nat → Nat), tl = ([(ch, .inr (1, [.ref lh])), (lh, .inr (0, [.int md, .ref er, .int (nI C)])), (sl, .inr (0, [.int smd, .ref ser, .int (nI N)])), (ser, .inl (cO, 10, .inr (.inr (.inr (.inr sf))))), (er, .inl (cO, 10, .inr (.inr (.inr (.inr fr)))))] : va_W) ++ scL (scJ cI SA SB mc ms mw) (List.range N) ∧ 0 < N ∧ (∀ k, k < C → fr k = some (SA (gN (mo k)))) ∧ ∀ k, k < N → sf k = some (SA k)) ∨
  (∃ (lh : Nat) (md : Int32) (smd : Int32) (ser : Nat) (sf : Nat → Option Nat) (SA SB : Nat → Nat), tl = ([(ch, .inr (1, [.ref lh])), (lh, .inr (0, [.int md, .ref df, .int 0])), (sl, .inr (0, [.int smd, .ref ser, .int (nI N)])), (ser, .inl (cO, 10, .inr (.inr (.inr (.inr sf)))))] : va_W) ++ scL (scJ cI SA SB mc ms mw) (List.range N) ∧ 0 < N ∧ C = 0 ∧ ∀ k, k < N → sf k = some (SA k)) ∨
  (∃ (lh : Nat) (md : Int32) (smd : Int32) (SA SB : Nat → Nat), tl = ([(ch, .inr (1, [.ref lh])), (lh, .inr (0, [.int md, .ref df, .int 0])), (sl, .inr (0, [.int smd, .ref df, .int 0]))] : va_W) ++ scL (scJ cI SA SB mc ms mw) (List.range 0) ∧ N = 0 ∧ C = 0)
/-- the class's object -/
def CLS (cI cJ cO : ClassId) (df t0 : Nat) (w : va_W) (N : Nat) (mc ms mw : Nat → Int32) (C : Nat) (mo : Nat → Int32) (K : Nat) (mu : Nat → Int32) (Y : Nat) (rw0 tf qf : Nat → Int32) : Prop :=
  ∃ (sl ch oh xh rh sh ob mk ta qa pa sb : Nat) (fc fl fg fe : Int32) (gm : Nat → Int64) (tl : va_W), w = ([(t0, .inr (7, [.ref sl, .ref ch, .ref oh, .ref xh, .ref rh, .ref sh])), (oh, .inr (4, [.ref ob, .int (nI K)])), (ob, .inl (cI, 16, .inl mu)), (xh, .inr (2, [.ref mk, .int fc, .int fl, .int fg, .int fe])), (mk, .inl (cJ, 1263, .inr (.inl gm))), (rh, .inr (6, [.ref ta, .ref qa, .ref pa])), (ta, .inl (cI, 32, .inl tf)), (qa, .inl (cI, 32, .inl qf)), (pa, .inl (cI, 32, .inl (pwZ 32))), (sh, .inr (4, [.ref sb, .int (nI Y)])), (sb, .inl (cI, 64, .inl rw0))] : va_W) ++ tl ∧ TLF cI cO df sl ch tl N mc ms mw C mo
/-- the numbers of both sides are as they must be -/
def WF (N : Nat) (mc ms mw : Nat → Int32) (C : Nat) (mo : Nat → Int32) (K Y : Nat) (rw0 mp tf qf : Nat → Int32) : Prop :=
  N ≤ 8 ∧ C ≤ 8 ∧ (∀ i, 5 * N ≤ i → mc i = 0) ∧ (∀ i, 4 * N ≤ i → ms i = 0) ∧ isC mc ∧ isS ms ∧ (∀ j, j < 8 → isW (mw j)) ∧ (∀ i, i < C → gN (mo i) < N ∧ mo i = nI (gN (mo i))) ∧ (∀ i j, i < C → j < C → gN (mo i) = gN (mo j) → i = j) ∧
  K ≤ 16 ∧ Y ≤ 64 ∧ (∀ i, i < Y → -96 ≤ (rw0 i).toInt ∧ (rw0 i).toInt ≤ 96) ∧ (∀ i, i < Y → mp i = rs97 (rw0 i)) ∧ isR mp 64 ∧ isR tf 32 ∧ isR qf 32
/-! a contract over a wider world; the class's object with its receiver; the law's script, which stands outside the worlds -/
def SubW (D : va_G) (W W' : va_W) : Prop := (∀ H, va_P D ccl W H → va_P D ccl W' H) ∧ ∀ A, va_D A W → va_D A W'
theorem SubW.rf {D : va_G} {W : va_W} : SubW D W W := ⟨fun _ h => h, fun _ h => h⟩
theorem SubW.tr {D : va_G} {a b c : va_W} (h1 : SubW D a b) (h2 : SubW D b c) : SubW D a c := ⟨fun H h => h2.1 H (h1.1 H h), fun A h => h2.2 A (h1.2 A h)⟩
theorem sw_part {D : va_G} {X cx pl : va_W} (is : List Nat) (hn : va_nd is = true) (hs : is.map (fun i => X[i]?) = cx.map some) : SubW D (X ++ pl) (cx ++ pl) :=
  ⟨fun _ h => h.part is hs, fun _ h => h.part is hn hs⟩
theorem sw_mv {D : va_G} {a c pl : va_W} : SubW D ((a ++ c) ++ pl) ((a ++ pl) ++ c) := ⟨fun _ h => h.perm9 tl_perm.symm, fun _ h => h.perm9 tl_perm.symm⟩
theorem sw_vm {D : va_G} {a c pl : va_W} : SubW D ((a ++ pl) ++ c) ((a ++ c) ++ pl) := ⟨fun _ h => h.perm9 tl_perm, fun _ h => h.perm9 tl_perm⟩
theorem sw_as {D : va_G} {a b c : va_W} : SubW D (a ++ (b ++ c)) ((a ++ b) ++ c) := by rw [List.append_assoc]; exact SubW.rf
theorem sw_sa {D : va_G} {a b c : va_W} : SubW D ((a ++ b) ++ c) (a ++ (b ++ c)) := by rw [List.append_assoc]; exact SubW.rf
theorem sw_A {D : va_G} {Wb Wr Wc : va_W} {sz : Nat} {A : Nat → Prop} (hin : SubW D Wb (Wr ++ Wc)) (hD : va_D A Wb) : ∀ q, va_A Wc sz q → va_A Wb sz q := by
  rintro q (⟨k, e, h⟩ | h)
  · have h1 : va_D (fun q => ∃ (k : Nat) (e : va_E), Wb[k]? = some (q, e)) Wb := ⟨hD.1, fun k q h => ⟨k, q.2, h⟩⟩
    exact Or.inl ((hin.2 _ h1).2 _ _ (tl_get h))
  · exact Or.inr h
theorem sw_P {D : va_G} {Wr Wc : va_W} {H : Heap} (h : va_P D ccl (Wr ++ Wc) H) : va_P D ccl Wc H := fun _ q hk => h _ q (tl_get hk)
theorem sw_D {A : Nat → Prop} {Wr Wc : va_W} (h : va_D A (Wr ++ Wc)) : va_D A Wc := by
  refine ⟨fun i j p q hi hj e => ?_, fun _ q hk => h.2 _ q (tl_get hk)⟩
  have := h.1 _ _ p q (tl_get hi) (tl_get hj) e
  omega
theorem sw_L {X tl : va_W} {j : Nat} {q : Nat × va_E} (h : X[j]? = some q) : (X ++ tl)[j]? = some q := by
  rw [List.getElem?_append_left (List.getElem?_eq_some_iff.mp h).1]; exact h
theorem sw_join {D : va_G} {Wr Wc w1 : va_W} {A0 : Nat → Prop} {H H1 : Heap} (hP : va_P D ccl (Wr ++ Wc) H) (hD : va_D A0 (Wr ++ Wc)) (hk : ∀ q : Nat, q < H.size → ¬ va_A Wc H.size q → H1[q]? = H[q]?) (hF : ∀ q, va_A Wc H.size q → A0 q) (hP1 : va_P D ccl w1 H1) (hD1 : va_D (va_A Wc H.size) w1) : va_P D ccl (Wr ++ w1) H1 ∧ va_D A0 (Wr ++ w1) := by
  have hr : ∀ (k : Nat) (q : Nat × va_E), Wr[k]? = some q → q.1 < H.size ∧ ¬ va_A Wc H.size q.1 := by
    intro k q h
    have h1 := va_at.lt (hP k q (sw_L h))
    refine ⟨h1, ?_⟩
    rintro (⟨j, e, h2⟩ | h2)
    · have := hD.1 _ _ q (q.1, e) (sw_L h) (tl_get h2) rfl
      have h3 := (List.getElem?_eq_some_iff.mp h).1
      omega
    · omega
  have hPr : va_P D ccl Wr H1 := va_P.kept (H := H) (fun k q h => hP k q (sw_L h)) (fun k q h => hk _ (hr k q h).1 (hr k q h).2)
  have split : ∀ (k : Nat) (q : Nat × va_E), (Wr ++ w1)[k]? = some q → (k < Wr.length ∧ Wr[k]? = some q) ∨ (Wr.length ≤ k ∧ w1[k - Wr.length]? = some q) := by
    intro k q h
    by_cases hx : k < Wr.length
    · rw [List.getElem?_append_left hx] at h; exact Or.inl ⟨hx, h⟩
    · rw [List.getElem?_append_right (Nat.le_of_not_lt hx)] at h; exact Or.inr ⟨Nat.le_of_not_lt hx, h⟩
  refine ⟨fun k q h => ?_, fun i j p q hi hj e => ?_, fun k q h => ?_⟩
  · rcases split k q h with ⟨_, h1⟩ | ⟨_, h1⟩
    · exact hPr k q h1
    · exact hP1 _ q h1
  · rcases split i p hi with ⟨a1, a2⟩ | ⟨a1, a2⟩ <;> rcases split j q hj with ⟨b1, b2⟩ | ⟨b1, b2⟩
    · exact hD.1 i j p q (sw_L a2) (sw_L b2) e
    · exact absurd (by rw [e]; exact hD1.2 _ q b2) (hr i p a2).2
    · exact absurd (by rw [← e]; exact hD1.2 _ p a2) (hr j q b2).2
    · have := hD1.1 _ _ p q a2 b2 e; omega
  · rcases split k q h with ⟨_, h1⟩ | ⟨_, h1⟩
    · exact hD.2 k q (sw_L h1)
    · exact hF _ (hD1.2 _ q h1)
theorem g_hasRoom {s : State} {pl : Platform} {r r' : Room} (hr : r.frames ≤ r'.frames ∧ r.locals ≤ r'.locals ∧ r.cells ≤ r'.cells ∧ r.slots ≤ r'.slots) (h : s.hasRoom pl r' = true) : s.hasRoom pl r = true := by
  obtain ⟨h1, h2, h3, h4⟩ := hr
  simp only [State.hasRoom, Bool.and_eq_true, decide_eq_true_eq] at h ⊢
  obtain ⟨⟨⟨⟨a, b1, b2, b3, b4, b5⟩, c⟩, d⟩, e⟩ := h
  exact ⟨⟨⟨⟨by omega, by omega, by omega, by omega, by omega, b5⟩, by omega⟩, by omega⟩, e⟩
theorem g_room {l : Launch} {y : MethodName} {ws : List Cond} {rm rm' : Room} {Pc : Array Value → State → Prop} {K : Program → Env → List Frame → State → Array Value → Prop} {Q : Array Value → State → Outcome → State → Prop} (hr : rm.frames ≤ rm'.frames ∧ rm.locals ≤ rm'.locals ∧ rm.cells ≤ rm'.cells ∧ rm.slots ≤ rm'.slots) (h : MetFree l y (headSpec ws rm) Pc K Q) : MetFree l y (headSpec ws rm') Pc K Q := by
  intro p e ha hc hk s m args below hf happ hp hk'
  refine h p e ha hc hk s m args below hf ?_ hp hk'
  rw [Spec.appliesLoose_iff hf] at happ ⊢
  obtain ⟨a, b, c, d, e, f, g, h⟩ := happ
  exact ⟨a, b, c, d, e, f, g_hasRoom hr g, h⟩
section FRM
variable {l : Launch} {y : MethodName} {ws : List Cond} {rm rm' : Room} {D : va_G} {TY : List (ClassId × FieldType)} {df : Nat} {Wb Wc Wr : va_W} {sz : Nat} {av : List Value} {px : String × va_W → Prop}
/-- a contract over more cells: what throws is ruled out -/
theorem g_frI {post post' : Int32 → va_W → Prop} (h : MxI l y ws rm D TY df Wc sz av px post) (hr : rm.frames ≤ rm'.frames ∧ rm.locals ≤ rm'.locals ∧ rm.cells ≤ rm'.cells ∧ rm.slots ≤ rm'.slots) (hno : ∀ u, ¬ px u) (hin : SubW D Wb (Wr ++ Wc)) (hq : ∀ r w1, post r w1 → ∃ wZ, post' r wZ ∧ SubW D (Wr ++ w1) wZ) : MetI l y ws rm' D TY df Wb sz av post' := by
  refine MetFree.mono (g_room hr h) ?_ (fun _ _ _ _ _ h => h) ?_
  · rintro a s ⟨ha, hsz, hP, hK, hD, hV, hH⟩
    exact ⟨ha, hsz, sw_P (hin.1 _ hP), hK, sw_D (hin.2 _ hD), hV, hH.narrow (sw_A hin hD)⟩
  · rintro a st o t ⟨ha, hsz, hP, hK, hD, hV, hH⟩ hQ
    have hsub := sw_A (sz := sz) hin hD
    rcases hQ with ⟨⟨⟨r, u, h1, h2, hPu, hKu, hDu⟩, hF1, hF2⟩, L, hfe, hL⟩ | ⟨q, h1, E, ce, L, ⟨u, hu, _⟩, _⟩
    · obtain ⟨wZ, hp', hsw⟩ := hq r u h2
      subst hsz
      obtain ⟨hPJ, hDJ⟩ := sw_join (A0 := va_A Wb st.heap.size) (hin.1 _ hP) (hin.2 _ hD.self) hF2 hsub hPu hDu
      exact ⟨⟨⟨r, wZ, h1, hp', hsw.1 _ hPJ, hKu, hsw.2 _ hDJ⟩, hF1, fun q hq hA => hF2 q hq (fun h => hA (hsub q h))⟩, L, ⟨hfe.1, hfe.2.1, hfe.2.2.mono hr.2.2.1 hr.2.2.2⟩, fun q hq => hsub _ (hL q hq)⟩
    · exact (hno u hu).elim
theorem g_frL {post post' : Int64 → va_W → Prop} (h : MxL l y ws rm D TY df Wc sz av px post) (hr : rm.frames ≤ rm'.frames ∧ rm.locals ≤ rm'.locals ∧ rm.cells ≤ rm'.cells ∧ rm.slots ≤ rm'.slots) (hno : ∀ u, ¬ px u) (hin : SubW D Wb (Wr ++ Wc)) (hq : ∀ r w1, post r w1 → ∃ wZ, post' r wZ ∧ SubW D (Wr ++ w1) wZ) : MetL l y ws rm' D TY df Wb sz av post' := by
  refine MetFree.mono (g_room hr h) ?_ (fun _ _ _ _ _ h => h) ?_
  · rintro a s ⟨ha, hsz, hP, hK, hD, hV, hH⟩
    exact ⟨ha, hsz, sw_P (hin.1 _ hP), hK, sw_D (hin.2 _ hD), hV, hH.narrow (sw_A hin hD)⟩
  · rintro a st o t ⟨ha, hsz, hP, hK, hD, hV, hH⟩ hQ
    have hsub := sw_A (sz := sz) hin hD
    rcases hQ with ⟨⟨⟨r, u, h1, h2, hPu, hKu, hDu⟩, hF1, hF2⟩, L, hfe, hL⟩ | ⟨q, h1, E, ce, L, ⟨u, hu, _⟩, _⟩
    · obtain ⟨wZ, hp', hsw⟩ := hq r u h2
      subst hsz
      obtain ⟨hPJ, hDJ⟩ := sw_join (A0 := va_A Wb st.heap.size) (hin.1 _ hP) (hin.2 _ hD.self) hF2 hsub hPu hDu
      exact ⟨⟨⟨r, wZ, h1, hp', hsw.1 _ hPJ, hKu, hsw.2 _ hDJ⟩, hF1, fun q hq hA => hF2 q hq (fun h => hA (hsub q h))⟩, L, ⟨hfe.1, hfe.2.1, hfe.2.2.mono hr.2.2.1 hr.2.2.2⟩, fun q hq => hsub _ (hL q hq)⟩
    · exact (hno u hu).elim
theorem g_asX {post : Int32 → va_W → Prop} (h : MetI l y ws rm D TY df Wc sz av post) : MxI l y ws rm D TY df Wc sz av (fun _ => False) post :=
  MetFree.mono h (fun _ _ h => h) (fun _ _ _ _ _ h => h) (fun _ _ _ _ _ h => Or.inl h)
end FRM
/-- the object among the cells of a world -/
theorem cls_recv {cI cJ cO : ClassId} {df t0 : Nat} {w : va_W} {N : Nat} {mc ms mw : Nat → Int32} {C : Nat} {mo : Nat → Int32} {K : Nat} {mu : Nat → Int32} {Y : Nat} {rw0 tf qf : Nat → Int32} {D : va_G} {TY : List (ClassId × FieldType)} {s : State} {H : Heap} {X : va_W}
    (h : CLS cI cJ cO df t0 w N mc ms mw C mo K mu Y rw0 tf qf) (hK : va_K D ccl TY s) (hP : va_P D ccl (X ++ w) H) : ∃ cell : Cell, H[t0]? = some cell ∧ cell.vm.isStatics = false ∧ s.vm.findClass RX6 = some cell.cls := by
  obtain ⟨sl, ch, oh, xh, rh, sh, ob, mk, ta, qa, pa, sb, fc, fl, fg, fe, gm, tl, rfl, -⟩ := h
  exact va_recv hK hP (ci := 7) (q := (RX6, TX6, 6)) rfl (tl_get (j := 0) rfl)
/-! methods that read the script -/
/-- the script stands outside the world -/
def gScr (b L : Nat) (xs : Nat → Int32) (Ws : va_W) (U : State) : Prop := va_X b L xs U U.heap ∧ b < U.heap.size ∧ ¬ va_A Ws U.heap.size b
def gPreS (D : va_G) (TY : List (ClassId × FieldType)) (df b L : Nat) (xs : Nat → Int32) (Ws : va_W) (sz : Nat) : State → Prop := fun U => gPre D TY df Ws sz U ∧ gScr b L xs Ws U
theorem gPreS.blind {D : va_G} {TY : List (ClassId × FieldType)} {df b L : Nat} {xs : Nat → Int32} {Ws : va_W} {sz : Nat} {av : List Value} : FrameBlind (va_Pc av (gPreS D TY df b L xs Ws sz)) := by
  intro a U g mk q
  obtain ⟨q0, q1, q2, q3, q4⟩ := q
  exact ⟨q0, (gPre.blind (av := av) a U g mk ⟨q0, q1⟩).2, va_X.moved (u := U) (U := U.calling g mk a) (Vm.Alike.refl U.vm) q2, q3, q4⟩
abbrev MetS (l : Launch) (y : MethodName) (ws : List Cond) (rm : Room) (D : va_G) (TY : List (ClassId × FieldType)) (df b L : Nat) (xs : Nat → Int32) (Ws : va_W) (sz : Nat) (av : List Value) (post : Int32 → va_W → Prop) : Prop :=
  Met l y ws rm (va_Pc av (gPreS D TY df b L xs Ws sz)) (va_Qi post (gB D TY (va_A Ws sz)) (va_A Ws sz)) rm.cells rm.slots (va_A Ws sz)
theorem gS_of {l : Launch} {y : MethodName} {ws ws' : List Cond} {rm : Room} {cc : ByteArray} {nL : Nat} {ret : Option FieldType} {D : va_G} {TY : List (ClassId × FieldType)} {df b L : Nat} {xs : Nat → Int32} {Ws : va_W} {sz : Nat} {av : List Value} {Qc : (Nat → Prop) → Array Value → State → Outcome → State → Prop}
    (hy : plainName y.cls = true) (hw : ws = Cond.code y cc nL ret :: ws') (hav : (lg_sl av).length ≤ nL)
    (body : ∀ p e s m below meth c ls A, s.heap.size = sz → gAt p s m av.toArray meth c y ws cc nL ret D TY df Ws A → (va_X b L xs s s.heap ∧ b < s.heap.size ∧ ¬ A b) → lv_has ls nL (lv_args 0 av) →
      W p l e rm s m av.toArray below meth c s.heap [] 0 0 (MQ below (Qc A) av.toArray s rm.cells rm.slots A) (F0 m 0 ls [])) : Met l y ws rm (va_Pc av (gPreS D TY df b L xs Ws sz)) (Qc (va_A Ws sz)) rm.cells rm.slots (va_A Ws sz) := by
  refine Met.ofW (cc := cc) (maxL := nL) (ret := ret) hy hw ?_
  intro p e s m args below meth c s₁ B hml hv
  obtain ⟨rfl, ⟨hsz, hP, hK, hD0, hV, hH⟩, hX⟩ := hv
  subst hsz
  have hl := lv_entry av (n := nL) hav
  rw [lg_entry_eq]
  have hts := atoms_spec (ws := ws) B.pre
  exact body p e s m below meth c _ _ rfl ⟨⟨B.exec, B.bytes, hml, findClass_of_methodNamed B.named, hts⟩, B.returns, B.notSynchronized, fun q h => Or.inr h, va_S.rf, hP, hK, hD0.self (sz := s.heap.size), hV, hH⟩ hX hl
theorem gS_ofH {l : Launch} {y : MethodName} {ws ws' : List Cond} {rm : Room} {cc : ByteArray} {nL : Nat} {ret : Option FieldType} {hh : List (Nat × Nat × Nat × Nat)} {D : va_G} {TY : List (ClassId × FieldType)} {df b L : Nat} {xs : Nat → Int32} {Ws : va_W} {sz : Nat} {av : List Value} {Qc : (Nat → Prop) → Array Value → State → Outcome → State → Prop}
    (hy : plainName y.cls = true) (hw : ws = Cond.codeWith y cc nL ret hh :: ws') (hav : (lg_sl av).length ≤ nL)
    (body : ∀ p e s m below meth c ls A, s.heap.size = sz → gAt p s m av.toArray meth c y ws cc nL ret D TY df Ws A → (va_X b L xs s s.heap ∧ b < s.heap.size ∧ ¬ A b) → lv_has ls nL (lv_args 0 av) →
      W p l e rm s m av.toArray below meth c s.heap [] 0 0 (MQ below (Qc A) av.toArray s rm.cells rm.slots A) (F0 m 0 ls [])) : Met l y ws rm (va_Pc av (gPreS D TY df b L xs Ws sz)) (Qc (va_A Ws sz)) rm.cells rm.slots (va_A Ws sz) := by
  refine MetFree.of_bodyS (code := cc) (maxLocals := nL) (ret := ret) hy ?_ ?_
  · intro args s m h hn
    obtain ⟨m9, meth, c, hn9, h1, h2, h3, h4, -, h5, h6, -⟩ := Cond.codeWith_spec (atoms_spec (ws := ws) h _ (by rw [hw]; exact List.mem_cons_self))
    cases hn.symm.trans hn9
    exact ⟨meth, c, h1, h2, h3, h4, h5, h6⟩
  · intro p e s m args below meth c s₁ B hml hP _
    obtain ⟨rfl, ⟨hsz, hP, hK, hD0, hV, hH⟩, hX⟩ := hP
    subst hsz
    have hh0 : s₁.heap = s.heap := by rw [B.state]; rfl
    have hts := atoms_spec (ws := ws) B.pre
    have hl := lv_entry av (n := nL) hav
    have K := body p e s m below meth c _ _ rfl ⟨⟨B.exec, B.bytes, hml, findClass_of_methodNamed B.named, hts⟩, B.returns, B.notSynchronized, fun q h => Or.inr h, va_S.rf, hP, hK, hD0.self (sz := s.heap.size), hV, hH⟩ hX hl
    rw [← lg_entry_eq] at K
    obtain ⟨t, a1, o, b1, b2, b3⟩ := K s₁ hh0 (Stand.of_body B)
    exact ⟨t, o, a1, b1, b2, ⟨b3.1, b3.2⟩⟩
section GSC
variable {p : Program} {l : Launch} {e : Env} {R : Room} {s : State} {m : MethodId} {args : Array Value} {below : List Frame} {meth : Method} {c : Code} {H : Heap} {locs : List Loc} {cells slots : Nat} {cc : ByteArray} {pc : Nat} {ls : Array Slot} {A : Nat → Prop} {D : va_G} {TY : List (ClassId × FieldType)} {Q : State → Prop}
variable {nL n index maxL df : Nat} {Ts wy ws' : List Cond} {own C : String} {y : MethodName} {bytes : ByteArray} {ret : Option FieldType} {rm : Room} {Wx Wc Wr : va_W} {av As rest : List Value} {b L : Nat} {xs : Nat → Int32} {hh : List (Nat × Nat × Nat × Nat)}
theorem gS_pre (hX : va_X b L xs s s.heap ∧ b < s.heap.size ∧ ¬ A b) (hS : va_S A s.heap H locs) (hP : va_P D ccl Wc H) (hK : va_K D ccl TY s) (hD : va_D A Wc) (hV : gV s) (hH : gH df A s s.heap) (hF : ∀ q, va_A Wc H.size q → A q) : ∀ U : State, U.heap = H → s.WarmedH U.vm → va_Pc av (gPreS D TY df b L xs Wc H.size) av.toArray U := fun U hU hW =>
  ⟨rfl, (g_pre (av := av) hS hP hK hD hV hH hF U hU hW).2, by rw [hU]; exact (hX.1.kept (hS.2.1 b hX.2.1 hX.2.2)).moved hW.alike, by rw [hU]; exact Nat.lt_of_lt_of_le hX.2.1 hS.1, fun h => hX.2.2 (hF b (by rw [hU] at h; exact h))⟩
theorem gS_Si {post : Int32 → va_W → Prop} (hX : va_X b L xs s s.heap ∧ b < s.heap.size ∧ ¬ A b) (CF : CallFix p m c cc nL s args Ts own) (hM : MetS l y wy rm D TY df b L xs Wc H.size As post) (cw : CallB R s args own index y bytes maxL ret wy rm rm.cells rm.slots n ∧ (Cond.static y).before args s = true) (hPc : va_P D ccl Wc H) (hK : va_K D ccl TY s) (hDc : va_D A Wc) (hV : gV s) (hH : gH df A s s.heap) (hS : va_S A s.heap H locs) (hF : ∀ q, va_A Wc H.size q → A q) (hn : As.length = n) (hsize : ls.size = nL) {st0 : List Value} (hstack : st0 = As.reverse ++ rest) (hW : (rest.map fun v => v.category).sum ≤ 8) (hdg : decode cc pc = .ok (.invokestatic index, 3)) (hf : cells + rm.cells ≤ R.cells ∧ slots + rm.slots ≤ R.slots)
    (kk : ∀ (r : Int32) (w1 : va_W) (H1 : Heap) (locs1 : List Loc), post r w1 → va_P D ccl w1 H1 → va_D (va_A Wc H.size) w1 → (∀ q : Nat, q < H.size → ¬ va_A Wc H.size q → H1[q]? = H[q]?) → va_S A s.heap H1 locs1 → H.size ≤ H1.size → W p l e R s m args below meth c H1 locs1 (cells + rm.cells) (slots + rm.slots) Q (F0 m (pc + 3) ls (.int r :: rest))) : W p l e R s m args below meth c H locs cells slots Q (F0 m pc ls st0) :=
  va_calli (va_runS (As := As) (rest := rest) CF hM cw ⟨gPreS.blind, gS_pre hX hS hPc hK hDc hV hH hF⟩ rfl hn hsize hstack (lv_room hW) hdg hf) hS (fun q _ h => hF q h) hF (fun r u t H1 locs1 ht hvm hw hB hz hk hS1 => kk r u H1 locs1 hw (by rw [← ht]; exact hB.1) hB.2.2 hk hS1 hz)
theorem gS_SiW {post : Int32 → va_W → Prop} (hX : va_X b L xs s s.heap ∧ b < s.heap.size ∧ ¬ A b) (CF : CallFix p m c cc nL s args Ts own) (hM : MetS l y wy rm D TY df b L xs Wc H.size As post) (cw : vx_CSW R s args own index y bytes maxL ret hh wy rm rm.cells rm.slots n) (hPc : va_P D ccl Wc H) (hK : va_K D ccl TY s) (hDc : va_D A Wc) (hV : gV s) (hH : gH df A s s.heap) (hS : va_S A s.heap H locs) (hF : ∀ q, va_A Wc H.size q → A q) (hn : As.length = n) (hsize : ls.size = nL) {st0 : List Value} (hstack : st0 = As.reverse ++ rest) (hW : (rest.map fun v => v.category).sum ≤ 8) (hdg : decode cc pc = .ok (.invokestatic index, 3)) (hf : cells + rm.cells ≤ R.cells ∧ slots + rm.slots ≤ R.slots)
    (kk : ∀ (r : Int32) (w1 : va_W) (H1 : Heap) (locs1 : List Loc), post r w1 → va_P D ccl w1 H1 → va_D (va_A Wc H.size) w1 → (∀ q : Nat, q < H.size → ¬ va_A Wc H.size q → H1[q]? = H[q]?) → va_S A s.heap H1 locs1 → H.size ≤ H1.size → W p l e R s m args below meth c H1 locs1 (cells + rm.cells) (slots + rm.slots) Q (F0 m (pc + 3) ls (.int r :: rest))) : W p l e R s m args below meth c H locs cells slots Q (F0 m pc ls st0) :=
  va_calli (vx_runSW (As := As) (rest := rest) CF hM cw ⟨gPreS.blind, gS_pre hX hS hPc hK hDc hV hH hF⟩ rfl hn hsize hstack (lv_room hW) hdg hf) hS (fun q _ h => hF q h) hF (fun r u t H1 locs1 ht hvm hw hB hz hk hS1 => kk r u H1 locs1 hw (by rw [← ht]; exact hB.1) hB.2.2 hk hS1 hz)
end GSC
theorem g_phiHl {p : Program} {l : Launch} {e : Env} {R : Room} {s : State} {m : MethodId} {args : Array Value} {below : List Frame} {meth : Method} {c : Code} {H H0 : Heap} {locs : List Loc} {cells slots J : Nat} {ls : Array Slot} {Q : State → Prop} {g : JFrame} {st1 : List Value} {D : va_G} {A : Nat → Prop} {REL : Int64 → Prop} {Ws : va_W}
    (k : ∀ (b : Int64) (H : Heap) (locs : List Loc), REL b → va_P D ccl Ws H → va_D A Ws → va_S A H0 H locs → W p l e R s m args below meth c H locs cells slots Q (F0 m J ls (.long b :: st1))) (kk : (∀ (b : Int64) (H : Heap) (locs : List Loc), REL b → va_P D ccl Ws H → va_D A Ws → va_S A H0 H locs → W p l e R s m args below meth c H locs cells slots Q (F0 m J ls (.long b :: st1))) → W p l e R s m args below meth c H locs cells slots Q g) : W p l e R s m args below meth c H locs cells slots Q g := kk k
/-! the numbers of both sides, call by call -/
theorem rs_isR (v : Int32) : rs97 v = nI (gN (rs97 v)) ∧ gN (rs97 v) < 97 := by
  have h0 := Int.emod_nonneg v.toInt (show (97 : Int) ≠ 0 by decide)
  have h1 := Int.emod_lt_of_pos v.toInt (show (0 : Int) < 97 by decide)
  have e : rs97 v = nI (v.toInt % 97).toNat := rs97_of (by omega) (by omega)
  have hg : gN (rs97 v) = (v.toInt % 97).toNat := by rw [e]; exact gN_nI (by omega)
  rw [hg]
  exact ⟨e, by omega⟩
theorem isR_upd {f : Nat → Int32} {n k : Nat} {v : Int32} (h : isR f n) : isR (upd f k (rs97 v)) n := by
  intro i hi
  unfold upd
  by_cases e : i = k
  · rw [if_pos e]; exact rs_isR v
  · rw [if_neg e]; exact h i hi
theorem isR_des {f g : Nat → Int32} : isR (desA f g 32) 32 := by
  intro i hi
  unfold desA
  rw [if_pos hi, gN_nI (by have := desT_lt f i; omega)]
  exact ⟨rfl, desT_lt f i⟩
theorem isR_shift {f : Nat → Int32} {v : Int32} (h : isR f 64) : isR (shiftIn 64 f (rs97 v)) 64 := by
  intro i hi
  unfold shiftIn
  by_cases e : i = 0
  · rw [if_pos e]; exact rs_isR v
  · rw [if_neg e, if_pos hi]; exact h (i - 1) (by omega)
theorem isIn_int {v a b : Int32} (h : ¬ isIn v a b = 0) : a.toInt ≤ v.toInt ∧ v.toInt ≤ b.toInt := by
  obtain ⟨h1, h2⟩ := isIn_get h
  exact ⟨Int32.le_iff_toInt_le.mp h1, Int32.le_iff_toInt_le.mp h2⟩
theorem isC_upd {f : Nat → Int32} {k : Nat} {v : Int32} (h : isC f) (hv : -127 ≤ v.toInt ∧ v.toInt ≤ 127) : isC (upd f k v) := by
  intro i hi
  unfold upd
  by_cases e : i = k
  · rw [if_pos e]; exact hv
  · rw [if_neg e]; exact h i hi
theorem rnM_out {mc mw mo ms : Nat → Int32} {x : Int32} {N C : Nat} (hO : ∀ i, i < C → gN (mo i) < N) {i : Nat} (hi : 4 * N ≤ i) : ∀ {k}, k ≤ C → (rnM mc mw mo ms x k).1 i = ms i
  | 0, _ => rfl
  | k + 1, hk => by
    have hj := hO k (by omega)
    show goM _ _ _ _ i = _
    unfold goM upd
    rw [if_neg (by omega), if_neg (by omega), if_neg (by omega), if_neg (by omega)]
    exact rnM_out hO hi (by omega)
section WFS
variable {N : Nat} {mc ms mw : Nat → Int32} {C : Nat} {mo : Nat → Int32} {K Y : Nat} {rw0 mp tf qf : Nat → Int32}
theorem wf_section {way : Int32} (h : WF N mc ms mw C mo K Y rw0 mp tf qf) (hk : gGo (isIn way 0 2) (if N < 8 then 1 else 0) 1 = 0) : WF (N + 1) (upd mc (5 * N) 64) ms (upd mw N way) C mo K Y rw0 mp tf qf := by
  obtain ⟨hN, hC8, hmz, hsz9, hc, hs, hw, hO, hiM, hr⟩ := h
  obtain ⟨k1, k2, -⟩ := gGo_0 hk
  have hN8 := g_b1 k2
  obtain ⟨V, hV, rfl⟩ := isIn_nat 2 (by decide) k1
  refine ⟨by omega, hC8, fun i hi => ?_, fun i hi => hsz9 i (by omega), isC_upd hc (by decide), hs, fun j hj => ?_, fun i hi => ⟨by have := (hO i hi).1; omega, (hO i hi).2⟩, hiM, hr⟩
  · unfold upd
    rw [if_neg (by omega)]
    exact hmz i (by omega)
  · unfold upd
    by_cases e : j = N
    · rw [if_pos e]
      rcases (show V = 0 ∨ V = 1 ∨ V = 2 by omega) with rfl | rfl | rfl
      · exact Or.inl rfl
      · exact Or.inr (Or.inl rfl)
      · exact Or.inr (Or.inr rfl)
    · rw [if_neg e]; exact hw j hj
theorem wf_set {j wh v : Int32} (h : WF N mc ms mw C mo K Y rw0 mp tf qf) (hk : gGo (isSec N j) (if isIn wh 0 4 = 0 then 0 else isIn v (-127) 127) 1 = 0) : WF N (upd mc (5 * gN j + gN wh) v) ms mw C mo K Y rw0 mp tf qf := by
  obtain ⟨hN, hC8, hmz, hsz9, hc, hr⟩ := h
  obtain ⟨k1, k2, -⟩ := gGo_0 hk
  have k3 : ¬ isIn wh 0 4 = 0 := fun h9 => k2 (if_pos h9)
  rw [if_neg k3] at k2
  obtain ⟨J, hJ, rfl⟩ := isSec_get hN k1
  obtain ⟨V, hV, rfl⟩ := isIn_nat 4 (by decide) k3
  have e1 : gN (nI J) = J := gN_nI (by omega)
  have e2 : gN (nI V) = V := gN_nI (by omega)
  rw [e1, e2]
  refine ⟨hN, hC8, fun i hi => ?_, hsz9, isC_upd hc (isIn_int k2), hr⟩
  unfold upd
  rw [if_neg (by omega)]
  exact hmz i hi
theorem wf_room {j : Int32} (h : WF N mc ms mw C mo K Y rw0 mp tf qf) {J : Nat} (hJ : J < N) (hl : lastAt mo (nI J) C = -1) : C < 8 := by
  obtain ⟨hN, hC8, hmz, hsz9, hc, hs, hw, hO, hiM, hr⟩ := h
  have hno : ∀ i, i < C → gN (mo i) ≠ J := fun i hi h9 => lastAt_no (by omega) hl i hi (by rw [(hO i hi).2, h9])
  have := fb_holes N (C + 1) (fun i => if i < C then gN (mo i) else J) (fun i hi => by
    show (if i < C then gN (mo i) else J) < N
    by_cases e : i < C
    · rw [if_pos e]; exact (hO i e).1
    · rw [if_neg e]; exact hJ) (fun a b hab hb => by
    show (if a < C then gN (mo a) else J) ≠ (if b < C then gN (mo b) else J)
    rw [if_pos (show a < C by omega)]
    by_cases e : b < C
    · rw [if_pos e]; exact fun h9 => absurd (hiM a b (by omega) e h9) (by omega)
    · rw [if_neg e]; exact hno a (by omega))
  omega
theorem wf_chainA {j : Int32} (h : WF N mc ms mw C mo K Y rw0 mp tf qf) (hk : gGo (isSec N j) 1 1 = 0) (hl : lastAt mo j C = -1) : WF N mc ms mw (C + 1) (upd mo C j) K Y rw0 mp tf qf := by
  obtain ⟨k1, -, -⟩ := gGo_0 hk
  obtain ⟨J, hJ, rfl⟩ := isSec_get h.1 k1
  have hC := wf_room (j := 0) h hJ hl
  obtain ⟨hN, hC8, hmz, hsz9, hc, hs, hw, hO, hiM, hr⟩ := h
  have e1 : gN (nI J) = J := gN_nI (by omega)
  have hno : ∀ i, i < C → gN (mo i) ≠ J := fun i hi h9 => lastAt_no (by omega) hl i hi (by rw [(hO i hi).2, h9])
  refine ⟨hN, by omega, hmz, hsz9, hc, hs, hw, fun i hi => ?_, fun a b ha hb => ?_, hr⟩
  · unfold upd
    by_cases e : i = C
    · rw [if_pos e, e1]; exact ⟨hJ, rfl⟩
    · rw [if_neg e]; exact hO i (by omega)
  · unfold upd
    by_cases ea : a = C
    · by_cases eb : b = C
      · intro _; omega
      · rw [if_pos ea, if_neg eb, e1]; exact fun h9 => absurd h9.symm (hno b (by omega))
    · by_cases eb : b = C
      · rw [if_neg ea, if_pos eb, e1]; exact fun h9 => absurd h9 (hno a (by omega))
      · rw [if_neg ea, if_neg eb]; exact hiM a b (by omega) (by omega)
theorem wf_chainR {Q : Nat} (h : WF N mc ms mw C mo K Y rw0 mp tf qf) (hQ : Q < C) : WF N mc ms mw (C - 1) (rmAt mo Q (C - 1)) K Y rw0 mp tf qf := by
  obtain ⟨hN, hC8, hmz, hsz9, hc, hs, hw, hO, hiM, hr⟩ := h
  have key : ∀ i, i < C - 1 → ∃ z, z < C ∧ rmAt mo Q (C - 1) i = mo z ∧ z = if Q ≤ i then i + 1 else i := by
    intro i hi
    unfold rmAt
    by_cases e : Q ≤ i
    · rw [if_pos ⟨e, hi⟩, if_pos e]; exact ⟨i + 1, by omega, rfl, rfl⟩
    · rw [if_neg (fun h9 => e h9.1), if_neg e]; exact ⟨i, by omega, rfl, rfl⟩
  refine ⟨hN, by omega, hmz, hsz9, hc, hs, hw, fun i hi => ?_, fun a b ha hb he => ?_, hr⟩
  · obtain ⟨z, hz, e, -⟩ := key i hi
    rw [e]; exact hO z hz
  · obtain ⟨z1, hz1, e1, f1⟩ := key a ha
    obtain ⟨z2, hz2, e2, f2⟩ := key b hb
    rw [e1, e2] at he
    have := hiM z1 z2 hz1 hz2 he
    split at f1 <;> split at f2 <;> omega
theorem wf_run {x : Int32} (h : WF N mc ms mw C mo K Y rw0 mp tf qf) (hk : gGo (isIn x (-32767) 32767) 1 1 = 0) : WF N mc (rnM mc mw mo ms x C).1 mw C mo (if K < 16 then K + 1 else K) Y rw0 mp tf qf := by
  obtain ⟨hN, hC8, hmz, hsz9, hc, hs, hw, hO, hiM, hK, hr⟩ := h
  obtain ⟨k1, -, -⟩ := gGo_0 hk
  have hx := isIn_sig k1
  exact ⟨hN, hC8, hmz, fun i hi => (rnM_out (fun k hk => (hO k hk).1) hi (Nat.le_refl C)).trans (hsz9 i hi), hc, (rn_ok hs hx (fun i hi => Nat.lt_of_lt_of_le (hO i hi).1 hN) (Nat.le_refl C)).1, hw, hO, hiM, by split <;> omega, hr⟩
theorem wf_rest (h : WF N mc ms mw C mo K Y rw0 mp tf qf) : zeroTo ms (4 * N) = zeroTo ms 32 ∧ WF N mc (zeroTo ms 32) mw C mo 0 Y rw0 mp tf qf := by
  obtain ⟨hN, hC8, hmz, hsz9, hc, hs, hw, hO, hiM, hK, hr⟩ := h
  have e : ∀ i, zeroTo ms 32 i = 0 := by
    intro i
    unfold zeroTo
    by_cases e : i < 32
    · rw [if_pos e]
    · rw [if_neg e]; exact hsz9 i (by omega)
  refine ⟨?_, hN, hC8, hmz, fun i _ => e i, hc, fun i _ => by rw [e i]; decide, hw, hO, hiM, by omega, hr⟩
  funext i
  rw [e i]
  unfold zeroTo
  by_cases e : i < 4 * N
  · rw [if_pos e]
  · rw [if_neg e]; exact hsz9 i (by omega)
theorem wf_tap {k : Nat} {v : Int32} (h : WF N mc ms mw C mo K Y rw0 mp tf qf) : WF N mc ms mw C mo K Y rw0 mp (upd tf k (rs97 v)) qf := by
  obtain ⟨h1, h2, h3, h4, h5, h6, h7, h8, h9, h10, h11, h12, h13, h14, h15, h16⟩ := h
  exact ⟨h1, h2, h3, h4, h5, h6, h7, h8, h9, h10, h11, h12, h13, h14, isR_upd h15, h16⟩
theorem wf_ask {k : Nat} {v : Int32} (h : WF N mc ms mw C mo K Y rw0 mp tf qf) : WF N mc ms mw C mo K Y rw0 mp tf (upd qf k (rs97 v)) := by
  obtain ⟨h1, h2, h3, h4, h5, h6, h7, h8, h9, h10, h11, h12, h13, h14, h15, h16⟩ := h
  exact ⟨h1, h2, h3, h4, h5, h6, h7, h8, h9, h10, h11, h12, h13, h14, h15, isR_upd h16⟩
theorem wf_design (h : WF N mc ms mw C mo K Y rw0 mp tf qf) : WF N mc ms mw C mo K Y rw0 mp (desA qf tf 32) qf := by
  obtain ⟨h1, h2, h3, h4, h5, h6, h7, h8, h9, h10, h11, h12, h13, h14, h15, h16⟩ := h
  exact ⟨h1, h2, h3, h4, h5, h6, h7, h8, h9, h10, h11, h12, h13, h14, isR_des, h16⟩
theorem wf_sample {v : Int32} (h : WF N mc ms mw C mo K Y rw0 mp tf qf) (hk : gGo (isIn v (-96) 96) 1 1 = 0) : WF N mc ms mw C mo K (if Y < 64 then Y + 1 else Y) (shiftIn 64 rw0 v) (shiftIn 64 mp (rs97 v)) tf qf := by
  obtain ⟨h1, h2, h3, h4, h5, h6, h7, h8, h9, h10, h11, h12, h13, h14, h15, h16⟩ := h
  obtain ⟨k1, -, -⟩ := gGo_0 hk
  have hv := isIn_int k1
  refine ⟨h1, h2, h3, h4, h5, h6, h7, h8, h9, h10, by split <;> omega, fun i hi => ?_, fun i hi => ?_, isR_shift h14, h15, h16⟩
  · unfold shiftIn
    by_cases e : i = 0
    · rw [if_pos e]; exact hv
    · rw [if_neg e, if_pos (by split at hi <;> omega)]; exact h12 (i - 1) (by split at hi <;> omega)
  · unfold shiftIn
    by_cases e : i = 0
    · rw [if_pos e, if_pos e]
    · rw [if_neg e, if_neg e, if_pos (by split at hi <;> omega), if_pos (by split at hi <;> omega)]; exact h13 (i - 1) (by split at hi <;> omega)
theorem wf_arrange (h : WF N mc ms mw C mo K Y rw0 mp tf qf) {o1 : Nat → Int32} (h1 : ∀ k, k < C → ∃ j, j < C ∧ o1 k = mo j) (h2 : ∀ i j, i < C → j < C → gN (o1 i) = gN (o1 j) → i = j) : WF N mc ms mw C o1 K Y rw0 mp tf qf := by
  obtain ⟨hN, hC8, hmz, hsz9, hc, hs, hw, hO, hiM, hr⟩ := h
  refine ⟨hN, hC8, hmz, hsz9, hc, hs, hw, fun i hi => ?_, h2, hr⟩
  obtain ⟨j, hj, e⟩ := h1 i hi
  rw [e]; exact hO j hj
theorem wf_new : WF 0 (fun _ => 0) (fun _ => 0) (fun _ => 0) 0 (fun _ => 0) 0 0 (fun _ => 0) (fun _ => 0) (fun _ => 0) (fun _ => 0) := by
  have h0 : ∀ n, isR (fun _ => 0) n := fun n i _ => ⟨rfl, show gN (0 : Int32) < 97 by decide⟩
  exact ⟨by omega, by omega, fun _ _ => rfl, fun _ _ => rfl, fun i _ => show -127 ≤ (0 : Int32).toInt ∧ (0 : Int32).toInt ≤ 127 by decide, fun i _ => show -32767 ≤ (0 : Int32).toInt ∧ (0 : Int32).toInt ≤ 32767 by decide, fun j _ => Or.inl rfl, fun i h => absurd h (Nat.not_lt_zero i), fun i j h => absurd h (Nat.not_lt_zero i), by omega, by omega, fun i h => absurd h (Nat.not_lt_zero i), fun i h => absurd h (Nat.not_lt_zero i), h0 _, h0 _, h0 _⟩
end WFS
