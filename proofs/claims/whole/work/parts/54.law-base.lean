/-! methods with handlers of their own: start, call, weaker posts; the class's whole object -/
theorem g_ofH {l : Launch} {y : MethodName} {ws ws' : List Cond} {rm : Room} {cc : ByteArray} {nL : Nat} {ret : Option FieldType} {hh : List (Nat × Nat × Nat × Nat)} {D : va_G} {TY : List (ClassId × FieldType)} {df : Nat} {Ws : va_W} {sz : Nat} {av : List Value} {Qc : (Nat → Prop) → Array Value → State → Outcome → State → Prop}
    (hy : plainName y.cls = true) (hw : ws = Cond.codeWith y cc nL ret hh :: ws') (hav : (lg_sl av).length ≤ nL)
    (body : ∀ p e s m below meth c ls A, s.heap.size = sz → gAt p s m av.toArray meth c y ws cc nL ret D TY df Ws A → c.exceptionTable.toList = tableOf hh → lv_has ls nL (lv_args 0 av) →
      W p l e rm s m av.toArray below meth c s.heap [] 0 0 (MQ below (Qc A) av.toArray s rm.cells rm.slots A) (F0 m 0 ls [])) : Met l y ws rm (va_Pc av (gPre D TY df Ws sz)) (Qc (va_A Ws sz)) rm.cells rm.slots (va_A Ws sz) := by
  refine MetFree.of_bodyS (code := cc) (maxLocals := nL) (ret := ret) hy ?_ ?_
  · intro args s m h hn
    obtain ⟨m9, meth, c, hn9, h1, h2, h3, h4, -, h5, h6, -⟩ := Cond.codeWith_spec (atoms_spec (ws := ws) h _ (by rw [hw]; exact List.mem_cons_self))
    cases hn.symm.trans hn9
    exact ⟨meth, c, h1, h2, h3, h4, h5, h6⟩
  · intro p e s m args below meth c s₁ B hml hP _
    obtain ⟨rfl, hsz, hP, hK, hD0, hV, hH⟩ := hP
    subst hsz
    have hh0 : s₁.heap = s.heap := by rw [B.state]; rfl
    have hts := atoms_spec (ws := ws) B.pre
    have ht := vx_table (x := y) B (hts _ (by rw [hw]; exact List.mem_cons_self))
    have hl := lv_entry av (n := nL) hav
    have K := body p e s m below meth c _ _ rfl ⟨⟨B.exec, B.bytes, hml, findClass_of_methodNamed B.named, hts⟩, B.returns, B.notSynchronized, fun q h => Or.inr h, va_S.rf, hP, hK, hD0.self (sz := s.heap.size), hV, hH⟩ ht hl
    rw [← lg_entry_eq] at K
    obtain ⟨t, a1, o, b1, b2, b3⟩ := K s₁ hh0 (Stand.of_body B)
    exact ⟨t, o, a1, b1, b2, ⟨b3.1, b3.2⟩⟩
section GCW
variable {p : Program} {l : Launch} {e : Env} {R : Room} {s : State} {m : MethodId} {args : Array Value} {below : List Frame} {meth : Method} {c : Code} {H : Heap} {locs : List Loc} {cells slots : Nat} {cc : ByteArray} {pc : Nat} {ls : Array Slot} {A : Nat → Prop} {D : va_G} {TY : List (ClassId × FieldType)} {Q : State → Prop}
variable {nL n index maxL df : Nat} {Ts wy ws' : List Cond} {own C : String} {y : MethodName} {bytes : ByteArray} {ret : Option FieldType} {rm : Room} {Wx Wc Wr : va_W} {av As rest : List Value} {b : Nat} {hh : List (Nat × Nat × Nat × Nat)}
theorem g_SiW {post : Int32 → va_W → Prop} (CF : CallFix p m c cc nL s args Ts own) (hM : MetI l y wy rm D TY df Wc H.size As post) (cw : vx_CSW R s args own index y bytes maxL ret hh wy rm rm.cells rm.slots n) (hPc : va_P D ccl Wc H) (hK : va_K D ccl TY s) (hDc : va_D A Wc) (hV : gV s) (hH : gH df A s s.heap) (hS : va_S A s.heap H locs) (hF : ∀ q, va_A Wc H.size q → A q) (hn : As.length = n) (hsize : ls.size = nL) {st0 : List Value} (hstack : st0 = As.reverse ++ rest) (hW : (rest.map fun v => v.category).sum ≤ 8) (hdg : decode cc pc = .ok (.invokestatic index, 3)) (hf : cells + rm.cells ≤ R.cells ∧ slots + rm.slots ≤ R.slots)
    (kk : ∀ (r : Int32) (w1 : va_W) (H1 : Heap) (locs1 : List Loc), post r w1 → va_P D ccl w1 H1 → va_D (va_A Wc H.size) w1 → (∀ q : Nat, q < H.size → ¬ va_A Wc H.size q → H1[q]? = H[q]?) → va_S A s.heap H1 locs1 → H.size ≤ H1.size → W p l e R s m args below meth c H1 locs1 (cells + rm.cells) (slots + rm.slots) Q (F0 m (pc + 3) ls (.int r :: rest))) : W p l e R s m args below meth c H locs cells slots Q (F0 m pc ls st0) :=
  va_calli (vx_runSW (As := As) (rest := rest) CF hM cw ⟨gPre.blind, g_pre hS hPc hK hDc hV hH hF⟩ rfl hn hsize hstack (lv_room hW) hdg hf) hS (fun q _ h => hF q h) hF (fun r u t H1 locs1 ht hvm hw hB hz hk hS1 => kk r u H1 locs1 hw (by rw [← ht]; exact hB.1) hB.2.2 hk hS1 hz)
end GCW
theorem g_mono {l : Launch} {y : MethodName} {ws : List Cond} {rm : Room} {D : va_G} {TY : List (ClassId × FieldType)} {df : Nat} {Ws : va_W} {sz : Nat} {av : List Value} {P Q : Int32 → va_W → Prop} (h : MetI l y ws rm D TY df Ws sz av P) (hQ : ∀ r w, P r w → Q r w) : MetI l y ws rm D TY df Ws sz av Q :=
  MetFree.mono h (fun _ _ h => h) (fun _ _ _ _ _ h => h) (fun _ _ _ _ _ h => ⟨⟨by obtain ⟨r, u, h1, h2, h3⟩ := h.1.1; exact ⟨r, u, h1, hQ r u h2, h3⟩, h.1.2⟩, h.2⟩)
theorem gGo_1 {f : Int32} (h : ¬ gGo f 1 1 = 0) : gGo f 1 1 = 1 := by
  unfold gGo at h ⊢
  by_cases h1 : f = 0
  · rw [if_pos h1]
  · rw [if_neg h1, if_neg (by decide), if_neg (by decide)] at h; exact absurd rfl h
theorem gGo_2 {f s : Int32} (h : ¬ gGo f s 1 = 0) (h1 : ¬ gGo f s 1 = 1) : gGo f s 1 = 2 := by
  unfold gGo at h h1 ⊢
  by_cases hf : f = 0
  · rw [if_pos hf] at h1; exact absurd rfl h1
  · rw [if_neg hf] at h ⊢
    by_cases hs : s = 0
    · rw [if_pos hs]
    · rw [if_neg hs, if_neg (by decide)] at h; exact absurd rfl h
/-- the chain and the sections, by the forms of their lists -/
def TLF (cI cO : ClassId) (df sl ch : Nat) (tl : va_W) (N : Nat) (mc ms mw : Nat → Int32) (C : Nat) (mo : Nat → Int32) : Prop :=
  (∃ (lh er : Nat) (md : Int32) (fr : Nat → Option Nat) (smd : Int32) (ser : Nat) (sf : Nat → Option Nat) (SA SB : Nat → Nat), tl = ([(ch, .inr (1, [.ref lh])), (lh, .inr (0, [.int md, .ref er, .int (nI C)])), (sl, .inr (0, [.int smd, .ref ser, .int (nI N)])), (ser, .inl (cO, 10, .inr (.inr (.inr (.inr sf))))), (er, .inl (cO, 10, .inr (.inr (.inr (.inr fr)))))] : va_W) ++ scL (scJ cI SA SB mc ms mw) (List.range N) ∧ 0 < N ∧ (∀ k, k < C → fr k = some (SA (gN (mo k)))) ∧ ∀ k, k < N → sf k = some (SA k)) ∨
  (∃ (lh : Nat) (md : Int32) (smd : Int32) (ser : Nat) (sf : Nat → Option Nat) (SA SB : Nat → Nat), tl = ([(ch, .inr (1, [.ref lh])), (lh, .inr (0, [.int md, .ref df, .int 0])), (sl, .inr (0, [.int smd, .ref ser, .int (nI N)])), (ser, .inl (cO, 10, .inr (.inr (.inr (.inr sf)))))] : va_W) ++ scL (scJ cI SA SB mc ms mw) (List.range N) ∧ 0 < N ∧ C = 0 ∧ ∀ k, k < N → sf k = some (SA k)) ∨
  (∃ (lh : Nat) (md : Int32) (smd : Int32) (SA SB : Nat → Nat), tl = ([(ch, .inr (1, [.ref lh])), (lh, .inr (0, [.int md, .ref df, .int 0])), (sl, .inr (0, [.int smd, .ref df, .int 0]))] : va_W) ++ scL (scJ cI SA SB mc ms mw) (List.range 0) ∧ N = 0 ∧ C = 0)
/-- the class's object -/
def CLS (cI cJ cO : ClassId) (df t0 : Nat) (w : va_W) (N : Nat) (mc ms mw : Nat → Int32) (C : Nat) (mo : Nat → Int32) (K : Nat) (mu : Nat → Int32) (Y : Nat) (rw0 tf qf : Nat → Int32) : Prop :=
  ∃ (sl ch oh xh rh sh ob mk ta qa pa sb : Nat) (fc fl fg fe : Int32) (gm : Nat → Int64) (tl : va_W), w = ([(t0, .inr (7, [.ref sl, .ref ch, .ref oh, .ref xh, .ref rh, .ref sh])), (oh, .inr (4, [.ref ob, .int (nI K)])), (ob, .inl (cI, 16, .inl mu)), (xh, .inr (2, [.ref mk, .int fc, .int fl, .int fg, .int fe])), (mk, .inl (cJ, 1263, .inr (.inl gm))), (rh, .inr (6, [.ref ta, .ref qa, .ref pa])), (ta, .inl (cI, 32, .inl tf)), (qa, .inl (cI, 32, .inl qf)), (pa, .inl (cI, 32, .inl (pwZ 32))), (sh, .inr (4, [.ref sb, .int (nI Y)])), (sb, .inl (cI, 64, .inl rw0))] : va_W) ++ tl ∧ TLF cI cO df sl ch tl N mc ms mw C mo
/-- the numbers of both sides are as they must be -/
def WF (N : Nat) (mc ms mw : Nat → Int32) (C : Nat) (mo : Nat → Int32) (K Y : Nat) (rw0 mp tf qf : Nat → Int32) : Prop :=
  N ≤ 8 ∧ C ≤ 8 ∧ (∀ i, 5 * N ≤ i → mc i = 0) ∧ (∀ i, 4 * N ≤ i → ms i = 0) ∧ isC mc ∧ isS ms ∧ (∀ j, j < 8 → isW (mw j)) ∧ (∀ i, i < C → gN (mo i) < N ∧ mo i = nI (gN (mo i))) ∧ (∀ i j, i < C → j < C → gN (mo i) = gN (mo j) → i = j) ∧
  K ≤ 16 ∧ Y ≤ 64 ∧ (∀ i, i < Y → -96 ≤ (rw0 i).toInt ∧ (rw0 i).toInt ≤ 96) ∧ (∀ i, i < Y → mp i = rs97 (rw0 i)) ∧ isR mp 64 ∧ isR tf 32 ∧ isR qf 32
