/-! what all contracts of this proof stand on: the fixed facts of the launch, the form of a contract, its start, its ends, its calls (with the frame) -/
/-- the types of the arrays that the worlds hold -/
abbrev gTY (cI cJ cO : ClassId) : List (ClassId × FieldType) := [(cI, .int), (cJ, .long), (cO, .object "java/lang/Object")]
def gCast (C T : String) (U : State) : Prop := ∃ c t : ClassId, U.vm.findClass C = some c ∧ U.vm.findClass T = some t ∧ U.vm.assignable c t = true
theorem gCast.moved {C T : String} {u U : State} (hvm : u.vm.Alike U.vm) (h : gCast C T u) : gCast C T U := by
  obtain ⟨c, t, h1, h2, h3⟩ := h
  exact ⟨c, t, by rw [hvm.findClass]; exact h1, by rw [hvm.findClass]; exact h2, by rw [hvm.assignable]; exact h3⟩
theorem gCast.of {args : Array Value} {s : State} {C T : String} (h : (Cond.castable C T).before args s = true) : gCast C T s := by
  obtain ⟨c, t, h1, h2, h3⟩ := Cond.castable_spec h
  exact ⟨c, t, h1, h2, h3⟩
theorem gCast.use {args : Array Value} {s : State} {C T : String} (h : gCast C T s) : (Cond.castable C T).before args s = true := by
  obtain ⟨c, t, h1, h2, h3⟩ := h
  simp [Cond.before, Cond.holds, Cond.value, h1, h2, h3]
abbrev gIAE : String := "java/lang/IllegalArgumentException"
abbrev gISE : String := "java/lang/IllegalStateException"
abbrev gIOB : String := "java/lang/IndexOutOfBoundsException"
/-- a method is declared -/
def gDc (y : MethodName) (U : State) : Prop := (Cond.declares y).before #[] U = true
theorem gDc.of {A : Array Value} {y : MethodName} {U : State} (h : (Cond.declares y).before A U = true) : gDc y U := va_any rfl h
theorem gDc.use {A : Array Value} {y : MethodName} {U : State} (h : gDc y U) : (Cond.declares y).before A U = true := va_any rfl h
theorem gDc.moved {y : MethodName} {u U : State} (hvm : u.vm.Alike U.vm) (h : gDc y u) : gDc y U := by
  have h1 : (Cond.declares y).before #[] (u.setVm U.vm) = true := by
    rw [Cond.declares_setVm hvm]
    exact h
  have e := Cond.onTables_vm (A := #[]) (A' := #[]) (U := u) (U' := U) U.vm (Cond.declares y) rfl
  have hU : U.setVm U.vm = U := rfl
  rw [hU] at e
  unfold gDc
  rw [← e]
  exact h1
/-- what of the launch needs no heap -/
def gV (U : State) : Prop :=
  (∃ sa, vk_R "TapLoom" 191 "there is none of this number" sa U) ∧ (∃ sa, vk_R "TapLoom" 194 "there is none behind the latest one" sa U) ∧ (∃ sa, vk_R "TapLoom" 198 "an argument is out of its range" sa U) ∧
  (∃ sa, vk_R "TapLoom" 204 "the chain has too many sections" sa U) ∧ (∃ sa, vk_R "TapLoom" 61 "there are 8 sections" sa U) ∧ va_AO "java/lang/Object" U ∧ gCast RX4 "java/lang/Object" U ∧
  gCast gIAE gIAE U ∧ gCast gISE gISE U ∧ gCast gIOB gIOB U ∧ va_Nc gISE gIAE U ∧ va_Nc gIAE gIOB U ∧ gDc (Bundle.initS "java/lang/RuntimeException") U ∧ gDc (Bundle.initS "java/lang/Exception") U ∧ gDc (Bundle.initS Bundle.tN) U
/-- what of the launch stands in the heap outside of A -/
def gH (df : Nat) (A : Nat → Prop) (U : State) (H : Heap) : Prop :=
  vx_Zq Bundle.tN "UNASSIGNED_STACK" Bundle.steD A U H ∧ vx_Zq Bundle.tN "SUPPRESSED_SENTINEL" Bundle.listD A U H ∧ va_Z "java/util/ArrayList" "DEFAULTCAPACITY_EMPTY_ELEMENTDATA" "[Ljava/lang/Object;" (.ref df) A U H ∧
  va_T (.object "java/lang/Object") df 0 (fun _ => .null) A U H
theorem gV.warm {s U : State} (hW : s.WarmedH U.vm) (h : gV s) : gV U := by
  obtain ⟨⟨a1, h1⟩, ⟨a2, h2⟩, ⟨a3, h3⟩, ⟨a4, h4⟩, ⟨a5, h5⟩, h6, h7, h8, h9, h10, h11, h12, h13, h14, h15⟩ := h
  exact ⟨⟨a1, h1.warm hW⟩, ⟨a2, h2.warm hW⟩, ⟨a3, h3.warm hW⟩, ⟨a4, h4.warm hW⟩, ⟨a5, h5.warm hW⟩, h6.moved hW.alike, h7.moved hW.alike, h8.moved hW.alike, h9.moved hW.alike, h10.moved hW.alike, h11.moved hW.alike, h12.moved hW.alike, h13.moved hW.alike, h14.moved hW.alike, h15.moved hW.alike⟩
theorem gV.same {s U : State} (hv : U.vm = s.vm) (h : gV s) : gV U := by
  obtain ⟨⟨a1, h1⟩, ⟨a2, h2⟩, ⟨a3, h3⟩, ⟨a4, h4⟩, ⟨a5, h5⟩, h6, h7, h8, h9, h10, h11, h12, h13, h14, h15⟩ := h
  have hW : s.vm.Alike U.vm := by rw [hv]; exact Vm.Alike.refl s.vm
  exact ⟨⟨a1, vk_R.same hv h1⟩, ⟨a2, vk_R.same hv h2⟩, ⟨a3, vk_R.same hv h3⟩, ⟨a4, vk_R.same hv h4⟩, ⟨a5, vk_R.same hv h5⟩, h6.moved hW, h7.moved hW, h8.moved hW, h9.moved hW, h10.moved hW, h11.moved hW, h12.moved hW, h13.moved hW, h14.moved hW, h15.moved hW⟩
theorem gH.moved {df : Nat} {A : Nat → Prop} {u U : State} {H : Heap} (hvm : u.vm.Alike U.vm) (h : gH df A u H) : gH df A U H := ⟨h.1.moved hvm, h.2.1.moved hvm, h.2.2.1.moved hvm, h.2.2.2.moved hvm⟩
theorem gH.kept {df : Nat} {A : Nat → Prop} {U : State} {H H1 : Heap} (h : gH df A U H) (hq : ∀ a : Nat, a < H.size → ¬ A a → H1[a]? = H[a]?) : gH df A U H1 := ⟨h.1.kept hq, h.2.1.kept hq, h.2.2.1.kept hq, h.2.2.2.kept hq⟩
theorem gH.narrow {df : Nat} {A B : Nat → Prop} {U : State} {H : Heap} (h : gH df A U H) (hAB : ∀ q, B q → A q) : gH df B U H := ⟨h.1.narrow hAB, h.2.1.narrow hAB, h.2.2.1.narrow hAB, h.2.2.2.narrow hAB⟩
/-- the state that a contract begins at: the world Ws in a heap of sz cells -/
def gPre (D : va_G) (TY : List (ClassId × FieldType)) (df : Nat) (Ws : va_W) (sz : Nat) : State → Prop := fun U =>
  U.heap.size = sz ∧ va_P D ccl Ws U.heap ∧ va_K D ccl TY U ∧ va_D (fun _ => True) Ws ∧ gV U ∧ gH df (va_A Ws sz) U U.heap
/-- the world that a contract leaves -/
def gB (D : va_G) (TY : List (ClassId × FieldType)) (A : Nat → Prop) : va_W → State → Prop := fun w t => va_P D ccl w t.heap ∧ va_K D ccl TY t ∧ va_D A w
def gBr (D : va_G) (TY : List (ClassId × FieldType)) (A : Nat → Prop) : va_W × Nat → Nat → State → Prop := fun u a t => a = u.2 ∧ gB D TY A u.1 t
def gBx (D : va_G) (TY : List (ClassId × FieldType)) (A : Nat → Prop) : String → String × va_W → State → Prop := fun E u t => E = u.1 ∧ gB D TY A u.2 t
theorem gPre.blind {D : va_G} {TY : List (ClassId × FieldType)} {df : Nat} {Ws : va_W} {sz : Nat} {av : List Value} : FrameBlind (va_Pc av (gPre D TY df Ws sz)) := by
  intro a U g mk q
  obtain ⟨q0, q1, qP, qK, qD, qV, qH⟩ := q
  have hvm : U.vm.Alike (U.calling g mk a).vm := Vm.Alike.refl U.vm
  exact ⟨q0, q1, qP, va_K.moved (u := U) (U := U.calling g mk a) hvm qK, qD, gV.same (s := U) (U := U.calling g mk a) rfl qV, gH.moved (u := U) (U := U.calling g mk a) hvm qH⟩
abbrev MetI (l : Launch) (y : MethodName) (ws : List Cond) (rm : Room) (D : va_G) (TY : List (ClassId × FieldType)) (df : Nat) (Ws : va_W) (sz : Nat) (av : List Value) (post : Int32 → va_W → Prop) : Prop :=
  Met l y ws rm (va_Pc av (gPre D TY df Ws sz)) (va_Qi post (gB D TY (va_A Ws sz)) (va_A Ws sz)) rm.cells rm.slots (va_A Ws sz)
abbrev MetL (l : Launch) (y : MethodName) (ws : List Cond) (rm : Room) (D : va_G) (TY : List (ClassId × FieldType)) (df : Nat) (Ws : va_W) (sz : Nat) (av : List Value) (post : Int64 → va_W → Prop) : Prop :=
  Met l y ws rm (va_Pc av (gPre D TY df Ws sz)) (va_Ql post (gB D TY (va_A Ws sz)) (va_A Ws sz)) rm.cells rm.slots (va_A Ws sz)
abbrev MetV (l : Launch) (y : MethodName) (ws : List Cond) (rm : Room) (D : va_G) (TY : List (ClassId × FieldType)) (df : Nat) (Ws : va_W) (sz : Nat) (av : List Value) (post : va_W → Prop) : Prop :=
  Met l y ws rm (va_Pc av (gPre D TY df Ws sz)) (va_Qv post (gB D TY (va_A Ws sz)) (va_A Ws sz)) rm.cells rm.slots (va_A Ws sz)
abbrev MetR (l : Launch) (y : MethodName) (ws : List Cond) (rm : Room) (D : va_G) (TY : List (ClassId × FieldType)) (df : Nat) (Ws : va_W) (sz : Nat) (av : List Value) (post : va_W × Nat → Prop) : Prop :=
  Met l y ws rm (va_Pc av (gPre D TY df Ws sz)) (va_Qr post (gBr D TY (va_A Ws sz)) (va_A Ws sz)) rm.cells rm.slots (va_A Ws sz)
/-- .. that may throw: px says which class, and what world it leaves -/
abbrev MxI (l : Launch) (y : MethodName) (ws : List Cond) (rm : Room) (D : va_G) (TY : List (ClassId × FieldType)) (df : Nat) (Ws : va_W) (sz : Nat) (av : List Value) (px : String × va_W → Prop) (post : Int32 → va_W → Prop) : Prop :=
  vx_Met l y ws rm (va_Pc av (gPre D TY df Ws sz)) (va_Qi post (gB D TY (va_A Ws sz)) (va_A Ws sz)) (vx_X px (gBx D TY (va_A Ws sz)) (va_A Ws sz)) rm.cells rm.slots (va_A Ws sz)
abbrev MxL (l : Launch) (y : MethodName) (ws : List Cond) (rm : Room) (D : va_G) (TY : List (ClassId × FieldType)) (df : Nat) (Ws : va_W) (sz : Nat) (av : List Value) (px : String × va_W → Prop) (post : Int64 → va_W → Prop) : Prop :=
  vx_Met l y ws rm (va_Pc av (gPre D TY df Ws sz)) (va_Ql post (gB D TY (va_A Ws sz)) (va_A Ws sz)) (vx_X px (gBx D TY (va_A Ws sz)) (va_A Ws sz)) rm.cells rm.slots (va_A Ws sz)
abbrev MxV (l : Launch) (y : MethodName) (ws : List Cond) (rm : Room) (D : va_G) (TY : List (ClassId × FieldType)) (df : Nat) (Ws : va_W) (sz : Nat) (av : List Value) (px : String × va_W → Prop) (post : va_W → Prop) : Prop :=
  vx_Met l y ws rm (va_Pc av (gPre D TY df Ws sz)) (va_Qv post (gB D TY (va_A Ws sz)) (va_A Ws sz)) (vx_X px (gBx D TY (va_A Ws sz)) (va_A Ws sz)) rm.cells rm.slots (va_A Ws sz)
/-- what holds at a contract's start -/
def gAt (p : Program) (s : State) (m : MethodId) (args : Array Value) (meth : Method) (c : Code) (y : MethodName) (ws : List Cond) (cc : ByteArray) (nL : Nat) (ret : Option FieldType) (D : va_G) (TY : List (ClassId × FieldType)) (df : Nat) (Ws : va_W) (A : Nat → Prop) : Prop :=
  CallFix p m c cc nL s args ws y.cls ∧ meth.sig.returnType = ret ∧ meth.locks = false ∧ (∀ q : Nat, s.heap.size ≤ q → A q) ∧ va_S A s.heap s.heap [] ∧ va_P D ccl Ws s.heap ∧ va_K D ccl TY s ∧ va_D A Ws ∧ gV s ∧ gH df A s s.heap
theorem g_of {l : Launch} {y : MethodName} {ws ws' : List Cond} {rm : Room} {cc : ByteArray} {nL : Nat} {ret : Option FieldType} {D : va_G} {TY : List (ClassId × FieldType)} {df : Nat} {Ws : va_W} {sz : Nat} {av : List Value} {Qc : (Nat → Prop) → Array Value → State → Outcome → State → Prop}
    (hy : plainName y.cls = true) (hw : ws = Cond.code y cc nL ret :: ws') (hav : (lg_sl av).length ≤ nL)
    (body : ∀ p e s m below meth c ls A, s.heap.size = sz → gAt p s m av.toArray meth c y ws cc nL ret D TY df Ws A → (y.name = "<init>" → meth.name = "<init>") → lv_has ls nL (lv_args 0 av) →
      W p l e rm s m av.toArray below meth c s.heap [] 0 0 (MQ below (Qc A) av.toArray s rm.cells rm.slots A) (F0 m 0 ls [])) : Met l y ws rm (va_Pc av (gPre D TY df Ws sz)) (Qc (va_A Ws sz)) rm.cells rm.slots (va_A Ws sz) := by
  refine Met.ofW (cc := cc) (maxL := nL) (ret := ret) hy hw ?_
  intro p e s m args below meth c s₁ B hml hv
  obtain ⟨rfl, hsz, hP, hK, hD0, hV, hH⟩ := hv
  subst hsz
  have hl := lv_entry av (n := nL) hav
  rw [lg_entry_eq]
  have hts := atoms_spec (ws := ws) B.pre
  exact body p e s m below meth c _ _ rfl ⟨⟨B.exec, B.bytes, hml, findClass_of_methodNamed B.named, hts⟩, B.returns, B.notSynchronized, fun q h => Or.inr h, va_S.rf, hP, hK, hD0.self (sz := s.heap.size), hV, hH⟩ (fun h => by rw [← h]; exact (name_of_methodNamed B.named B.method).1) hl
theorem gx_of {l : Launch} {y : MethodName} {ws ws' : List Cond} {rm : Room} {cc : ByteArray} {nL : Nat} {ret : Option FieldType} {D : va_G} {TY : List (ClassId × FieldType)} {df : Nat} {Ws : va_W} {sz : Nat} {av : List Value} {Qc : (Nat → Prop) → Array Value → State → Outcome → State → Prop} {XC : (Nat → Prop) → String → State → State → Prop}
    (hy : plainName y.cls = true) (hw : ws = Cond.code y cc nL ret :: ws') (hav : (lg_sl av).length ≤ nL)
    (body : ∀ p e s m below meth c ls A, s.heap.size = sz → gAt p s m av.toArray meth c y ws cc nL ret D TY df Ws A → (∀ x ∈ c.exceptionTable.toList, False) → lv_has ls nL (lv_args 0 av) →
      W p l e rm s m av.toArray below meth c s.heap [] 0 0 (vx_MQ below (Qc A) (XC A) av.toArray s rm.cells rm.slots A) (F0 m 0 ls [])) : vx_Met l y ws rm (va_Pc av (gPre D TY df Ws sz)) (Qc (va_A Ws sz)) (XC (va_A Ws sz)) rm.cells rm.slots (va_A Ws sz) := by
  refine vx_ofW (cc := cc) (maxL := nL) (ret := ret) hy hw ?_
  intro p e s m args below meth c s₁ B hml htab hv
  obtain ⟨rfl, hsz, hP, hK, hD0, hV, hH⟩ := hv
  subst hsz
  have hl := lv_entry av (n := nL) hav
  rw [lg_entry_eq]
  have hts := atoms_spec (ws := ws) B.pre
  exact body p e s m below meth c _ _ rfl ⟨⟨B.exec, B.bytes, hml, findClass_of_methodNamed B.named, hts⟩, B.returns, B.notSynchronized, fun q h => Or.inr h, va_S.rf, hP, hK, hD0.self (sz := s.heap.size), hV, hH⟩ htab hl
section GE
variable {p : Program} {l : Launch} {e : Env} {R : Room} {s : State} {m : MethodId} {args : Array Value} {below : List Frame} {meth : Method} {c : Code} {H : Heap} {locs : List Loc} {cells slots mc ms : Nat} {cc : ByteArray} {pc : Nat} {ls : Array Slot} {A : Nat → Prop} {D : va_G} {TY : List (ClassId × FieldType)} {Wf : va_W}
theorem g_iret {v : Int32} {post : Int32 → va_W → Prop} (hx : p.tables.exec = Jvm.exec) (hb : c.code = cc) (hr : meth.sig.returnType = some .int) (hlk : meth.locks = false) (hP : va_P D ccl Wf H) (hK : va_K D ccl TY s) (hD : va_D A Wf) (hS : va_S A s.heap H locs) (h1 : cells ≤ mc) (h2 : slots ≤ ms) (hdg : decode cc pc = .ok (.ireturn, 1)) (hq : post v Wf) :
    W p l e R s m args below meth c H locs cells slots (MQ below (va_Qi post (gB D TY A) A) args s mc ms A) (F0 m pc ls [.int v]) :=
  W.widen h1 h2 (W.iret (v := v) hx hb hr (fun t ht hW => ⟨⟨v, Wf, rfl, hq, by rw [ht]; exact hP, va_K.moved hW.alike hK, hD⟩, hS.F ht⟩) hS.2.2 hdg hlk)
theorem g_zret {v : Int32} {post : Int32 → va_W → Prop} (hx : p.tables.exec = Jvm.exec) (hb : c.code = cc) (hr : meth.sig.returnType = some .boolean) (hlk : meth.locks = false) (hP : va_P D ccl Wf H) (hK : va_K D ccl TY s) (hD : va_D A Wf) (hS : va_S A s.heap H locs) (h1 : cells ≤ mc) (h2 : slots ≤ ms) (hdg : decode cc pc = .ok (.ireturn, 1)) (hn : narrow .boolean (.int v) = .int v) (hq : post v Wf) :
    W p l e R s m args below meth c H locs cells slots (MQ below (va_Qi post (gB D TY A) A) args s mc ms A) (F0 m pc ls [.int v]) :=
  W.widen h1 h2 (W.zret (v := v) hx hb hr hn (fun t ht hW => ⟨⟨v, Wf, rfl, hq, by rw [ht]; exact hP, va_K.moved hW.alike hK, hD⟩, hS.F ht⟩) hS.2.2 hdg hlk)
theorem g_lret {v : Int64} {post : Int64 → va_W → Prop} (hx : p.tables.exec = Jvm.exec) (hb : c.code = cc) (hr : meth.sig.returnType = some .long) (hlk : meth.locks = false) (hP : va_P D ccl Wf H) (hK : va_K D ccl TY s) (hD : va_D A Wf) (hS : va_S A s.heap H locs) (h1 : cells ≤ mc) (h2 : slots ≤ ms) (hdg : decode cc pc = .ok (.lreturn, 1)) (hq : post v Wf) :
    W p l e R s m args below meth c H locs cells slots (MQ below (va_Ql post (gB D TY A) A) args s mc ms A) (F0 m pc ls [.long v]) :=
  W.widen h1 h2 (W.lret (v := v) hx hb hr (fun t ht hW => ⟨⟨v, Wf, rfl, hq, by rw [ht]; exact hP, va_K.moved hW.alike hK, hD⟩, hS.F ht⟩) hS.2.2 hdg hlk)
theorem g_vret {post : va_W → Prop} (hx : p.tables.exec = Jvm.exec) (hb : c.code = cc) (hr : meth.sig.returnType = none) (hlk : meth.locks = false) (hP : va_P D ccl Wf H) (hK : va_K D ccl TY s) (hD : va_D A Wf) (hS : va_S A s.heap H locs) (h1 : cells ≤ mc) (h2 : slots ≤ ms) (hdg : decode cc pc = .ok (.return_, 1)) (hq : post Wf) :
    W p l e R s m args below meth c H locs cells slots (MQ below (va_Qv post (gB D TY A) A) args s mc ms A) (F0 m pc ls []) :=
  W.widen h1 h2 (W.vret hx hb hr (fun t ht hW => ⟨⟨Wf, rfl, hq, by rw [ht]; exact hP, va_K.moved hW.alike hK, hD⟩, hS.F ht⟩) hS.2.2 hdg hlk)
theorem g_rret {a : Nat} {rt : FieldType} {post : va_W × Nat → Prop} (hx : p.tables.exec = Jvm.exec) (hb : c.code = cc) (hr : meth.sig.returnType = some rt) (hlk : meth.locks = false) (hrt : (∃ n, rt = .object n) ∨ ∃ t, rt = .array t) (hP : va_P D ccl Wf H) (hK : va_K D ccl TY s) (hD : va_D A Wf) (hS : va_S A s.heap H locs) (h1 : cells ≤ mc) (h2 : slots ≤ ms) (hdg : decode cc pc = .ok (.areturn, 1)) (hq : post (Wf, a)) :
    W p l e R s m args below meth c H locs cells slots (MQ below (va_Qr post (gBr D TY A) A) args s mc ms A) (F0 m pc ls [.ref a]) :=
  W.widen h1 h2 (W.aret (v := .ref a) hx hb hr hrt (Or.inr ⟨a, rfl⟩) (fun t ht hW => ⟨⟨(Wf, a), a, rfl, hq, rfl, by rw [ht]; exact hP, va_K.moved hW.alike hK, hD⟩, hS.F ht⟩) hS.2.2 hdg hlk)
end GE
section GC
variable {p : Program} {l : Launch} {e : Env} {R : Room} {s : State} {m : MethodId} {args : Array Value} {below : List Frame} {meth : Method} {c : Code} {H : Heap} {locs : List Loc} {cells slots : Nat} {cc : ByteArray} {pc : Nat} {ls : Array Slot} {A : Nat → Prop} {D : va_G} {TY : List (ClassId × FieldType)} {Q : State → Prop}
variable {nL n index maxL df : Nat} {Ts wy ws' : List Cond} {own C : String} {y : MethodName} {bytes : ByteArray} {ret : Option FieldType} {rm : Room} {Wx Wc Wr : va_W} {av As rest : List Value} {b : Nat}
/-- the callee's own start, out of the caller's facts -/
theorem g_pre (hS : va_S A s.heap H locs) (hP : va_P D ccl Wc H) (hK : va_K D ccl TY s) (hD : va_D A Wc) (hV : gV s) (hH : gH df A s s.heap) (hF : ∀ q, va_A Wc H.size q → A q) : ∀ U : State, U.heap = H → s.WarmedH U.vm → va_Pc av (gPre D TY df Wc H.size) av.toArray U := fun U hU hW =>
  ⟨rfl, by rw [hU], by rw [hU]; exact hP, va_K.moved hW.alike hK, hD.weaken (fun _ _ _ _ => trivial), hV.warm hW, by rw [hU]; exact ((hH.kept (H1 := H) hS.2.1).narrow hF).moved hW.alike⟩
theorem g_Vi {post : Int32 → va_W → Prop} (CF : CallFix p m c cc nL s args Ts own) (hM : MetI l y wy rm D TY df Wc H.size (.ref b :: As) post) (cw : CallW R s args own C index y bytes maxL ret wy rm rm.cells rm.slots n) (hrecv : ∃ cellB : Cell, H[b]? = some cellB ∧ cellB.vm.isStatics = false ∧ s.vm.findClass C = some cellB.cls) (hPc : va_P D ccl Wc H) (hK : va_K D ccl TY s) (hDc : va_D A Wc) (hV : gV s) (hH : gH df A s s.heap) (hS : va_S A s.heap H locs) (hF : ∀ q, va_A Wc H.size q → A q) (hn : As.length = n) (hsize : ls.size = nL) {st0 : List Value} (hstack : st0 = As.reverse ++ .ref b :: rest) (hW : (rest.map fun v => v.category).sum ≤ 8) (hdg : decode cc pc = .ok (.invokevirtual index, 3)) (hf : cells + rm.cells ≤ R.cells ∧ slots + rm.slots ≤ R.slots)
    (kk : ∀ (r : Int32) (w1 : va_W) (H1 : Heap) (locs1 : List Loc), post r w1 → va_P D ccl w1 H1 → va_D (va_A Wc H.size) w1 → (∀ q : Nat, q < H.size → ¬ va_A Wc H.size q → H1[q]? = H[q]?) → va_S A s.heap H1 locs1 → H.size ≤ H1.size → W p l e R s m args below meth c H1 locs1 (cells + rm.cells) (slots + rm.slots) Q (F0 m (pc + 3) ls (.int r :: rest))) : W p l e R s m args below meth c H locs cells slots Q (F0 m pc ls st0) :=
  va_calli (va_runV (As := As) (rest := rest) CF hM cw ⟨gPre.blind, hrecv, g_pre hS hPc hK hDc hV hH hF⟩ rfl hn hsize hstack (lv_room hW) hdg hf) hS (fun q _ h => hF q h) hF (fun r u t H1 locs1 ht hvm hw hB hz hk hS1 => kk r u H1 locs1 hw (by rw [← ht]; exact hB.1) hB.2.2 hk hS1 hz)
theorem g_Vl {post : Int64 → va_W → Prop} (CF : CallFix p m c cc nL s args Ts own) (hM : MetL l y wy rm D TY df Wc H.size (.ref b :: As) post) (cw : CallW R s args own C index y bytes maxL ret wy rm rm.cells rm.slots n) (hrecv : ∃ cellB : Cell, H[b]? = some cellB ∧ cellB.vm.isStatics = false ∧ s.vm.findClass C = some cellB.cls) (hPc : va_P D ccl Wc H) (hK : va_K D ccl TY s) (hDc : va_D A Wc) (hV : gV s) (hH : gH df A s s.heap) (hS : va_S A s.heap H locs) (hF : ∀ q, va_A Wc H.size q → A q) (hn : As.length = n) (hsize : ls.size = nL) {st0 : List Value} (hstack : st0 = As.reverse ++ .ref b :: rest) (hW : (rest.map fun v => v.category).sum ≤ 8) (hdg : decode cc pc = .ok (.invokevirtual index, 3)) (hf : cells + rm.cells ≤ R.cells ∧ slots + rm.slots ≤ R.slots)
    (kk : ∀ (r : Int64) (w1 : va_W) (H1 : Heap) (locs1 : List Loc), post r w1 → va_P D ccl w1 H1 → va_D (va_A Wc H.size) w1 → (∀ q : Nat, q < H.size → ¬ va_A Wc H.size q → H1[q]? = H[q]?) → va_S A s.heap H1 locs1 → H.size ≤ H1.size → W p l e R s m args below meth c H1 locs1 (cells + rm.cells) (slots + rm.slots) Q (F0 m (pc + 3) ls (.long r :: rest))) : W p l e R s m args below meth c H locs cells slots Q (F0 m pc ls st0) :=
  va_calll (va_runV (As := As) (rest := rest) CF hM cw ⟨gPre.blind, hrecv, g_pre hS hPc hK hDc hV hH hF⟩ rfl hn hsize hstack (lv_room hW) hdg hf) hS (fun q _ h => hF q h) hF (fun r u t H1 locs1 ht hvm hw hB hz hk hS1 => kk r u H1 locs1 hw (by rw [← ht]; exact hB.1) hB.2.2 hk hS1 hz)
theorem g_Vv {post : va_W → Prop} (CF : CallFix p m c cc nL s args Ts own) (hM : MetV l y wy rm D TY df Wc H.size (.ref b :: As) post) (cw : CallW R s args own C index y bytes maxL ret wy rm rm.cells rm.slots n) (hrecv : ∃ cellB : Cell, H[b]? = some cellB ∧ cellB.vm.isStatics = false ∧ s.vm.findClass C = some cellB.cls) (hPc : va_P D ccl Wc H) (hK : va_K D ccl TY s) (hDc : va_D A Wc) (hV : gV s) (hH : gH df A s s.heap) (hS : va_S A s.heap H locs) (hF : ∀ q, va_A Wc H.size q → A q) (hn : As.length = n) (hsize : ls.size = nL) {st0 : List Value} (hstack : st0 = As.reverse ++ .ref b :: rest) (hW : (rest.map fun v => v.category).sum ≤ 8) (hdg : decode cc pc = .ok (.invokevirtual index, 3)) (hf : cells + rm.cells ≤ R.cells ∧ slots + rm.slots ≤ R.slots)
    (kk : ∀ (w1 : va_W) (H1 : Heap) (locs1 : List Loc), post w1 → va_P D ccl w1 H1 → va_D (va_A Wc H.size) w1 → (∀ q : Nat, q < H.size → ¬ va_A Wc H.size q → H1[q]? = H[q]?) → va_S A s.heap H1 locs1 → H.size ≤ H1.size → W p l e R s m args below meth c H1 locs1 (cells + rm.cells) (slots + rm.slots) Q (F0 m (pc + 3) ls (rest))) : W p l e R s m args below meth c H locs cells slots Q (F0 m pc ls st0) :=
  va_callv (va_runV (As := As) (rest := rest) CF hM cw ⟨gPre.blind, hrecv, g_pre hS hPc hK hDc hV hH hF⟩ rfl hn hsize hstack (lv_room hW) hdg hf) hS (fun q _ h => hF q h) hF (fun u t H1 locs1 ht hvm hw hB hz hk hS1 => kk u H1 locs1 hw (by rw [← ht]; exact hB.1) hB.2.2 hk hS1 hz)
theorem g_Vr {post : va_W × Nat → Prop} (CF : CallFix p m c cc nL s args Ts own) (hM : MetR l y wy rm D TY df Wc H.size (.ref b :: As) post) (cw : CallW R s args own C index y bytes maxL ret wy rm rm.cells rm.slots n) (hrecv : ∃ cellB : Cell, H[b]? = some cellB ∧ cellB.vm.isStatics = false ∧ s.vm.findClass C = some cellB.cls) (hPc : va_P D ccl Wc H) (hK : va_K D ccl TY s) (hDc : va_D A Wc) (hV : gV s) (hH : gH df A s s.heap) (hS : va_S A s.heap H locs) (hF : ∀ q, va_A Wc H.size q → A q) (hn : As.length = n) (hsize : ls.size = nL) {st0 : List Value} (hstack : st0 = As.reverse ++ .ref b :: rest) (hW : (rest.map fun v => v.category).sum ≤ 8) (hdg : decode cc pc = .ok (.invokevirtual index, 3)) (hf : cells + rm.cells ≤ R.cells ∧ slots + rm.slots ≤ R.slots)
    (kk : ∀ (w1 : va_W × Nat) (H1 : Heap) (locs1 : List Loc), post w1 → va_P D ccl w1.1 H1 → va_D (va_A Wc H.size) w1.1 → (∀ q : Nat, q < H.size → ¬ va_A Wc H.size q → H1[q]? = H[q]?) → va_S A s.heap H1 locs1 → H.size ≤ H1.size → W p l e R s m args below meth c H1 locs1 (cells + rm.cells) (slots + rm.slots) Q (F0 m (pc + 3) ls (.ref w1.2 :: rest))) : W p l e R s m args below meth c H locs cells slots Q (F0 m pc ls st0) :=
  va_callr (va_runV (As := As) (rest := rest) CF hM cw ⟨gPre.blind, hrecv, g_pre hS hPc hK hDc hV hH hF⟩ rfl hn hsize hstack (lv_room hW) hdg hf) hS (fun q _ h => hF q h) hF (fun u ra t H1 locs1 ht hvm hw hB hz hk hS1 => by obtain ⟨e9, hB⟩ := hB; subst e9; exact kk u H1 locs1 hw (by rw [← ht]; exact hB.1) hB.2.2 hk hS1 hz)
theorem g_Si {post : Int32 → va_W → Prop} (CF : CallFix p m c cc nL s args Ts own) (hM : MetI l y wy rm D TY df Wc H.size As post) (cw : CallB R s args own index y bytes maxL ret wy rm rm.cells rm.slots n ∧ (Cond.static y).before args s = true) (hPc : va_P D ccl Wc H) (hK : va_K D ccl TY s) (hDc : va_D A Wc) (hV : gV s) (hH : gH df A s s.heap) (hS : va_S A s.heap H locs) (hF : ∀ q, va_A Wc H.size q → A q) (hn : As.length = n) (hsize : ls.size = nL) {st0 : List Value} (hstack : st0 = As.reverse ++ rest) (hW : (rest.map fun v => v.category).sum ≤ 8) (hdg : decode cc pc = .ok (.invokestatic index, 3)) (hf : cells + rm.cells ≤ R.cells ∧ slots + rm.slots ≤ R.slots)
    (kk : ∀ (r : Int32) (w1 : va_W) (H1 : Heap) (locs1 : List Loc), post r w1 → va_P D ccl w1 H1 → va_D (va_A Wc H.size) w1 → (∀ q : Nat, q < H.size → ¬ va_A Wc H.size q → H1[q]? = H[q]?) → va_S A s.heap H1 locs1 → H.size ≤ H1.size → W p l e R s m args below meth c H1 locs1 (cells + rm.cells) (slots + rm.slots) Q (F0 m (pc + 3) ls (.int r :: rest))) : W p l e R s m args below meth c H locs cells slots Q (F0 m pc ls st0) :=
  va_calli (va_runS (As := As) (rest := rest) CF hM cw ⟨gPre.blind, g_pre hS hPc hK hDc hV hH hF⟩ rfl hn hsize hstack (lv_room hW) hdg hf) hS (fun q _ h => hF q h) hF (fun r u t H1 locs1 ht hvm hw hB hz hk hS1 => kk r u H1 locs1 hw (by rw [← ht]; exact hB.1) hB.2.2 hk hS1 hz)
theorem g_Sl {post : Int64 → va_W → Prop} (CF : CallFix p m c cc nL s args Ts own) (hM : MetL l y wy rm D TY df Wc H.size As post) (cw : CallB R s args own index y bytes maxL ret wy rm rm.cells rm.slots n ∧ (Cond.static y).before args s = true) (hPc : va_P D ccl Wc H) (hK : va_K D ccl TY s) (hDc : va_D A Wc) (hV : gV s) (hH : gH df A s s.heap) (hS : va_S A s.heap H locs) (hF : ∀ q, va_A Wc H.size q → A q) (hn : As.length = n) (hsize : ls.size = nL) {st0 : List Value} (hstack : st0 = As.reverse ++ rest) (hW : (rest.map fun v => v.category).sum ≤ 8) (hdg : decode cc pc = .ok (.invokestatic index, 3)) (hf : cells + rm.cells ≤ R.cells ∧ slots + rm.slots ≤ R.slots)
    (kk : ∀ (r : Int64) (w1 : va_W) (H1 : Heap) (locs1 : List Loc), post r w1 → va_P D ccl w1 H1 → va_D (va_A Wc H.size) w1 → (∀ q : Nat, q < H.size → ¬ va_A Wc H.size q → H1[q]? = H[q]?) → va_S A s.heap H1 locs1 → H.size ≤ H1.size → W p l e R s m args below meth c H1 locs1 (cells + rm.cells) (slots + rm.slots) Q (F0 m (pc + 3) ls (.long r :: rest))) : W p l e R s m args below meth c H locs cells slots Q (F0 m pc ls st0) :=
  va_calll (va_runS (As := As) (rest := rest) CF hM cw ⟨gPre.blind, g_pre hS hPc hK hDc hV hH hF⟩ rfl hn hsize hstack (lv_room hW) hdg hf) hS (fun q _ h => hF q h) hF (fun r u t H1 locs1 ht hvm hw hB hz hk hS1 => kk r u H1 locs1 hw (by rw [← ht]; exact hB.1) hB.2.2 hk hS1 hz)
theorem g_Sv {post : va_W → Prop} (CF : CallFix p m c cc nL s args Ts own) (hM : MetV l y wy rm D TY df Wc H.size As post) (cw : CallB R s args own index y bytes maxL ret wy rm rm.cells rm.slots n ∧ (Cond.static y).before args s = true) (hPc : va_P D ccl Wc H) (hK : va_K D ccl TY s) (hDc : va_D A Wc) (hV : gV s) (hH : gH df A s s.heap) (hS : va_S A s.heap H locs) (hF : ∀ q, va_A Wc H.size q → A q) (hn : As.length = n) (hsize : ls.size = nL) {st0 : List Value} (hstack : st0 = As.reverse ++ rest) (hW : (rest.map fun v => v.category).sum ≤ 8) (hdg : decode cc pc = .ok (.invokestatic index, 3)) (hf : cells + rm.cells ≤ R.cells ∧ slots + rm.slots ≤ R.slots)
    (kk : ∀ (w1 : va_W) (H1 : Heap) (locs1 : List Loc), post w1 → va_P D ccl w1 H1 → va_D (va_A Wc H.size) w1 → (∀ q : Nat, q < H.size → ¬ va_A Wc H.size q → H1[q]? = H[q]?) → va_S A s.heap H1 locs1 → H.size ≤ H1.size → W p l e R s m args below meth c H1 locs1 (cells + rm.cells) (slots + rm.slots) Q (F0 m (pc + 3) ls (rest))) : W p l e R s m args below meth c H locs cells slots Q (F0 m pc ls st0) :=
  va_callv (va_runS (As := As) (rest := rest) CF hM cw ⟨gPre.blind, g_pre hS hPc hK hDc hV hH hF⟩ rfl hn hsize hstack (lv_room hW) hdg hf) hS (fun q _ h => hF q h) hF (fun u t H1 locs1 ht hvm hw hB hz hk hS1 => kk u H1 locs1 hw (by rw [← ht]; exact hB.1) hB.2.2 hk hS1 hz)
theorem g_Sr {post : va_W × Nat → Prop} (CF : CallFix p m c cc nL s args Ts own) (hM : MetR l y wy rm D TY df Wc H.size As post) (cw : CallB R s args own index y bytes maxL ret wy rm rm.cells rm.slots n ∧ (Cond.static y).before args s = true) (hPc : va_P D ccl Wc H) (hK : va_K D ccl TY s) (hDc : va_D A Wc) (hV : gV s) (hH : gH df A s s.heap) (hS : va_S A s.heap H locs) (hF : ∀ q, va_A Wc H.size q → A q) (hn : As.length = n) (hsize : ls.size = nL) {st0 : List Value} (hstack : st0 = As.reverse ++ rest) (hW : (rest.map fun v => v.category).sum ≤ 8) (hdg : decode cc pc = .ok (.invokestatic index, 3)) (hf : cells + rm.cells ≤ R.cells ∧ slots + rm.slots ≤ R.slots)
    (kk : ∀ (w1 : va_W × Nat) (H1 : Heap) (locs1 : List Loc), post w1 → va_P D ccl w1.1 H1 → va_D (va_A Wc H.size) w1.1 → (∀ q : Nat, q < H.size → ¬ va_A Wc H.size q → H1[q]? = H[q]?) → va_S A s.heap H1 locs1 → H.size ≤ H1.size → W p l e R s m args below meth c H1 locs1 (cells + rm.cells) (slots + rm.slots) Q (F0 m (pc + 3) ls (.ref w1.2 :: rest))) : W p l e R s m args below meth c H locs cells slots Q (F0 m pc ls st0) :=
  va_callr (va_runS (As := As) (rest := rest) CF hM cw ⟨gPre.blind, g_pre hS hPc hK hDc hV hH hF⟩ rfl hn hsize hstack (lv_room hW) hdg hf) hS (fun q _ h => hF q h) hF (fun u ra t H1 locs1 ht hvm hw hB hz hk hS1 => by obtain ⟨e9, hB⟩ := hB; subst e9; exact kk u H1 locs1 hw (by rw [← ht]; exact hB.1) hB.2.2 hk hS1 hz)
theorem g_Iv {post : va_W → Prop} (CF : CallFix p m c cc nL s args Ts own) (hM : MetV l y wy rm D TY df Wc H.size (.ref b :: As) post) (cw : CallB R s args own index y bytes maxL none wy rm rm.cells rm.slots n ∧ y.name = "<init>" ∧ (Cond.instanceMethod y).before args s = true) (hPc : va_P D ccl Wc H) (hK : va_K D ccl TY s) (hDc : va_D A Wc) (hV : gV s) (hH : gH df A s s.heap) (hS : va_S A s.heap H locs) (hF : ∀ q, va_A Wc H.size q → A q) (hn : As.length = n) (hsize : ls.size = nL) {st0 : List Value} (hstack : st0 = As.reverse ++ .ref b :: rest) (hW : (rest.map fun v => v.category).sum ≤ 8) (hdg : decode cc pc = .ok (.invokespecial index, 3)) (hf : cells + rm.cells ≤ R.cells ∧ slots + rm.slots ≤ R.slots)
    (kk : ∀ (w1 : va_W) (H1 : Heap) (locs1 : List Loc), post w1 → va_P D ccl w1 H1 → va_D (va_A Wc H.size) w1 → (∀ q : Nat, q < H.size → ¬ va_A Wc H.size q → H1[q]? = H[q]?) → va_S A s.heap H1 locs1 → H.size ≤ H1.size → W p l e R s m args below meth c H1 locs1 (cells + rm.cells) (slots + rm.slots) Q (F0 m (pc + 3) ls (rest))) : W p l e R s m args below meth c H locs cells slots Q (F0 m pc ls st0) :=
  va_callv (va_runI (As := As) (rest := rest) CF hM cw ⟨gPre.blind, g_pre hS hPc hK hDc hV hH hF⟩ rfl hn hsize hstack (lv_room hW) hdg hf) hS (fun q _ h => hF q h) hF (fun u t H1 locs1 ht hvm hw hB hz hk hS1 => kk u H1 locs1 hw (by rw [← ht]; exact hB.1) hB.2.2 hk hS1 hz)
theorem gx_Vi {post : Int32 → va_W → Prop} {px : String × va_W → Prop} (CF : CallFix p m c cc nL s args Ts own) (hM : MxI l y wy rm D TY df Wc H.size (.ref b :: As) px post) (cw : CallW R s args own C index y bytes maxL ret wy rm rm.cells rm.slots n) (hrecv : ∃ cellB : Cell, H[b]? = some cellB ∧ cellB.vm.isStatics = false ∧ s.vm.findClass C = some cellB.cls) (hPc : va_P D ccl Wc H) (hK : va_K D ccl TY s) (hDc : va_D A Wc) (hV : gV s) (hH : gH df A s s.heap) (hS : va_S A s.heap H locs) (hF : ∀ q, va_A Wc H.size q → A q) (hn : As.length = n) (hsize : ls.size = nL) {st0 : List Value} (hstack : st0 = As.reverse ++ .ref b :: rest) (hW : (rest.map fun v => v.category).sum ≤ 8) (hdg : decode cc pc = .ok (.invokevirtual index, 3)) (hf : cells + rm.cells ≤ R.cells ∧ slots + rm.slots ≤ R.slots)
    (kx : ∀ (E : String) (ce : Cell) (q9 : Addr) (w1 : va_W) (H1 : Heap) (locs1 : List Loc), px (E, w1) → va_P D ccl w1 H1 → va_D (va_A Wc H.size) w1 → (∀ q : Nat, q < H.size → ¬ va_A Wc H.size q → H1[q]? = H[q]?) → va_S A s.heap H1 locs1 → H.size ≤ H1.size → H1[q9]? = some ce → ce.vm = .none → s.vm.findClass E = some ce.cls → vx_W p l e R s m args below meth c H1 locs1 (cells + rm.cells) (slots + rm.slots) Q (F0 m pc ls rest) q9)
    (kk : ∀ (r : Int32) (w1 : va_W) (H1 : Heap) (locs1 : List Loc), post r w1 → va_P D ccl w1 H1 → va_D (va_A Wc H.size) w1 → (∀ q : Nat, q < H.size → ¬ va_A Wc H.size q → H1[q]? = H[q]?) → va_S A s.heap H1 locs1 → H.size ≤ H1.size → W p l e R s m args below meth c H1 locs1 (cells + rm.cells) (slots + rm.slots) Q (F0 m (pc + 3) ls (.int r :: rest))) : W p l e R s m args below meth c H locs cells slots Q (F0 m pc ls st0) :=
  vx_calli (vx_runV (As := As) (rest := rest) CF hM cw ⟨gPre.blind, hrecv, g_pre hS hPc hK hDc hV hH hF⟩ rfl hn hsize hstack (lv_room hW) hdg hf) hS (fun q _ h => hF q h) hF (fun q _ h => hF q h) (fun E ce q9 u t H1 locs1 ht hvm hw hB hz hk hS1 h1 h2 h3 => by obtain ⟨e9, hB⟩ := hB; obtain ⟨E9, u⟩ := u; dsimp only at e9; subst e9; exact kx _ ce q9 u H1 locs1 hw (by rw [← ht]; exact hB.1) hB.2.2 hk hS1 hz h1 h2 h3) (fun r u t H1 locs1 ht hvm hw hB hz hk hS1 => kk r u H1 locs1 hw (by rw [← ht]; exact hB.1) hB.2.2 hk hS1 hz)
theorem gx_Vl {post : Int64 → va_W → Prop} {px : String × va_W → Prop} (CF : CallFix p m c cc nL s args Ts own) (hM : MxL l y wy rm D TY df Wc H.size (.ref b :: As) px post) (cw : CallW R s args own C index y bytes maxL ret wy rm rm.cells rm.slots n) (hrecv : ∃ cellB : Cell, H[b]? = some cellB ∧ cellB.vm.isStatics = false ∧ s.vm.findClass C = some cellB.cls) (hPc : va_P D ccl Wc H) (hK : va_K D ccl TY s) (hDc : va_D A Wc) (hV : gV s) (hH : gH df A s s.heap) (hS : va_S A s.heap H locs) (hF : ∀ q, va_A Wc H.size q → A q) (hn : As.length = n) (hsize : ls.size = nL) {st0 : List Value} (hstack : st0 = As.reverse ++ .ref b :: rest) (hW : (rest.map fun v => v.category).sum ≤ 8) (hdg : decode cc pc = .ok (.invokevirtual index, 3)) (hf : cells + rm.cells ≤ R.cells ∧ slots + rm.slots ≤ R.slots)
    (kx : ∀ (E : String) (ce : Cell) (q9 : Addr) (w1 : va_W) (H1 : Heap) (locs1 : List Loc), px (E, w1) → va_P D ccl w1 H1 → va_D (va_A Wc H.size) w1 → (∀ q : Nat, q < H.size → ¬ va_A Wc H.size q → H1[q]? = H[q]?) → va_S A s.heap H1 locs1 → H.size ≤ H1.size → H1[q9]? = some ce → ce.vm = .none → s.vm.findClass E = some ce.cls → vx_W p l e R s m args below meth c H1 locs1 (cells + rm.cells) (slots + rm.slots) Q (F0 m pc ls rest) q9)
    (kk : ∀ (r : Int64) (w1 : va_W) (H1 : Heap) (locs1 : List Loc), post r w1 → va_P D ccl w1 H1 → va_D (va_A Wc H.size) w1 → (∀ q : Nat, q < H.size → ¬ va_A Wc H.size q → H1[q]? = H[q]?) → va_S A s.heap H1 locs1 → H.size ≤ H1.size → W p l e R s m args below meth c H1 locs1 (cells + rm.cells) (slots + rm.slots) Q (F0 m (pc + 3) ls (.long r :: rest))) : W p l e R s m args below meth c H locs cells slots Q (F0 m pc ls st0) :=
  vx_calll (vx_runV (As := As) (rest := rest) CF hM cw ⟨gPre.blind, hrecv, g_pre hS hPc hK hDc hV hH hF⟩ rfl hn hsize hstack (lv_room hW) hdg hf) hS (fun q _ h => hF q h) hF (fun q _ h => hF q h) (fun E ce q9 u t H1 locs1 ht hvm hw hB hz hk hS1 h1 h2 h3 => by obtain ⟨e9, hB⟩ := hB; obtain ⟨E9, u⟩ := u; dsimp only at e9; subst e9; exact kx _ ce q9 u H1 locs1 hw (by rw [← ht]; exact hB.1) hB.2.2 hk hS1 hz h1 h2 h3) (fun r u t H1 locs1 ht hvm hw hB hz hk hS1 => kk r u H1 locs1 hw (by rw [← ht]; exact hB.1) hB.2.2 hk hS1 hz)
theorem gx_Vv {post : va_W → Prop} {px : String × va_W → Prop} (CF : CallFix p m c cc nL s args Ts own) (hM : MxV l y wy rm D TY df Wc H.size (.ref b :: As) px post) (cw : CallW R s args own C index y bytes maxL ret wy rm rm.cells rm.slots n) (hrecv : ∃ cellB : Cell, H[b]? = some cellB ∧ cellB.vm.isStatics = false ∧ s.vm.findClass C = some cellB.cls) (hPc : va_P D ccl Wc H) (hK : va_K D ccl TY s) (hDc : va_D A Wc) (hV : gV s) (hH : gH df A s s.heap) (hS : va_S A s.heap H locs) (hF : ∀ q, va_A Wc H.size q → A q) (hn : As.length = n) (hsize : ls.size = nL) {st0 : List Value} (hstack : st0 = As.reverse ++ .ref b :: rest) (hW : (rest.map fun v => v.category).sum ≤ 8) (hdg : decode cc pc = .ok (.invokevirtual index, 3)) (hf : cells + rm.cells ≤ R.cells ∧ slots + rm.slots ≤ R.slots)
    (kx : ∀ (E : String) (ce : Cell) (q9 : Addr) (w1 : va_W) (H1 : Heap) (locs1 : List Loc), px (E, w1) → va_P D ccl w1 H1 → va_D (va_A Wc H.size) w1 → (∀ q : Nat, q < H.size → ¬ va_A Wc H.size q → H1[q]? = H[q]?) → va_S A s.heap H1 locs1 → H.size ≤ H1.size → H1[q9]? = some ce → ce.vm = .none → s.vm.findClass E = some ce.cls → vx_W p l e R s m args below meth c H1 locs1 (cells + rm.cells) (slots + rm.slots) Q (F0 m pc ls rest) q9)
    (kk : ∀ (w1 : va_W) (H1 : Heap) (locs1 : List Loc), post w1 → va_P D ccl w1 H1 → va_D (va_A Wc H.size) w1 → (∀ q : Nat, q < H.size → ¬ va_A Wc H.size q → H1[q]? = H[q]?) → va_S A s.heap H1 locs1 → H.size ≤ H1.size → W p l e R s m args below meth c H1 locs1 (cells + rm.cells) (slots + rm.slots) Q (F0 m (pc + 3) ls (rest))) : W p l e R s m args below meth c H locs cells slots Q (F0 m pc ls st0) :=
  vx_callv (vx_runV (As := As) (rest := rest) CF hM cw ⟨gPre.blind, hrecv, g_pre hS hPc hK hDc hV hH hF⟩ rfl hn hsize hstack (lv_room hW) hdg hf) hS (fun q _ h => hF q h) hF (fun q _ h => hF q h) (fun E ce q9 u t H1 locs1 ht hvm hw hB hz hk hS1 h1 h2 h3 => by obtain ⟨e9, hB⟩ := hB; obtain ⟨E9, u⟩ := u; dsimp only at e9; subst e9; exact kx _ ce q9 u H1 locs1 hw (by rw [← ht]; exact hB.1) hB.2.2 hk hS1 hz h1 h2 h3) (fun u t H1 locs1 ht hvm hw hB hz hk hS1 => kk u H1 locs1 hw (by rw [← ht]; exact hB.1) hB.2.2 hk hS1 hz)
theorem gx_Si {post : Int32 → va_W → Prop} {px : String × va_W → Prop} (CF : CallFix p m c cc nL s args Ts own) (hM : MxI l y wy rm D TY df Wc H.size As px post) (cw : CallB R s args own index y bytes maxL ret wy rm rm.cells rm.slots n ∧ (Cond.static y).before args s = true) (hPc : va_P D ccl Wc H) (hK : va_K D ccl TY s) (hDc : va_D A Wc) (hV : gV s) (hH : gH df A s s.heap) (hS : va_S A s.heap H locs) (hF : ∀ q, va_A Wc H.size q → A q) (hn : As.length = n) (hsize : ls.size = nL) {st0 : List Value} (hstack : st0 = As.reverse ++ rest) (hW : (rest.map fun v => v.category).sum ≤ 8) (hdg : decode cc pc = .ok (.invokestatic index, 3)) (hf : cells + rm.cells ≤ R.cells ∧ slots + rm.slots ≤ R.slots)
    (kx : ∀ (E : String) (ce : Cell) (q9 : Addr) (w1 : va_W) (H1 : Heap) (locs1 : List Loc), px (E, w1) → va_P D ccl w1 H1 → va_D (va_A Wc H.size) w1 → (∀ q : Nat, q < H.size → ¬ va_A Wc H.size q → H1[q]? = H[q]?) → va_S A s.heap H1 locs1 → H.size ≤ H1.size → H1[q9]? = some ce → ce.vm = .none → s.vm.findClass E = some ce.cls → vx_W p l e R s m args below meth c H1 locs1 (cells + rm.cells) (slots + rm.slots) Q (F0 m pc ls rest) q9)
    (kk : ∀ (r : Int32) (w1 : va_W) (H1 : Heap) (locs1 : List Loc), post r w1 → va_P D ccl w1 H1 → va_D (va_A Wc H.size) w1 → (∀ q : Nat, q < H.size → ¬ va_A Wc H.size q → H1[q]? = H[q]?) → va_S A s.heap H1 locs1 → H.size ≤ H1.size → W p l e R s m args below meth c H1 locs1 (cells + rm.cells) (slots + rm.slots) Q (F0 m (pc + 3) ls (.int r :: rest))) : W p l e R s m args below meth c H locs cells slots Q (F0 m pc ls st0) :=
  vx_calli (vx_runS (As := As) (rest := rest) CF hM cw ⟨gPre.blind, g_pre hS hPc hK hDc hV hH hF⟩ rfl hn hsize hstack (lv_room hW) hdg hf) hS (fun q _ h => hF q h) hF (fun q _ h => hF q h) (fun E ce q9 u t H1 locs1 ht hvm hw hB hz hk hS1 h1 h2 h3 => by obtain ⟨e9, hB⟩ := hB; obtain ⟨E9, u⟩ := u; dsimp only at e9; subst e9; exact kx _ ce q9 u H1 locs1 hw (by rw [← ht]; exact hB.1) hB.2.2 hk hS1 hz h1 h2 h3) (fun r u t H1 locs1 ht hvm hw hB hz hk hS1 => kk r u H1 locs1 hw (by rw [← ht]; exact hB.1) hB.2.2 hk hS1 hz)
theorem gx_Sl {post : Int64 → va_W → Prop} {px : String × va_W → Prop} (CF : CallFix p m c cc nL s args Ts own) (hM : MxL l y wy rm D TY df Wc H.size As px post) (cw : CallB R s args own index y bytes maxL ret wy rm rm.cells rm.slots n ∧ (Cond.static y).before args s = true) (hPc : va_P D ccl Wc H) (hK : va_K D ccl TY s) (hDc : va_D A Wc) (hV : gV s) (hH : gH df A s s.heap) (hS : va_S A s.heap H locs) (hF : ∀ q, va_A Wc H.size q → A q) (hn : As.length = n) (hsize : ls.size = nL) {st0 : List Value} (hstack : st0 = As.reverse ++ rest) (hW : (rest.map fun v => v.category).sum ≤ 8) (hdg : decode cc pc = .ok (.invokestatic index, 3)) (hf : cells + rm.cells ≤ R.cells ∧ slots + rm.slots ≤ R.slots)
    (kx : ∀ (E : String) (ce : Cell) (q9 : Addr) (w1 : va_W) (H1 : Heap) (locs1 : List Loc), px (E, w1) → va_P D ccl w1 H1 → va_D (va_A Wc H.size) w1 → (∀ q : Nat, q < H.size → ¬ va_A Wc H.size q → H1[q]? = H[q]?) → va_S A s.heap H1 locs1 → H.size ≤ H1.size → H1[q9]? = some ce → ce.vm = .none → s.vm.findClass E = some ce.cls → vx_W p l e R s m args below meth c H1 locs1 (cells + rm.cells) (slots + rm.slots) Q (F0 m pc ls rest) q9)
    (kk : ∀ (r : Int64) (w1 : va_W) (H1 : Heap) (locs1 : List Loc), post r w1 → va_P D ccl w1 H1 → va_D (va_A Wc H.size) w1 → (∀ q : Nat, q < H.size → ¬ va_A Wc H.size q → H1[q]? = H[q]?) → va_S A s.heap H1 locs1 → H.size ≤ H1.size → W p l e R s m args below meth c H1 locs1 (cells + rm.cells) (slots + rm.slots) Q (F0 m (pc + 3) ls (.long r :: rest))) : W p l e R s m args below meth c H locs cells slots Q (F0 m pc ls st0) :=
  vx_calll (vx_runS (As := As) (rest := rest) CF hM cw ⟨gPre.blind, g_pre hS hPc hK hDc hV hH hF⟩ rfl hn hsize hstack (lv_room hW) hdg hf) hS (fun q _ h => hF q h) hF (fun q _ h => hF q h) (fun E ce q9 u t H1 locs1 ht hvm hw hB hz hk hS1 h1 h2 h3 => by obtain ⟨e9, hB⟩ := hB; obtain ⟨E9, u⟩ := u; dsimp only at e9; subst e9; exact kx _ ce q9 u H1 locs1 hw (by rw [← ht]; exact hB.1) hB.2.2 hk hS1 hz h1 h2 h3) (fun r u t H1 locs1 ht hvm hw hB hz hk hS1 => kk r u H1 locs1 hw (by rw [← ht]; exact hB.1) hB.2.2 hk hS1 hz)
theorem gx_Sv {post : va_W → Prop} {px : String × va_W → Prop} (CF : CallFix p m c cc nL s args Ts own) (hM : MxV l y wy rm D TY df Wc H.size As px post) (cw : CallB R s args own index y bytes maxL ret wy rm rm.cells rm.slots n ∧ (Cond.static y).before args s = true) (hPc : va_P D ccl Wc H) (hK : va_K D ccl TY s) (hDc : va_D A Wc) (hV : gV s) (hH : gH df A s s.heap) (hS : va_S A s.heap H locs) (hF : ∀ q, va_A Wc H.size q → A q) (hn : As.length = n) (hsize : ls.size = nL) {st0 : List Value} (hstack : st0 = As.reverse ++ rest) (hW : (rest.map fun v => v.category).sum ≤ 8) (hdg : decode cc pc = .ok (.invokestatic index, 3)) (hf : cells + rm.cells ≤ R.cells ∧ slots + rm.slots ≤ R.slots)
    (kx : ∀ (E : String) (ce : Cell) (q9 : Addr) (w1 : va_W) (H1 : Heap) (locs1 : List Loc), px (E, w1) → va_P D ccl w1 H1 → va_D (va_A Wc H.size) w1 → (∀ q : Nat, q < H.size → ¬ va_A Wc H.size q → H1[q]? = H[q]?) → va_S A s.heap H1 locs1 → H.size ≤ H1.size → H1[q9]? = some ce → ce.vm = .none → s.vm.findClass E = some ce.cls → vx_W p l e R s m args below meth c H1 locs1 (cells + rm.cells) (slots + rm.slots) Q (F0 m pc ls rest) q9)
    (kk : ∀ (w1 : va_W) (H1 : Heap) (locs1 : List Loc), post w1 → va_P D ccl w1 H1 → va_D (va_A Wc H.size) w1 → (∀ q : Nat, q < H.size → ¬ va_A Wc H.size q → H1[q]? = H[q]?) → va_S A s.heap H1 locs1 → H.size ≤ H1.size → W p l e R s m args below meth c H1 locs1 (cells + rm.cells) (slots + rm.slots) Q (F0 m (pc + 3) ls (rest))) : W p l e R s m args below meth c H locs cells slots Q (F0 m pc ls st0) :=
  vx_callv (vx_runS (As := As) (rest := rest) CF hM cw ⟨gPre.blind, g_pre hS hPc hK hDc hV hH hF⟩ rfl hn hsize hstack (lv_room hW) hdg hf) hS (fun q _ h => hF q h) hF (fun q _ h => hF q h) (fun E ce q9 u t H1 locs1 ht hvm hw hB hz hk hS1 h1 h2 h3 => by obtain ⟨e9, hB⟩ := hB; obtain ⟨E9, u⟩ := u; dsimp only at e9; subst e9; exact kx _ ce q9 u H1 locs1 hw (by rw [← ht]; exact hB.1) hB.2.2 hk hS1 hz h1 h2 h3) (fun u t H1 locs1 ht hvm hw hB hz hk hS1 => kk u H1 locs1 hw (by rw [← ht]; exact hB.1) hB.2.2 hk hS1 hz)
end GC
/-- behind a call of a method without a world -/
theorem g_keep0 {D : va_G} {cl : List vw_C} {ws : va_W} {H H1 : Heap} (hP : va_P D cl ws H) (hk : ∀ q : Nat, q < H.size → ¬ va_A [] H.size q → H1[q]? = H[q]?) : va_P D cl ws H1 := by
  refine hP.kept fun k q hq => hk q.1 (va_at.lt (hP k q hq)) ?_
  rintro (⟨j, e, h⟩ | h)
  · simp at h
  · exact absurd (va_at.lt (hP k q hq)) (Nat.not_lt.mpr h)
/-- behind a call that leaves its world as it was -/
theorem g_keepR {A0 : Nat → Prop} {D : va_G} {cl : List vw_C} {ws wc : va_W} {H H1 : Heap} (hP : va_P D cl ws H) (hD : va_D A0 ws) (isC : List Nat) (hC : isC.map (fun i => ws[i]?) = wc.map some) (hk : ∀ q : Nat, q < H.size → ¬ va_A wc H.size q → H1[q]? = H[q]?) (hP1 : va_P D cl wc H1) : va_P D cl ws H1 := by
  intro k q hq
  by_cases hA : ∃ (j : Nat) (e : va_E), wc[j]? = some (q.1, e)
  · obtain ⟨j, e, hj⟩ := hA
    have h1 : (wc.map some)[j]? = some (some (q.1, e)) := by simp [hj]
    rw [← hC] at h1
    simp only [List.getElem?_map, Option.map_eq_some_iff] at h1
    obtain ⟨i, -, hi⟩ := h1
    have hki : k = i := hD.1 k i q (q.1, e) hq hi rfl
    subst hki
    have he : q = (q.1, e) := Option.some.inj (hq.symm.trans hi)
    rw [he]
    exact hP1 j _ hj
  · have hlt : q.1 < H.size := va_at.lt (hP k q hq)
    have hs : H1[q.1]? = H[q.1]? := hk q.1 hlt (by
      rintro (h | h)
      · exact hA h
      · exact absurd hlt (Nat.not_lt.mpr h))
    have hkk := va_P.kept (D := D) (cl := cl) (ws := [q]) (H := H) (H1 := H1) (fun k' q' h' => by
      cases k' with
      | zero => cases h'; exact hP k q hq
      | succ k' => simp at h') (fun k' q' h' => by
      cases k' with
      | zero => cases h'; exact hs
      | succ k' => simp at h')
    exact hkk 0 q rfl
/-- behind a call: the callee's cells beside the rest, in the order ws' -/
theorem g_join {A0 : Nat → Prop} {D : va_G} {cl : List vw_C} {ws wc w1 ws' : va_W} {H H1 : Heap} (hP : va_P D cl ws H) (hD : va_D A0 ws) (hk : ∀ q : Nat, q < H.size → ¬ va_A wc H.size q → H1[q]? = H[q]?) (hF : ∀ q, va_A wc H.size q → A0 q) (hP1 : va_P D cl w1 H1) (hD1 : va_D (va_A wc H.size) w1) (isC isR perm : List Nat) (hC : isC.map (fun i => ws[i]?) = wc.map some)
    (hR : isR.map (fun i => ws[i]?) = (isR.filterMap (fun i => ws[i]?)).map some) (hn : va_nd isR = true) (hdis : ∀ i ∈ isR, i ∉ isC) (hp : va_nd perm = true) (hs : perm.map (fun i => (isR.filterMap (fun i => ws[i]?) ++ w1)[i]?) = ws'.map some) : va_P D cl ws' H1 ∧ va_D A0 ws' := by
  obtain ⟨h1, h2⟩ := va_join hP hD isC isR hC hR hn hdis hk hF hP1 hD1
  refine ⟨h1.sub perm ?_, h2.sub perm hp hs⟩
  have h3 : ∀ (l : List Nat) (w w' : va_W), l.map (fun i => w[i]?) = w'.map some → l.filterMap (fun i => w[i]?) = w' := by
    intro l
    induction l with
    | nil => intro w w' h; cases w' with
      | nil => rfl
      | cons a b => simp at h
    | cons a l ih => intro w w' h; cases w' with
      | nil => simp at h
      | cons b w' =>
        simp only [List.map_cons, List.cons.injEq] at h
        rw [List.filterMap_cons_some h.1, ih w w' h.2]
  exact h3 perm _ _ hs
section GL
variable {p : Program} {l : Launch} {e : Env} {R : Room} {s : State} {m : MethodId} {args : Array Value} {below : List Frame} {meth : Method} {c : Code} {H H0 : Heap} {locs : List Loc} {pc nL : Nat} {ls : Array Slot} {A : Nat → Prop} {D : va_G} {Q : State → Prop} {st : List Value}
/-- a loop at its head: z is what its rounds change -/
theorem g_while {σ : Type} (Ws : σ → va_W) (Lv : σ → List (Nat × Value)) (I : σ → Prop) (μ cells slots : σ → Nat)
    (step : ∀ (z : σ), I z → ∀ (H : Heap) (locs : List Loc) (ls : Array Slot), va_P D ccl (Ws z) H → va_D A (Ws z) → va_S A H0 H locs → lv_has ls nL (Lv z) →
      (∀ (z' : σ) (H' : Heap) (locs' : List Loc) (ls' : Array Slot), I z' → μ z' < μ z → va_P D ccl (Ws z') H' → va_D A (Ws z') → va_S A H0 H' locs' → lv_has ls' nL (Lv z') → W p l e R s m args below meth c H' locs' (cells z') (slots z') Q (F0 m pc ls' st)) →
      W p l e R s m args below meth c H locs (cells z) (slots z) Q (F0 m pc ls st))
    (z : σ) (hI : I z) (hP : va_P D ccl (Ws z) H) (hD : va_D A (Ws z)) (hS : va_S A H0 H locs) (hl : lv_has ls nL (Lv z)) : W p l e R s m args below meth c H locs (cells z) (slots z) Q (F0 m pc ls st) := by
  have key : ∀ (n : Nat) (z : σ), μ z < n → I z → ∀ (H : Heap) (locs : List Loc) (ls : Array Slot), va_P D ccl (Ws z) H → va_D A (Ws z) → va_S A H0 H locs → lv_has ls nL (Lv z) → W p l e R s m args below meth c H locs (cells z) (slots z) Q (F0 m pc ls st) := by
    intro n
    induction n with
    | zero => intro z h; exact absurd h (Nat.not_lt_zero _)
    | succ n ih =>
      intro z hz hI H locs ls hP hD hS hl
      exact step z hI H locs ls hP hD hS hl (fun z' H' locs' ls' hI' hm hP' hD' hS' hl' => ih z' (by omega) hI' H' locs' ls' hP' hD' hS' hl')
  exact key (μ z + 1) z (Nat.lt_succ_self _) hI H locs ls hP hD hS hl
end GL
/-- plain facts of ints that stand for counts -/
theorem g_nlt {a b : Nat} (h : ¬ nI a < nI b) (ha : a < 2147483648) (hb : b < 2147483648) : b ≤ a := Nat.le_of_not_lt fun z => h ((nI_ltI ha hb).mpr z)
theorem g_lt {a b : Nat} (h : nI a < nI b) (ha : a < 2147483648) (hb : b < 2147483648) : a < b := (nI_ltI ha hb).mp h
theorem g_nle {a b : Nat} (h : ¬ nI a ≤ nI b) (ha : a < 2147483648) (hb : b < 2147483648) : b < a := Nat.lt_of_not_le fun z => h ((nI_leI ha hb).mpr z)
theorem g_le {a b : Nat} (h : nI a ≤ nI b) (ha : a < 2147483648) (hb : b < 2147483648) : a ≤ b := (nI_leI ha hb).mp h
theorem g_eq {a b : Nat} (h : nI a = nI b) (ha : a < 2147483648) (hb : b < 2147483648) : a = b := (nI_eq ha hb).mp h
theorem g_ne {a b : Nat} (h : ¬ nI a = nI b) (ha : a < 2147483648) (hb : b < 2147483648) : a ≠ b := fun z => h ((nI_eq ha hb).mpr z)
section GP
variable {p : Program} {l : Launch} {e : Env} {R : Room} {s : State} {m : MethodId} {args : Array Value} {below : List Frame} {meth : Method} {c : Code} {H : Heap} {locs : List Loc} {cells slots J : Nat} {ls : Array Slot} {Q : State → Prop} {g : JFrame} {st1 : List Value}
/-- the ways of a choice meet at J, with its value on the stack -/
theorem g_phii {REL : Int32 → Prop} (k : ∀ b : Int32, REL b → W p l e R s m args below meth c H locs cells slots Q (F0 m J ls (.int b :: st1))) (kk : (∀ b : Int32, REL b → W p l e R s m args below meth c H locs cells slots Q (F0 m J ls (.int b :: st1))) → W p l e R s m args below meth c H locs cells slots Q g) : W p l e R s m args below meth c H locs cells slots Q g := kk k
theorem g_phil {REL : Int64 → Prop} (k : ∀ b : Int64, REL b → W p l e R s m args below meth c H locs cells slots Q (F0 m J ls (.long b :: st1))) (kk : (∀ b : Int64, REL b → W p l e R s m args below meth c H locs cells slots Q (F0 m J ls (.long b :: st1))) → W p l e R s m args below meth c H locs cells slots Q g) : W p l e R s m args below meth c H locs cells slots Q g := kk k
end GP
section GPH
variable {p : Program} {l : Launch} {e : Env} {R : Room} {s : State} {m : MethodId} {args : Array Value} {below : List Frame} {meth : Method} {c : Code} {H H0 : Heap} {locs : List Loc} {cells slots J : Nat} {ls : Array Slot} {Q : State → Prop} {g : JFrame} {st1 : List Value} {D : va_G} {A : Nat → Prop}
/-- .. where calls lie on the ways -/
theorem g_phiHi {REL : Int32 → Prop} {Ws : va_W} (k : ∀ (b : Int32) (H : Heap) (locs : List Loc), REL b → va_P D ccl Ws H → va_D A Ws → va_S A H0 H locs → W p l e R s m args below meth c H locs cells slots Q (F0 m J ls (.int b :: st1))) (kk : (∀ (b : Int32) (H : Heap) (locs : List Loc), REL b → va_P D ccl Ws H → va_D A Ws → va_S A H0 H locs → W p l e R s m args below meth c H locs cells slots Q (F0 m J ls (.int b :: st1))) → W p l e R s m args below meth c H locs cells slots Q g) : W p l e R s m args below meth c H locs cells slots Q g := kk k
end GPH
theorem g_b1 {P : Prop} [Decidable P] (h : ¬ (if P then (1 : Int32) else 0) = 0) : P := by
  by_cases hp : P
  · exact hp
  · rw [if_neg hp] at h; exact absurd rfl h
theorem g_b0 {P : Prop} [Decidable P] (h : (if P then (1 : Int32) else 0) = 0) : ¬ P := fun hp => by
  rw [if_pos hp] at h; exact absurd h (by decide)
section GN
variable {p : Program} {l : Launch} {e : Env} {R : Room} {s : State} {m : MethodId} {args : Array Value} {below : List Frame} {meth : Method} {c : Code} {H H0 : Heap} {locs : List Loc} {cells slots : Nat} {Q : State → Prop} {cc : ByteArray} {pc : Nat} {ls : Array Slot} {rest : List Value} {D : va_G} {A : Nat → Prop} {Ws : va_W} {cI cJ cO : ClassId}
theorem g_newaI {N : Nat} (hexec : p.tables.exec = Jvm.exec) (hb : c.code = cc) (harr : (Cond.arrayClass .int).before args s = true) (hK : va_K D ccl (gTY cI cJ cO) s) (hP : va_P D ccl Ws H) (hD : va_D A Ws) (hS : va_S A H0 H locs) (hA : ∀ q, H0.size ≤ q → A q) {n : Int32} (hn : ¬ n < 0) (hN : n.toNatClampNeg = N) (hbytes : N * 4 ≤ 536870912) (hcells : cells + 1 ≤ R.cells) (hslots : slots + N ≤ R.slots) (hdg : decode cc pc = .ok (.newarray .int, 2))
    (kk : ∀ (q : Nat) (H1 : Heap), va_P D ccl (Ws ++ [(q, .inl (cI, N, .inl (fun _ => 0)))]) H1 → va_D A (Ws ++ [(q, .inl (cI, N, .inl (fun _ => 0)))]) → va_S A H0 H1 locs → W p l e R s m args below meth c H1 locs (cells + 1) (slots + N) Q (F0 m (pc + 2) ls (.ref q :: rest))) : W p l e R s m args below meth c H locs cells slots Q (F0 m pc ls (.int n :: rest)) := by
  refine va_newa (atype := .int) (a0 := (N, .inl (fun _ => 0))) (ty := .int) hexec hb harr rfl hK hP hD hS hA (fun cA => rfl) hn hN hbytes hcells hslots hdg (fun q cA H1 hK' hP' hD' hS' => ?_)
  have e1 : s.vm.findClass ("[" ++ (FieldType.int).toString) = some cI := (hK.2 0 (cI, .int) rfl).2
  have e2 : s.vm.findClass ("[" ++ (FieldType.int).toString) = some cA := (hK'.2 3 (cA, .int) rfl).2
  obtain rfl : cI = cA := Option.some.inj (e1.symm.trans e2)
  exact kk q H1 hP' hD' hS'
theorem g_newaJ {N : Nat} (hexec : p.tables.exec = Jvm.exec) (hb : c.code = cc) (harr : (Cond.arrayClass .long).before args s = true) (hK : va_K D ccl (gTY cI cJ cO) s) (hP : va_P D ccl Ws H) (hD : va_D A Ws) (hS : va_S A H0 H locs) (hA : ∀ q, H0.size ≤ q → A q) {n : Int32} (hn : ¬ n < 0) (hN : n.toNatClampNeg = N) (hbytes : N * 8 ≤ 536870912) (hcells : cells + 1 ≤ R.cells) (hslots : slots + N ≤ R.slots) (hdg : decode cc pc = .ok (.newarray .long, 2))
    (kk : ∀ (q : Nat) (H1 : Heap), va_P D ccl (Ws ++ [(q, .inl (cJ, N, .inr (.inl (fun _ => 0))))]) H1 → va_D A (Ws ++ [(q, .inl (cJ, N, .inr (.inl (fun _ => 0))))]) → va_S A H0 H1 locs → W p l e R s m args below meth c H1 locs (cells + 1) (slots + N) Q (F0 m (pc + 2) ls (.ref q :: rest))) : W p l e R s m args below meth c H locs cells slots Q (F0 m pc ls (.int n :: rest)) := by
  refine va_newa (atype := .long) (a0 := (N, .inr (.inl (fun _ => 0)))) (ty := .long) hexec hb harr rfl hK hP hD hS hA (fun cA => rfl) hn hN hbytes hcells hslots hdg (fun q cA H1 hK' hP' hD' hS' => ?_)
  have e1 : s.vm.findClass ("[" ++ (FieldType.long).toString) = some cJ := (hK.2 1 (cJ, .long) rfl).2
  have e2 : s.vm.findClass ("[" ++ (FieldType.long).toString) = some cA := (hK'.2 3 (cA, .long) rfl).2
  obtain rfl : cJ = cA := Option.some.inj (e1.symm.trans e2)
  exact kk q H1 hP' hD' hS'
theorem g_newq {N : Nat} {own : String} {index : Nat} (hexec : p.tables.exec = Jvm.exec) (hb : c.code = cc) (hown : s.vm.findClass own = some m.cls) (hclink : (Cond.classLink own index "java/lang/Object").before args s = true) (hV : gV s) (hK : va_K D ccl (gTY cI cJ cO) s) (hP : va_P D ccl Ws H) (hD : va_D A Ws) (hS : va_S A H0 H locs) (hA : ∀ q, H0.size ≤ q → A q) {n : Int32} (hn : ¬ n < 0) (hN : n.toNatClampNeg = N) (hbytes : N * 4 ≤ 536870912) (hcells : cells + 1 ≤ R.cells) (hslots : slots + N ≤ R.slots) (hdg : decode cc pc = .ok (.anewarray index, 3))
    (kk : ∀ (q : Nat) (H1 : Heap), va_P D ccl (Ws ++ [(q, .inl (cO, N, .inr (.inr (.inr (.inr (fun _ => none))))))]) H1 → va_D A (Ws ++ [(q, .inl (cO, N, .inr (.inr (.inr (.inr (fun _ => none))))))]) → va_S A H0 H1 locs → W p l e R s m args below meth c H1 locs (cells + 1) (slots + N) Q (F0 m (pc + 3) ls (.ref q :: rest))) : W p l e R s m args below meth c H locs cells slots Q (F0 m pc ls (.int n :: rest)) := by
  refine va_newq (C := "java/lang/Object") hexec hb hown hclink hV.2.2.2.2.2.1 hK hP hD hS hA hn hN hbytes hcells hslots hdg (fun q cA H1 hK' hP' hD' hS' => ?_)
  obtain ⟨kA1, comp1, -, -, -, e1⟩ := (hK.2 2 (cO, .object "java/lang/Object") rfl).2
  obtain ⟨kA2, comp2, -, -, -, e2⟩ := (hK'.2 3 (cA, .object "java/lang/Object") rfl).2
  obtain rfl : cO = cA := Option.some.inj (e1.symm.trans e2)
  exact kk q H1 hP' hD' hS'
end GN
/-- a Section may stand in a row of objects -/
theorem gV.asg {s : State} (h : gV s) : ∀ comp c0 : ClassId, s.vm.findClass "java/lang/Object" = some comp → s.vm.findClass RX4 = some c0 → s.vm.assignable c0 comp = true := by
  intro comp c0 h1 h2
  obtain ⟨c, t, e1, e2, e3⟩ := h.2.2.2.2.2.2.1
  rw [e1] at h2
  rw [e2] at h1
  cases h1; cases h2
  exact e3
/-- .. where it is a cell of the world -/
theorem gAny {D : va_G} {TY : List (ClassId × FieldType)} {s : State} {H : Heap} {Ws : va_W} {a q0 : Nat} {fs : List Value} (hV : gV s) (hK : va_K D ccl TY s) (hP : va_P D ccl Ws H) (he : Ws[q0]? = some (a, .inr (5, fs))) : va_Any "java/lang/Object" s H a :=
  va_rAny hK hP he (r := (RX4, TX4, 7)) rfl hV.asg
/-- behind a call with a part of the cells, the world's tail apart -/
theorem g_joinQ {A0 : Nat → Prop} {D : va_G} {cl : List vw_C} {X X' cx w1 pl : va_W} {H H1 : Heap} (hP : va_P D cl (X ++ pl) H) (hD : va_D A0 (X ++ pl)) (hk : ∀ q : Nat, q < H.size → ¬ va_A cx H.size q → H1[q]? = H[q]?) (hF : ∀ q, va_A cx H.size q → A0 q) (hP1 : va_P D cl w1 H1) (hD1 : va_D (va_A cx H.size) w1) (isC isR perm : List Nat) (hC : isC.map (fun i => X[i]?) = cx.map some)
    (hR : isR.map (fun i => X[i]?) = (isR.filterMap (fun i => X[i]?)).map some) (hn : va_nd isR = true) (hdis : ∀ i ∈ isR, i ∉ isC) (hp : va_nd perm = true) (hs : perm.map (fun i => (isR.filterMap (fun i => X[i]?) ++ w1)[i]?) = X'.map some) : va_P D cl (X' ++ pl) H1 ∧ va_D A0 (X' ++ pl) := by
  obtain ⟨h1, h2⟩ := va_joinQ hP hD isC isR hC hR hn hdis hk hF hP1 hD1
  exact ⟨h1.part perm hs, h2.part perm hp hs⟩
/-- .. and of a callee that has the tail too -/
theorem g_joinP {A0 : Nat → Prop} {D : va_G} {cl : List vw_C} {X X' cx rx pl pl1 : va_W} {H H1 : Heap} (hP : va_P D cl (X ++ pl) H) (hD : va_D A0 (X ++ pl)) (hk : ∀ q : Nat, q < H.size → ¬ va_A (cx ++ pl) H.size q → H1[q]? = H[q]?) (hF : ∀ q, va_A (cx ++ pl) H.size q → A0 q) (hP1 : va_P D cl (rx ++ pl1) H1) (hD1 : va_D (va_A (cx ++ pl) H.size) (rx ++ pl1)) (isC isR perm : List Nat) (hC : isC.map (fun i => X[i]?) = cx.map some)
    (hR : isR.map (fun i => X[i]?) = (isR.filterMap (fun i => X[i]?)).map some) (hn : va_nd isR = true) (hdis : ∀ i ∈ isR, i ∉ isC) (hp : va_nd perm = true) (hs : perm.map (fun i => (isR.filterMap (fun i => X[i]?) ++ rx)[i]?) = X'.map some) : va_P D cl (X' ++ pl1) H1 ∧ va_D A0 (X' ++ pl1) := by
  obtain ⟨h1, h2⟩ := va_joinP hP hD isC isR hC hR hn hdis hk hF hP1 hD1
  exact ⟨h1.part perm hs, h2.part perm hp hs⟩
/-! the sections: two cells each, in the order of their numbers -/
def scG (SA SB : Nat → Nat) (E1 E2 : Nat → va_E) : Nat → va_W
  | 0 => []
  | n + 1 => scG SA SB E1 E2 n ++ [(SA n, E1 n), (SB n, E2 n)]
theorem scG_len {SA SB : Nat → Nat} {E1 E2 : Nat → va_E} : ∀ n, (scG SA SB E1 E2 n).length = 2 * n
  | 0 => rfl
  | n + 1 => by
    show (scG SA SB E1 E2 n ++ [(SA n, E1 n), (SB n, E2 n)]).length = 2 * (n + 1)
    rw [List.length_append, scG_len n]; simp; omega
theorem scG_get {SA SB : Nat → Nat} {E1 E2 : Nat → va_E} {j : Nat} : ∀ {n}, j < n → (scG SA SB E1 E2 n)[2 * j]? = some (SA j, E1 j) ∧ (scG SA SB E1 E2 n)[2 * j + 1]? = some (SB j, E2 j)
  | 0, h => absurd h (Nat.not_lt_zero j)
  | n + 1, h => by
    unfold scG
    by_cases e : j = n
    · subst e
      rw [List.getElem?_append_right (by rw [scG_len]; omega), List.getElem?_append_right (by rw [scG_len]; omega), scG_len]
      rw [Nat.sub_self, Nat.add_sub_cancel_left]
      exact ⟨rfl, rfl⟩
    · rw [List.getElem?_append_left (by rw [scG_len]; omega), List.getElem?_append_left (by rw [scG_len]; omega)]
      exact scG_get (by omega)
theorem scG_any {SA SB : Nat → Nat} {E1 E2 : Nat → va_E} {k : Nat} {q : Nat × va_E} : ∀ {n}, (scG SA SB E1 E2 n)[k]? = some q → ∃ j, j < n ∧ ((k = 2 * j ∧ q = (SA j, E1 j)) ∨ (k = 2 * j + 1 ∧ q = (SB j, E2 j))) := by
  intro n h
  have hk : k < 2 * n := by
    have := (List.getElem?_eq_some_iff.mp h).1
    rw [scG_len] at this; exact this
  have hg := scG_get (SA := SA) (SB := SB) (E1 := E1) (E2 := E2) (j := k / 2) (n := n) (by omega)
  rcases Nat.mod_two_eq_zero_or_one k with e | e
  · refine ⟨k / 2, by omega, Or.inl ⟨by omega, ?_⟩⟩
    have h1 := hg.1
    rw [show 2 * (k / 2) = k by omega] at h1
    exact Option.some.inj (h.symm.trans h1)
  · refine ⟨k / 2, by omega, Or.inr ⟨by omega, ?_⟩⟩
    have h1 := hg.2
    rw [show 2 * (k / 2) + 1 = k by omega] at h1
    exact Option.some.inj (h.symm.trans h1)
theorem scG_congr {SA SB : Nat → Nat} {E1 E2 F1 F2 : Nat → va_E} : ∀ {n}, (∀ j, j < n → E1 j = F1 j ∧ E2 j = F2 j) → scG SA SB E1 E2 n = scG SA SB F1 F2 n
  | 0, _ => rfl
  | n + 1, h => by
    unfold scG
    rw [scG_congr (fun j hj => h j (by omega)), (h n (Nat.lt_succ_self n)).1, (h n (Nat.lt_succ_self n)).2]
theorem scT_get {X : va_W} {SA SB : Nat → Nat} {E1 E2 : Nat → va_E} {n j : Nat} (hj : j < n) : (X ++ scG SA SB E1 E2 n)[X.length + 2 * j]? = some (SA j, E1 j) ∧ (X ++ scG SA SB E1 E2 n)[X.length + (2 * j + 1)]? = some (SB j, E2 j) := by
  rw [List.getElem?_append_right (Nat.le_add_right _ _), List.getElem?_append_right (Nat.le_add_right _ _), Nat.add_sub_cancel_left, Nat.add_sub_cancel_left]
  exact scG_get hj
theorem scT_inj {A : Nat → Prop} {X : va_W} {SA SB : Nat → Nat} {E1 E2 : Nat → va_E} {n i j : Nat} (hD : va_D A (X ++ scG SA SB E1 E2 n)) (hi : i < n) (hj : j < n) (e : SA i = SA j) : i = j := by
  have := hD.1 _ _ _ _ (scT_get (X := X) (SA := SA) (SB := SB) (E1 := E1) (E2 := E2) hi).1 (scT_get hj).1 e
  omega
/-- a section's two cells by themselves -/
theorem sc_outP {D : va_G} {cl : List vw_C} {X : va_W} {SA SB : Nat → Nat} {E1 E2 : Nat → va_E} {n j : Nat} {H : Heap} (hP : va_P D cl (X ++ scG SA SB E1 E2 n) H) (hj : j < n) : va_P D cl [(SA j, E1 j), (SB j, E2 j)] H := by
  intro k q hq
  match k, hq with
  | 0, hq => cases hq; exact hP _ _ (scT_get hj).1
  | 1, hq => cases hq; exact hP _ _ (scT_get hj).2
  | k + 2, hq => simp at hq
theorem sc_outD {A : Nat → Prop} {X : va_W} {SA SB : Nat → Nat} {E1 E2 : Nat → va_E} {n j : Nat} (hD : va_D A (X ++ scG SA SB E1 E2 n)) (hj : j < n) : va_D A [(SA j, E1 j), (SB j, E2 j)] := by
  have g1 := (scT_get (X := X) (SA := SA) (SB := SB) (E1 := E1) (E2 := E2) hj).1
  have g2 := (scT_get (X := X) (SA := SA) (SB := SB) (E1 := E1) (E2 := E2) hj).2
  refine ⟨?_, ?_⟩
  · intro a b p q ha hb e
    match a, b, ha, hb with
    | 0, 0, _, _ => rfl
    | 1, 1, _, _ => rfl
    | 0, 1, ha, hb => cases ha; cases hb; have := hD.1 _ _ _ _ g1 g2 e; omega
    | 1, 0, ha, hb => cases ha; cases hb; have := hD.1 _ _ _ _ g2 g1 e; omega
    | a + 2, _, ha, _ => simp at ha
    | _, b + 2, _, hb => simp at hb
  · intro k q hq
    match k, hq with
    | 0, hq => cases hq; exact hD.2 _ _ g1
    | 1, hq => cases hq; exact hD.2 _ _ g2
    | k + 2, hq => simp at hq
theorem sc_outF {A : Nat → Prop} {X : va_W} {SA SB : Nat → Nat} {E1 E2 : Nat → va_E} {n j : Nat} {s : State} {H : Heap} {locs : List Loc} (hD : va_D A (X ++ scG SA SB E1 E2 n)) (hS : va_S A s.heap H locs) (hA : ∀ q, s.heap.size ≤ q → A q) (hj : j < n) : ∀ q, va_A [(SA j, E1 j), (SB j, E2 j)] H.size q → A q := by
  rintro q (⟨k, e, hq⟩ | hq)
  · match k, hq with
    | 0, hq => cases hq; exact hD.2 _ _ (scT_get hj).1
    | 1, hq => cases hq; exact hD.2 _ _ (scT_get hj).2
    | k + 2, hq => simp at hq
  · exact hA q (Nat.le_trans hS.1 hq)
/-- .. and back among the others -/
theorem sc_in {A : Nat → Prop} {D : va_G} {cl : List vw_C} {X : va_W} {SA SB : Nat → Nat} {E1 E2 F1 F2 : Nat → va_E} {n j : Nat} {H H1 : Heap} {e1 e2 : va_E} (hP : va_P D cl (X ++ scG SA SB E1 E2 n) H) (hD : va_D A (X ++ scG SA SB E1 E2 n)) (hj : j < n)
    (hk : ∀ q : Nat, q < H.size → ¬ va_A [(SA j, E1 j), (SB j, E2 j)] H.size q → H1[q]? = H[q]?) (hP1 : va_P D cl [(SA j, e1), (SB j, e2)] H1) (h1 : F1 j = e1) (h2 : F2 j = e2) (ho : ∀ i, i < n → i ≠ j → F1 i = E1 i ∧ F2 i = E2 i) : va_P D cl (X ++ scG SA SB F1 F2 n) H1 ∧ va_D A (X ++ scG SA SB F1 F2 n) := by
  have g1 := (scT_get (X := X) (SA := SA) (SB := SB) (E1 := E1) (E2 := E2) hj).1
  have g2 := (scT_get (X := X) (SA := SA) (SB := SB) (E1 := E1) (E2 := E2) hj).2
  have hkeep : ∀ (k : Nat) (q : Nat × va_E), (X ++ scG SA SB E1 E2 n)[k]? = some q → k ≠ X.length + 2 * j → k ≠ X.length + (2 * j + 1) → va_at D cl q H1 := by
    intro k q hq n1 n2
    have hlt := va_at.lt (hP k q hq)
    have hs : H1[q.1]? = H[q.1]? := hk q.1 hlt (by
      rintro (⟨i, e, h⟩ | h)
      · match i, h with
        | 0, h => exact n1 (hD.1 _ _ _ _ hq g1 (congrArg Prod.fst (Option.some.inj h)).symm)
        | 1, h => exact n2 (hD.1 _ _ _ _ hq g2 (congrArg Prod.fst (Option.some.inj h)).symm)
        | i + 2, h => simp at h
      · exact absurd hlt (Nat.not_lt.mpr h))
    have hkk := va_P.kept (D := D) (cl := cl) (ws := [q]) (H := H) (H1 := H1) (fun k' q' h' => by
      cases k' with
      | zero => cases h'; exact hP k q hq
      | succ k' => simp at h') (fun k' q' h' => by
      cases k' with
      | zero => cases h'; exact hs
      | succ k' => simp at h')
    exact hkk 0 q rfl
  constructor
  · intro k q hq
    by_cases hx : k < X.length
    · rw [List.getElem?_append_left hx] at hq
      refine hkeep k q ?_ (by omega) (by omega)
      rw [List.getElem?_append_left hx]; exact hq
    · rw [List.getElem?_append_right (Nat.le_of_not_lt hx)] at hq
      obtain ⟨i, hi, ⟨ek, eq⟩ | ⟨ek, eq⟩⟩ := scG_any hq
      · by_cases e : i = j
        · subst e; subst eq; rw [h1]; exact hP1 0 _ rfl
        · subst eq
          rw [(ho i hi e).1]
          have hkx : k = X.length + 2 * i := by omega
          subst hkx
          exact hkeep _ _ (scT_get hi).1 (by omega) (by omega)
      · by_cases e : i = j
        · subst e; subst eq; rw [h2]; exact hP1 1 _ rfl
        · subst eq
          rw [(ho i hi e).2]
          have hkx : k = X.length + (2 * i + 1) := by omega
          subst hkx
          exact hkeep _ _ (scT_get hi).2 (by omega) (by omega)
  · have hadr : ∀ (k : Nat) (q : Nat × va_E), (X ++ scG SA SB F1 F2 n)[k]? = some q → ∃ q', (X ++ scG SA SB E1 E2 n)[k]? = some q' ∧ q'.1 = q.1 := by
      intro k q hq
      by_cases hx : k < X.length
      · rw [List.getElem?_append_left hx] at hq
        exact ⟨q, by rw [List.getElem?_append_left hx]; exact hq, rfl⟩
      · rw [List.getElem?_append_right (Nat.le_of_not_lt hx)] at hq
        obtain ⟨i, hi, ⟨ek, eq⟩ | ⟨ek, eq⟩⟩ := scG_any hq
        · have hkx : k = X.length + 2 * i := by omega
          subst hkx; subst eq
          exact ⟨_, (scT_get hi).1, rfl⟩
        · have hkx : k = X.length + (2 * i + 1) := by omega
          subst hkx; subst eq
          exact ⟨_, (scT_get hi).2, rfl⟩
    refine ⟨fun a b p q ha hb e => ?_, fun k q hq => ?_⟩
    · obtain ⟨p', ha', e1'⟩ := hadr a p ha
      obtain ⟨q', hb', e2'⟩ := hadr b q hb
      exact hD.1 a b p' q' ha' hb' (e1'.trans (e.trans e2'.symm))
    · obtain ⟨q', hq', e'⟩ := hadr k q hq
      rw [← e']; exact hD.2 k q' hq'
theorem tl_get {X tl : va_W} {j : Nat} {q : Nat × va_E} (h : tl[j]? = some q) : (X ++ tl)[X.length + j]? = some q := by
  rw [List.getElem?_append_right (Nat.le_add_right _ _), Nat.add_sub_cancel_left]; exact h
/-- x stands in the tail as a Section -/
def inT (tl : va_W) (x : Nat) : Prop := ∃ (j : Nat) (vs : List Value), tl[j]? = some (x, .inr (5, vs))
theorem inT.any {D : va_G} {TY : List (ClassId × FieldType)} {s : State} {H : Heap} {X tl : va_W} {x : Nat} (h : inT tl x) (hV : gV s) (hK : va_K D ccl TY s) (hP : va_P D ccl (X ++ tl) H) : va_Any "java/lang/Object" s H x := by
  obtain ⟨j, vs, hj⟩ := h
  exact gAny hV hK hP (tl_get hj)
theorem inT.recv {D : va_G} {TY : List (ClassId × FieldType)} {s : State} {H : Heap} {X tl : va_W} {x : Nat} (h : inT tl x) (hK : va_K D ccl TY s) (hP : va_P D ccl (X ++ tl) H) : ∃ cell : Cell, H[x]? = some cell ∧ cell.vm.isStatics = false ∧ s.vm.findClass RX4 = some cell.cls := by
  obtain ⟨j, vs, hj⟩ := h
  exact va_recv hK hP (ci := 5) (q := (RX4, TX4, 7)) rfl (tl_get hj)
theorem gS4 {D : va_G} {TY : List (ClassId × FieldType)} {s : State} (hK : va_K D ccl TY s) : ClassAt s RX4 (D.1 5) := (hK.1 5 (RX4, TX4, 7) rfl).2
