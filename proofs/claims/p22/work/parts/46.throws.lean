/-! exceptions that a method throws itself -/
abbrev gRE : List String := ["java/lang/RuntimeException", "java/lang/Exception"]
theorem gx_thr {p : Program} {l : Launch} {e : Env} {R : Room} {s : State} {m : MethodId} {args : Array Value} {below : List Frame} {meth : Method} {c : Code} {H : Heap} {locs : List Loc} {cells slots : Nat} {cc : ByteArray} {pc : Nat} {ls : Array Slot} {A : Nat → Prop} {D : va_G} {TY : List (ClassId × FieldType)} {df : Nat} {Wf : va_W}
    {own cls text : String} {ik is ic mc ms : Nat} {px : String × va_W → Prop} {Qc : Array Value → State → Outcome → State → Prop} {rest : List Value}
    (hexec : p.tables.exec = Jvm.exec) (hb : c.code = cc) (hfl : l.stackTraces = false) (hown : s.vm.findClass own = some m.cls) (hcls : Bundle.fit cls = true)
    (hk : (Cond.classLink own ik cls).before args s = true) (hini : (Cond.initialized cls).before args s = true) (hstr : ∃ sa, vk_R own is text sa s)
    (hat : ∀ w ∈ (vx_atS own ic cls gRE).filter goodWord, w.before args s = true) (hng : ∀ w ∈ (vx_atS own ic cls gRE).filter (fun w => !goodWord w), w ∈ [Cond.declares (Bundle.initS "java/lang/RuntimeException"), Cond.declares (Bundle.initS "java/lang/Exception"), Cond.declares (Bundle.initS Bundle.tN), Cond.castable cls cls]) (hV : gV s) (hcast : gCast cls cls s)
    (hgood : ∀ w ∈ Cond.classLink own ik cls :: Cond.initialized cls :: vx_atS own ic cls gRE, vx_ot w = true)
    (hH : gH df A s s.heap) (hP : va_P D ccl Wf H) (hK : va_K D ccl TY s) (hD : va_D A Wf) (hS : va_S A s.heap H locs) (hsize : ls.size = c.maxLocals)
    (d0 : decode cc pc = .ok (.new ik, 3)) (d3 : decode cc (pc + 3) = .ok (.dup, 1)) (d4 : decode cc (pc + 4) = .ok (.ldc is, 2)) (d6 : decode cc (pc + 6) = .ok (.invokespecial ic, 3)) (d9 : decode cc (pc + 9) = .ok (.athrow, 1))
    (htab : ∀ x ∈ c.exceptionTable.toList, False) (hRf : 5 < R.frames) (hRl : (rest.map fun v => v.category).sum + 82 ≤ R.locals) (hRc : cells + 1 ≤ R.cells) (hRs : slots + 6 ≤ R.slots) (hlk : meth.locks = false)
    (hc : cells + 1 ≤ mc) (hs : slots + 6 ≤ ms) (hpx : px (cls, Wf)) :
    W p l e R s m args below meth c H locs cells slots (vx_MQ below Qc (vx_X px (gBx D TY A) A) args s mc ms A) (F0 m pc ls rest) := by
  obtain ⟨sa, hstr⟩ := hstr
  exact vx_throwS hexec hb hfl hown hcls (names := gRE) (by decide) hk hini hstr (vx_hat hat hng (vx_c hV.2.2.2.2.2.2.2.2.2.2.2.2.1.use (vx_c hV.2.2.2.2.2.2.2.2.2.2.2.2.2.1.use (vx_c hV.2.2.2.2.2.2.2.2.2.2.2.2.2.2.use (vx_c hcast.use vx_n))))) hgood hH.1 hH.2.1 hS hsize d0 d3 d4 d6 d9 (fun x hx => (htab x hx).elim) hRf hRl hRc hRs hlk
    (fun t hvm hsz hk9 => ⟨(cls, Wf), hpx, ⟨rfl, hP.kept (fun k q hq => hk9 _ (va_at.lt (hP k q hq))), va_K.moved hvm hK, hD⟩, ⟨Nat.le_trans hS.1 hsz, fun q h1 h2 => (hk9 q (Nat.lt_of_lt_of_le h1 hS.1)).trans (hS.2.1 q h1 h2)⟩⟩) hS.2.2 hc hs
/-- which exception a refusal is: the first kind or the second -/
def xN (a b : String) (k : Int32) : String := if k = 1 then a else b
theorem gGo1 {f s t : Int32} (h : f = 0) : gGo f s t = 1 := if_pos h
theorem gGo2 {f s t : Int32} (h : ¬ f = 0) (h2 : s = 0) : gGo f s t = 2 := by unfold gGo; rw [if_neg h, if_pos h2]
theorem gGoOk {f s t : Int32} (h : ¬ f = 0) (h2 : ¬ s = 0) (h3 : ¬ t = 0) : gGo f s t = 0 := by unfold gGo; rw [if_neg h, if_neg h2, if_neg h3]
theorem px1 {E a b : String} {f s t : Int32} (h : f = 0) (hE : E = a) : ¬ gGo f s t = 0 ∧ E = xN a b (gGo f s t) := by rw [gGo1 h]; exact ⟨by decide, hE.trans (if_pos rfl).symm⟩
theorem px2 {E a b : String} {f s t : Int32} (h : ¬ f = 0) (h2 : s = 0) (hE : E = b) : ¬ gGo f s t = 0 ∧ E = xN a b (gGo f s t) := by rw [gGo2 h h2]; exact ⟨by decide, hE.trans (if_neg (by decide)).symm⟩
theorem isSec32 (v : Int32) : isSec 32 v = isIn v 0 31 := by
  unfold isSec isIn
  by_cases h1 : v < 0
  · rw [if_pos h1, if_pos h1]
  · rw [if_neg h1, if_neg h1]
    obtain ⟨J, hJ, rfl⟩ := nI_of h1
    by_cases h2 : 31 < J
    · rw [if_pos (nI_le (a := 32) (by omega) hJ), if_pos (show (31 : Int32) < nI J from nI_lt (a := 31) h2 hJ)]
    · rw [if_neg (nI_ge (by omega) (by omega)), if_neg (show ¬ (31 : Int32) < nI J from nI_nlt (a := 31) (b := J) (by omega) (by decide))]
theorem isBk (v : Int32) : ((if v < 0 then (0 : Int32) else 1) = 0) ↔ v < 0 := by
  by_cases h : v < 0
  · rw [if_pos h]; exact ⟨fun _ => h, fun _ => rfl⟩
  · rw [if_neg h]; exact ⟨fun h9 => absurd h9 (by decide), fun h9 => absurd h9 h⟩
theorem isSec0 (v : Int32) : isSec 0 v = 0 := by
  unfold isSec
  by_cases h1 : v < 0
  · rw [if_pos h1]
  · rw [if_neg h1, if_pos (show nI 0 ≤ v from Int32.not_lt.mp h1)]
theorem isIn_sig {v : Int32} (h : ¬ isIn v (-32767) 32767 = 0) : -32767 ≤ v.toInt ∧ v.toInt ≤ 32767 := by
  obtain ⟨h1, h2⟩ := isIn_get h
  have e1 := Int32.le_iff_toInt_le.mp h1
  have e2 := Int32.le_iff_toInt_le.mp h2
  have k1 : (-32767 : Int32).toInt = -32767 := by decide
  have k2 : (32767 : Int32).toInt = 32767 := by decide
  omega
theorem scJ_zero {cI : ClassId} {SA SB : Nat → Nat} {mc ms mw : Nat → Int32} {k : Nat} : scJ cI SA SB mc (zeroTo ms (4 * (k + 1))) mw k = [(SA k, .inr (5, [.int (nI k), .int (mw k), .ref (SB k), .int 0, .int 0, .int 0, .int 0])), (SB k, .inl (cI, 5, .inl (fun z9 => if z9 < 5 then mc (5 * k + z9) else 0)))] := by
  have e : ∀ i, i < 4 * (k + 1) → zeroTo ms (4 * (k + 1)) i = 0 := fun i hi => if_pos hi
  unfold scJ
  rw [e _ (by omega), e _ (by omega), e _ (by omega), e _ (by omega)]
theorem scJ_zeroo {cI : ClassId} {SA SB : Nat → Nat} {mc ms mw : Nat → Int32} {k i : Nat} (h : i ≠ k) : scJ cI SA SB mc (zeroTo ms (4 * k)) mw i = scJ cI SA SB mc (zeroTo ms (4 * (k + 1))) mw i := by
  have e : ∀ z, z < 4 → zeroTo ms (4 * k) (4 * i + z) = zeroTo ms (4 * (k + 1)) (4 * i + z) := by
    intro z hz
    unfold zeroTo
    by_cases h1 : i < k
    · rw [if_pos (by omega), if_pos (by omega)]
    · rw [if_neg (by omega), if_neg (by omega)]
  have e0 := e 0 (by omega)
  rw [Nat.add_zero] at e0
  unfold scJ
  rw [e0, e 1 (by omega), e 2 (by omega), e 3 (by omega)]
theorem gnR_ne {a b : Int} {dv : Int32} (h : ¬ dv = 0) : gnR a b dv = gnR a b 1 := by
  unfold gnR
  rw [if_neg h, if_neg h, if_neg (show ¬ (1 : Int32) = 0 by decide), if_neg (show ¬ (1 : Int32) = 0 by decide)]
