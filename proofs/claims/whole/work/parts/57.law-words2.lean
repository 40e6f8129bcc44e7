/-! the numbers of both sides, call by call -/
theorem rs_isR (v : Int32) : rs97 v = nI (gN (rs97 v)) ∧ gN (rs97 v) < 97 := by
  have h0 := Int.emod_nonneg v.toInt (show (97 : Int) ≠ 0 by decide)
  have h1 := Int.emod_lt_of_pos v.toInt (show (0 : Int) < 97 by decide)
  have e : rs97 v = nI (v.toInt % 97).toNat := rs97_of (by omega) (by omega)
  have hg : gN (rs97 v) = (v.toInt % 97).toNat := by rw [e]; exact gN_nI (by omega)
  rw [hg]
  exact ⟨e, by omega⟩
theorem isR_upd {f : Nat → Int32} {n k : Nat} {v : Int32} (h : isR f n) : isR (upd f k (rs97 v)) n := by
  intro i hi
  unfold upd
  by_cases e : i = k
  · rw [if_pos e]; exact rs_isR v
  · rw [if_neg e]; exact h i hi
theorem isR_des {f g : Nat → Int32} : isR (desA f g 32) 32 := by
  intro i hi
  unfold desA
  rw [if_pos hi, gN_nI (by have := desT_lt f i; omega)]
  exact ⟨rfl, desT_lt f i⟩
theorem isR_shift {f : Nat → Int32} {v : Int32} (h : isR f 64) : isR (shiftIn 64 f (rs97 v)) 64 := by
  intro i hi
  unfold shiftIn
  by_cases e : i = 0
  · rw [if_pos e]; exact rs_isR v
  · rw [if_neg e, if_pos hi]; exact h (i - 1) (by omega)
theorem isIn_int {v a b : Int32} (h : ¬ isIn v a b = 0) : a.toInt ≤ v.toInt ∧ v.toInt ≤ b.toInt := by
  obtain ⟨h1, h2⟩ := isIn_get h
  exact ⟨Int32.le_iff_toInt_le.mp h1, Int32.le_iff_toInt_le.mp h2⟩
theorem isC_upd {f : Nat → Int32} {k : Nat} {v : Int32} (h : isC f) (hv : -127 ≤ v.toInt ∧ v.toInt ≤ 127) : isC (upd f k v) := by
  intro i hi
  unfold upd
  by_cases e : i = k
  · rw [if_pos e]; exact hv
  · rw [if_neg e]; exact h i hi
theorem rnM_out {mc mw mo ms : Nat → Int32} {x : Int32} {N C : Nat} (hO : ∀ i, i < C → gN (mo i) < N) {i : Nat} (hi : 4 * N ≤ i) : ∀ {k}, k ≤ C → (rnM mc mw mo ms x k).1 i = ms i
  | 0, _ => rfl
  | k + 1, hk => by
    have hj := hO k (by omega)
    show goM _ _ _ _ i = _
    unfold goM upd
    rw [if_neg (by omega), if_neg (by omega), if_neg (by omega), if_neg (by omega)]
    exact rnM_out hO hi (by omega)
section WFS
variable {N : Nat} {mc ms mw : Nat → Int32} {C : Nat} {mo : Nat → Int32} {K Y : Nat} {rw0 mp tf qf : Nat → Int32}
theorem wf_section {way : Int32} (h : WF N mc ms mw C mo K Y rw0 mp tf qf) (hk : gGo (isIn way 0 2) (if N < 8 then 1 else 0) 1 = 0) : WF (N + 1) (upd mc (5 * N) 64) ms (upd mw N way) C mo K Y rw0 mp tf qf := by
  obtain ⟨hN, hC8, hmz, hsz9, hc, hs, hw, hO, hiM, hr⟩ := h
  obtain ⟨k1, k2, -⟩ := gGo_0 hk
  have hN8 := g_b1 k2
  obtain ⟨V, hV, rfl⟩ := isIn_nat 2 (by decide) k1
  refine ⟨by omega, hC8, fun i hi => ?_, fun i hi => hsz9 i (by omega), isC_upd hc (by decide), hs, fun j hj => ?_, fun i hi => ⟨by have := (hO i hi).1; omega, (hO i hi).2⟩, hiM, hr⟩
  · unfold upd
    rw [if_neg (by omega)]
    exact hmz i (by omega)
  · unfold upd
    by_cases e : j = N
    · rw [if_pos e]
      rcases (show V = 0 ∨ V = 1 ∨ V = 2 by omega) with rfl | rfl | rfl
      · exact Or.inl rfl
      · exact Or.inr (Or.inl rfl)
      · exact Or.inr (Or.inr rfl)
    · rw [if_neg e]; exact hw j hj
theorem wf_set {j wh v : Int32} (h : WF N mc ms mw C mo K Y rw0 mp tf qf) (hk : gGo (isSec N j) (if isIn wh 0 4 = 0 then 0 else isIn v (-127) 127) 1 = 0) : WF N (upd mc (5 * gN j + gN wh) v) ms mw C mo K Y rw0 mp tf qf := by
  obtain ⟨hN, hC8, hmz, hsz9, hc, hr⟩ := h
  obtain ⟨k1, k2, -⟩ := gGo_0 hk
  have k3 : ¬ isIn wh 0 4 = 0 := fun h9 => k2 (if_pos h9)
  rw [if_neg k3] at k2
  obtain ⟨J, hJ, rfl⟩ := isSec_get hN k1
  obtain ⟨V, hV, rfl⟩ := isIn_nat 4 (by decide) k3
  have e1 : gN (nI J) = J := gN_nI (by omega)
  have e2 : gN (nI V) = V := gN_nI (by omega)
  rw [e1, e2]
  refine ⟨hN, hC8, fun i hi => ?_, hsz9, isC_upd hc (isIn_int k2), hr⟩
  unfold upd
  rw [if_neg (by omega)]
  exact hmz i hi
theorem wf_room {j : Int32} (h : WF N mc ms mw C mo K Y rw0 mp tf qf) {J : Nat} (hJ : J < N) (hl : lastAt mo (nI J) C = -1) : C < 8 := by
  obtain ⟨hN, hC8, hmz, hsz9, hc, hs, hw, hO, hiM, hr⟩ := h
  have hno : ∀ i, i < C → gN (mo i) ≠ J := fun i hi h9 => lastAt_no (by omega) hl i hi (by rw [(hO i hi).2, h9])
  have := fb_holes N (C + 1) (fun i => if i < C then gN (mo i) else J) (fun i hi => by
    show (if i < C then gN (mo i) else J) < N
    by_cases e : i < C
    · rw [if_pos e]; exact (hO i e).1
    · rw [if_neg e]; exact hJ) (fun a b hab hb => by
    show (if a < C then gN (mo a) else J) ≠ (if b < C then gN (mo b) else J)
    rw [if_pos (show a < C by omega)]
    by_cases e : b < C
    · rw [if_pos e]; exact fun h9 => absurd (hiM a b (by omega) e h9) (by omega)
    · rw [if_neg e]; exact hno a (by omega))
  omega
theorem wf_chainA {j : Int32} (h : WF N mc ms mw C mo K Y rw0 mp tf qf) (hk : gGo (isSec N j) 1 1 = 0) (hl : lastAt mo j C = -1) : WF N mc ms mw (C + 1) (upd mo C j) K Y rw0 mp tf qf := by
  obtain ⟨k1, -, -⟩ := gGo_0 hk
  obtain ⟨J, hJ, rfl⟩ := isSec_get h.1 k1
  have hC := wf_room (j := 0) h hJ hl
  obtain ⟨hN, hC8, hmz, hsz9, hc, hs, hw, hO, hiM, hr⟩ := h
  have e1 : gN (nI J) = J := gN_nI (by omega)
  have hno : ∀ i, i < C → gN (mo i) ≠ J := fun i hi h9 => lastAt_no (by omega) hl i hi (by rw [(hO i hi).2, h9])
  refine ⟨hN, by omega, hmz, hsz9, hc, hs, hw, fun i hi => ?_, fun a b ha hb => ?_, hr⟩
  · unfold upd
    by_cases e : i = C
    · rw [if_pos e, e1]; exact ⟨hJ, rfl⟩
    · rw [if_neg e]; exact hO i (by omega)
  · unfold upd
    by_cases ea : a = C
    · by_cases eb : b = C
      · intro _; omega
      · rw [if_pos ea, if_neg eb, e1]; exact fun h9 => absurd h9.symm (hno b (by omega))
    · by_cases eb : b = C
      · rw [if_neg ea, if_pos eb, e1]; exact fun h9 => absurd h9 (hno a (by omega))
      · rw [if_neg ea, if_neg eb]; exact hiM a b (by omega) (by omega)
theorem wf_chainR {Q : Nat} (h : WF N mc ms mw C mo K Y rw0 mp tf qf) (hQ : Q < C) : WF N mc ms mw (C - 1) (rmAt mo Q (C - 1)) K Y rw0 mp tf qf := by
  obtain ⟨hN, hC8, hmz, hsz9, hc, hs, hw, hO, hiM, hr⟩ := h
  have key : ∀ i, i < C - 1 → ∃ z, z < C ∧ rmAt mo Q (C - 1) i = mo z ∧ z = if Q ≤ i then i + 1 else i := by
    intro i hi
    unfold rmAt
    by_cases e : Q ≤ i
    · rw [if_pos ⟨e, hi⟩, if_pos e]; exact ⟨i + 1, by omega, rfl, rfl⟩
    · rw [if_neg (fun h9 => e h9.1), if_neg e]; exact ⟨i, by omega, rfl, rfl⟩
  refine ⟨hN, by omega, hmz, hsz9, hc, hs, hw, fun i hi => ?_, fun a b ha hb he => ?_, hr⟩
  · obtain ⟨z, hz, e, -⟩ := key i hi
    rw [e]; exact hO z hz
  · obtain ⟨z1, hz1, e1, f1⟩ := key a ha
    obtain ⟨z2, hz2, e2, f2⟩ := key b hb
    rw [e1, e2] at he
    have := hiM z1 z2 hz1 hz2 he
    split at f1 <;> split at f2 <;> omega
theorem wf_run {x : Int32} (h : WF N mc ms mw C mo K Y rw0 mp tf qf) (hk : gGo (isIn x (-32767) 32767) 1 1 = 0) : WF N mc (rnM mc mw mo ms x C).1 mw C mo (if K < 16 then K + 1 else K) Y rw0 mp tf qf := by
  obtain ⟨hN, hC8, hmz, hsz9, hc, hs, hw, hO, hiM, hK, hr⟩ := h
  obtain ⟨k1, -, -⟩ := gGo_0 hk
  have hx := isIn_sig k1
  exact ⟨hN, hC8, hmz, fun i hi => (rnM_out (fun k hk => (hO k hk).1) hi (Nat.le_refl C)).trans (hsz9 i hi), hc, (rn_ok hs hx (fun i hi => Nat.lt_of_lt_of_le (hO i hi).1 hN) (Nat.le_refl C)).1, hw, hO, hiM, by split <;> omega, hr⟩
theorem wf_rest (h : WF N mc ms mw C mo K Y rw0 mp tf qf) : zeroTo ms (4 * N) = zeroTo ms 32 ∧ WF N mc (zeroTo ms 32) mw C mo 0 Y rw0 mp tf qf := by
  obtain ⟨hN, hC8, hmz, hsz9, hc, hs, hw, hO, hiM, hK, hr⟩ := h
  have e : ∀ i, zeroTo ms 32 i = 0 := by
    intro i
    unfold zeroTo
    by_cases e : i < 32
    · rw [if_pos e]
    · rw [if_neg e]; exact hsz9 i (by omega)
  refine ⟨?_, hN, hC8, hmz, fun i _ => e i, hc, fun i _ => by rw [e i]; decide, hw, hO, hiM, by omega, hr⟩
  funext i
  rw [e i]
  unfold zeroTo
  by_cases e : i < 4 * N
  · rw [if_pos e]
  · rw [if_neg e]; exact hsz9 i (by omega)
theorem wf_tap {k : Nat} {v : Int32} (h : WF N mc ms mw C mo K Y rw0 mp tf qf) : WF N mc ms mw C mo K Y rw0 mp (upd tf k (rs97 v)) qf := by
  obtain ⟨h1, h2, h3, h4, h5, h6, h7, h8, h9, h10, h11, h12, h13, h14, h15, h16⟩ := h
  exact ⟨h1, h2, h3, h4, h5, h6, h7, h8, h9, h10, h11, h12, h13, h14, isR_upd h15, h16⟩
theorem wf_ask {k : Nat} {v : Int32} (h : WF N mc ms mw C mo K Y rw0 mp tf qf) : WF N mc ms mw C mo K Y rw0 mp tf (upd qf k (rs97 v)) := by
  obtain ⟨h1, h2, h3, h4, h5, h6, h7, h8, h9, h10, h11, h12, h13, h14, h15, h16⟩ := h
  exact ⟨h1, h2, h3, h4, h5, h6, h7, h8, h9, h10, h11, h12, h13, h14, h15, isR_upd h16⟩
theorem wf_design (h : WF N mc ms mw C mo K Y rw0 mp tf qf) : WF N mc ms mw C mo K Y rw0 mp (desA qf tf 32) qf := by
  obtain ⟨h1, h2, h3, h4, h5, h6, h7, h8, h9, h10, h11, h12, h13, h14, h15, h16⟩ := h
  exact ⟨h1, h2, h3, h4, h5, h6, h7, h8, h9, h10, h11, h12, h13, h14, isR_des, h16⟩
theorem wf_sample {v : Int32} (h : WF N mc ms mw C mo K Y rw0 mp tf qf) (hk : gGo (isIn v (-96) 96) 1 1 = 0) : WF N mc ms mw C mo K (if Y < 64 then Y + 1 else Y) (shiftIn 64 rw0 v) (shiftIn 64 mp (rs97 v)) tf qf := by
  obtain ⟨h1, h2, h3, h4, h5, h6, h7, h8, h9, h10, h11, h12, h13, h14, h15, h16⟩ := h
  obtain ⟨k1, -, -⟩ := gGo_0 hk
  have hv := isIn_int k1
  refine ⟨h1, h2, h3, h4, h5, h6, h7, h8, h9, h10, by split <;> omega, fun i hi => ?_, fun i hi => ?_, isR_shift h14, h15, h16⟩
  · unfold shiftIn
    by_cases e : i = 0
    · rw [if_pos e]; exact hv
    · rw [if_neg e, if_pos (by split at hi <;> omega)]; exact h12 (i - 1) (by split at hi <;> omega)
  · unfold shiftIn
    by_cases e : i = 0
    · rw [if_pos e, if_pos e]
    · rw [if_neg e, if_neg e, if_pos (by split at hi <;> omega), if_pos (by split at hi <;> omega)]; exact h13 (i - 1) (by split at hi <;> omega)
theorem wf_arrange (h : WF N mc ms mw C mo K Y rw0 mp tf qf) {o1 : Nat → Int32} (h1 : ∀ k, k < C → ∃ j, j < C ∧ o1 k = mo j) (h2 : ∀ i j, i < C → j < C → gN (o1 i) = gN (o1 j) → i = j) : WF N mc ms mw C o1 K Y rw0 mp tf qf := by
  obtain ⟨hN, hC8, hmz, hsz9, hc, hs, hw, hO, hiM, hr⟩ := h
  refine ⟨hN, hC8, hmz, hsz9, hc, hs, hw, fun i hi => ?_, h2, hr⟩
  obtain ⟨j, hj, e⟩ := h1 i hi
  rw [e]; exact hO j hj
theorem wf_new : WF 0 (fun _ => 0) (fun _ => 0) (fun _ => 0) 0 (fun _ => 0) 0 0 (fun _ => 0) (fun _ => 0) (fun _ => 0) (fun _ => 0) := by
  have h0 : ∀ n, isR (fun _ => 0) n := fun n i _ => ⟨rfl, show gN (0 : Int32) < 97 by decide⟩
  exact ⟨by omega, by omega, fun _ _ => rfl, fun _ _ => rfl, fun i _ => show -127 ≤ (0 : Int32).toInt ∧ (0 : Int32).toInt ≤ 127 by decide, fun i _ => show -32767 ≤ (0 : Int32).toInt ∧ (0 : Int32).toInt ≤ 32767 by decide, fun j _ => Or.inl rfl, fun i h => absurd h (Nat.not_lt_zero i), fun i j h => absurd h (Nat.not_lt_zero i), by omega, by omega, fun i h => absurd h (Nat.not_lt_zero i), fun i h => absurd h (Nat.not_lt_zero i), h0 _, h0 _, h0 _⟩
end WFS
/-! the law's loop -/
/-- the world between two calls: the answer's row, the model, the class's object -/
def LI (cI cJ cO : ClassId) (df t0 : Nat) (M : Nat → Nat) (o : Nat) (W1 : va_W) : Prop :=
  ∃ (g : Nat → Int64) (w : va_W) (N : Nat) (mc ms mw : Nat → Int32) (C : Nat) (mo : Nat → Int32) (K : Nat) (mu : Nat → Int32) (Y : Nat) (rw0 tf qf mp mf ma : Nat → Int32) (cy lo gr : Int32) (ov un : Int64) (la : Int32),
    W1 = (([(o, .inl (cJ, 1, .inr (.inl g)))] : va_W) ++ mW cI M mc ms mw (nI N) mo (nI C) mu (nI K) tf qf mp (nI Y) mf ma cy lo gr ov un la) ++ w ∧ CLS cI cJ cO df t0 w N mc ms mw C mo K mu Y rw0 tf qf ∧ WF N mc ms mw C mo K Y rw0 mp tf qf
/-- what stays the same all through the law -/
def lwC (p : Program) (l : Launch) (s : State) (m : MethodId) (c : Code) (D : va_G) (cI cJ cO : ClassId) (df b L : Nat) (xs : Nat → Int32) (A : Nat → Prop) : Prop :=
  CallFix p m c code 8 s #[Value.ref b] wsL_law RL ∧ l.stackTraces = false ∧ (∀ q : Nat, s.heap.size ≤ q → A q) ∧ ¬ A b ∧ b < s.heap.size ∧ va_X b L xs s s.heap ∧ va_K D ccl (gTY cI cJ cO) s ∧ gV s ∧ gH df A s s.heap ∧ L ≤ 2048
theorem lw_gt {I L : Nat} (hI : I ≤ 2048) (hL : L ≤ 2048) (h : ¬ nI L - 4 < nI (4 * I)) : 4 * I + 4 ≤ L := by
  have h1 := Int32.not_lt.mp h
  have h2 := Int32.le_iff_toInt_le.mp h1
  have e1 : (nI (4 * I)).toInt = (4 * I : Nat) := nI_toInt (by omega)
  have e3 : (nI L - 4 : Int32).toInt = (L : Int) - 4 := pk_sub_toInt (a := L) (b := 4) (by omega) (by decide)
  rw [e1, e3] at h2
  omega
