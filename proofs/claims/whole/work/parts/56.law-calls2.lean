theorem h_sf {sf : Nat → Option Nat} {SA : Nat → Nat} {N q : Nat} (h : ∀ k, k < N → sf k = some (SA k)) : ∀ k, k < N + 1 → va_up sf N (some q) k = some ((fun i => if i = N then q else SA i) k) := by
  intro k hk
  show (if k = N then some q else sf k) = some (if k = N then q else SA k)
  by_cases e : k = N
  · rw [if_pos e, if_pos e]
  · rw [if_neg e, if_neg e]; exact h k (by omega)
theorem h_fr {fr : Nat → Option Nat} {SA : Nat → Nat} {mo : Nat → Int32} {N q C : Nat} (hO : ∀ i, i < C → gN (mo i) < N) (h : ∀ k, k < C → fr k = some (SA (gN (mo k)))) : ∀ k, k < C → fr k = some ((fun i => if i = N then q else SA i) (gN (mo k))) := by
  intro k hk
  show fr k = some (if gN (mo k) = N then q else SA (gN (mo k)))
  rw [if_neg (Nat.ne_of_lt (hO k hk))]
  exact h k hk
theorem h_add {fr : Nat → Option Nat} {SA : Nat → Nat} {mo : Nat → Int32} {j : Int32} {C : Nat} (h : ∀ k, k < C → fr k = some (SA (gN (mo k)))) : ∀ k, k < C + 1 → va_up fr C (some (SA (gN j))) k = some (SA (gN (upd mo C j k))) := by
  intro k hk
  show (if k = C then some (SA (gN j)) else fr k) = some (SA (gN (if k = C then j else mo k)))
  by_cases e : k = C
  · rw [if_pos e, if_pos e]
  · rw [if_neg e, if_neg e]; exact h k (by omega)
theorem h_rm {fr : Nat → Option Nat} {SA : Nat → Nat} {mo : Nat → Int32} {Q C : Nat} (h : ∀ k, k < C → fr k = some (SA (gN (mo k)))) : ∀ k, k < C - 1 → rmF fr Q C k = some (SA (gN (rmAt mo Q (C - 1) k))) := by
  intro k hk
  unfold rmF rmAt
  rw [if_neg (by omega)]
  by_cases e : Q ≤ k
  · rw [if_pos ⟨e, hk⟩, if_pos ⟨e, hk⟩]; exact h (k + 1) (by omega)
  · rw [if_neg (fun h9 => e h9.1), if_neg (fun h9 => e h9.1)]; exact h k (by omega)
theorem h_one {SA : Nat → Nat} {q : Nat} : ∀ k, k < 1 → va_up (fun _ => none) 0 (some q) k = some ((fun i => if i = 0 then q else SA i) k) := by
  intro k hk
  obtain rfl : k = 0 := by omega
  rfl
theorem h_on1 {SA : Nat → Nat} {mo : Nat → Int32} {j : Int32} : ∀ k, k < 1 → va_up (fun _ => none) 0 (some (SA (gN j))) k = some (SA (gN (upd mo 0 j k))) := by
  intro k hk
  obtain rfl : k = 0 := by omega
  rfl

set_option maxHeartbeats 4000000 in
set_option maxRecDepth 100000 in
theorem c2_L_section (l : Launch) (hfl : l.stackTraces = false) (D : va_G) (cI cJ cO : ClassId) (df sz : Nat) (t0 : Nat) (o : Nat) (g : Nat → Int64) (w : va_W) (N : Nat) (mc : Nat → Int32) (ms : Nat → Int32) (mw : Nat → Int32) (C : Nat) (mo : Nat → Int32) (K : Nat) (mu : Nat → Int32) (Y : Nat) (rw0 : Nat → Int32) (tf : Nat → Int32) (qf : Nat → Int32) (mp : Nat → Int32) (way : Int32) (hCL : CLS cI cJ cO df t0 w N mc ms mw C mo K mu Y rw0 tf qf) (hW : WF N mc ms mw C mo K Y rw0 mp tf qf) : MetI l yL_section wsL_section ({ frames := 12, cells := 6, slots := 40, locals := 400 } : Room) D (gTY cI cJ cO) df (([(o, .inl (cJ, 1, .inr (.inl g)))] : va_W) ++ w) sz [.ref t0, .int way, .ref o] (fun (r : Int32) (wZ : va_W) => ∃ (w1 : va_W), ∃ (g1 : Nat → Int64), wZ = ([(o, .inl (cJ, 1, .inr (.inl g1)))] : va_W) ++ w1 ∧ r = gGo (isIn way 0 2) (if N < 8 then 1 else 0) 1 ∧ (¬ gGo (isIn way 0 2) (if N < 8 then 1 else 0) 1 = 0 → CLS cI cJ cO df t0 w1 N mc ms mw C mo K mu Y rw0 tf qf) ∧ (gGo (isIn way 0 2) (if N < 8 then 1 else 0) 1 = 0 → CLS cI cJ cO df t0 w1 (N + 1) (upd mc (5 * N) 64) ms (upd mw N way) C mo K mu Y rw0 tf qf ∧ g1 0 = (nI N).toInt64)) := by
  obtain ⟨hN, hC8, hmz, hsz9, hc, hs, hw, hO, hiM, hK6, hY, hrw, hm8, hp, ht, hq⟩ := hW
  obtain ⟨sl, ch, oh, xh, rh, sh, ob, xk, ta, qa, pa, sb, fc, fl, fg, fe, gm, tl, rfl, hT⟩ := hCL
  rcases hT with ⟨lh, er, md, fr, smd, ser, sf, SA, SB, rfl, h0, hfr, hsf⟩ | ⟨lh, md, smd, ser, sf, SA, SB, rfl, h0, hC0, hsf⟩ | ⟨lh, md, smd, SA, SB, rfl, hN0, hC0⟩
  · refine g_mono (c_L_section_F1 l hfl D cI cJ cO df sz t0 sl ch oh xh rh sh o g ob K mu xk fc fl fg fe gm ta qa pa tf qf sb Y rw0 lh er md C fr smd ser sf SA SB mc ms mw N way hN h0 hmz hsz9) (fun r w9 h => ?_)
    obtain ⟨h1, h2, h3⟩ := h
    by_cases hk : gGo (isIn way 0 2) (if N < 8 then 1 else 0) 1 = 0
    · obtain ⟨q1, b1, r9, rfl, hr9, hrel⟩ := h3 hk
      refine ⟨_, _, rfl, h1, fun h9 => absurd hk h9, fun _ => ?_⟩
      exact ⟨⟨sl, ch, oh, xh, rh, sh, ob, xk, ta, qa, pa, sb, fc, fl, fg, fe, gm, _, rfl, Or.inl ⟨lh, er, md, fr, _, ser, _, _, _, rfl, Nat.succ_pos N, h_fr (fun i hi => (hO i hi).1) hfr, h_sf hsf⟩⟩, (if_pos rfl).trans (congrArg Int32.toInt64 hr9)⟩
    · obtain rfl := h2 hk
      exact ⟨_, _, rfl, h1, fun _ => ⟨sl, ch, oh, xh, rh, sh, ob, xk, ta, qa, pa, sb, fc, fl, fg, fe, gm, _, rfl, Or.inl ⟨lh, er, md, fr, smd, ser, sf, SA, SB, rfl, h0, hfr, hsf⟩⟩, fun h9 => absurd h9 hk⟩
  · subst hC0
    refine g_mono (c_L_section_F2 l hfl D cI cJ cO df sz t0 sl ch oh xh rh sh o g ob K mu xk fc fl fg fe gm ta qa pa tf qf sb Y rw0 lh md smd ser sf SA SB mc ms mw N way hN h0 hmz hsz9) (fun r w9 h => ?_)
    obtain ⟨h1, h2, h3⟩ := h
    by_cases hk : gGo (isIn way 0 2) (if N < 8 then 1 else 0) 1 = 0
    · obtain ⟨q1, b1, r9, rfl, hr9, hrel⟩ := h3 hk
      refine ⟨_, _, rfl, h1, fun h9 => absurd hk h9, fun _ => ?_⟩
      exact ⟨⟨sl, ch, oh, xh, rh, sh, ob, xk, ta, qa, pa, sb, fc, fl, fg, fe, gm, _, rfl, Or.inr (Or.inl ⟨lh, md, _, ser, _, _, _, rfl, Nat.succ_pos N, rfl, h_sf hsf⟩)⟩, (if_pos rfl).trans (congrArg Int32.toInt64 hr9)⟩
    · obtain rfl := h2 hk
      exact ⟨_, _, rfl, h1, fun _ => ⟨sl, ch, oh, xh, rh, sh, ob, xk, ta, qa, pa, sb, fc, fl, fg, fe, gm, _, rfl, Or.inr (Or.inl ⟨lh, md, smd, ser, sf, SA, SB, rfl, h0, rfl, hsf⟩)⟩, fun h9 => absurd h9 hk⟩
  · subst hC0
    subst hN0
    rw [show gGo (isIn way 0 2) (if 0 < 8 then 1 else 0) 1 = gGo (isIn way 0 2) 1 1 from rfl]
    refine g_mono (c_L_section_F3 l hfl D cI cJ cO df sz t0 sl ch oh xh rh sh o g ob K mu xk fc fl fg fe gm ta qa pa tf qf sb Y rw0 lh md smd SA SB mc ms mw way hmz hsz9) (fun r w9 h => ?_)
    obtain ⟨h1, h2, h3⟩ := h
    by_cases hk : gGo (isIn way 0 2) 1 1 = 0
    · obtain ⟨q1, b1, ser, r9, rfl, hr9, hrel⟩ := h3 hk
      refine ⟨_, _, rfl, h1, fun h9 => absurd hk h9, fun _ => ?_⟩
      exact ⟨⟨sl, ch, oh, xh, rh, sh, ob, xk, ta, qa, pa, sb, fc, fl, fg, fe, gm, _, rfl, Or.inr (Or.inl ⟨lh, md, _, ser, _, _, _, rfl, Nat.one_pos, rfl, h_one⟩)⟩, (if_pos rfl).trans (congrArg Int32.toInt64 hr9)⟩
    · obtain rfl := h2 hk
      exact ⟨_, _, rfl, h1, fun _ => ⟨sl, ch, oh, xh, rh, sh, ob, xk, ta, qa, pa, sb, fc, fl, fg, fe, gm, _, rfl, Or.inr (Or.inr ⟨lh, md, smd, SA, SB, rfl, rfl, rfl⟩)⟩, fun h9 => absurd h9 hk⟩

set_option maxHeartbeats 4000000 in
set_option maxRecDepth 100000 in
theorem c2_L_set (l : Launch) (hfl : l.stackTraces = false) (D : va_G) (cI cJ cO : ClassId) (df sz : Nat) (t0 : Nat) (o : Nat) (g : Nat → Int64) (w : va_W) (N : Nat) (mc : Nat → Int32) (ms : Nat → Int32) (mw : Nat → Int32) (C : Nat) (mo : Nat → Int32) (K : Nat) (mu : Nat → Int32) (Y : Nat) (rw0 : Nat → Int32) (tf : Nat → Int32) (qf : Nat → Int32) (mp : Nat → Int32) (j : Int32) (wh : Int32) (v : Int32) (hCL : CLS cI cJ cO df t0 w N mc ms mw C mo K mu Y rw0 tf qf) (hW : WF N mc ms mw C mo K Y rw0 mp tf qf) : MetI l yL_set wsL_set ({ frames := 12, cells := 6, slots := 40, locals := 400 } : Room) D (gTY cI cJ cO) df (([(o, .inl (cJ, 1, .inr (.inl g)))] : va_W) ++ w) sz [.ref t0, .int j, .int wh, .int v, .ref o] (fun (r : Int32) (wZ : va_W) => ∃ (w1 : va_W), ∃ (g1 : Nat → Int64), wZ = ([(o, .inl (cJ, 1, .inr (.inl g1)))] : va_W) ++ w1 ∧ r = gGo (isSec N j) (if isIn wh 0 4 = 0 then 0 else isIn v (-127) 127) 1 ∧ (¬ gGo (isSec N j) (if isIn wh 0 4 = 0 then 0 else isIn v (-127) 127) 1 = 0 → CLS cI cJ cO df t0 w1 N mc ms mw C mo K mu Y rw0 tf qf) ∧ (gGo (isSec N j) (if isIn wh 0 4 = 0 then 0 else isIn v (-127) 127) 1 = 0 → CLS cI cJ cO df t0 w1 N (upd mc (5 * gN j + gN wh) v) ms mw C mo K mu Y rw0 tf qf ∧ g1 0 = (mc (5 * gN j + gN wh)).toInt64)) := by
  obtain ⟨hN, hC8, hmz, hsz9, hc, hs, hw, hO, hiM, hK6, hY, hrw, hm8, hp, ht, hq⟩ := hW
  obtain ⟨sl, ch, oh, xh, rh, sh, ob, xk, ta, qa, pa, sb, fc, fl, fg, fe, gm, tl, rfl, hT⟩ := hCL
  rcases hT with ⟨lh, er, md, fr, smd, ser, sf, SA, SB, rfl, h0, hfr, hsf⟩ | ⟨lh, md, smd, ser, sf, SA, SB, rfl, h0, hC0, hsf⟩ | ⟨lh, md, smd, SA, SB, rfl, hN0, hC0⟩
  · refine g_mono (c_L_set_F1 l hfl D cI cJ cO df sz t0 sl ch oh xh rh sh o g ob K mu xk fc fl fg fe gm ta qa pa tf qf sb Y rw0 lh er md C fr smd ser sf SA SB mc ms mw N j wh v hN hsf) (fun r w9 h => ?_)
    obtain ⟨h1, h2, h3⟩ := h
    by_cases hk : gGo (isSec N j) (if isIn wh 0 4 = 0 then 0 else isIn v (-127) 127) 1 = 0
    · obtain ⟨r9, rfl, hr9, hrel⟩ := h3 hk
      refine ⟨_, _, rfl, h1, fun h9 => absurd hk h9, fun _ => ?_⟩
      exact ⟨⟨sl, ch, oh, xh, rh, sh, ob, xk, ta, qa, pa, sb, fc, fl, fg, fe, gm, _, rfl, Or.inl ⟨lh, er, md, fr, smd, ser, sf, SA, SB, rfl, h0, hfr, hsf⟩⟩, (if_pos rfl).trans (congrArg Int32.toInt64 hr9)⟩
    · obtain rfl := h2 hk
      exact ⟨_, _, rfl, h1, fun _ => ⟨sl, ch, oh, xh, rh, sh, ob, xk, ta, qa, pa, sb, fc, fl, fg, fe, gm, _, rfl, Or.inl ⟨lh, er, md, fr, smd, ser, sf, SA, SB, rfl, h0, hfr, hsf⟩⟩, fun h9 => absurd h9 hk⟩
  · subst hC0
    refine g_mono (c_L_set_F2 l hfl D cI cJ cO df sz t0 sl ch oh xh rh sh o g ob K mu xk fc fl fg fe gm ta qa pa tf qf sb Y rw0 lh md smd ser sf SA SB mc ms mw N j wh v hN hsf) (fun r w9 h => ?_)
    obtain ⟨h1, h2, h3⟩ := h
    by_cases hk : gGo (isSec N j) (if isIn wh 0 4 = 0 then 0 else isIn v (-127) 127) 1 = 0
    · obtain ⟨r9, rfl, hr9, hrel⟩ := h3 hk
      refine ⟨_, _, rfl, h1, fun h9 => absurd hk h9, fun _ => ?_⟩
      exact ⟨⟨sl, ch, oh, xh, rh, sh, ob, xk, ta, qa, pa, sb, fc, fl, fg, fe, gm, _, rfl, Or.inr (Or.inl ⟨lh, md, smd, ser, sf, SA, SB, rfl, h0, rfl, hsf⟩)⟩, (if_pos rfl).trans (congrArg Int32.toInt64 hr9)⟩
    · obtain rfl := h2 hk
      exact ⟨_, _, rfl, h1, fun _ => ⟨sl, ch, oh, xh, rh, sh, ob, xk, ta, qa, pa, sb, fc, fl, fg, fe, gm, _, rfl, Or.inr (Or.inl ⟨lh, md, smd, ser, sf, SA, SB, rfl, h0, rfl, hsf⟩)⟩, fun h9 => absurd h9 hk⟩
  · subst hC0
    subst hN0
    refine g_mono (c_L_set_F3 l hfl D cI cJ cO df sz t0 sl ch oh xh rh sh o g ob K mu xk fc fl fg fe gm ta qa pa tf qf sb Y rw0 lh md smd SA SB mc ms mw j wh v ) (fun r w9 h => ?_)
    obtain ⟨h1, h2, h3⟩ := h
    by_cases hk : gGo (isSec 0 j) (if isIn wh 0 4 = 0 then 0 else isIn v (-127) 127) 1 = 0
    · exact (h3 hk).elim
    · obtain rfl := h2 hk
      exact ⟨_, _, rfl, h1, fun _ => ⟨sl, ch, oh, xh, rh, sh, ob, xk, ta, qa, pa, sb, fc, fl, fg, fe, gm, _, rfl, Or.inr (Or.inr ⟨lh, md, smd, SA, SB, rfl, rfl, rfl⟩)⟩, fun h9 => absurd h9 hk⟩

set_option maxHeartbeats 4000000 in
set_option maxRecDepth 100000 in
theorem c2_L_chain (l : Launch) (hfl : l.stackTraces = false) (D : va_G) (cI cJ cO : ClassId) (df sz : Nat) (t0 : Nat) (o : Nat) (g : Nat → Int64) (w : va_W) (N : Nat) (mc : Nat → Int32) (ms : Nat → Int32) (mw : Nat → Int32) (C : Nat) (mo : Nat → Int32) (K : Nat) (mu : Nat → Int32) (Y : Nat) (rw0 : Nat → Int32) (tf : Nat → Int32) (qf : Nat → Int32) (mp : Nat → Int32) (j : Int32) (hCL : CLS cI cJ cO df t0 w N mc ms mw C mo K mu Y rw0 tf qf) (hW : WF N mc ms mw C mo K Y rw0 mp tf qf) : MetI l yL_chain wsL_chain ({ frames := 12, cells := 6, slots := 40, locals := 400 } : Room) D (gTY cI cJ cO) df (([(o, .inl (cJ, 1, .inr (.inl g)))] : va_W) ++ w) sz [.ref t0, .int j, .ref o] (fun (r : Int32) (wZ : va_W) => ∃ (w1 : va_W), ∃ (g1 : Nat → Int64), wZ = ([(o, .inl (cJ, 1, .inr (.inl g1)))] : va_W) ++ w1 ∧ r = gGo (isSec N j) 1 1 ∧ (¬ gGo (isSec N j) 1 1 = 0 → CLS cI cJ cO df t0 w1 N mc ms mw C mo K mu Y rw0 tf qf) ∧ (gGo (isSec N j) 1 1 = 0 → ∃ (C1 : Nat) (mo1 : Nat → Int32), CLS cI cJ cO df t0 w1 N mc ms mw C1 mo1 K mu Y rw0 tf qf ∧ g1 0 = (nI C1).toInt64 ∧ ((lastAt mo j C = -1 ∧ C1 = C + 1 ∧ mo1 = upd mo C j) ∨ ∃ Q, Q < C ∧ lastAt mo j C = nI Q ∧ C1 = C - 1 ∧ mo1 = rmAt mo Q (C - 1)))) := by
  obtain ⟨hN, hC8, hmz, hsz9, hc, hs, hw, hO, hiM, hK6, hY, hrw, hm8, hp, ht, hq⟩ := hW
  obtain ⟨sl, ch, oh, xh, rh, sh, ob, xk, ta, qa, pa, sb, fc, fl, fg, fe, gm, tl, rfl, hT⟩ := hCL
  rcases hT with ⟨lh, er, md, fr, smd, ser, sf, SA, SB, rfl, h0, hfr, hsf⟩ | ⟨lh, md, smd, ser, sf, SA, SB, rfl, h0, hC0, hsf⟩ | ⟨lh, md, smd, SA, SB, rfl, hN0, hC0⟩
  · refine g_mono (c_L_chain_F1 l hfl D cI cJ cO df sz t0 sl ch oh xh rh sh o g ob K mu xk fc fl fg fe gm ta qa pa tf qf sb Y rw0 lh er md C fr smd ser sf SA SB mc ms mw N mo j hN hsf hC8 hfr hO hiM) (fun r w9 h => ?_)
    obtain ⟨h1, h2, h3⟩ := h
    by_cases hk : gGo (isSec N j) 1 1 = 0
    · obtain ⟨md1, C1, fr1, r9, rfl, hrel⟩ := h3 hk
      refine ⟨_, _, rfl, h1, fun h9 => absurd hk h9, fun _ => ?_⟩
      obtain ⟨ha, hb, hr9, -⟩ := hrel
      by_cases hpl : lastAt mo j C = -1
      · obtain ⟨rfl, rfl⟩ := ha hpl
        exact ⟨C + 1, upd mo C j, ⟨sl, ch, oh, xh, rh, sh, ob, xk, ta, qa, pa, sb, fc, fl, fg, fe, gm, _, rfl, Or.inl ⟨lh, er, _, _, smd, ser, sf, SA, SB, rfl, h0, h_add hfr, hsf⟩⟩, (if_pos rfl).trans (congrArg Int32.toInt64 hr9), Or.inl ⟨hpl, rfl, rfl⟩⟩
      · obtain ⟨Q, hQ, eQ, -⟩ := lastAt_get (by omega) hpl
        obtain ⟨rfl, rfl⟩ := hb Q hQ eQ
        exact ⟨C - 1, rmAt mo Q (C - 1), ⟨sl, ch, oh, xh, rh, sh, ob, xk, ta, qa, pa, sb, fc, fl, fg, fe, gm, _, rfl, Or.inl ⟨lh, er, _, _, smd, ser, sf, SA, SB, rfl, h0, h_rm hfr, hsf⟩⟩, (if_pos rfl).trans (congrArg Int32.toInt64 hr9), Or.inr ⟨Q, hQ, eQ, rfl, rfl⟩⟩
    · obtain rfl := h2 hk
      exact ⟨_, _, rfl, h1, fun _ => ⟨sl, ch, oh, xh, rh, sh, ob, xk, ta, qa, pa, sb, fc, fl, fg, fe, gm, _, rfl, Or.inl ⟨lh, er, md, fr, smd, ser, sf, SA, SB, rfl, h0, hfr, hsf⟩⟩, fun h9 => absurd h9 hk⟩
  · subst hC0
    refine g_mono (c_L_chain_F2 l hfl D cI cJ cO df sz t0 sl ch oh xh rh sh o g ob K mu xk fc fl fg fe gm ta qa pa tf qf sb Y rw0 lh md smd ser sf SA SB mc ms mw N j hN hsf) (fun r w9 h => ?_)
    obtain ⟨h1, h2, h3⟩ := h
    by_cases hk : gGo (isSec N j) 1 1 = 0
    · obtain ⟨q1, r9, rfl, hr9, hrel⟩ := h3 hk
      refine ⟨_, _, rfl, h1, fun h9 => absurd hk h9, fun _ => ?_⟩
      exact ⟨1, upd mo 0 j, ⟨sl, ch, oh, xh, rh, sh, ob, xk, ta, qa, pa, sb, fc, fl, fg, fe, gm, _, rfl, Or.inl ⟨lh, q1, _, _, smd, ser, sf, SA, SB, rfl, h0, h_on1, hsf⟩⟩, (if_pos rfl).trans (congrArg Int32.toInt64 (hr9.trans rfl)), Or.inl ⟨rfl, rfl, rfl⟩⟩
    · obtain rfl := h2 hk
      exact ⟨_, _, rfl, h1, fun _ => ⟨sl, ch, oh, xh, rh, sh, ob, xk, ta, qa, pa, sb, fc, fl, fg, fe, gm, _, rfl, Or.inr (Or.inl ⟨lh, md, smd, ser, sf, SA, SB, rfl, h0, rfl, hsf⟩)⟩, fun h9 => absurd h9 hk⟩
  · subst hC0
    subst hN0
    refine g_mono (c_L_chain_F3 l hfl D cI cJ cO df sz t0 sl ch oh xh rh sh o g ob K mu xk fc fl fg fe gm ta qa pa tf qf sb Y rw0 lh md smd SA SB mc ms mw j ) (fun r w9 h => ?_)
    obtain ⟨h1, h2, h3⟩ := h
    by_cases hk : gGo (isSec 0 j) 1 1 = 0
    · exact (h3 hk).elim
    · obtain rfl := h2 hk
      exact ⟨_, _, rfl, h1, fun _ => ⟨sl, ch, oh, xh, rh, sh, ob, xk, ta, qa, pa, sb, fc, fl, fg, fe, gm, _, rfl, Or.inr (Or.inr ⟨lh, md, smd, SA, SB, rfl, rfl, rfl⟩)⟩, fun h9 => absurd h9 hk⟩

set_option maxHeartbeats 4000000 in
set_option maxRecDepth 100000 in
theorem c2_L_run (l : Launch) (hfl : l.stackTraces = false) (D : va_G) (cI cJ cO : ClassId) (df sz : Nat) (t0 : Nat) (o : Nat) (g : Nat → Int64) (w : va_W) (N : Nat) (mc : Nat → Int32) (ms : Nat → Int32) (mw : Nat → Int32) (C : Nat) (mo : Nat → Int32) (K : Nat) (mu : Nat → Int32) (Y : Nat) (rw0 : Nat → Int32) (tf : Nat → Int32) (qf : Nat → Int32) (mp : Nat → Int32) (x : Int32) (hCL : CLS cI cJ cO df t0 w N mc ms mw C mo K mu Y rw0 tf qf) (hW : WF N mc ms mw C mo K Y rw0 mp tf qf) : MetI l yL_run wsL_run ({ frames := 12, cells := 6, slots := 40, locals := 400 } : Room) D (gTY cI cJ cO) df (([(o, .inl (cJ, 1, .inr (.inl g)))] : va_W) ++ w) sz [.ref t0, .int x, .ref o] (fun (r : Int32) (wZ : va_W) => ∃ (w1 : va_W), ∃ (g1 : Nat → Int64), wZ = ([(o, .inl (cJ, 1, .inr (.inl g1)))] : va_W) ++ w1 ∧ r = gGo (isIn x (-32767) 32767) 1 1 ∧ (¬ gGo (isIn x (-32767) 32767) 1 1 = 0 → CLS cI cJ cO df t0 w1 N mc ms mw C mo K mu Y rw0 tf qf) ∧ (gGo (isIn x (-32767) 32767) 1 1 = 0 → CLS cI cJ cO df t0 w1 N mc ((rnM mc mw mo ms x C).1) mw C mo (if K < 16 then K + 1 else K) (shiftIn 16 mu (rnM mc mw mo ms x C).2) Y rw0 tf qf ∧ g1 0 = ((rnM mc mw mo ms x C).2).toInt64)) := by
  obtain ⟨hN, hC8, hmz, hsz9, hc, hs, hw, hO, hiM, hK6, hY, hrw, hm8, hp, ht, hq⟩ := hW
  obtain ⟨sl, ch, oh, xh, rh, sh, ob, xk, ta, qa, pa, sb, fc, fl, fg, fe, gm, tl, rfl, hT⟩ := hCL
  rcases hT with ⟨lh, er, md, fr, smd, ser, sf, SA, SB, rfl, h0, hfr, hsf⟩ | ⟨lh, md, smd, ser, sf, SA, SB, rfl, h0, hC0, hsf⟩ | ⟨lh, md, smd, SA, SB, rfl, hN0, hC0⟩
  · refine g_mono (c_L_run_F1 l hfl D cI cJ cO df sz t0 sl ch oh xh rh sh o g ob K mu xk fc fl fg fe gm ta qa pa tf qf sb Y rw0 lh er md C fr smd ser sf SA SB mc ms mw N mo x hC8 hN hfr hO hc hw hs hK6) (fun r w9 h => ?_)
    obtain ⟨h1, h2, h3⟩ := h
    by_cases hk : gGo (isIn x (-32767) 32767) 1 1 = 0
    · obtain ⟨r9, rfl, hr9, hrel⟩ := h3 hk
      refine ⟨_, _, rfl, h1, fun h9 => absurd hk h9, fun _ => ?_⟩
      exact ⟨⟨sl, ch, oh, xh, rh, sh, ob, xk, ta, qa, pa, sb, fc, fl, fg, fe, gm, _, rfl, Or.inl ⟨lh, er, md, fr, smd, ser, sf, SA, SB, rfl, h0, hfr, hsf⟩⟩, (if_pos rfl).trans (congrArg Int32.toInt64 hr9)⟩
    · obtain rfl := h2 hk
      exact ⟨_, _, rfl, h1, fun _ => ⟨sl, ch, oh, xh, rh, sh, ob, xk, ta, qa, pa, sb, fc, fl, fg, fe, gm, _, rfl, Or.inl ⟨lh, er, md, fr, smd, ser, sf, SA, SB, rfl, h0, hfr, hsf⟩⟩, fun h9 => absurd h9 hk⟩
  · subst hC0
    refine g_mono (c_L_run_FC l hfl D cI cJ cO df sz t0 sl ch oh xh rh sh o g ob K mu xk fc fl fg fe gm ta qa pa tf qf sb Y rw0 lh md (([(sl, .inr (0, [.int smd, .ref ser, .int (nI N)])), (ser, .inl (cO, 10, .inr (.inr (.inr (.inr sf)))))] : va_W) ++ scL (scJ cI SA SB mc ms mw) (List.range N)) x hK6) (fun r w9 h => ?_)
    obtain ⟨h1, h2, h3⟩ := h
    by_cases hk : gGo (isIn x (-32767) 32767) 1 1 = 0
    · obtain ⟨r9, rfl, hr9, hrel⟩ := h3 hk
      refine ⟨_, _, rfl, h1, fun h9 => absurd hk h9, fun _ => ?_⟩
      exact ⟨⟨sl, ch, oh, xh, rh, sh, ob, xk, ta, qa, pa, sb, fc, fl, fg, fe, gm, _, rfl, Or.inr (Or.inl ⟨lh, md, smd, ser, sf, SA, SB, rfl, h0, rfl, hsf⟩)⟩, (if_pos rfl).trans (congrArg Int32.toInt64 hr9)⟩
    · obtain rfl := h2 hk
      exact ⟨_, _, rfl, h1, fun _ => ⟨sl, ch, oh, xh, rh, sh, ob, xk, ta, qa, pa, sb, fc, fl, fg, fe, gm, _, rfl, Or.inr (Or.inl ⟨lh, md, smd, ser, sf, SA, SB, rfl, h0, rfl, hsf⟩)⟩, fun h9 => absurd h9 hk⟩
  · subst hC0
    subst hN0
    refine g_mono (c_L_run_FC l hfl D cI cJ cO df sz t0 sl ch oh xh rh sh o g ob K mu xk fc fl fg fe gm ta qa pa tf qf sb Y rw0 lh md (([(sl, .inr (0, [.int smd, .ref df, .int 0]))] : va_W) ++ scL (scJ cI SA SB mc ms mw) (List.range 0)) x hK6) (fun r w9 h => ?_)
    obtain ⟨h1, h2, h3⟩ := h
    by_cases hk : gGo (isIn x (-32767) 32767) 1 1 = 0
    · obtain ⟨r9, rfl, hr9, hrel⟩ := h3 hk
      refine ⟨_, _, rfl, h1, fun h9 => absurd hk h9, fun _ => ?_⟩
      exact ⟨⟨sl, ch, oh, xh, rh, sh, ob, xk, ta, qa, pa, sb, fc, fl, fg, fe, gm, _, rfl, Or.inr (Or.inr ⟨lh, md, smd, SA, SB, rfl, rfl, rfl⟩)⟩, (if_pos rfl).trans (congrArg Int32.toInt64 hr9)⟩
    · obtain rfl := h2 hk
      exact ⟨_, _, rfl, h1, fun _ => ⟨sl, ch, oh, xh, rh, sh, ob, xk, ta, qa, pa, sb, fc, fl, fg, fe, gm, _, rfl, Or.inr (Or.inr ⟨lh, md, smd, SA, SB, rfl, rfl, rfl⟩)⟩, fun h9 => absurd h9 hk⟩

set_option maxHeartbeats 4000000 in
set_option maxRecDepth 100000 in
theorem c2_L_tap (l : Launch) (hfl : l.stackTraces = false) (D : va_G) (cI cJ cO : ClassId) (df sz : Nat) (t0 : Nat) (o : Nat) (g : Nat → Int64) (w : va_W) (N : Nat) (mc : Nat → Int32) (ms : Nat → Int32) (mw : Nat → Int32) (C : Nat) (mo : Nat → Int32) (K : Nat) (mu : Nat → Int32) (Y : Nat) (rw0 : Nat → Int32) (tf : Nat → Int32) (qf : Nat → Int32) (mp : Nat → Int32) (tp : Int32) (v : Int32) (hCL : CLS cI cJ cO df t0 w N mc ms mw C mo K mu Y rw0 tf qf) (hW : WF N mc ms mw C mo K Y rw0 mp tf qf) : MetI l yL_tap wsL_tap ({ frames := 12, cells := 6, slots := 40, locals := 400 } : Room) D (gTY cI cJ cO) df (([(o, .inl (cJ, 1, .inr (.inl g)))] : va_W) ++ w) sz [.ref t0, .int tp, .int v, .ref o] (fun (r : Int32) (wZ : va_W) => ∃ (w1 : va_W), ∃ (g1 : Nat → Int64), wZ = ([(o, .inl (cJ, 1, .inr (.inl g1)))] : va_W) ++ w1 ∧ r = gGo (isIn tp 0 31) (isIn v (-96) 96) 1 ∧ (¬ gGo (isIn tp 0 31) (isIn v (-96) 96) 1 = 0 → CLS cI cJ cO df t0 w1 N mc ms mw C mo K mu Y rw0 tf qf) ∧ (gGo (isIn tp 0 31) (isIn v (-96) 96) 1 = 0 → CLS cI cJ cO df t0 w1 N mc ms mw C mo K mu Y rw0 (upd tf (gN tp) (rs97 v)) qf ∧ g1 0 = (tf (gN tp)).toInt64)) := by
  obtain ⟨hN, hC8, hmz, hsz9, hc, hs, hw, hO, hiM, hK6, hY, hrw, hm8, hp, ht, hq⟩ := hW
  obtain ⟨sl, ch, oh, xh, rh, sh, ob, xk, ta, qa, pa, sb, fc, fl, fg, fe, gm, tl, rfl, hT⟩ := hCL
  refine g_mono (c_L_tap_FT l hfl D cI cJ cO df sz t0 sl ch oh xh rh sh o g ob K mu xk fc fl fg fe gm ta qa pa tf qf sb Y rw0 _ tp v ) (fun r w9 h => ?_)
  obtain ⟨h1, h2, h3⟩ := h
  by_cases hk : gGo (isIn tp 0 31) (isIn v (-96) 96) 1 = 0
  · obtain ⟨r9, rfl, hr9, hrel⟩ := h3 hk
    refine ⟨_, _, rfl, h1, fun h9 => absurd hk h9, fun _ => ?_⟩
    exact ⟨⟨sl, ch, oh, xh, rh, sh, ob, xk, ta, qa, pa, sb, fc, fl, fg, fe, gm, _, rfl, hT⟩, (if_pos rfl).trans (congrArg Int32.toInt64 hr9)⟩
  · obtain rfl := h2 hk
    exact ⟨_, _, rfl, h1, fun _ => ⟨sl, ch, oh, xh, rh, sh, ob, xk, ta, qa, pa, sb, fc, fl, fg, fe, gm, _, rfl, hT⟩, fun h9 => absurd h9 hk⟩

set_option maxHeartbeats 4000000 in
set_option maxRecDepth 100000 in
theorem c2_L_ask (l : Launch) (hfl : l.stackTraces = false) (D : va_G) (cI cJ cO : ClassId) (df sz : Nat) (t0 : Nat) (o : Nat) (g : Nat → Int64) (w : va_W) (N : Nat) (mc : Nat → Int32) (ms : Nat → Int32) (mw : Nat → Int32) (C : Nat) (mo : Nat → Int32) (K : Nat) (mu : Nat → Int32) (Y : Nat) (rw0 : Nat → Int32) (tf : Nat → Int32) (qf : Nat → Int32) (mp : Nat → Int32) (tp : Int32) (v : Int32) (hCL : CLS cI cJ cO df t0 w N mc ms mw C mo K mu Y rw0 tf qf) (hW : WF N mc ms mw C mo K Y rw0 mp tf qf) : MetI l yL_ask wsL_ask ({ frames := 12, cells := 6, slots := 40, locals := 400 } : Room) D (gTY cI cJ cO) df (([(o, .inl (cJ, 1, .inr (.inl g)))] : va_W) ++ w) sz [.ref t0, .int tp, .int v, .ref o] (fun (r : Int32) (wZ : va_W) => ∃ (w1 : va_W), ∃ (g1 : Nat → Int64), wZ = ([(o, .inl (cJ, 1, .inr (.inl g1)))] : va_W) ++ w1 ∧ r = gGo (isIn tp 0 31) (isIn v (-96) 96) 1 ∧ (¬ gGo (isIn tp 0 31) (isIn v (-96) 96) 1 = 0 → CLS cI cJ cO df t0 w1 N mc ms mw C mo K mu Y rw0 tf qf) ∧ (gGo (isIn tp 0 31) (isIn v (-96) 96) 1 = 0 → CLS cI cJ cO df t0 w1 N mc ms mw C mo K mu Y rw0 tf (upd qf (gN tp) (rs97 v)) ∧ g1 0 = (qf (gN tp)).toInt64)) := by
  obtain ⟨hN, hC8, hmz, hsz9, hc, hs, hw, hO, hiM, hK6, hY, hrw, hm8, hp, ht, hq⟩ := hW
  obtain ⟨sl, ch, oh, xh, rh, sh, ob, xk, ta, qa, pa, sb, fc, fl, fg, fe, gm, tl, rfl, hT⟩ := hCL
  refine g_mono (c_L_ask_FT l hfl D cI cJ cO df sz t0 sl ch oh xh rh sh o g ob K mu xk fc fl fg fe gm ta qa pa tf qf sb Y rw0 _ tp v ) (fun r w9 h => ?_)
  obtain ⟨h1, h2, h3⟩ := h
  by_cases hk : gGo (isIn tp 0 31) (isIn v (-96) 96) 1 = 0
  · obtain ⟨r9, rfl, hr9, hrel⟩ := h3 hk
    refine ⟨_, _, rfl, h1, fun h9 => absurd hk h9, fun _ => ?_⟩
    exact ⟨⟨sl, ch, oh, xh, rh, sh, ob, xk, ta, qa, pa, sb, fc, fl, fg, fe, gm, _, rfl, hT⟩, (if_pos rfl).trans (congrArg Int32.toInt64 hr9)⟩
  · obtain rfl := h2 hk
    exact ⟨_, _, rfl, h1, fun _ => ⟨sl, ch, oh, xh, rh, sh, ob, xk, ta, qa, pa, sb, fc, fl, fg, fe, gm, _, rfl, hT⟩, fun h9 => absurd h9 hk⟩

set_option maxHeartbeats 4000000 in
set_option maxRecDepth 100000 in
theorem c2_L_sample (l : Launch) (hfl : l.stackTraces = false) (D : va_G) (cI cJ cO : ClassId) (df sz : Nat) (t0 : Nat) (o : Nat) (g : Nat → Int64) (w : va_W) (N : Nat) (mc : Nat → Int32) (ms : Nat → Int32) (mw : Nat → Int32) (C : Nat) (mo : Nat → Int32) (K : Nat) (mu : Nat → Int32) (Y : Nat) (rw0 : Nat → Int32) (tf : Nat → Int32) (qf : Nat → Int32) (mp : Nat → Int32) (v : Int32) (hCL : CLS cI cJ cO df t0 w N mc ms mw C mo K mu Y rw0 tf qf) (hW : WF N mc ms mw C mo K Y rw0 mp tf qf) : MetI l yL_sample wsL_sample ({ frames := 12, cells := 6, slots := 40, locals := 400 } : Room) D (gTY cI cJ cO) df (([(o, .inl (cJ, 1, .inr (.inl g)))] : va_W) ++ w) sz [.ref t0, .int v, .ref o] (fun (r : Int32) (wZ : va_W) => ∃ (w1 : va_W), ∃ (g1 : Nat → Int64), wZ = ([(o, .inl (cJ, 1, .inr (.inl g1)))] : va_W) ++ w1 ∧ r = gGo (isIn v (-96) 96) 1 1 ∧ (¬ gGo (isIn v (-96) 96) 1 1 = 0 → CLS cI cJ cO df t0 w1 N mc ms mw C mo K mu Y rw0 tf qf) ∧ (gGo (isIn v (-96) 96) 1 1 = 0 → CLS cI cJ cO df t0 w1 N mc ms mw C mo K mu (if Y < 64 then Y + 1 else Y) (shiftIn 64 rw0 v) tf qf ∧ g1 0 = (nI (if Y < 64 then Y + 1 else Y)).toInt64)) := by
  obtain ⟨hN, hC8, hmz, hsz9, hc, hs, hw, hO, hiM, hK6, hY, hrw, hm8, hp, ht, hq⟩ := hW
  obtain ⟨sl, ch, oh, xh, rh, sh, ob, xk, ta, qa, pa, sb, fc, fl, fg, fe, gm, tl, rfl, hT⟩ := hCL
  refine g_mono (c_L_sample_FT l hfl D cI cJ cO df sz t0 sl ch oh xh rh sh o g ob K mu xk fc fl fg fe gm ta qa pa tf qf sb Y rw0 _ v hY) (fun r w9 h => ?_)
  obtain ⟨h1, h2, h3⟩ := h
  by_cases hk : gGo (isIn v (-96) 96) 1 1 = 0
  · obtain ⟨r9, rfl, hr9, hrel⟩ := h3 hk
    refine ⟨_, _, rfl, h1, fun h9 => absurd hk h9, fun _ => ?_⟩
    exact ⟨⟨sl, ch, oh, xh, rh, sh, ob, xk, ta, qa, pa, sb, fc, fl, fg, fe, gm, _, rfl, hT⟩, (if_pos rfl).trans (congrArg Int32.toInt64 hr9)⟩
  · obtain rfl := h2 hk
    exact ⟨_, _, rfl, h1, fun _ => ⟨sl, ch, oh, xh, rh, sh, ob, xk, ta, qa, pa, sb, fc, fl, fg, fe, gm, _, rfl, hT⟩, fun h9 => absurd h9 hk⟩

set_option maxHeartbeats 4000000 in
set_option maxRecDepth 100000 in
theorem c2_L_of (l : Launch) (hfl : l.stackTraces = false) (D : va_G) (cI cJ cO : ClassId) (df sz : Nat) (t0 : Nat) (o : Nat) (g : Nat → Int64) (w : va_W) (N : Nat) (mc : Nat → Int32) (ms : Nat → Int32) (mw : Nat → Int32) (C : Nat) (mo : Nat → Int32) (K : Nat) (mu : Nat → Int32) (Y : Nat) (rw0 : Nat → Int32) (tf : Nat → Int32) (qf : Nat → Int32) (mp : Nat → Int32) (j : Int32) (wh : Int32) (hCL : CLS cI cJ cO df t0 w N mc ms mw C mo K mu Y rw0 tf qf) (hW : WF N mc ms mw C mo K Y rw0 mp tf qf) : MetI l yL_of wsL_of ({ frames := 12, cells := 6, slots := 40, locals := 400 } : Room) D (gTY cI cJ cO) df (([(o, .inl (cJ, 1, .inr (.inl g)))] : va_W) ++ w) sz [.ref t0, .int j, .int wh, .ref o] (fun (r : Int32) (wZ : va_W) => ∃ (w1 : va_W), ∃ (g1 : Nat → Int64), wZ = ([(o, .inl (cJ, 1, .inr (.inl g1)))] : va_W) ++ w1 ∧ r = gGo (isSec N j) (isIn wh 0 9) 1 ∧ (¬ gGo (isSec N j) (isIn wh 0 9) 1 = 0 → CLS cI cJ cO df t0 w1 N mc ms mw C mo K mu Y rw0 tf qf) ∧ (gGo (isSec N j) (isIn wh 0 9) 1 = 0 → CLS cI cJ cO df t0 w1 N mc ms mw C mo K mu Y rw0 tf qf ∧ g1 0 = (if gN wh < 5 then mc (5 * gN j + gN wh) else if gN wh = 5 then mStab mc (gN j) else if gN wh = 6 then lastAt mo j C else if gN wh < 9 then ms (4 * gN j + gN wh - 5) else mw (gN j)).toInt64)) := by
  obtain ⟨hN, hC8, hmz, hsz9, hc, hs, hw, hO, hiM, hK6, hY, hrw, hm8, hp, ht, hq⟩ := hW
  obtain ⟨sl, ch, oh, xh, rh, sh, ob, xk, ta, qa, pa, sb, fc, fl, fg, fe, gm, tl, rfl, hT⟩ := hCL
  rcases hT with ⟨lh, er, md, fr, smd, ser, sf, SA, SB, rfl, h0, hfr, hsf⟩ | ⟨lh, md, smd, ser, sf, SA, SB, rfl, h0, hC0, hsf⟩ | ⟨lh, md, smd, SA, SB, rfl, hN0, hC0⟩
  · refine g_mono (c_L_of_F1 l hfl D cI cJ cO df sz t0 sl ch oh xh rh sh o g ob K mu xk fc fl fg fe gm ta qa pa tf qf sb Y rw0 lh er md C fr smd ser sf SA SB mc ms mw N mo j wh hN hsf hC8 hfr hO hiM) (fun r w9 h => ?_)
    obtain ⟨h1, h2, h3⟩ := h
    by_cases hk : gGo (isSec N j) (isIn wh 0 9) 1 = 0
    · obtain ⟨r9, rfl, hr9, hrel⟩ := h3 hk
      refine ⟨_, _, rfl, h1, fun h9 => absurd hk h9, fun _ => ?_⟩
      exact ⟨⟨sl, ch, oh, xh, rh, sh, ob, xk, ta, qa, pa, sb, fc, fl, fg, fe, gm, _, rfl, Or.inl ⟨lh, er, md, fr, smd, ser, sf, SA, SB, rfl, h0, hfr, hsf⟩⟩, (if_pos rfl).trans (congrArg Int32.toInt64 hr9)⟩
    · obtain rfl := h2 hk
      exact ⟨_, _, rfl, h1, fun _ => ⟨sl, ch, oh, xh, rh, sh, ob, xk, ta, qa, pa, sb, fc, fl, fg, fe, gm, _, rfl, Or.inl ⟨lh, er, md, fr, smd, ser, sf, SA, SB, rfl, h0, hfr, hsf⟩⟩, fun h9 => absurd h9 hk⟩
  · subst hC0
    refine g_mono (c_L_of_F2 l hfl D cI cJ cO df sz t0 sl ch oh xh rh sh o g ob K mu xk fc fl fg fe gm ta qa pa tf qf sb Y rw0 lh md smd ser sf SA SB mc ms mw N j wh hN hsf) (fun r w9 h => ?_)
    obtain ⟨h1, h2, h3⟩ := h
    by_cases hk : gGo (isSec N j) (isIn wh 0 9) 1 = 0
    · obtain ⟨r9, rfl, hr9, hrel⟩ := h3 hk
      refine ⟨_, _, rfl, h1, fun h9 => absurd hk h9, fun _ => ?_⟩
      exact ⟨⟨sl, ch, oh, xh, rh, sh, ob, xk, ta, qa, pa, sb, fc, fl, fg, fe, gm, _, rfl, Or.inr (Or.inl ⟨lh, md, smd, ser, sf, SA, SB, rfl, h0, rfl, hsf⟩)⟩, (if_pos rfl).trans (congrArg Int32.toInt64 hr9)⟩
    · obtain rfl := h2 hk
      exact ⟨_, _, rfl, h1, fun _ => ⟨sl, ch, oh, xh, rh, sh, ob, xk, ta, qa, pa, sb, fc, fl, fg, fe, gm, _, rfl, Or.inr (Or.inl ⟨lh, md, smd, ser, sf, SA, SB, rfl, h0, rfl, hsf⟩)⟩, fun h9 => absurd h9 hk⟩
  · subst hC0
    subst hN0
    refine g_mono (c_L_of_F3 l hfl D cI cJ cO df sz t0 sl ch oh xh rh sh o g ob K mu xk fc fl fg fe gm ta qa pa tf qf sb Y rw0 lh md smd SA SB mc ms mw j wh ) (fun r w9 h => ?_)
    obtain ⟨h1, h2, h3⟩ := h
    by_cases hk : gGo (isSec 0 j) (isIn wh 0 9) 1 = 0
    · exact (h3 hk).elim
    · obtain rfl := h2 hk
      exact ⟨_, _, rfl, h1, fun _ => ⟨sl, ch, oh, xh, rh, sh, ob, xk, ta, qa, pa, sb, fc, fl, fg, fe, gm, _, rfl, Or.inr (Or.inr ⟨lh, md, smd, SA, SB, rfl, rfl, rfl⟩)⟩, fun h9 => absurd h9 hk⟩

set_option maxHeartbeats 4000000 in
set_option maxRecDepth 100000 in
theorem c2_L_output (l : Launch) (hfl : l.stackTraces = false) (D : va_G) (cI cJ cO : ClassId) (df sz : Nat) (t0 : Nat) (o : Nat) (g : Nat → Int64) (w : va_W) (N : Nat) (mc : Nat → Int32) (ms : Nat → Int32) (mw : Nat → Int32) (C : Nat) (mo : Nat → Int32) (K : Nat) (mu : Nat → Int32) (Y : Nat) (rw0 : Nat → Int32) (tf : Nat → Int32) (qf : Nat → Int32) (mp : Nat → Int32) (back : Int32) (hCL : CLS cI cJ cO df t0 w N mc ms mw C mo K mu Y rw0 tf qf) (hW : WF N mc ms mw C mo K Y rw0 mp tf qf) : MetI l yL_output wsL_output ({ frames := 12, cells := 6, slots := 40, locals := 400 } : Room) D (gTY cI cJ cO) df (([(o, .inl (cJ, 1, .inr (.inl g)))] : va_W) ++ w) sz [.ref t0, .int back, .ref o] (fun (r : Int32) (wZ : va_W) => ∃ (w1 : va_W), ∃ (g1 : Nat → Int64), wZ = ([(o, .inl (cJ, 1, .inr (.inl g1)))] : va_W) ++ w1 ∧ r = gGo (if back < 0 then 0 else 1) 1 1 ∧ (¬ gGo (if back < 0 then 0 else 1) 1 1 = 0 → CLS cI cJ cO df t0 w1 N mc ms mw C mo K mu Y rw0 tf qf) ∧ (gGo (if back < 0 then 0 else 1) 1 1 = 0 → CLS cI cJ cO df t0 w1 N mc ms mw C mo K mu Y rw0 tf qf ∧ g1 0 = (if gN back < K then mu (gN back) else 0).toInt64)) := by
  obtain ⟨hN, hC8, hmz, hsz9, hc, hs, hw, hO, hiM, hK6, hY, hrw, hm8, hp, ht, hq⟩ := hW
  obtain ⟨sl, ch, oh, xh, rh, sh, ob, xk, ta, qa, pa, sb, fc, fl, fg, fe, gm, tl, rfl, hT⟩ := hCL
  refine g_mono (c_L_output_FT l hfl D cI cJ cO df sz t0 sl ch oh xh rh sh o g ob K mu xk fc fl fg fe gm ta qa pa tf qf sb Y rw0 _ back hK6) (fun r w9 h => ?_)
  obtain ⟨h1, h2, h3⟩ := h
  by_cases hk : gGo (if back < 0 then 0 else 1) 1 1 = 0
  · obtain ⟨r9, rfl, hr9, hrel⟩ := h3 hk
    refine ⟨_, _, rfl, h1, fun h9 => absurd hk h9, fun _ => ?_⟩
    exact ⟨⟨sl, ch, oh, xh, rh, sh, ob, xk, ta, qa, pa, sb, fc, fl, fg, fe, gm, _, rfl, hT⟩, (if_pos rfl).trans (congrArg Int32.toInt64 hr9)⟩
  · obtain rfl := h2 hk
    exact ⟨_, _, rfl, h1, fun _ => ⟨sl, ch, oh, xh, rh, sh, ob, xk, ta, qa, pa, sb, fc, fl, fg, fe, gm, _, rfl, hT⟩, fun h9 => absurd h9 hk⟩

set_option maxHeartbeats 4000000 in
set_option maxRecDepth 100000 in
theorem c2_L_gain (l : Launch) (hfl : l.stackTraces = false) (D : va_G) (cI cJ cO : ClassId) (df sz : Nat) (t0 : Nat) (o : Nat) (g : Nat → Int64) (w : va_W) (N : Nat) (mc : Nat → Int32) (ms : Nat → Int32) (mw : Nat → Int32) (C : Nat) (mo : Nat → Int32) (K : Nat) (mu : Nat → Int32) (Y : Nat) (rw0 : Nat → Int32) (tf : Nat → Int32) (qf : Nat → Int32) (mp : Nat → Int32) (wr : Int32) (dv : Int32) (hCL : CLS cI cJ cO df t0 w N mc ms mw C mo K mu Y rw0 tf qf) (hW : WF N mc ms mw C mo K Y rw0 mp tf qf) : MetI l yL_gain wsL_gain ({ frames := 12, cells := 6, slots := 40, locals := 400 } : Room) D (gTY cI cJ cO) df (([(o, .inl (cJ, 1, .inr (.inl g)))] : va_W) ++ w) sz [.ref t0, .int wr, .int dv, .ref o] (fun (r : Int32) (wZ : va_W) => ∃ (w1 : va_W), ∃ (g1 : Nat → Int64), wZ = ([(o, .inl (cJ, 1, .inr (.inl g1)))] : va_W) ++ w1 ∧ r = gGo (isIn wr 0 2) (if C ≤ (if wr = 2 then 2 else 4) then (1 : Int32) else 0) 1 ∧ (¬ gGo (isIn wr 0 2) (if C ≤ (if wr = 2 then 2 else 4) then (1 : Int32) else 0) 1 = 0 → CLS cI cJ cO df t0 w1 N mc ms mw C mo K mu Y rw0 tf qf) ∧ (gGo (isIn wr 0 2) (if C ≤ (if wr = 2 then 2 else 4) then (1 : Int32) else 0) 1 = 0 → CLS cI cJ cO df t0 w1 N mc ms mw C mo K mu Y rw0 tf qf ∧ (g1 0).toInt = gnR (zO mc mo (gN wr) C) (zU mc mo (gN wr) C) dv)) := by
  obtain ⟨hN, hC8, hmz, hsz9, hc, hs, hw, hO, hiM, hK6, hY, hrw, hm8, hp, ht, hq⟩ := hW
  obtain ⟨sl, ch, oh, xh, rh, sh, ob, xk, ta, qa, pa, sb, fc, fl, fg, fe, gm, tl, rfl, hT⟩ := hCL
  rcases hT with ⟨lh, er, md, fr, smd, ser, sf, SA, SB, rfl, h0, hfr, hsf⟩ | ⟨lh, md, smd, ser, sf, SA, SB, rfl, h0, hC0, hsf⟩ | ⟨lh, md, smd, SA, SB, rfl, hN0, hC0⟩
  · refine g_mono (c_L_gain_F1 l hfl D cI cJ cO df sz t0 sl ch oh xh rh sh o g ob K mu xk fc fl fg fe gm ta qa pa tf qf sb Y rw0 lh er md C fr smd ser sf SA SB mc ms mw N mo wr dv hC8 hN hfr hO hc) (fun r w9 h => ?_)
    obtain ⟨h1, h2, h3⟩ := h
    by_cases hk : gGo (isIn wr 0 2) (if C ≤ (if wr = 2 then 2 else 4) then (1 : Int32) else 0) 1 = 0
    · obtain ⟨r9, rfl, hrel⟩ := h3 hk
      refine ⟨_, _, rfl, h1, fun h9 => absurd hk h9, fun _ => ?_⟩
      exact ⟨⟨sl, ch, oh, xh, rh, sh, ob, xk, ta, qa, pa, sb, fc, fl, fg, fe, gm, _, rfl, Or.inl ⟨lh, er, md, fr, smd, ser, sf, SA, SB, rfl, h0, hfr, hsf⟩⟩, (congrArg Int64.toInt (if_pos rfl)).trans hrel.1⟩
    · obtain rfl := h2 hk
      exact ⟨_, _, rfl, h1, fun _ => ⟨sl, ch, oh, xh, rh, sh, ob, xk, ta, qa, pa, sb, fc, fl, fg, fe, gm, _, rfl, Or.inl ⟨lh, er, md, fr, smd, ser, sf, SA, SB, rfl, h0, hfr, hsf⟩⟩, fun h9 => absurd h9 hk⟩
  · subst hC0
    rw [show gGo (isIn wr 0 2) (if 0 ≤ (if wr = 2 then 2 else 4) then (1 : Int32) else 0) 1 = gGo (isIn wr 0 2) 1 1 from by rw [if_pos (Nat.zero_le _)]]
    refine g_mono (c_L_gain_FC l hfl D cI cJ cO df sz t0 sl ch oh xh rh sh o g ob K mu xk fc fl fg fe gm ta qa pa tf qf sb Y rw0 lh md (([(sl, .inr (0, [.int smd, .ref ser, .int (nI N)])), (ser, .inl (cO, 10, .inr (.inr (.inr (.inr sf)))))] : va_W) ++ scL (scJ cI SA SB mc ms mw) (List.range N)) wr dv ) (fun r w9 h => ?_)
    obtain ⟨h1, h2, h3⟩ := h
    by_cases hk : gGo (isIn wr 0 2) 1 1 = 0
    · obtain ⟨r9, rfl, hrel⟩ := h3 hk
      refine ⟨_, _, rfl, h1, fun h9 => absurd hk h9, fun _ => ?_⟩
      exact ⟨⟨sl, ch, oh, xh, rh, sh, ob, xk, ta, qa, pa, sb, fc, fl, fg, fe, gm, _, rfl, Or.inr (Or.inl ⟨lh, md, smd, ser, sf, SA, SB, rfl, h0, rfl, hsf⟩)⟩, (congrArg Int64.toInt (if_pos rfl)).trans hrel.1⟩
    · obtain rfl := h2 hk
      exact ⟨_, _, rfl, h1, fun _ => ⟨sl, ch, oh, xh, rh, sh, ob, xk, ta, qa, pa, sb, fc, fl, fg, fe, gm, _, rfl, Or.inr (Or.inl ⟨lh, md, smd, ser, sf, SA, SB, rfl, h0, rfl, hsf⟩)⟩, fun h9 => absurd h9 hk⟩
  · subst hC0
    subst hN0
    rw [show gGo (isIn wr 0 2) (if 0 ≤ (if wr = 2 then 2 else 4) then (1 : Int32) else 0) 1 = gGo (isIn wr 0 2) 1 1 from by rw [if_pos (Nat.zero_le _)]]
    refine g_mono (c_L_gain_FC l hfl D cI cJ cO df sz t0 sl ch oh xh rh sh o g ob K mu xk fc fl fg fe gm ta qa pa tf qf sb Y rw0 lh md (([(sl, .inr (0, [.int smd, .ref df, .int 0]))] : va_W) ++ scL (scJ cI SA SB mc ms mw) (List.range 0)) wr dv ) (fun r w9 h => ?_)
    obtain ⟨h1, h2, h3⟩ := h
    by_cases hk : gGo (isIn wr 0 2) 1 1 = 0
    · obtain ⟨r9, rfl, hrel⟩ := h3 hk
      refine ⟨_, _, rfl, h1, fun h9 => absurd hk h9, fun _ => ?_⟩
      exact ⟨⟨sl, ch, oh, xh, rh, sh, ob, xk, ta, qa, pa, sb, fc, fl, fg, fe, gm, _, rfl, Or.inr (Or.inr ⟨lh, md, smd, SA, SB, rfl, rfl, rfl⟩)⟩, (congrArg Int64.toInt (if_pos rfl)).trans hrel.1⟩
    · obtain rfl := h2 hk
      exact ⟨_, _, rfl, h1, fun _ => ⟨sl, ch, oh, xh, rh, sh, ob, xk, ta, qa, pa, sb, fc, fl, fg, fe, gm, _, rfl, Or.inr (Or.inr ⟨lh, md, smd, SA, SB, rfl, rfl, rfl⟩)⟩, fun h9 => absurd h9 hk⟩

set_option maxHeartbeats 4000000 in
set_option maxRecDepth 100000 in
theorem c2_L_meets (l : Launch) (hfl : l.stackTraces = false) (D : va_G) (cI cJ cO : ClassId) (df sz : Nat) (t0 : Nat) (o : Nat) (g : Nat → Int64) (w : va_W) (N : Nat) (mc : Nat → Int32) (ms : Nat → Int32) (mw : Nat → Int32) (C : Nat) (mo : Nat → Int32) (K : Nat) (mu : Nat → Int32) (Y : Nat) (rw0 : Nat → Int32) (tf : Nat → Int32) (qf : Nat → Int32) (mp : Nat → Int32) (wr : Int32) (lw : Int32) (hg : Int32) (hCL : CLS cI cJ cO df t0 w N mc ms mw C mo K mu Y rw0 tf qf) (hW : WF N mc ms mw C mo K Y rw0 mp tf qf) : MetI l yL_meets wsL_meets ({ frames := 12, cells := 6, slots := 40, locals := 400 } : Room) D (gTY cI cJ cO) df (([(o, .inl (cJ, 1, .inr (.inl g)))] : va_W) ++ w) sz [.ref t0, .int wr, .int lw, .int hg, .ref o] (fun (r : Int32) (wZ : va_W) => ∃ (w1 : va_W), ∃ (g1 : Nat → Int64), wZ = ([(o, .inl (cJ, 1, .inr (.inl g1)))] : va_W) ++ w1 ∧ r = gGo (if isIn wr 0 2 = 0 then 0 else if isIn lw 0 10000 = 0 then 0 else isIn hg lw 10000) (if C ≤ (if wr = 2 then 2 else 4) then (1 : Int32) else 0) 1 ∧ (¬ gGo (if isIn wr 0 2 = 0 then 0 else if isIn lw 0 10000 = 0 then 0 else isIn hg lw 10000) (if C ≤ (if wr = 2 then 2 else 4) then (1 : Int32) else 0) 1 = 0 → CLS cI cJ cO df t0 w1 N mc ms mw C mo K mu Y rw0 tf qf) ∧ (gGo (if isIn wr 0 2 = 0 then 0 else if isIn lw 0 10000 = 0 then 0 else isIn hg lw 10000) (if C ≤ (if wr = 2 then 2 else 4) then (1 : Int32) else 0) 1 = 0 → CLS cI cJ cO df t0 w1 N mc ms mw C mo K mu Y rw0 tf qf ∧ g1 0 = (if (if mtP (stM mc mo C) (zO mc mo (gN wr) C) (zU mc mo (gN wr) C) (gN wr) (gN lw) (gN hg) then (1 : Int32) else 0) = 0 then (0 : Int64) else 1))) := by
  obtain ⟨hN, hC8, hmz, hsz9, hc, hs, hw, hO, hiM, hK6, hY, hrw, hm8, hp, ht, hq⟩ := hW
  obtain ⟨sl, ch, oh, xh, rh, sh, ob, xk, ta, qa, pa, sb, fc, fl, fg, fe, gm, tl, rfl, hT⟩ := hCL
  rcases hT with ⟨lh, er, md, fr, smd, ser, sf, SA, SB, rfl, h0, hfr, hsf⟩ | ⟨lh, md, smd, ser, sf, SA, SB, rfl, h0, hC0, hsf⟩ | ⟨lh, md, smd, SA, SB, rfl, hN0, hC0⟩
  · refine g_mono (c_L_meets_F1 l hfl D cI cJ cO df sz t0 sl ch oh xh rh sh o g ob K mu xk fc fl fg fe gm ta qa pa tf qf sb Y rw0 lh er md C fr smd ser sf SA SB mc ms mw N mo wr lw hg hC8 hN hfr hO hc) (fun r w9 h => ?_)
    obtain ⟨h1, h2, h3⟩ := h
    by_cases hk : gGo (if isIn wr 0 2 = 0 then 0 else if isIn lw 0 10000 = 0 then 0 else isIn hg lw 10000) (if C ≤ (if wr = 2 then 2 else 4) then (1 : Int32) else 0) 1 = 0
    · obtain ⟨r9, rfl, hrel⟩ := h3 hk
      refine ⟨_, _, rfl, h1, fun h9 => absurd hk h9, fun _ => ?_⟩
      exact ⟨⟨sl, ch, oh, xh, rh, sh, ob, xk, ta, qa, pa, sb, fc, fl, fg, fe, gm, _, rfl, Or.inl ⟨lh, er, md, fr, smd, ser, sf, SA, SB, rfl, h0, hfr, hsf⟩⟩, (if_pos rfl).trans (by rw [hrel.1]; try rfl)⟩
    · obtain rfl := h2 hk
      exact ⟨_, _, rfl, h1, fun _ => ⟨sl, ch, oh, xh, rh, sh, ob, xk, ta, qa, pa, sb, fc, fl, fg, fe, gm, _, rfl, Or.inl ⟨lh, er, md, fr, smd, ser, sf, SA, SB, rfl, h0, hfr, hsf⟩⟩, fun h9 => absurd h9 hk⟩
  · subst hC0
    rw [show gGo (if isIn wr 0 2 = 0 then 0 else if isIn lw 0 10000 = 0 then 0 else isIn hg lw 10000) (if 0 ≤ (if wr = 2 then 2 else 4) then (1 : Int32) else 0) 1 = gGo (if isIn wr 0 2 = 0 then 0 else if isIn lw 0 10000 = 0 then 0 else isIn hg lw 10000) 1 1 from by rw [if_pos (Nat.zero_le _)]]
    refine g_mono (c_L_meets_FC l hfl D cI cJ cO df sz t0 sl ch oh xh rh sh o g ob K mu xk fc fl fg fe gm ta qa pa tf qf sb Y rw0 lh md (([(sl, .inr (0, [.int smd, .ref ser, .int (nI N)])), (ser, .inl (cO, 10, .inr (.inr (.inr (.inr sf)))))] : va_W) ++ scL (scJ cI SA SB mc ms mw) (List.range N)) wr lw hg ) (fun r w9 h => ?_)
    obtain ⟨h1, h2, h3⟩ := h
    by_cases hk : gGo (if isIn wr 0 2 = 0 then 0 else if isIn lw 0 10000 = 0 then 0 else isIn hg lw 10000) 1 1 = 0
    · obtain ⟨r9, rfl, hrel⟩ := h3 hk
      refine ⟨_, _, rfl, h1, fun h9 => absurd hk h9, fun _ => ?_⟩
      exact ⟨⟨sl, ch, oh, xh, rh, sh, ob, xk, ta, qa, pa, sb, fc, fl, fg, fe, gm, _, rfl, Or.inr (Or.inl ⟨lh, md, smd, ser, sf, SA, SB, rfl, h0, rfl, hsf⟩)⟩, (if_pos rfl).trans (by rw [hrel.1]; try rfl)⟩
    · obtain rfl := h2 hk
      exact ⟨_, _, rfl, h1, fun _ => ⟨sl, ch, oh, xh, rh, sh, ob, xk, ta, qa, pa, sb, fc, fl, fg, fe, gm, _, rfl, Or.inr (Or.inl ⟨lh, md, smd, ser, sf, SA, SB, rfl, h0, rfl, hsf⟩)⟩, fun h9 => absurd h9 hk⟩
  · subst hC0
    subst hN0
    rw [show gGo (if isIn wr 0 2 = 0 then 0 else if isIn lw 0 10000 = 0 then 0 else isIn hg lw 10000) (if 0 ≤ (if wr = 2 then 2 else 4) then (1 : Int32) else 0) 1 = gGo (if isIn wr 0 2 = 0 then 0 else if isIn lw 0 10000 = 0 then 0 else isIn hg lw 10000) 1 1 from by rw [if_pos (Nat.zero_le _)]]
    refine g_mono (c_L_meets_FC l hfl D cI cJ cO df sz t0 sl ch oh xh rh sh o g ob K mu xk fc fl fg fe gm ta qa pa tf qf sb Y rw0 lh md (([(sl, .inr (0, [.int smd, .ref df, .int 0]))] : va_W) ++ scL (scJ cI SA SB mc ms mw) (List.range 0)) wr lw hg ) (fun r w9 h => ?_)
    obtain ⟨h1, h2, h3⟩ := h
    by_cases hk : gGo (if isIn wr 0 2 = 0 then 0 else if isIn lw 0 10000 = 0 then 0 else isIn hg lw 10000) 1 1 = 0
    · obtain ⟨r9, rfl, hrel⟩ := h3 hk
      refine ⟨_, _, rfl, h1, fun h9 => absurd hk h9, fun _ => ?_⟩
      exact ⟨⟨sl, ch, oh, xh, rh, sh, ob, xk, ta, qa, pa, sb, fc, fl, fg, fe, gm, _, rfl, Or.inr (Or.inr ⟨lh, md, smd, SA, SB, rfl, rfl, rfl⟩)⟩, (if_pos rfl).trans (by rw [hrel.1]; try rfl)⟩
    · obtain rfl := h2 hk
      exact ⟨_, _, rfl, h1, fun _ => ⟨sl, ch, oh, xh, rh, sh, ob, xk, ta, qa, pa, sb, fc, fl, fg, fe, gm, _, rfl, Or.inr (Or.inr ⟨lh, md, smd, SA, SB, rfl, rfl, rfl⟩)⟩, fun h9 => absurd h9 hk⟩

set_option maxHeartbeats 4000000 in
set_option maxRecDepth 100000 in
theorem c2_L_cycles (l : Launch) (hfl : l.stackTraces = false) (D : va_G) (cI cJ cO : ClassId) (df sz : Nat) (t0 : Nat) (o : Nat) (g : Nat → Int64) (w : va_W) (N : Nat) (mc : Nat → Int32) (ms : Nat → Int32) (mw : Nat → Int32) (C : Nat) (mo : Nat → Int32) (K : Nat) (mu : Nat → Int32) (Y : Nat) (rw0 : Nat → Int32) (tf : Nat → Int32) (qf : Nat → Int32) (mp : Nat → Int32) (j : Int32) (rr : Int32) (wh : Int32) (hCL : CLS cI cJ cO df t0 w N mc ms mw C mo K mu Y rw0 tf qf) (hW : WF N mc ms mw C mo K Y rw0 mp tf qf) : MetI l yL_cycles wsL_cycles ({ frames := 12, cells := 6, slots := 40, locals := 400 } : Room) D (gTY cI cJ cO) df (([(o, .inl (cJ, 1, .inr (.inl g)))] : va_W) ++ w) sz [.ref t0, .int j, .int rr, .int wh, .ref o] (fun (r : Int32) (wZ : va_W) => ∃ (w1 : va_W), ∃ (g1 : Nat → Int64), wZ = ([(o, .inl (cJ, 1, .inr (.inl g1)))] : va_W) ++ w1 ∧ r = gGo (isSec N j) (if isIn rr 1 12 = 0 then 0 else isIn wh 0 3) 1 ∧ (¬ gGo (isSec N j) (if isIn rr 1 12 = 0 then 0 else isIn wh 0 3) 1 = 0 → CLS cI cJ cO df t0 w1 N mc ms mw C mo K mu Y rw0 tf qf) ∧ (gGo (isSec N j) (if isIn rr 1 12 = 0 then 0 else isIn wh 0 3) 1 = 0 → CLS cI cJ cO df t0 w1 N mc ms mw C mo K mu Y rw0 tf qf ∧ ∃ (A9 : Nat → Nat) (c9 l9 g9 e9 : Nat), crun (nxO mc mw (gN j)) (otn (gN rr) (2 * gN rr + 1)) A9 c9 l9 g9 e9 ∧ g1 0 = (nI (pick (gN wh) c9 l9 g9 e9)).toInt64)) := by
  obtain ⟨hN, hC8, hmz, hsz9, hc, hs, hw, hO, hiM, hK6, hY, hrw, hm8, hp, ht, hq⟩ := hW
  obtain ⟨sl, ch, oh, xh, rh, sh, ob, xk, ta, qa, pa, sb, fc, fl, fg, fe, gm, tl, rfl, hT⟩ := hCL
  rcases hT with ⟨lh, er, md, fr, smd, ser, sf, SA, SB, rfl, h0, hfr, hsf⟩ | ⟨lh, md, smd, ser, sf, SA, SB, rfl, h0, hC0, hsf⟩ | ⟨lh, md, smd, SA, SB, rfl, hN0, hC0⟩
  · refine g_mono (c_L_cycles_F1 l hfl D cI cJ cO df sz t0 sl ch oh xh rh sh o g ob K mu xk fc fl fg fe gm ta qa pa tf qf sb Y rw0 lh er md C fr smd ser sf SA SB mc ms mw N j rr wh hN hsf hc hw) (fun r w9 h => ?_)
    obtain ⟨h1, h2, h3⟩ := h
    by_cases hk : gGo (isSec N j) (if isIn rr 1 12 = 0 then 0 else isIn wh 0 3) 1 = 0
    · obtain ⟨g1, A1, c1, l1, g9, e1, r9, rfl, hrel⟩ := h3 hk
      refine ⟨_, _, rfl, h1, fun h9 => absurd hk h9, fun _ => ?_⟩
      exact ⟨⟨sl, ch, oh, xh, rh, sh, ob, xk, ta, qa, pa, sb, _, _, _, _, _, _, rfl, Or.inl ⟨lh, er, md, fr, smd, ser, sf, SA, SB, rfl, h0, hfr, hsf⟩⟩, _, _, _, _, _, hrel.1, (if_pos rfl).trans (congrArg Int32.toInt64 hrel.2.1)⟩
    · obtain rfl := h2 hk
      exact ⟨_, _, rfl, h1, fun _ => ⟨sl, ch, oh, xh, rh, sh, ob, xk, ta, qa, pa, sb, fc, fl, fg, fe, gm, _, rfl, Or.inl ⟨lh, er, md, fr, smd, ser, sf, SA, SB, rfl, h0, hfr, hsf⟩⟩, fun h9 => absurd h9 hk⟩
  · subst hC0
    refine g_mono (c_L_cycles_F2 l hfl D cI cJ cO df sz t0 sl ch oh xh rh sh o g ob K mu xk fc fl fg fe gm ta qa pa tf qf sb Y rw0 lh md smd ser sf SA SB mc ms mw N j rr wh hN hsf hc hw) (fun r w9 h => ?_)
    obtain ⟨h1, h2, h3⟩ := h
    by_cases hk : gGo (isSec N j) (if isIn rr 1 12 = 0 then 0 else isIn wh 0 3) 1 = 0
    · obtain ⟨g1, A1, c1, l1, g9, e1, r9, rfl, hrel⟩ := h3 hk
      refine ⟨_, _, rfl, h1, fun h9 => absurd hk h9, fun _ => ?_⟩
      exact ⟨⟨sl, ch, oh, xh, rh, sh, ob, xk, ta, qa, pa, sb, _, _, _, _, _, _, rfl, Or.inr (Or.inl ⟨lh, md, smd, ser, sf, SA, SB, rfl, h0, rfl, hsf⟩)⟩, _, _, _, _, _, hrel.1, (if_pos rfl).trans (congrArg Int32.toInt64 hrel.2.1)⟩
    · obtain rfl := h2 hk
      exact ⟨_, _, rfl, h1, fun _ => ⟨sl, ch, oh, xh, rh, sh, ob, xk, ta, qa, pa, sb, fc, fl, fg, fe, gm, _, rfl, Or.inr (Or.inl ⟨lh, md, smd, ser, sf, SA, SB, rfl, h0, rfl, hsf⟩)⟩, fun h9 => absurd h9 hk⟩
  · subst hC0
    subst hN0
    refine g_mono (c_L_cycles_F3 l hfl D cI cJ cO df sz t0 sl ch oh xh rh sh o g ob K mu xk fc fl fg fe gm ta qa pa tf qf sb Y rw0 lh md smd SA SB mc ms mw j rr wh ) (fun r w9 h => ?_)
    obtain ⟨h1, h2, h3⟩ := h
    by_cases hk : gGo (isSec 0 j) (if isIn rr 1 12 = 0 then 0 else isIn wh 0 3) 1 = 0
    · exact (h3 hk).elim
    · obtain rfl := h2 hk
      exact ⟨_, _, rfl, h1, fun _ => ⟨sl, ch, oh, xh, rh, sh, ob, xk, ta, qa, pa, sb, fc, fl, fg, fe, gm, _, rfl, Or.inr (Or.inr ⟨lh, md, smd, SA, SB, rfl, rfl, rfl⟩)⟩, fun h9 => absurd h9 hk⟩

set_option maxHeartbeats 4000000 in
set_option maxRecDepth 100000 in
theorem c2_L_tapOf (l : Launch) (hfl : l.stackTraces = false) (D : va_G) (cI cJ cO : ClassId) (df sz : Nat) (t0 : Nat) (o : Nat) (g : Nat → Int64) (w : va_W) (N : Nat) (mc : Nat → Int32) (ms : Nat → Int32) (mw : Nat → Int32) (C : Nat) (mo : Nat → Int32) (K : Nat) (mu : Nat → Int32) (Y : Nat) (rw0 : Nat → Int32) (tf : Nat → Int32) (qf : Nat → Int32) (mp : Nat → Int32) (tp : Int32) (hCL : CLS cI cJ cO df t0 w N mc ms mw C mo K mu Y rw0 tf qf) (hW : WF N mc ms mw C mo K Y rw0 mp tf qf) : MetI l yL_tapOf wsL_tapOf ({ frames := 12, cells := 6, slots := 40, locals := 400 } : Room) D (gTY cI cJ cO) df (([(o, .inl (cJ, 1, .inr (.inl g)))] : va_W) ++ w) sz [.ref t0, .int tp, .ref o] (fun (r : Int32) (wZ : va_W) => ∃ (w1 : va_W), ∃ (g1 : Nat → Int64), wZ = ([(o, .inl (cJ, 1, .inr (.inl g1)))] : va_W) ++ w1 ∧ r = gGo (isIn tp 0 31) 1 1 ∧ (¬ gGo (isIn tp 0 31) 1 1 = 0 → CLS cI cJ cO df t0 w1 N mc ms mw C mo K mu Y rw0 tf qf) ∧ (gGo (isIn tp 0 31) 1 1 = 0 → CLS cI cJ cO df t0 w1 N mc ms mw C mo K mu Y rw0 tf qf ∧ g1 0 = (tf (gN tp)).toInt64)) := by
  obtain ⟨hN, hC8, hmz, hsz9, hc, hs, hw, hO, hiM, hK6, hY, hrw, hm8, hp, ht, hq⟩ := hW
  obtain ⟨sl, ch, oh, xh, rh, sh, ob, xk, ta, qa, pa, sb, fc, fl, fg, fe, gm, tl, rfl, hT⟩ := hCL
  refine g_mono (c_L_tapOf_FT l hfl D cI cJ cO df sz t0 sl ch oh xh rh sh o g ob K mu xk fc fl fg fe gm ta qa pa tf qf sb Y rw0 _ tp ) (fun r w9 h => ?_)
  obtain ⟨h1, h2, h3⟩ := h
  by_cases hk : gGo (isIn tp 0 31) 1 1 = 0
  · obtain ⟨r9, rfl, hr9, hrel⟩ := h3 hk
    refine ⟨_, _, rfl, h1, fun h9 => absurd hk h9, fun _ => ?_⟩
    exact ⟨⟨sl, ch, oh, xh, rh, sh, ob, xk, ta, qa, pa, sb, fc, fl, fg, fe, gm, _, rfl, hT⟩, (if_pos rfl).trans (congrArg Int32.toInt64 hr9)⟩
  · obtain rfl := h2 hk
    exact ⟨_, _, rfl, h1, fun _ => ⟨sl, ch, oh, xh, rh, sh, ob, xk, ta, qa, pa, sb, fc, fl, fg, fe, gm, _, rfl, hT⟩, fun h9 => absurd h9 hk⟩

set_option maxHeartbeats 4000000 in
set_option maxRecDepth 100000 in
theorem c2_L_answer (l : Launch) (hfl : l.stackTraces = false) (D : va_G) (cI cJ cO : ClassId) (df sz : Nat) (t0 : Nat) (o : Nat) (g : Nat → Int64) (w : va_W) (N : Nat) (mc : Nat → Int32) (ms : Nat → Int32) (mw : Nat → Int32) (C : Nat) (mo : Nat → Int32) (K : Nat) (mu : Nat → Int32) (Y : Nat) (rw0 : Nat → Int32) (tf : Nat → Int32) (qf : Nat → Int32) (mp : Nat → Int32) (tp : Int32) (hCL : CLS cI cJ cO df t0 w N mc ms mw C mo K mu Y rw0 tf qf) (hW : WF N mc ms mw C mo K Y rw0 mp tf qf) : MetI l yL_answer wsL_answer ({ frames := 12, cells := 6, slots := 40, locals := 400 } : Room) D (gTY cI cJ cO) df (([(o, .inl (cJ, 1, .inr (.inl g)))] : va_W) ++ w) sz [.ref t0, .int tp, .ref o] (fun (r : Int32) (wZ : va_W) => ∃ (w1 : va_W), ∃ (g1 : Nat → Int64), wZ = ([(o, .inl (cJ, 1, .inr (.inl g1)))] : va_W) ++ w1 ∧ r = gGo (isIn tp 0 31) 1 1 ∧ (¬ gGo (isIn tp 0 31) 1 1 = 0 → CLS cI cJ cO df t0 w1 N mc ms mw C mo K mu Y rw0 tf qf) ∧ (gGo (isIn tp 0 31) 1 1 = 0 → CLS cI cJ cO df t0 w1 N mc ms mw C mo K mu Y rw0 tf qf ∧ g1 0 = (nI (asum tf (gN tp) 32)).toInt64)) := by
  obtain ⟨hN, hC8, hmz, hsz9, hc, hs, hw, hO, hiM, hK6, hY, hrw, hm8, hp, ht, hq⟩ := hW
  obtain ⟨sl, ch, oh, xh, rh, sh, ob, xk, ta, qa, pa, sb, fc, fl, fg, fe, gm, tl, rfl, hT⟩ := hCL
  refine g_mono (c_L_answer_FT l hfl D cI cJ cO df sz t0 sl ch oh xh rh sh o g ob K mu xk fc fl fg fe gm ta qa pa tf qf sb Y rw0 _ tp ht) (fun r w9 h => ?_)
  obtain ⟨h1, h2, h3⟩ := h
  by_cases hk : gGo (isIn tp 0 31) 1 1 = 0
  · obtain ⟨r9, rfl, hr9, hrel⟩ := h3 hk
    refine ⟨_, _, rfl, h1, fun h9 => absurd hk h9, fun _ => ?_⟩
    exact ⟨⟨sl, ch, oh, xh, rh, sh, ob, xk, ta, qa, pa, sb, fc, fl, fg, fe, gm, _, rfl, hT⟩, (if_pos rfl).trans (congrArg Int32.toInt64 hr9)⟩
  · obtain rfl := h2 hk
    exact ⟨_, _, rfl, h1, fun _ => ⟨sl, ch, oh, xh, rh, sh, ob, xk, ta, qa, pa, sb, fc, fl, fg, fe, gm, _, rfl, hT⟩, fun h9 => absurd h9 hk⟩

set_option maxHeartbeats 4000000 in
set_option maxRecDepth 100000 in
theorem c2_L_answerAnew (l : Launch) (hfl : l.stackTraces = false) (D : va_G) (cI cJ cO : ClassId) (df sz : Nat) (t0 : Nat) (o : Nat) (g : Nat → Int64) (w : va_W) (N : Nat) (mc : Nat → Int32) (ms : Nat → Int32) (mw : Nat → Int32) (C : Nat) (mo : Nat → Int32) (K : Nat) (mu : Nat → Int32) (Y : Nat) (rw0 : Nat → Int32) (tf : Nat → Int32) (qf : Nat → Int32) (mp : Nat → Int32) (tp : Int32) (hCL : CLS cI cJ cO df t0 w N mc ms mw C mo K mu Y rw0 tf qf) (hW : WF N mc ms mw C mo K Y rw0 mp tf qf) : MetI l yL_answerAnew wsL_answerAnew ({ frames := 12, cells := 6, slots := 40, locals := 400 } : Room) D (gTY cI cJ cO) df (([(o, .inl (cJ, 1, .inr (.inl g)))] : va_W) ++ w) sz [.ref t0, .int tp, .ref o] (fun (r : Int32) (wZ : va_W) => ∃ (w1 : va_W), ∃ (g1 : Nat → Int64), wZ = ([(o, .inl (cJ, 1, .inr (.inl g1)))] : va_W) ++ w1 ∧ r = gGo (isIn tp 0 31) 1 1 ∧ (¬ gGo (isIn tp 0 31) 1 1 = 0 → CLS cI cJ cO df t0 w1 N mc ms mw C mo K mu Y rw0 tf qf) ∧ (gGo (isIn tp 0 31) 1 1 = 0 → CLS cI cJ cO df t0 w1 N mc ms mw C mo K mu Y rw0 tf qf ∧ g1 0 = (nI (asum tf (gN tp) 32)).toInt64)) := by
  obtain ⟨hN, hC8, hmz, hsz9, hc, hs, hw, hO, hiM, hK6, hY, hrw, hm8, hp, ht, hq⟩ := hW
  obtain ⟨sl, ch, oh, xh, rh, sh, ob, xk, ta, qa, pa, sb, fc, fl, fg, fe, gm, tl, rfl, hT⟩ := hCL
  refine g_mono (c_L_answerAnew_FT l hfl D cI cJ cO df sz t0 sl ch oh xh rh sh o g ob K mu xk fc fl fg fe gm ta qa pa tf qf sb Y rw0 _ tp ht) (fun r w9 h => ?_)
  obtain ⟨h1, h2, h3⟩ := h
  by_cases hk : gGo (isIn tp 0 31) 1 1 = 0
  · obtain ⟨r9, rfl, hr9, hrel⟩ := h3 hk
    refine ⟨_, _, rfl, h1, fun h9 => absurd hk h9, fun _ => ?_⟩
    exact ⟨⟨sl, ch, oh, xh, rh, sh, ob, xk, ta, qa, pa, sb, fc, fl, fg, fe, gm, _, rfl, hT⟩, (if_pos rfl).trans (congrArg Int32.toInt64 hr9)⟩
  · obtain rfl := h2 hk
    exact ⟨_, _, rfl, h1, fun _ => ⟨sl, ch, oh, xh, rh, sh, ob, xk, ta, qa, pa, sb, fc, fl, fg, fe, gm, _, rfl, hT⟩, fun h9 => absurd h9 hk⟩

set_option maxHeartbeats 4000000 in
set_option maxRecDepth 100000 in
theorem c2_L_sifted (l : Launch) (hfl : l.stackTraces = false) (D : va_G) (cI cJ cO : ClassId) (df sz : Nat) (t0 : Nat) (o : Nat) (g : Nat → Int64) (w : va_W) (N : Nat) (mc : Nat → Int32) (ms : Nat → Int32) (mw : Nat → Int32) (C : Nat) (mo : Nat → Int32) (K : Nat) (mu : Nat → Int32) (Y : Nat) (rw0 : Nat → Int32) (tf : Nat → Int32) (qf : Nat → Int32) (mp : Nat → Int32) (back : Int32) (hCL : CLS cI cJ cO df t0 w N mc ms mw C mo K mu Y rw0 tf qf) (hW : WF N mc ms mw C mo K Y rw0 mp tf qf) : MetI l yL_sifted wsL_sifted ({ frames := 12, cells := 6, slots := 40, locals := 400 } : Room) D (gTY cI cJ cO) df (([(o, .inl (cJ, 1, .inr (.inl g)))] : va_W) ++ w) sz [.ref t0, .int back, .ref o] (fun (r : Int32) (wZ : va_W) => ∃ (w1 : va_W), ∃ (g1 : Nat → Int64), wZ = ([(o, .inl (cJ, 1, .inr (.inl g1)))] : va_W) ++ w1 ∧ r = gGo (if back < 0 then 0 else 1) 1 1 ∧ (¬ gGo (if back < 0 then 0 else 1) 1 1 = 0 → CLS cI cJ cO df t0 w1 N mc ms mw C mo K mu Y rw0 tf qf) ∧ (gGo (if back < 0 then 0 else 1) 1 1 = 0 → CLS cI cJ cO df t0 w1 N mc ms mw C mo K mu Y rw0 tf qf ∧ g1 0 = (if gN back < Y then nI (ssum tf mp (gN back) Y 32) else -1).toInt64)) := by
  obtain ⟨hN, hC8, hmz, hsz9, hc, hs, hw, hO, hiM, hK6, hY, hrw, hm8, hp, ht, hq⟩ := hW
  obtain ⟨sl, ch, oh, xh, rh, sh, ob, xk, ta, qa, pa, sb, fc, fl, fg, fe, gm, tl, rfl, hT⟩ := hCL
  refine g_mono (c_L_sifted_FT l hfl D cI cJ cO df sz t0 sl ch oh xh rh sh o g ob K mu xk fc fl fg fe gm ta qa pa tf qf sb Y rw0 _ mp back ht hY hrw hm8) (fun r w9 h => ?_)
  obtain ⟨h1, h2, h3⟩ := h
  by_cases hk : gGo (if back < 0 then 0 else 1) 1 1 = 0
  · obtain ⟨r9, rfl, hr9, hrel⟩ := h3 hk
    refine ⟨_, _, rfl, h1, fun h9 => absurd hk h9, fun _ => ?_⟩
    exact ⟨⟨sl, ch, oh, xh, rh, sh, ob, xk, ta, qa, pa, sb, fc, fl, fg, fe, gm, _, rfl, hT⟩, (if_pos rfl).trans (congrArg Int32.toInt64 hr9)⟩
  · obtain rfl := h2 hk
    exact ⟨_, _, rfl, h1, fun _ => ⟨sl, ch, oh, xh, rh, sh, ob, xk, ta, qa, pa, sb, fc, fl, fg, fe, gm, _, rfl, hT⟩, fun h9 => absurd h9 hk⟩
