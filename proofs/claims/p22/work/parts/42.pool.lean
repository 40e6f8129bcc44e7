/-! the pool of the sections: their cells one after the other, one of them to the front and back -/
theorem va_P.perm9 {D : va_G} {cl : List vw_C} {ws ws' : va_W} {H : Heap} (h : ws.Perm ws') (hP : va_P D cl ws H) : va_P D cl ws' H := by
  intro k q hq
  obtain ⟨k', hk'⟩ := List.getElem?_of_mem (h.mem_iff.mpr (List.mem_of_getElem? hq))
  exact hP k' q hk'
theorem va_D.nodup9 {A : Nat → Prop} {ws : va_W} (h : va_D A ws) : (ws.map Prod.fst).Nodup := by
  rw [List.Nodup, List.pairwise_iff_getElem]
  intro i j hi hj hij e
  rw [List.length_map] at hi hj
  rw [List.getElem_map, List.getElem_map] at e
  have := h.1 i j _ _ (List.getElem?_eq_getElem hi) (List.getElem?_eq_getElem hj) e
  omega
theorem va_D.of9 {A : Nat → Prop} {ws : va_W} (h1 : (ws.map Prod.fst).Nodup) (h2 : ∀ q, q ∈ ws → A q.1) : va_D A ws := by
  rw [List.Nodup, List.pairwise_iff_getElem] at h1
  refine ⟨fun i j p q hi hj e => ?_, fun k q hq => h2 q (List.mem_of_getElem? hq)⟩
  obtain ⟨li, ei⟩ := List.getElem?_eq_some_iff.mp hi
  obtain ⟨lj, ej⟩ := List.getElem?_eq_some_iff.mp hj
  rcases Nat.lt_trichotomy i j with h | h | h
  · exact absurd (by rw [List.getElem_map, List.getElem_map, ei, ej]; exact e) (h1 i j (by rw [List.length_map]; exact li) (by rw [List.length_map]; exact lj) h)
  · exact h
  · exact absurd (by rw [List.getElem_map, List.getElem_map, ei, ej]; exact e.symm) (h1 j i (by rw [List.length_map]; exact lj) (by rw [List.length_map]; exact li) h)
theorem va_D.perm9 {A : Nat → Prop} {ws ws' : va_W} (h : ws.Perm ws') (hD : va_D A ws) : va_D A ws' := by
  refine va_D.of9 ((h.map Prod.fst).nodup_iff.mp hD.nodup9) (fun q hq => ?_)
  obtain ⟨k, hk⟩ := List.getElem?_of_mem (h.mem_iff.mpr hq)
  exact hD.2 k q hk
abbrev scJ (cI : ClassId) (SA SB : Nat → Nat) (mc ms mw : Nat → Int32) (j : Nat) : va_W :=
  [(SA j, .inr (5, [.int (nI j), .int (mw j), .ref (SB j), .int (ms (4 * j)), .int (ms (4 * j + 1)), .int (ms (4 * j + 2)), .int (ms (4 * j + 3))])), (SB j, .inl (cI, 5, .inl (fun z9 => if z9 < 5 then mc (5 * j + z9) else 0)))]
def scL (S : Nat → va_W) (js : List Nat) : va_W := js.flatMap S
theorem scL_perm {S : Nat → va_W} {js : List Nat} {j : Nat} {X : va_W} (hj : j ∈ js) : (X ++ scL S js).Perm ((X ++ S j) ++ scL S (js.erase j)) := by
  rw [List.append_assoc]
  refine List.Perm.append_left X ?_
  exact ((List.perm_cons_erase hj).flatMap_right S)
theorem scL_congr {S S' : Nat → va_W} {js : List Nat} (h : ∀ i, i ∈ js → S i = S' i) : scL S js = scL S' js := by
  induction js with
  | nil => rfl
  | cons a js ih =>
    show S a ++ scL S js = S' a ++ scL S' js
    rw [h a (List.mem_cons_self ..), ih (fun i hi => h i (List.mem_cons_of_mem _ hi))]
theorem sc_open {A : Nat → Prop} {D : va_G} {cl : List vw_C} {X : va_W} {S : Nat → va_W} {js : List Nat} {H : Heap} (j : Nat) (hP : va_P D cl (X ++ scL S js) H) (hD : va_D A (X ++ scL S js)) (hj : j ∈ js) : va_P D cl ((X ++ S j) ++ scL S (js.erase j)) H ∧ va_D A ((X ++ S j) ++ scL S (js.erase j)) :=
  ⟨hP.perm9 (scL_perm hj), hD.perm9 (scL_perm hj)⟩
theorem sc_close {A : Nat → Prop} {D : va_G} {cl : List vw_C} {X c2 : va_W} {S S' : Nat → va_W} {js : List Nat} {H : Heap} (j : Nat) (hP : va_P D cl ((X ++ c2) ++ scL S (js.erase j)) H) (hD : va_D A ((X ++ c2) ++ scL S (js.erase j))) (hj : j ∈ js) (hn : js.Nodup) (he : S' j = c2) (ho : ∀ i, i ∈ js → i ≠ j → S i = S' i) : va_P D cl (X ++ scL S' js) H ∧ va_D A (X ++ scL S' js) := by
  have e : scL S (js.erase j) = scL S' (js.erase j) := scL_congr (fun i hi => ho i (List.mem_of_mem_erase hi) (fun h9 => by subst h9; exact List.Nodup.not_mem_erase hn hi))
  rw [e, ← he] at hP hD
  exact ⟨hP.perm9 (scL_perm hj).symm, hD.perm9 (scL_perm hj).symm⟩
theorem scJ_inj {A : Nat → Prop} {X : va_W} {cI : ClassId} {SA SB : Nat → Nat} {mc ms mw : Nat → Int32} {js : List Nat} {i j : Nat} (hD : va_D A (X ++ scL (scJ cI SA SB mc ms mw) js)) (hi : i ∈ js) (hj : j ∈ js) (e : SA i = SA j) : i = j := by
  refine Classical.byContradiction fun hne => ?_
  have h1 := hD.perm9 (scL_perm hi)
  have hj2 : j ∈ js.erase i := (List.mem_erase_of_ne (fun h9 => hne h9.symm)).mpr hj
  have h2 := h1.perm9 (scL_perm hj2)
  have g1 : (((X ++ scJ cI SA SB mc ms mw i) ++ scJ cI SA SB mc ms mw j) ++ scL (scJ cI SA SB mc ms mw) ((js.erase i).erase j))[X.length]? = some (SA i, .inr (5, [.int (nI i), .int (mw i), .ref (SB i), .int (ms (4 * i)), .int (ms (4 * i + 1)), .int (ms (4 * i + 2)), .int (ms (4 * i + 3))])) := by
    rw [List.append_assoc, List.append_assoc, List.getElem?_append_right (Nat.le_refl _), Nat.sub_self]; rfl
  have g2 : (((X ++ scJ cI SA SB mc ms mw i) ++ scJ cI SA SB mc ms mw j) ++ scL (scJ cI SA SB mc ms mw) ((js.erase i).erase j))[X.length + 2]? = some (SA j, .inr (5, [.int (nI j), .int (mw j), .ref (SB j), .int (ms (4 * j)), .int (ms (4 * j + 1)), .int (ms (4 * j + 2)), .int (ms (4 * j + 3))])) := by
    rw [List.append_assoc, List.append_assoc, List.getElem?_append_right (Nat.le_add_right _ _), Nat.add_sub_cancel_left]; rfl
  have := h2.1 _ _ _ _ g1 g2 e
  omega
theorem inT_scL {cI : ClassId} {SA SB : Nat → Nat} {mc ms mw : Nat → Int32} {js : List Nat} {j : Nat} (hj : j ∈ js) : inT (scL (scJ cI SA SB mc ms mw) js) (SA j) := by
  have hm : (SA j, Sum.inr (5, [Value.int (nI j), .int (mw j), .ref (SB j), .int (ms (4 * j)), .int (ms (4 * j + 1)), .int (ms (4 * j + 2)), .int (ms (4 * j + 3))])) ∈ scL (scJ cI SA SB mc ms mw) js := List.mem_flatMap.mpr ⟨j, hj, List.mem_cons_self ..⟩
  obtain ⟨k, hk⟩ := List.getElem?_of_mem hm
  exact ⟨k, _, hk⟩
theorem rgm {j N : Nat} (h : j < N) : j ∈ List.range N := List.mem_range.mpr h
theorem rgn {N : Nat} : (List.range N).Nodup := List.nodup_range
/-- a section's step changes the section's memory only -/
theorem goM_out {ms : Nat → Int32} {J i : Nat} {x y : Int32} (h : i ≠ J) : goM ms J x y (4 * i) = ms (4 * i) ∧ goM ms J x y (4 * i + 1) = ms (4 * i + 1) ∧ goM ms J x y (4 * i + 2) = ms (4 * i + 2) ∧ goM ms J x y (4 * i + 3) = ms (4 * i + 3) := by
  unfold goM upd
  refine ⟨?_, ?_, ?_, ?_⟩ <;> (repeat (rw [if_neg (by omega)]))
theorem goM_in {ms : Nat → Int32} {J : Nat} {x y : Int32} : goM ms J x y (4 * J) = x ∧ goM ms J x y (4 * J + 1) = ms (4 * J) ∧ goM ms J x y (4 * J + 2) = y ∧ goM ms J x y (4 * J + 3) = ms (4 * J + 2) := by
  unfold goM upd
  refine ⟨?_, ?_, ?_, ?_⟩ <;> (first | (rw [if_pos rfl]; done) | (repeat (first | rw [if_pos rfl] | rw [if_neg (by omega)])))
theorem scJ_go {cI : ClassId} {SA SB : Nat → Nat} {mc ms mw : Nat → Int32} {J i : Nat} {x y : Int32} (h : i ≠ J) : scJ cI SA SB mc ms mw i = scJ cI SA SB mc (goM ms J x y) mw i := by
  obtain ⟨h1, h2, h3, h4⟩ := goM_out (ms := ms) (x := x) (y := y) h
  unfold scJ
  rw [h1, h2, h3, h4]
theorem scJ_goJ {cI : ClassId} {SA SB : Nat → Nat} {mc ms mw : Nat → Int32} {J : Nat} {x y : Int32} : scJ cI SA SB mc (goM ms J x y) mw J = [(SA J, .inr (5, [.int (nI J), .int (mw J), .ref (SB J), .int x, .int (ms (4 * J)), .int y, .int (ms (4 * J + 2))])), (SB J, .inl (cI, 5, .inl (fun z9 => if z9 < 5 then mc (5 * J + z9) else 0)))] := by
  obtain ⟨h1, h2, h3, h4⟩ := goM_in (ms := ms) (J := J) (x := x) (y := y)
  unfold scJ
  rw [h1, h2, h3, h4]
/-- what a section answers, in the words of the model -/
def isS (ms : Nat → Int32) : Prop := ∀ i, i < 32 → -32767 ≤ (ms i).toInt ∧ (ms i).toInt ≤ 32767
theorem pr_bd {a x : Int32} (ha : -127 ≤ a.toInt ∧ a.toInt ≤ 127) (hx : -32767 ≤ x.toInt ∧ x.toInt ≤ 32767) : -4161409 ≤ (a * x).toInt ∧ (a * x).toInt ≤ 4161409 := by
  have h1 : (a.toInt * x.toInt).natAbs ≤ 127 * 32767 := by
    rw [Int.natAbs_mul]
    exact Nat.mul_le_mul (by omega) (by omega)
  rw [fb_mulI (by omega) (by omega)]
  omega
theorem goY_eq {mc mw ms : Nat → Int32} {J : Nat} {x : Int32} (hJ : J < 8) (hc : isC mc) (hw : isW (mw J)) (hs : isS ms) (hx : -32767 ≤ x.toInt ∧ x.toInt ≤ 32767) : mClamp (cRnd (tkS (fun z9 => if z9 < 5 then mc (5 * J + z9) else 0) (ms (4 * J)) (ms (4 * J + 1)) (ms (4 * J + 2)) (ms (4 * J + 3)) x) (mw J)) = goY mc mw ms J x := by
  have p0 := pr_bd (hc (5 * J) (by omega)) hx
  have p1 := pr_bd (hc (5 * J + 1) (by omega)) (hs (4 * J) (by omega))
  have p2 := pr_bd (hc (5 * J + 2) (by omega)) (hs (4 * J + 1) (by omega))
  have p3 := pr_bd (hc (5 * J + 3) (by omega)) (hs (4 * J + 2) (by omega))
  have p4 := pr_bd (hc (5 * J + 4) (by omega)) (hs (4 * J + 3) (by omega))
  have s1 := fb_addI (x := mc (5 * J) * x) (y := mc (5 * J + 1) * ms (4 * J)) (by omega) (by omega)
  have s2 := fb_addI (x := mc (5 * J) * x + mc (5 * J + 1) * ms (4 * J)) (y := mc (5 * J + 2) * ms (4 * J + 1)) (by omega) (by omega)
  have s3 := fb_subI (x := mc (5 * J) * x + mc (5 * J + 1) * ms (4 * J) + mc (5 * J + 2) * ms (4 * J + 1)) (y := mc (5 * J + 3) * ms (4 * J + 2)) (by omega) (by omega)
  have s4 := fb_subI (x := mc (5 * J) * x + mc (5 * J + 1) * ms (4 * J) + mc (5 * J + 2) * ms (4 * J + 1) - mc (5 * J + 3) * ms (4 * J + 2)) (y := mc (5 * J + 4) * ms (4 * J + 3)) (by omega) (by omega)
  exact cRnd_eq (v := fSum mc ms J x) hw (by unfold fSum; omega) (by unfold fSum; omega)
theorem goY_rng (mc mw ms : Nat → Int32) (J : Nat) (x : Int32) : -32767 ≤ (goY mc mw ms J x).toInt ∧ (goY mc mw ms J x).toInt ≤ 32767 := mClamp_rng _
theorem goM_isS {ms : Nat → Int32} {J : Nat} {x y : Int32} (hs : isS ms) (hx : -32767 ≤ x.toInt ∧ x.toInt ≤ 32767) (hy : -32767 ≤ y.toInt ∧ y.toInt ≤ 32767) (hJ : J < 8) : isS (goM ms J x y) := by
  intro i hi
  unfold goM upd
  split
  · exact hy
  · split
    · exact hs _ (by omega)
    · split
      · exact hx
      · split
        · exact hs _ (by omega)
        · exact hs i hi
theorem rn_ok {mc mw mo ms : Nat → Int32} {x : Int32} {C : Nat} (hs : isS ms) (hx : -32767 ≤ x.toInt ∧ x.toInt ≤ 32767) (hO : ∀ i, i < C → gN (mo i) < 8) : ∀ {k}, k ≤ C → isS (rnM mc mw mo ms x k).1 ∧ (-32767 ≤ (rnM mc mw mo ms x k).2.toInt ∧ (rnM mc mw mo ms x k).2.toInt ≤ 32767)
  | 0, _ => ⟨hs, hx⟩
  | k + 1, h => by
    have ih := rn_ok (mc := mc) (mw := mw) hs hx hO (k := k) (by omega)
    exact ⟨goM_isS ih.1 ih.2 (goY_rng _ _ _ _ _) (hO k h), goY_rng _ _ _ _ _⟩
theorem sStab_eq {mc : Nat → Int32} {J : Nat} : sStab (fun z9 => if z9 < 5 then mc (5 * J + z9) else 0) = mStab mc J := rfl
theorem tl_perm {X tl c : va_W} : ((X ++ tl) ++ c).Perm ((X ++ c) ++ tl) := by
  rw [List.append_assoc, List.append_assoc]
  exact List.Perm.append_left X List.perm_append_comm
theorem lastAt_first {mo : Nat → Int32} {x : Int32} {k : Nat} : ∀ {C}, k < C → mo k = x → (∀ i, i < C → mo i = x → i = k) → lastAt mo x C = nI k
  | 0, h, _, _ => absurd h (Nat.not_lt_zero k)
  | C + 1, h, e, hu => by
    unfold lastAt
    by_cases h1 : mo C = x
    · rw [if_pos h1, hu C (Nat.lt_succ_self C) h1]
    · rw [if_neg h1]
      have hk : k ≠ C := fun h9 => h1 (by rw [← h9]; exact e)
      exact lastAt_first (by omega) e (fun i hi => hu i (by omega))
theorem lastAt_none {mo : Nat → Int32} {x : Int32} : ∀ {C}, (∀ i, i < C → mo i ≠ x) → lastAt mo x C = -1
  | 0, _ => rfl
  | C + 1, h => by
    unfold lastAt
    rw [if_neg (h C (Nat.lt_succ_self C))]
    exact lastAt_none (fun i hi => h i (by omega))
theorem stM_stop {mc mo : Nat → Int32} {k : Nat} (h : stM mc mo k = 0) : ∀ j, stM mc mo (k + j) = 0
  | 0 => h
  | j + 1 => by rw [← Nat.add_assoc, stM_s, if_pos (stM_stop h j)]
theorem zN1 {mc : Nat → Int32} {J w : Nat} (hc : isC mc) (hw : w ≤ 2) (hJ : J < 8) : (vAt w (mc (5 * J + 0)).toInt64 (mc (5 * J + 1)).toInt64 (mc (5 * J + 2)).toInt64).toInt = zN w (mc (5 * J)).toInt (mc (5 * J + 1)).toInt (mc (5 * J + 2)).toInt := by
  rw [vAt_toInt hw (by rw [i32L]; exact hc _ (by omega)) (by rw [i32L]; exact hc _ (by omega)) (by rw [i32L]; exact hc _ (by omega)), i32L, i32L, i32L]; rfl
theorem zU1 {mc : Nat → Int32} {J w : Nat} (hc : isC mc) (hw : w ≤ 2) (hJ : J < 8) : (vAt w 64 (mc (5 * J + 3)).toInt64 (mc (5 * J + 4)).toInt64).toInt = zN w 64 (mc (5 * J + 3)).toInt (mc (5 * J + 4)).toInt := by
  rw [vAt_toInt hw ⟨by decide, by decide⟩ (by rw [i32L]; exact hc _ (by omega)) (by rw [i32L]; exact hc _ (by omega)), i32L, i32L]; rfl
theorem sc_add {A : Nat → Prop} {D : va_G} {cl : List vw_C} {X c2 : va_W} {S S' : Nat → va_W} {N : Nat} {H : Heap} (hP : va_P D cl ((X ++ c2) ++ scL S (List.range N)) H) (hD : va_D A ((X ++ c2) ++ scL S (List.range N))) (he : S' N = c2) (ho : ∀ i, i < N → S i = S' i) : va_P D cl (X ++ scL S' (List.range (N + 1))) H ∧ va_D A (X ++ scL S' (List.range (N + 1))) := by
  have e : scL S (List.range N) = scL S' (List.range N) := scL_congr (fun i hi => ho i (List.mem_range.mp hi))
  have hp : ((X ++ c2) ++ scL S (List.range N)).Perm (X ++ scL S' (List.range (N + 1))) := by
    rw [e, ← he, List.range_succ, List.append_assoc]
    refine List.Perm.append_left X ?_
    unfold scL
    rw [List.flatMap_append]
    refine List.perm_append_comm.trans (List.Perm.append_left _ ?_)
    rw [List.flatMap_cons, List.flatMap_nil, List.append_nil]
  exact ⟨hP.perm9 hp, hD.perm9 hp⟩
theorem scJ_set {cI : ClassId} {SA SB : Nat → Nat} {mc ms mw : Nat → Int32} {J i w : Nat} {v : Int32} (hw : w ≤ 4) (h : i ≠ J) : scJ cI SA SB mc ms mw i = scJ cI SA SB (upd mc (5 * J + w) v) ms mw i := by
  have e : (fun z9 => if z9 < 5 then mc (5 * i + z9) else 0 : Nat → Int32) = (fun z9 => if z9 < 5 then upd mc (5 * J + w) v (5 * i + z9) else 0) := by
    funext z
    by_cases hz : z < 5
    · rw [if_pos hz, if_pos hz]
      unfold upd
      rw [if_neg (by omega)]
    · rw [if_neg hz, if_neg hz]
  unfold scJ
  rw [e]
theorem scJ_setJ {cI : ClassId} {SA SB : Nat → Nat} {mc ms mw : Nat → Int32} {J w : Nat} {v : Int32} (hw : w ≤ 4) : scJ cI SA SB (upd mc (5 * J + w) v) ms mw J = [(SA J, .inr (5, [.int (nI J), .int (mw J), .ref (SB J), .int (ms (4 * J)), .int (ms (4 * J + 1)), .int (ms (4 * J + 2)), .int (ms (4 * J + 3))])), (SB J, .inl (cI, 5, .inl (upd (fun z9 => if z9 < 5 then mc (5 * J + z9) else 0) w v)))] := by
  have e : upd (fun z9 => if z9 < 5 then mc (5 * J + z9) else 0 : Nat → Int32) w v = (fun z9 => if z9 < 5 then upd mc (5 * J + w) v (5 * J + z9) else 0) := by
    funext z
    unfold upd
    by_cases hz : z = w
    · subst hz; rw [if_pos rfl, if_pos (by omega), if_pos rfl]
    · rw [if_neg hz]
      show (if z < 5 then mc (5 * J + z) else 0) = _
      by_cases h5 : z < 5
      · rw [if_pos h5, if_pos h5, if_neg (by omega)]
      · rw [if_neg h5, if_neg h5]
  unfold scJ
  rw [e]
theorem scJ_new {cI : ClassId} {SA SB : Nat → Nat} {mc ms mw : Nat → Int32} {N q b : Nat} {w : Int32} (hm : ∀ i, 5 * N ≤ i → mc i = 0) (hs : ∀ i, 4 * N ≤ i → ms i = 0) : scJ cI (fun i => if i = N then q else SA i) (fun i => if i = N then b else SB i) (upd mc (5 * N) 64) ms (upd mw N w) N = [(q, .inr (5, [.int (nI N), .int w, .ref b, .int 0, .int 0, .int 0, .int 0])), (b, .inl (cI, 5, .inl (upd (fun _ => 0) 0 64)))] := by
  have e : (fun z9 => if z9 < 5 then upd mc (5 * N) 64 (5 * N + z9) else 0 : Nat → Int32) = upd (fun _ => 0) 0 64 := by
    funext z
    unfold upd
    by_cases hz : z = 0
    · subst hz; rw [if_pos (by decide), if_pos (by omega), if_pos rfl]
    · rw [if_neg hz]
      by_cases h5 : z < 5
      · rw [if_pos h5, if_neg (by omega), hm _ (by omega)]
      · rw [if_neg h5]
  have e2 : upd mw N w N = w := if_pos rfl
  unfold scJ
  dsimp only
  rw [e, e2, hs _ (by omega), hs _ (by omega), hs _ (by omega), hs _ (by omega), if_pos rfl, if_pos rfl]
theorem scJ_newo {cI : ClassId} {SA SB : Nat → Nat} {mc ms mw : Nat → Int32} {N q b i : Nat} {w : Int32} (hi : i < N) : scJ cI SA SB mc ms mw i = scJ cI (fun i => if i = N then q else SA i) (fun i => if i = N then b else SB i) (upd mc (5 * N) 64) ms (upd mw N w) i := by
  have e : (fun z9 => if z9 < 5 then mc (5 * i + z9) else 0 : Nat → Int32) = (fun z9 => if z9 < 5 then upd mc (5 * N) 64 (5 * i + z9) else 0) := by
    funext z
    by_cases hz : z < 5
    · rw [if_pos hz, if_pos hz]
      unfold upd
      rw [if_neg (by omega)]
    · rw [if_neg hz, if_neg hz]
  have e2 : upd mw N w i = mw i := if_neg (by omega)
  unfold scJ
  dsimp only
  rw [e, e2, if_neg (by omega), if_neg (by omega)]
