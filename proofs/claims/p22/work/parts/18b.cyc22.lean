/-! cycles, as the law finds them: each start by two walkers, cycles told apart by their least states -/
section CYC
variable {nx : Nat → Option Nat}
/-- the way leaves -/
def lvS (nx : Nat → Option Nat) (q : Nat) : Prop := ∃ n, tr nx q n = none
/-- L is the least state of the cycle to which q comes -/
def cyL (nx : Nat → Option Nat) (q L : Nat) : Prop := (∃ k, tr nx q k = some L) ∧ (∃ p, 0 < p ∧ tr nx L p = some L) ∧ ∀ k y, tr nx L k = some y → L ≤ y
theorem tr_none {st n : Nat} (h : tr nx st n = none) : ∀ k, tr nx st (n + k) = none
  | 0 => h
  | k + 1 => by
    show (tr nx st (n + k)).bind nx = none
    rw [tr_none h k]; rfl
theorem tr_mul {a p : Nat} (h : tr nx a p = some a) : ∀ k, tr nx a (p * k) = some a
  | 0 => rfl
  | k + 1 => by
    rw [Nat.mul_succ, tr_add (tr_mul h k)]; exact h
theorem tr_mod {a p : Nat} (h : tr nx a p = some a) (k : Nat) : tr nx a k = tr nx a (k % p) := by
  conv => lhs; rw [← Nat.div_add_mod k p]
  rw [tr_add (tr_mul h (k / p))]
theorem per_some {a p : Nat} (hp : 0 < p) (h : tr nx a p = some a) (k : Nat) : ∃ y, tr nx a k = some y := by
  cases hk : tr nx a k with
  | some y => exact ⟨y, rfl⟩
  | none =>
    have h1 := tr_none hk (p * (k + 1) - k)
    have h2 : k + 1 ≤ p * (k + 1) := Nat.le_mul_of_pos_left _ hp
    rw [show k + (p * (k + 1) - k) = p * (k + 1) by omega, tr_mul h] at h1
    cases h1
/-- back to where a periodic way began -/
theorem per_back {a p k b : Nat} (hp : 0 < p) (h : tr nx a p = some a) (hb : tr nx a k = some b) : ∃ j, tr nx b j = some a := by
  refine ⟨p * (k + 1) - k, ?_⟩
  have h2 : k + 1 ≤ p * (k + 1) := Nat.le_mul_of_pos_left _ hp
  have h1 := tr_add hb (p * (k + 1) - k)
  rw [show k + (p * (k + 1) - k) = p * (k + 1) by omega, tr_mul h] at h1
  exact h1.symm
/-- every state of a cycle has its period -/
theorem per_all {a p k b : Nat} (h : tr nx a p = some a) (hb : tr nx a k = some b) : tr nx b p = some b := by
  rw [← tr_add hb p, Nat.add_comm, tr_add h k]; exact hb
theorem cyL_one {q L1 L2 : Nat} (h1 : cyL nx q L1) (h2 : cyL nx q L2) : L1 = L2 := by
  have key : ∀ {L1 L2 : Nat}, cyL nx q L1 → cyL nx q L2 → L1 ≤ L2 := by
    intro L1 L2 ⟨⟨k1, a1⟩, ⟨p1, a2, a3⟩, a4⟩ ⟨⟨k2, b1⟩, ⟨p2, b2, b3⟩, b4⟩
    by_cases hk : k1 ≤ k2
    · have := tr_add a1 (k2 - k1)
      rw [show k1 + (k2 - k1) = k2 by omega, b1] at this
      exact a4 _ _ this.symm
    · have := tr_add b1 (k1 - k2)
      rw [show k2 + (k1 - k2) = k1 by omega, a1] at this
      obtain ⟨j, hj⟩ := per_back b2 b3 this.symm
      exact a4 _ _ hj
  exact Nat.le_antisymm (key h1 h2) (key h2 h1)
theorem cyL_nlv {q L : Nat} (h : cyL nx q L) : ¬ lvS nx q := by
  rintro ⟨n, hn⟩
  obtain ⟨⟨k, a1⟩, ⟨p, a2, a3⟩, -⟩ := h
  obtain ⟨y, hy⟩ := per_some a2 a3 n
  have h1 := tr_none hn k
  rw [Nat.add_comm, tr_add a1 n, hy] at h1
  cases h1
theorem lvS_at {q a k : Nat} (h : tr nx q k = some a) : lvS nx q ↔ lvS nx a := by
  constructor
  · rintro ⟨n, hn⟩
    refine ⟨n, ?_⟩
    rw [← tr_add h n, Nat.add_comm]; exact tr_none hn k
  · rintro ⟨n, hn⟩
    exact ⟨k + n, by rw [tr_add h n]; exact hn⟩
theorem cyL_at {q a k L : Nat} (h : tr nx q k = some a) (hL : cyL nx a L) : cyL nx q L := by
  obtain ⟨⟨j, a1⟩, a2⟩ := hL
  exact ⟨⟨k + j, by rw [tr_add h j]; exact a1⟩, a2⟩
theorem cyL_in {a L p : Nat} (hp : 0 < p) (h : tr nx a p = some a) (hL : cyL nx a L) : ∃ j, tr nx L j = some a := by
  obtain ⟨⟨k, a1⟩, -⟩ := hL
  exact per_back hp h a1
theorem cyL_self {q L : Nat} (h : cyL nx q L) : cyL nx L L := ⟨⟨0, rfl⟩, h.2⟩
/-- the still state's cycle -/
theorem cyL_still (hx : nx 20200 = some 20200) {q : Nat} : cyL nx q 20200 ↔ ∃ k, tr nx q k = some 20200 := by
  have h1 : ∀ k, tr nx 20200 k = some 20200 := by
    intro k
    induction k with
    | zero => rfl
    | succ k ih => show (tr nx 20200 k).bind nx = _; rw [ih]; exact hx
  constructor
  · exact fun h => h.1
  · exact fun h => ⟨h, ⟨1, by decide, h1 1⟩, fun k y hy => by rw [h1 k] at hy; cases hy; exact Nat.le_refl _⟩
theorem cyL_stillE (hx : nx 20200 = some 20200) {q L : Nat} (h : cyL nx q L) (hk : ∃ k, tr nx q k = some 20200) : L = 20200 := cyL_one h ((cyL_still hx).mpr hk)
/-! the two walkers meet, or one leaves -/
theorem floyd_bd (hlt : ∀ q t, q < 40401 → nx q = some t → t < 40401) {q : Nat} (hq : q < 40401) : ∃ B, ∀ i, (∀ j, 1 ≤ j → j ≤ i → tr nx q (2 * j) ≠ none ∧ tr nx q j ≠ tr nx q (2 * j)) → i ≤ B := by
  by_cases hl : lvS nx q
  · obtain ⟨n, hn⟩ := hl
    refine ⟨n, fun i hi => Classical.byContradiction fun h => ?_⟩
    have h1 := (hi i (by omega) (Nat.le_refl i)).1
    have h2 := tr_none hn (2 * i - n)
    rw [show n + (2 * i - n) = 2 * i by omega] at h2
    exact h1 h2
  · have hs : ∀ k, ∃ y, tr nx q k = some y := fun k => by
      cases hk : tr nx q k with
      | some y => exact ⟨y, rfl⟩
      | none => exact (hl ⟨k, hk⟩).elim
    have hex : ∃ a b, a < b ∧ tr nx q a = tr nx q b := by
      refine Classical.byContradiction fun hno => ?_
      have := fb_holes 40401 40402 (tv nx q) (fun i _ => by obtain ⟨y, hy⟩ := hs i; rw [tv_of hy]; exact tr_lt hlt hq i y hy) (fun i j hij _ e => by
        obtain ⟨y, hy⟩ := hs i
        obtain ⟨z, hz⟩ := hs j
        rw [tv_of hy, tv_of hz] at e
        exact hno ⟨i, j, hij, by rw [hy, hz, e]⟩)
      omega
    obtain ⟨a, b, hab, he⟩ := hex
    obtain ⟨x, hxa⟩ := hs a
    have hper : tr nx x (b - a) = some x := by
      have := tr_add hxa (b - a)
      rw [show a + (b - a) = b by omega, ← he, hxa] at this
      exact this.symm
    refine ⟨(b - a) * (a + 1), fun i hi => Classical.byContradiction fun h => ?_⟩
    have hge : a + 1 ≤ (b - a) * (a + 1) := Nat.le_mul_of_pos_left _ (by omega)
    refine (hi ((b - a) * (a + 1)) (by omega) (by omega)).2 ?_
    have e1 := tr_add hxa ((b - a) * (a + 1) - a)
    rw [show a + ((b - a) * (a + 1) - a) = (b - a) * (a + 1) by omega] at e1
    have e2 := tr_add hxa (2 * ((b - a) * (a + 1)) - a)
    rw [show a + (2 * ((b - a) * (a + 1)) - a) = 2 * ((b - a) * (a + 1)) by omega] at e2
    rw [e1, e2, show 2 * ((b - a) * (a + 1)) - a = (b - a) * (a + 1) + ((b - a) * (a + 1) - a) by omega, tr_add (tr_mul hper (a + 1))]
/-- the least of the states a, and those behind it as far as j -/
def mnx (nx : Nat → Option Nat) (a : Nat) : Nat → Nat
  | 0 => a
  | j + 1 => if tv nx a (j + 1) < mnx nx a j then tv nx a (j + 1) else mnx nx a j
theorem mnx_le {a : Nat} : ∀ {j k}, k ≤ j → mnx nx a j ≤ tv nx a k
  | 0, k, h => by
    obtain rfl : k = 0 := by omega
    exact Nat.le_refl _
  | j + 1, k, h => by
    unfold mnx
    by_cases e : k = j + 1
    · subst e; split <;> omega
    · have := mnx_le (a := a) (j := j) (k := k) (by omega)
      split <;> omega
theorem mnx_in {a : Nat} : ∀ {j}, ∃ k, k ≤ j ∧ mnx nx a j = tv nx a k
  | 0 => ⟨0, Nat.le_refl 0, rfl⟩
  | j + 1 => by
    unfold mnx
    by_cases h : tv nx a (j + 1) < mnx nx a j
    · rw [if_pos h]; exact ⟨j + 1, Nat.le_refl _, rfl⟩
    · rw [if_neg h]
      obtain ⟨k, h1, h2⟩ := mnx_in (a := a) (j := j)
      exact ⟨k, by omega, h2⟩
/-- .. all round the cycle -/
theorem mnx_cyL {q a i j : Nat} (h1 : tr nx q i = some a) (h2 : tr nx a (j + 1) = some a) : cyL nx q (mnx nx a j) := by
  obtain ⟨k, hk, e⟩ := mnx_in (nx := nx) (a := a) (j := j)
  obtain ⟨y, hy⟩ := per_some (Nat.succ_pos j) h2 k
  have ey := tv_of hy
  have eL : mnx nx a j = y := e.trans ey
  refine cyL_at h1 ⟨⟨k, by rw [eL]; exact hy⟩, ⟨j + 1, Nat.succ_pos j, by rw [eL]; exact per_all h2 hy⟩, fun z w hw => ?_⟩
  rw [eL, ← tr_add hy z, tr_mod h2] at hw
  have hm : (k + z) % (j + 1) < j + 1 := Nat.mod_lt _ (Nat.succ_pos j)
  rw [← tv_of hw]
  exact mnx_le (by omega)
/-! a cycle's length and its greatest number, from whichever of its states -/
/-- p is the length of a's cycle -/
def perM (nx : Nat → Option Nat) (a p : Nat) : Prop := 0 < p ∧ tr nx a p = some a ∧ ∀ k, 0 < k → k < p → tr nx a k ≠ some a
theorem perM_at {a p k b : Nat} (h : perM nx a p) (hb : tr nx a k = some b) : perM nx b p := by
  refine ⟨h.1, per_all h.2.1 hb, fun j hj0 hj he => ?_⟩
  obtain ⟨z, hz⟩ := per_back h.1 h.2.1 hb
  exact h.2.2 j hj0 hj (per_all he hz)
theorem perM_one {a p p' : Nat} (h : perM nx a p) (h' : perM nx a p') : p = p' := by
  rcases Nat.lt_trichotomy p p' with h1 | h1 | h1
  · exact absurd h.2.1 (h'.2.2 p h.1 h1)
  · exact h1
  · exact absurd h'.2.1 (h.2.2 p' h'.1 h1)
theorem gmx_le_iff {st g i M : Nat} : ∀ {k}, gmx nx st g i k ≤ M ↔ g ≤ M ∧ ∀ j, j < k → ayq (tv nx st (i + j) / 201) ≤ M
  | 0 => ⟨fun h => ⟨h, fun j hj => absurd hj (Nat.not_lt_zero j)⟩, fun h => h.1⟩
  | k + 1 => by
    rw [gmx_s]
    have ih := gmx_le_iff (st := st) (g := g) (i := i) (M := M) (k := k)
    constructor
    · intro h
      have h1 := ih.mp (by omega)
      refine ⟨h1.1, fun j hj => ?_⟩
      by_cases e : j = k
      · subst e; omega
      · exact h1.2 j (by omega)
    · rintro ⟨h1, h2⟩
      have h3 := ih.mpr ⟨h1, fun j hj => h2 j (by omega)⟩
      have h4 := h2 k (by omega)
      omega
theorem gmx_cyc {st g i a L p : Nat} (ha : tr nx st i = some a) (hp : perM nx a p) (hL : ∃ k, tr nx a k = some L) : gmx nx st g i p = gmx nx L g 0 p := by
  obtain ⟨k, hk⟩ := hL
  have hpL := perM_at hp hk
  obtain ⟨z, hz⟩ := per_back hp.1 hp.2.1 hk
  have e1 : ∀ j, tv nx st (i + j) = tv nx a j := fun j => by unfold tv; rw [tr_add ha j]
  have e2 : ∀ j, tv nx L j = tv nx a ((k + j) % p) := fun j => by unfold tv; rw [← tr_add hk j, tr_mod hp.2.1]
  have e3 : ∀ j, tv nx a j = tv nx L ((z + j) % p) := fun j => by unfold tv; rw [← tr_add hz j, tr_mod hpL.2.1]
  have key : ∀ M, gmx nx st g i p ≤ M ↔ gmx nx L g 0 p ≤ M := by
    intro M
    rw [gmx_le_iff, gmx_le_iff]
    constructor
    · rintro ⟨h1, h2⟩
      refine ⟨h1, fun j hj => ?_⟩
      have := h2 ((k + j) % p) (Nat.mod_lt _ hp.1)
      rw [e1] at this
      rw [Nat.zero_add, e2]; exact this
    · rintro ⟨h1, h2⟩
      refine ⟨h1, fun j hj => ?_⟩
      have := h2 ((z + j) % p) (Nat.mod_lt _ hp.1)
      rw [Nat.zero_add] at this
      rw [e1, e3]; exact this
  exact Nat.le_antisymm ((key _).mpr (Nat.le_refl _)) ((key _).mp (Nat.le_refl _))
/-! the class's run over the starts, and the law's: the marks tell what the ways come to -/
/-- the marks are true, and whatever is behind a marked state is marked; S: the least states of the cycles that were counted -/
def mkO (nx : Nat → Option Nat) (A : Nat → Nat) (S : Nat → Prop) : Prop :=
  (∀ q, A q ≠ 0 → (A q = 3 ∧ lvS nx q) ∨ (A q = 2 ∧ ∃ L, cyL nx q L ∧ (L = 20200 ∨ S L))) ∧ (∀ q t, A q ≠ 0 → nx q = some t → A t ≠ 0) ∧ ∀ L, S L → A L ≠ 0
theorem mkO_0 : mkO nx (fun _ => 0) (fun _ => False) := ⟨fun q h => absurd rfl h, fun q t h => absurd rfl h, fun L h => h.elim⟩
theorem mkO_tr {A : Nat → Nat} {S : Nat → Prop} (h : mkO nx A S) {q : Nat} (hq : A q ≠ 0) : ∀ {k a}, tr nx q k = some a → A a ≠ 0
  | 0, a, e => by cases e; exact hq
  | k + 1, a, e => by
    cases hk : tr nx q k with
    | none =>
      unfold tr at e; rw [hk] at e; cases e
    | some b =>
      rw [tr_s hk] at e
      exact h.2.1 b a (mkO_tr h hq hk) e
/-- what a walked start comes to: nothing new, or a cycle -/
theorem walk_end (hx : nx 20200 = some 20200) {A : Nat → Nat} {S : Nat → Prop} (h : mkO nx A S) {s c l g c' l' g' : Nat} {A' : Nat → Nat} (hw : wrel nx s A c l g A' c' l' g') :
    (lvS nx s ∧ A' s = 3 ∧ mkO nx A' S ∧ c' = c ∧ l' = l ∧ g' = g) ∨
    (∃ L, cyL nx s L ∧ (L = 20200 ∨ S L) ∧ A' s ≠ 3 ∧ mkO nx A' S ∧ c' = c ∧ l' = l ∧ g' = g) ∨
    (∀ L, cyL nx s L → L ≠ 20200 ∧ ¬ S L ∧ A' s ≠ 3 ∧ mkO nx A' (fun z => z = L ∨ S z) ∧ c' = c + 1 ∧ ∀ p, perM nx L p → l' = max l p ∧ g' = gmx nx L g 0 p) ∧ ¬ lvS nx s := by
  obtain ⟨n, ⟨hn, hst⟩, rfl, hq1, hq2⟩ := hw
  have hin : ∀ d q, (∃ k, k < n ∧ tv nx s k = q) → amk nx s A d n q = d := fun d q hq => amk_in hq
  have hout : ∀ d q, (¬ ∃ k, k < n ∧ tv nx s k = q) → amk nx s A d n q = A q := fun d q hq => amk_out (fun k hk e => hq ⟨k, hk, e⟩)
  have hs0 : tv nx s 0 = s := rfl
  -- the marks behind the walk stay true and closed
  have hmk : ∀ d (S' : Nat → Prop), (∀ L, S L → S' L) → d ≠ 0 → (∀ q k, k < n → tv nx s k = q → (d = 3 ∧ lvS nx q) ∨ (d = 2 ∧ ∃ L, cyL nx q L ∧ (L = 20200 ∨ S' L))) → (∀ a, tr nx s n = some a → (∃ k, k < n ∧ tv nx s k = a) ∨ A a ≠ 0) → (∀ L, S' L → S L ∨ ∃ k, k < n ∧ tv nx s k = L) → mkO nx (amk nx s A d n) S' := by
    intro d S' hSS hd hd2 hend hS'
    refine ⟨fun q hq => ?_, fun q t hq ht => ?_, fun L hL => ?_⟩
    · by_cases hk : ∃ k, k < n ∧ tv nx s k = q
      · rw [hin d q hk]
        obtain ⟨k, hk1, hk2⟩ := hk
        exact hd2 q k hk1 hk2
      · rw [hout d q hk] at hq ⊢
        rcases h.1 q hq with h1 | ⟨h1, L, h2, h3⟩
        · exact Or.inl h1
        · exact Or.inr ⟨h1, L, h2, h3.imp id (hSS L)⟩
    · by_cases hk : ∃ k, k < n ∧ tv nx s k = t
      · rw [hin d t hk]; exact hd
      · rw [hout d t hk]
        by_cases hk2 : ∃ k, k < n ∧ tv nx s k = q
        · obtain ⟨k, hk3, hk4⟩ := hk2
          have e1 := (hn.1 k hk3).1
          rw [hk4] at e1
          have e2 := tr_s e1
          rw [ht] at e2
          by_cases e : k + 1 < n
          · exact absurd ⟨k + 1, e, tv_of e2⟩ hk
          · have : k + 1 = n := by omega
            rw [this] at e2
            rcases hend t e2 with h9 | h9
            · exact absurd h9 hk
            · exact h9
        · rw [hout d q hk2] at hq
          exact h.2.1 q t hq ht
    · rcases hS' L hL with h1 | h1
      · by_cases hk : ∃ k, k < n ∧ tv nx s k = L
        · rw [hin d L hk]; exact hd
        · rw [hout d L hk]; exact h.2.2 L h1
      · rw [hin d L h1]; exact hd
  have hAs : ∀ d, 0 < n → amk nx s A d n s = d := fun d h0 => hin d s ⟨0, h0, hs0⟩
  have hat : ∀ q k, k < n → tv nx s k = q → tr nx s k = some q := fun q k hk e => by rw [← e]; exact (hn.1 k hk).1
  have hrest : ∀ q k a, k < n → tv nx s k = q → tr nx s n = some a → tr nx q (n - k) = some a := by
    intro q k a hk e ha
    have := tr_add (hat q k hk e) (n - k)
    rw [show k + (n - k) = n by omega, ha] at this
    exact this.symm
  cases hend : tr nx s n with
  | none =>
    have h0 : 0 < n := by
      rcases Nat.eq_zero_or_pos n with e | e
      · subst e; cases hend
      · exact e
    have hkd : kd nx A s n = 3 := by unfold kd; rw [hend]
    obtain ⟨b1, b2, b3⟩ := hq2 (fun i hi e => by rw [hend] at e; cases e)
    refine Or.inl ⟨⟨n, hend⟩, by rw [hkd, hAs 3 h0], ?_, b1, b2, b3⟩
    rw [hkd]
    refine hmk 3 S (fun L hL => hL) (by decide) (fun q k hk e => Or.inl ⟨rfl, ?_⟩) (fun a ha => by rw [hend] at ha; cases ha) (fun L hL => Or.inl hL)
    exact (lvS_at (hat q k hk e)).mp ⟨n, hend⟩
  | some a =>
    by_cases hA : A a = 0
    · -- a new cycle
      obtain ⟨i, hi, hia⟩ : ∃ i, i < n ∧ tv nx s i = a := by
        rcases hst a hend with h1 | h1
        · exact absurd hA h1
        · exact h1
      have h0 : 0 < n := by omega
      have hkd : kd nx A s n = 2 := by unfold kd; rw [hend]; exact if_pos hA
      have hper : tr nx a (n - i) = some a := hrest a i a hi hia hend
      have hpm : perM nx a (n - i) := by
        refine ⟨by omega, hper, fun k hk0 hk he => ?_⟩
        have e1 := tr_add (hat a i hi hia) k
        rw [he] at e1
        exact hn.2 i (i + k) (by omega) (by omega) (by rw [hia, tv_of e1])
      have hnl : ¬ lvS nx s := by
        intro hl
        obtain ⟨m, hm⟩ := (lvS_at (hat a i hi hia)).mp hl
        obtain ⟨y, hy⟩ := per_some hpm.1 hper m
        rw [hm] at hy; cases hy
      by_cases hs : a = 20200
      · -- the still one
        obtain ⟨b1, b2, b3⟩ := hq2 (fun j hj e => by rw [hend] at e; exact (Option.some.inj e).symm.trans hs)
        refine Or.inr (Or.inl ⟨20200, (cyL_still hx).mpr ⟨n, by rw [hend, hs]⟩, Or.inl rfl, by rw [hkd, hAs 2 h0]; decide, ?_, b1, b2, b3⟩)
        rw [hkd]
        refine hmk 2 S (fun L hL => hL) (by decide) (fun q k hk e => Or.inr ⟨rfl, 20200, (cyL_still hx).mpr ⟨n - k, by rw [hrest q k a hk e hend, hs]⟩, Or.inl rfl⟩) (fun z hz => Or.inl ⟨i, hi, by rw [hend] at hz; cases hz; exact hia⟩) (fun L hL => Or.inl hL)
      · obtain ⟨b1, b2, b3⟩ := hq1 i hi (by rw [hend, hia]) (by rw [hia]; exact hs)
        refine Or.inr (Or.inr ⟨fun L hL => ?_, hnl⟩)
        have hLa : ∃ k, tr nx a k = some L := by
          obtain ⟨⟨k, hk⟩, ⟨p, hp0, hp⟩, -⟩ := id hL
          -- s at n is a, and L is on the same cycle
          by_cases hkn : n ≤ k
          · have := tr_add hend (k - n)
            rw [show n + (k - n) = k by omega, hk] at this
            exact ⟨k - n, this.symm⟩
          · have e1 := tr_add hk (n - k)
            rw [show k + (n - k) = n by omega, hend] at e1
            exact per_back hp0 hp e1.symm
        obtain ⟨kL, hkL⟩ := hLa
        have hway : ∃ k, k < n ∧ tv nx s k = L := by
          have hm := Nat.mod_lt kL hpm.1
          rw [tr_mod hper] at hkL
          have e1 := tr_add (hat a i hi hia) (kL % (n - i))
          rw [hkL] at e1
          exact ⟨i + kL % (n - i), by omega, tv_of e1⟩
        have hAL : A L = 0 := by obtain ⟨k, hk, e⟩ := hway; rw [← e]; exact (hn.1 k hk).2
        have hLs : L ≠ 20200 := by
          intro e
          obtain ⟨j, hj⟩ := per_back hpm.1 hper hkL
          have h1 : ∀ k, tr nx 20200 k = some 20200 := fun k => by
            induction k with
            | zero => rfl
            | succ k ih => show (tr nx 20200 k).bind nx = _; rw [ih]; exact hx
          rw [e, h1 j] at hj
          exact hs (Option.some.inj hj).symm
        refine ⟨hLs, fun hS => h.2.2 L hS hAL, by rw [hkd, hAs 2 h0]; decide, ?_, b1, fun p hp => ?_⟩
        · rw [hkd]
          refine hmk 2 (fun z => z = L ∨ S z) (fun z hz => Or.inr hz) (by decide) (fun q k hk e => Or.inr ⟨rfl, L, ?_, Or.inr (Or.inl rfl)⟩) (fun z hz => Or.inl ⟨i, hi, by rw [hend] at hz; cases hz; exact hia⟩) (fun z hz => hz.elim (fun e => Or.inr (by rw [e]; exact hway)) Or.inl)
          exact cyL_at (hrest q k a hk e hend) ⟨⟨kL, hkL⟩, hL.2⟩
        · have hpL := perM_at hpm hkL
          obtain rfl := perM_one hp hpL
          exact ⟨b2, b3.trans (gmx_cyc (hat a i hi hia) hpm ⟨kL, hkL⟩)⟩
    · -- it comes to what is known
      have hno : ∀ i, i < n → tv nx s i ≠ a := fun i hi e => hA (by rw [← e]; exact (hn.1 i hi).2)
      obtain ⟨b1, b2, b3⟩ := hq2 (fun i hi e => by rw [hend] at e; exact absurd (Option.some.inj e).symm (hno i hi))
      have hkd : kd nx A s n = A a := by unfold kd; rw [hend]; exact if_neg hA
      have hAs2 : amk nx s A (A a) n s = A a := by
        rcases Nat.eq_zero_or_pos n with e | e
        · subst e; cases hend; rfl
        · exact hAs _ e
      have hcl : ∀ (S' : Nat → Prop), (∀ q k, k < n → tv nx s k = q → (A a = 3 ∧ lvS nx q) ∨ (A a = 2 ∧ ∃ L, cyL nx q L ∧ (L = 20200 ∨ S L))) → mkO nx (amk nx s A (A a) n) S := fun _ h9 => hmk (A a) S (fun L hL => hL) hA h9 (fun z hz => by rw [hend] at hz; cases hz; exact Or.inr hA) (fun L hL => Or.inl hL)
      rcases h.1 a hA with ⟨h1, h2⟩ | ⟨h1, L, h2, h3⟩
      · refine Or.inl ⟨(lvS_at hend).mpr h2, by rw [hkd, hAs2, h1], ?_, b1, b2, b3⟩
        rw [hkd]
        exact hcl S (fun q k hk e => Or.inl ⟨h1, (lvS_at (hrest q k a hk e hend)).mpr h2⟩)
      · refine Or.inr (Or.inl ⟨L, cyL_at hend h2, h3, by rw [hkd, hAs2, h1]; decide, ?_, b1, b2, b3⟩)
        rw [hkd]
        exact hcl S (fun q k hk e => Or.inr ⟨h1, L, cyL_at (hrest q k a hk e hend) h2, h3⟩)
end CYC
section CYC2
variable {nx : Nat → Option Nat}
theorem mkO_00 {S : Nat → Prop} (hS : ∀ L, ¬ S L) : mkO nx (fun _ => 0) S := ⟨fun q h => absurd rfl h, fun q t h => absurd rfl h, fun L h => (hS L h).elim⟩
theorem mkO_congr {A : Nat → Nat} {S S' : Nat → Prop} (h : mkO nx A S) (e : ∀ z, S z ↔ S' z) : mkO nx A S' :=
  ⟨fun q hq => (h.1 q hq).imp id (fun ⟨a, L, b, c⟩ => ⟨a, L, b, c.imp id (e L).mp⟩), h.2.1, fun L hL => h.2.2 L ((e L).mpr hL)⟩
theorem stp_lv (hx : nx 20200 = some 20200) {A : Nat → Nat} {S : Nat → Prop} (h : mkO nx A S) {s c l g c' l' g' : Nat} {A' : Nat → Nat} (hw : wrel nx s A c l g A' c' l' g') (hl : lvS nx s) : A' s = 3 ∧ mkO nx A' S ∧ c' = c ∧ l' = l ∧ g' = g := by
  rcases walk_end hx h hw with h1 | ⟨L, h1, _⟩ | h1
  · exact h1.2
  · exact (cyL_nlv h1 hl).elim
  · exact (h1.2 hl).elim
theorem stp_old (hx : nx 20200 = some 20200) {A : Nat → Nat} {S : Nat → Prop} (h : mkO nx A S) {s c l g c' l' g' : Nat} {A' : Nat → Nat} (hw : wrel nx s A c l g A' c' l' g') {L : Nat} (hL : cyL nx s L) (hS : L = 20200 ∨ S L) : A' s ≠ 3 ∧ mkO nx A' S ∧ c' = c ∧ l' = l ∧ g' = g := by
  rcases walk_end hx h hw with h1 | ⟨L2, h1, h2, h3⟩ | h1
  · exact (cyL_nlv hL h1.1).elim
  · exact h3
  · obtain ⟨h2, h3, _⟩ := h1.1 L hL
    rcases hS with h9 | h9
    · exact (h2 h9).elim
    · exact (h3 h9).elim
theorem stp_new (hx : nx 20200 = some 20200) {A : Nat → Nat} {S : Nat → Prop} (h : mkO nx A S) {s c l g c' l' g' : Nat} {A' : Nat → Nat} (hw : wrel nx s A c l g A' c' l' g') {L p : Nat} (hL : cyL nx s L) (hn : L ≠ 20200) (hS : ¬ S L) (hp : perM nx L p) : A' s ≠ 3 ∧ mkO nx A' (fun z => z = L ∨ S z) ∧ c' = c + 1 ∧ l' = max l p ∧ g' = gmx nx L g 0 p := by
  rcases walk_end hx h hw with h1 | ⟨L2, h1, h2, h3⟩ | h1
  · exact (cyL_nlv hL h1.1).elim
  · obtain rfl := cyL_one hL h1
    rcases h2 with h9 | h9
    · exact (hn h9).elim
    · exact (hS h9).elim
  · obtain ⟨_, _, h4, h5, h6, h7⟩ := h1.1 L hL
    exact ⟨h4, h5, h6, h7 p hp⟩
theorem perM_ex {a : Nat} : ∀ p, 0 < p → tr nx a p = some a → ∃ p', perM nx a p' := by
  intro p
  induction p using Nat.strongRecOn with
  | ind p ih =>
    intro hp h
    by_cases hk : ∃ k, 0 < k ∧ k < p ∧ tr nx a k = some a
    · obtain ⟨k, h0, h1, h2⟩ := hk
      exact ih k h1 h0 h2
    · exact ⟨p, hp, h, fun k h0 h1 h2 => hk ⟨k, h0, h1, h2⟩⟩
theorem perM_le (hX : ∀ q t, q < 40401 → nx q = some t → t < 40401) {a p : Nat} (ha : a < 40401) (h : perM nx a p) : p ≤ 40401 := by
  have hs : ∀ k, tr nx a k = some (tv nx a k) := fun k => by obtain ⟨y, hy⟩ := per_some h.1 h.2.1 k; rw [hy, tv_of hy]
  refine fb_holes 40401 p (tv nx a) (fun i _ => tr_lt hX ha i _ (hs i)) (fun i j hij hj e => ?_)
  have e1 := tr_add (hs i) (p - j)
  have e2 := tr_add (hs j) (p - j)
  rw [← e, show j + (p - j) = p by omega, h.2.1] at e2
  rw [← e2] at e1
  exact h.2.2 (i + (p - j)) (by omega) (by omega) e1
end CYC2
