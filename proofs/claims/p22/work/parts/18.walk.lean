/-! the states of a section without input, as both sides walk them: a state is y1 + 100, by 201, and y2 + 100 -/
theorem fb_holes : ∀ (m n : Nat) (f : Nat → Nat), (∀ i, i < n → f i < m) → (∀ i j, i < j → j < n → f i ≠ f j) → n ≤ m := by
  intro m
  induction m with
  | zero =>
    intro n f h _
    cases n with
    | zero => exact Nat.le_refl 0
    | succ n => exact absurd (h 0 (Nat.succ_pos n)) (Nat.not_lt_zero _)
  | succ m ih =>
    intro n f h hd
    by_cases hx : ∃ i, i < n ∧ f i = m
    · obtain ⟨i, hi, hfi⟩ := hx
      have := ih (n - 1) (fun k => if k < i then f k else f (k + 1)) (fun k hk => by
        by_cases hki : k < i
        · simp only [hki, if_true]
          have h1 := h k (by omega)
          have h2 := hd k i hki hi
          omega
        · simp only [hki, if_false]
          have h1 := h (k + 1) (by omega)
          have h2 := hd i (k + 1) (by omega) (by omega)
          omega) (fun a b hab hb => by
        by_cases ha : a < i
        · by_cases hbi : b < i
          · simp only [ha, hbi, if_true]; exact hd a b hab (by omega)
          · simp only [ha, hbi, if_true, if_false]; exact hd a (b + 1) (by omega) (by omega)
        · have hbi : ¬ b < i := by omega
          simp only [ha, hbi, if_false]; exact hd (a + 1) (b + 1) (by omega) (by omega))
      omega
    · exact Nat.le_trans (ih n f (fun i hi => by
        have h1 := h i hi
        have h2 : f i ≠ m := fun h9 => hx ⟨i, hi, h9⟩
        omega) hd) (Nat.le_succ m)
/-- what a section's output is at a state -/
def nyI (mc mw : Nat → Int32) (J q : Nat) : Int32 := mRnd (-mc (5 * J + 3) * (nI (q / 201) - 100) - mc (5 * J + 4) * (nI (q % 201) - 100)) (mw J)
def nxO (mc mw : Nat → Int32) (J q : Nat) : Option Nat := if isIn (nyI mc mw J q) (-100) 100 = 0 then none else some (201 * gN (nyI mc mw J q + 100) + q / 201)
def oI : Option Nat → Int32
  | none => -1
  | some n => nI n
theorem isIn_100 {y : Int32} (h : ¬ isIn y (-100) 100 = 0) : ∃ q : Nat, q ≤ 200 ∧ y + 100 = nI q := by
  obtain ⟨h1, h2⟩ := isIn_get h
  have e1 := Int32.le_iff_toInt_le.mp h1
  have e2 := Int32.le_iff_toInt_le.mp h2
  have k1 : (-100 : Int32).toInt = -100 := by decide
  have k2 : (100 : Int32).toInt = 100 := by decide
  rw [k1] at e1
  rw [k2] at e2
  have e3 : (y + 100).toInt = y.toInt + 100 := by rw [fb_addI (by rw [k2]; omega) (by rw [k2]; omega), k2]
  have h3 : ¬ (y + 100) < 0 := fun h9 => by
    have := Int32.lt_iff_toInt_lt.mp h9
    have k0 : (0 : Int32).toInt = 0 := by decide
    omega
  obtain ⟨q, hq, e⟩ := nI_of h3
  refine ⟨q, ?_, e⟩
  rw [e, nI_toInt hq] at e3
  omega
theorem nxO_lt {mc mw : Nat → Int32} {J q t : Nat} (hq : q < 40401) (h : nxO mc mw J q = some t) : t < 40401 := by
  unfold nxO at h
  by_cases h1 : isIn (nyI mc mw J q) (-100) 100 = 0
  · rw [if_pos h1] at h; cases h
  · rw [if_neg h1] at h
    obtain ⟨z, hz, e⟩ := isIn_100 h1
    rw [e, gN_nI (by omega)] at h
    cases h
    omega
theorem nxO_still (mc mw : Nat → Int32) (J : Nat) : nxO mc mw J 20200 = some 20200 := by
  have e0 : (nI (20200 / 201) - 100 : Int32) = 0 := by decide
  have e1 : (nI (20200 % 201) - 100 : Int32) = 0 := by decide
  have hy : nyI mc mw J 20200 = 0 := by
    unfold nyI
    rw [e0, Int32.mul_zero, Int32.mul_zero, Int32.sub_self]
    unfold mRnd
    by_cases h1 : mw J = 0
    · rw [if_pos h1]; decide
    · rw [if_neg h1]
      by_cases h2 : mw J = 1
      · rw [if_pos h2]; decide
      · rw [if_neg h2]; decide
  unfold nxO
  rw [hy]
  decide
/-- the way from a state -/
def tr (nx : Nat → Option Nat) (st : Nat) : Nat → Option Nat
  | 0 => some st
  | k + 1 => (tr nx st k).bind nx
def tv (nx : Nat → Option Nat) (st k : Nat) : Nat := (tr nx st k).getD 0
theorem tr_s {nx : Nat → Option Nat} {st k a : Nat} (h : tr nx st k = some a) : tr nx st (k + 1) = nx a := by
  show (tr nx st k).bind nx = nx a
  rw [h]; rfl
theorem tv_of {nx : Nat → Option Nat} {st k a : Nat} (h : tr nx st k = some a) : tv nx st k = a := by unfold tv; rw [h]; rfl
theorem tr_lt {nx : Nat → Option Nat} (hx : ∀ q t, q < 40401 → nx q = some t → t < 40401) {st : Nat} (hs : st < 40401) : ∀ k a, tr nx st k = some a → a < 40401
  | 0, a, h => by cases h; exact hs
  | k + 1, a, h => by
    cases hk : tr nx st k with
    | none => unfold tr at h; rw [hk] at h; cases h
    | some b =>
      rw [tr_s hk] at h
      exact hx b a (tr_lt hx hs k b hk) h
theorem tr_add {nx : Nat → Option Nat} {st i a : Nat} (h : tr nx st i = some a) : ∀ k, tr nx st (i + k) = tr nx a k
  | 0 => h
  | k + 1 => by
    show (tr nx st (i + k)).bind nx = (tr nx a k).bind nx
    rw [tr_add h k]
/-- the way is new as far as n -/
def wayN (nx : Nat → Option Nat) (A : Nat → Nat) (st n : Nat) : Prop := (∀ k, k < n → tr nx st k = some (tv nx st k) ∧ A (tv nx st k) = 0) ∧ ∀ i j, i < j → j < n → tv nx st i ≠ tv nx st j
/-- .. and ends there -/
def stp (nx : Nat → Option Nat) (A : Nat → Nat) (st n : Nat) : Prop := wayN nx A st n ∧ ∀ a, tr nx st n = some a → A a ≠ 0 ∨ ∃ i, i < n ∧ tv nx st i = a
theorem wayN_0 {nx : Nat → Option Nat} {A : Nat → Nat} {st : Nat} : wayN nx A st 0 := ⟨fun k h => absurd h (Nat.not_lt_zero k), fun i j _ h => absurd h (Nat.not_lt_zero j)⟩
theorem wayN_s {nx : Nat → Option Nat} {A : Nat → Nat} {st n a : Nat} (h : wayN nx A st n) (ha : tr nx st n = some a) (h0 : A a = 0) (hn : ∀ i, i < n → tv nx st i ≠ a) : wayN nx A st (n + 1) := by
  refine ⟨fun k hk => ?_, fun i j hij hj => ?_⟩
  · by_cases e : k = n
    · rw [e, tv_of ha]; exact ⟨ha, h0⟩
    · exact h.1 k (by omega)
  · by_cases e : j = n
    · rw [e, tv_of ha]; exact hn i (by omega)
    · exact h.2 i j hij (by omega)
theorem stp_one {nx : Nat → Option Nat} {A : Nat → Nat} {st n m : Nat} (h1 : stp nx A st n) (h2 : stp nx A st m) : n = m := by
  have key : ∀ n m, stp nx A st n → wayN nx A st m → n < m → False := by
    intro n m h1 h2 hl
    obtain ⟨q1, q2⟩ := h2.1 n hl
    rcases h1.2 _ q1 with h | ⟨i, hi, h⟩
    · exact h q2
    · exact h2.2 i n hi hl h
  rcases Nat.lt_trichotomy n m with h | h | h
  · exact (key n m h1 h2.1 h).elim
  · exact h
  · exact (key m n h2 h1.1 h).elim
theorem wayN_le {nx : Nat → Option Nat} (hx : ∀ q t, q < 40401 → nx q = some t → t < 40401) {A : Nat → Nat} {st n : Nat} (hs : st < 40401) (h : wayN nx A st n) : n ≤ 40401 :=
  fb_holes 40401 n (tv nx st) (fun i hi => tr_lt hx hs i _ (h.1 i hi).1) h.2
/-- the way's states get a mark -/
def amk (nx : Nat → Option Nat) (st : Nat) (A : Nat → Nat) (d : Nat) : Nat → Nat → Nat
  | 0 => A
  | k + 1 => fun q => if q = tv nx st k then d else amk nx st A d k q
theorem amk_in {nx : Nat → Option Nat} {st : Nat} {A : Nat → Nat} {d q : Nat} : ∀ {n}, (∃ k, k < n ∧ tv nx st k = q) → amk nx st A d n q = d
  | 0, ⟨k, hk, _⟩ => absurd hk (Nat.not_lt_zero k)
  | n + 1, ⟨k, hk, e⟩ => by
    unfold amk
    by_cases h : q = tv nx st n
    · rw [if_pos h]
    · rw [if_neg h]
      exact amk_in ⟨k, Nat.lt_of_le_of_ne (Nat.le_of_lt_succ hk) (fun h9 => h (by rw [← h9]; exact e.symm)), e⟩
theorem amk_out {nx : Nat → Option Nat} {st : Nat} {A : Nat → Nat} {d q : Nat} : ∀ {n}, (∀ k, k < n → tv nx st k ≠ q) → amk nx st A d n q = A q
  | 0, _ => rfl
  | n + 1, h => by
    unfold amk
    rw [if_neg (fun h9 => h n (Nat.lt_succ_self n) h9.symm)]
    exact amk_out (fun k hk => h k (by omega))
/-- what becomes of a way that ends at n -/
def kd (nx : Nat → Option Nat) (A : Nat → Nat) (st n : Nat) : Nat := match tr nx st n with
  | none => 3
  | some a => if A a = 0 then 2 else A a
def ayq (q : Nat) : Nat := if q < 100 then 100 - q else q - 100
def gmx (nx : Nat → Option Nat) (st g i : Nat) : Nat → Nat
  | 0 => g
  | k + 1 => max (gmx nx st g i k) (ayq (tv nx st (i + k) / 201))
def cyq (nx : Nat → Option Nat) (st n c l g c' l' g' : Nat) : Prop :=
  (∀ i, i < n → tr nx st n = some (tv nx st i) → tv nx st i ≠ 20200 → c' = c + 1 ∧ l' = max l (n - i) ∧ g' = gmx nx st g i (n - i)) ∧
  ((∀ i, i < n → tr nx st n = some (tv nx st i) → tv nx st i = 20200) → c' = c ∧ l' = l ∧ g' = g)
/-- a start is walked: the marks, how many cycles, the longest, the greatest -/
def wrel (nx : Nat → Option Nat) (st : Nat) (A : Nat → Nat) (c l g : Nat) (A' : Nat → Nat) (c' l' g' : Nat) : Prop := ∃ n, stp nx A st n ∧ A' = amk nx st A (kd nx A st n) n ∧ cyq nx st n c l g c' l' g'
theorem wrel_one {nx : Nat → Option Nat} {st : Nat} {A : Nat → Nat} {c l g : Nat} {A1 A2 : Nat → Nat} {c1 l1 g1 c2 l2 g2 : Nat} (h1 : wrel nx st A c l g A1 c1 l1 g1) (h2 : wrel nx st A c l g A2 c2 l2 g2) : A1 = A2 ∧ c1 = c2 ∧ l1 = l2 ∧ g1 = g2 := by
  obtain ⟨n, s1, e1, q1⟩ := h1
  obtain ⟨m, s2, e2, q2⟩ := h2
  obtain rfl := stp_one s1 s2
  refine ⟨e1.trans e2.symm, ?_⟩
  by_cases hc : ∃ i, i < n ∧ tr nx st n = some (tv nx st i) ∧ tv nx st i ≠ 20200
  · obtain ⟨i, hi, ht, hne⟩ := hc
    obtain ⟨a1, a2, a3⟩ := q1.1 i hi ht hne
    obtain ⟨b1, b2, b3⟩ := q2.1 i hi ht hne
    exact ⟨a1.trans b1.symm, a2.trans b2.symm, a3.trans b3.symm⟩
  · have hz : ∀ i, i < n → tr nx st n = some (tv nx st i) → tv nx st i = 20200 := fun i hi ht => Classical.byContradiction fun h9 => hc ⟨i, hi, ht, h9⟩
    obtain ⟨a1, a2, a3⟩ := q1.2 hz
    obtain ⟨b1, b2, b3⟩ := q2.2 hz
    exact ⟨a1.trans b1.symm, a2.trans b2.symm, a3.trans b3.symm⟩
/-- a still state has a way of one -/
theorem still_len {nx : Nat → Option Nat} (hx : nx 20200 = some 20200) {A : Nat → Nat} {st n i : Nat} (h : wayN nx A st n) (hi : i < n) (he : tv nx st i = 20200) : n - i = 1 := by
  rcases Nat.lt_or_ge (i + 1) n with h1 | h1
  · have e1 := (h.1 i hi).1
    have e2 := tr_s e1
    rw [he, hx] at e2
    have e3 := tv_of e2
    exact absurd (he.trans e3.symm) (h.2 i (i + 1) (Nat.lt_succ_self i) h1)
  · omega

/-- the kind of a state's fate in the model: new, coming back, leaving -/
def kF (x : Int32) : Nat := if x = 0 then 0 else if x = -1 then 3 else 2
def kA (F : Nat → Int32) (q : Nat) : Nat := if q < 40401 then kF (F q) else 0
def fOK (F : Nat → Int32) (c : Nat) : Prop := ∀ q, q < 40401 → F q = -2 ∨ F q = -1 ∨ ∃ z, z ≤ c ∧ F q = nI z
def fmk (nx : Nat → Option Nat) (st : Nat) (F : Nat → Int32) : Nat → Nat → Int32
  | 0 => F
  | k + 1 => upd (fmk nx st F k) (tv nx st k) (nI (40401 + k))
def pmk (nx : Nat → Option Nat) (st : Nat) (P : Nat → Int32) : Nat → Nat → Int32
  | 0 => P
  | k + 1 => upd (pmk nx st P k) k (nI (tv nx st k))
def sfm (F : Nat → Int32) (T : Nat → Nat) (x : Int32) : Nat → Nat → Int32
  | 0 => F
  | k + 1 => upd (sfm F T x k) (T k) x
theorem fmk_out {nx : Nat → Option Nat} {st : Nat} {F : Nat → Int32} {q : Nat} : ∀ {n}, (∀ k, k < n → tv nx st k ≠ q) → fmk nx st F n q = F q
  | 0, _ => rfl
  | n + 1, h => by
    unfold fmk upd
    rw [if_neg (fun h9 => h n (Nat.lt_succ_self n) h9.symm)]
    exact fmk_out (fun k hk => h k (by omega))
theorem fmk_in {nx : Nat → Option Nat} {A : Nat → Nat} {st : Nat} {F : Nat → Int32} {i : Nat} : ∀ {n}, wayN nx A st n → i < n → fmk nx st F n (tv nx st i) = nI (40401 + i)
  | 0, _, hi => absurd hi (Nat.not_lt_zero i)
  | n + 1, h, hi => by
    unfold fmk upd
    by_cases e : i = n
    · rw [e, if_pos rfl]
    · rw [if_neg (h.2 i n (by omega) (by omega))]
      exact fmk_in (n := n) ⟨fun k hk => h.1 k (by omega), fun a b hab hb => h.2 a b hab (by omega)⟩ (by omega)
theorem pmk_in {nx : Nat → Option Nat} {st : Nat} {P : Nat → Int32} {i : Nat} : ∀ {n}, i < n → pmk nx st P n i = nI (tv nx st i)
  | 0, hi => absurd hi (Nat.not_lt_zero i)
  | n + 1, hi => by
    unfold pmk upd
    by_cases e : i = n
    · rw [if_pos e, e]
    · rw [if_neg e]; exact pmk_in (by omega)
theorem sfm_out {F : Nat → Int32} {T : Nat → Nat} {x : Int32} {q : Nat} : ∀ {n}, (∀ k, k < n → T k ≠ q) → sfm F T x n q = F q
  | 0, _ => rfl
  | n + 1, h => by
    unfold sfm upd
    rw [if_neg (fun h9 => h n (Nat.lt_succ_self n) h9.symm)]
    exact sfm_out (fun k hk => h k (by omega))
theorem sfm_in {F : Nat → Int32} {T : Nat → Nat} {x : Int32} {q : Nat} : ∀ {n}, (∃ k, k < n ∧ T k = q) → sfm F T x n q = x
  | 0, ⟨k, hk, _⟩ => absurd hk (Nat.not_lt_zero k)
  | n + 1, ⟨k, hk, e⟩ => by
    unfold sfm upd
    by_cases h : q = T n
    · rw [if_pos h]
    · rw [if_neg h]
      exact sfm_in ⟨k, Nat.lt_of_le_of_ne (Nat.le_of_lt_succ hk) (fun h9 => h (by rw [← h9]; exact e.symm)), e⟩
theorem way_lt {nx : Nat → Option Nat} (hx : ∀ q t, q < 40401 → nx q = some t → t < 40401) {A : Nat → Nat} {st n k : Nat} (hs : st < 40401) (h : wayN nx A st n) (hk : k < n) : tv nx st k < 40401 := tr_lt hx hs k _ (h.1 k hk).1
/-- the fates behind a walk, as kinds -/
theorem kA_fin {nx : Nat → Option Nat} (hx : ∀ q t, q < 40401 → nx q = some t → t < 40401) {F : Nat → Int32} {st n : Nat} (hs : st < 40401) (h : wayN nx (kA F) st n) (x : Int32) : kA (sfm (fmk nx st F n) (tv nx st) x n) = amk nx st (kA F) (kF x) n := by
  funext q
  by_cases hq : ∃ k, k < n ∧ tv nx st k = q
  · rw [amk_in hq]
    unfold kA
    obtain ⟨k, hk, e⟩ := hq
    have := way_lt hx hs h hk
    rw [if_pos (by omega), sfm_in ⟨k, hk, e⟩]
  · have hq2 : ∀ k, k < n → tv nx st k ≠ q := fun k hk e => hq ⟨k, hk, e⟩
    rw [amk_out hq2]
    unfold kA
    rw [sfm_out hq2, fmk_out hq2]
theorem fOK_fin {nx : Nat → Option Nat} {F : Nat → Int32} {st n c c' : Nat} {x : Int32} (hF : fOK F c) (hc : c ≤ c') (hx : x = -2 ∨ x = -1 ∨ ∃ z, z ≤ c' ∧ x = nI z) : fOK (sfm (fmk nx st F n) (tv nx st) x n) c' := by
  intro q hq
  by_cases h : ∃ k, k < n ∧ tv nx st k = q
  · rw [sfm_in h]; exact hx
  · have hq2 : ∀ k, k < n → tv nx st k ≠ q := fun k hk e => h ⟨k, hk, e⟩
    rw [sfm_out hq2, fmk_out hq2]
    rcases hF q hq with h1 | h1 | ⟨z, h1, h2⟩
    · exact Or.inl h1
    · exact Or.inr (Or.inl h1)
    · exact Or.inr (Or.inr ⟨z, Nat.le_trans h1 hc, h2⟩)
theorem fOK_lt {F : Nat → Int32} {c q : Nat} (hF : fOK F c) (hc : c < 10001) (hq : q < 40401) : F q < 40401 := by
  rcases hF q hq with h | h | ⟨z, h1, h⟩
  · rw [h]; decide
  · rw [h]; decide
  · rw [h]; exact nI_lt (a := z) (b := 40401) (by omega) (by decide)
theorem nI_ne_m2 {q : Nat} (h : q < 2147483648) (e : nI q = -2) : False := by
  have h2 : (nI q).toInt = -2 := by rw [e]; decide
  rw [nI_toInt h] at h2
  omega
theorem kA_0 {F : Nat → Int32} {q : Nat} (hq : q < 40401) : kA F q = 0 ↔ F q = 0 := by
  unfold kA kF
  rw [if_pos hq]
  constructor
  · intro h
    by_cases h1 : F q = 0
    · exact h1
    · rw [if_neg h1] at h
      by_cases h2 : F q = -1
      · rw [if_pos h2] at h; exact absurd h (by decide)
      · rw [if_neg h2] at h; exact absurd h (by decide)
  · intro h; rw [if_pos h]
theorem gmx_s {nx : Nat → Option Nat} {st g i k : Nat} : gmx nx st g i (k + 1) = max (gmx nx st g i k) (ayq (tv nx st (i + k) / 201)) := rfl
theorem ayq_le {q : Nat} (h : q ≤ 200) : ayq q ≤ 100 := by unfold ayq; split <;> omega
theorem gmx_le {nx : Nat → Option Nat} {st g i : Nat} (hg : g ≤ 200) : ∀ {k}, (∀ j, j < k → tv nx st (i + j) < 40401) → gmx nx st g i k ≤ 200
  | 0, _ => hg
  | k + 1, h => by
    rw [gmx_s]
    have h1 := gmx_le (nx := nx) (st := st) (i := i) hg (k := k) (fun j hj => h j (by omega))
    have h2 := h k (by omega)
    have h3 := ayq_le (q := tv nx st (i + k) / 201) (by omega)
    omega
theorem mSize_100 {q : Nat} (h : q ≤ 200) : mSize (nI q - 100) = nI (ayq q) := by
  have e1 : (nI q - 100 : Int32).toInt = (q : Int) - 100 := pk_sub_toInt (a := q) (b := 100) (by omega) (by decide)
  have e0 : (0 : Int32).toInt = 0 := by decide
  have ay := ayq_le h
  rw [← Int32.toInt_inj, nI_toInt (by omega)]
  unfold mSize ayq
  by_cases h1 : q < 100
  · rw [if_pos (Int32.lt_iff_toInt_lt.mpr (by omega)), if_pos h1, fb_negI (by omega)]
    omega
  · rw [if_neg (fun h9 => by have := Int32.lt_iff_toInt_lt.mp h9; omega), if_neg h1]
    omega
/-- all the starts, the last one first -/
def sI (R u v : Nat) : Nat := 201 * (u + (100 - R)) + (v + (100 - R))
def inn (R u : Nat) (L : List Nat) : Nat → List Nat
  | 0 => L
  | v + 1 => sI R u v :: inn R u L v
def otn (R : Nat) : Nat → List Nat
  | 0 => []
  | u + 1 => inn R u (otn R u) (2 * R + 1)
/-- the starts of a list are walked, one after the other: the marks, the cycles, the longest, the greatest, how many leave -/
def crun (nx : Nat → Option Nat) : List Nat → (Nat → Nat) → Nat → Nat → Nat → Nat → Prop
  | [], A, c, l, g, e => A = (fun _ => 0) ∧ c = 0 ∧ l = 0 ∧ g = 0 ∧ e = 0
  | s :: L, A', c', l', g', e' => ∃ A c l g e, crun nx L A c l g e ∧ wrel nx s A c l g A' c' l' g' ∧ e' = e + (if A' s = 3 then 1 else 0)
theorem crun_one {nx : Nat → Option Nat} : ∀ {L : List Nat} {A1 A2 : Nat → Nat} {c1 l1 g1 e1 c2 l2 g2 e2 : Nat}, crun nx L A1 c1 l1 g1 e1 → crun nx L A2 c2 l2 g2 e2 → A1 = A2 ∧ c1 = c2 ∧ l1 = l2 ∧ g1 = g2 ∧ e1 = e2
  | [], _, _, _, _, _, _, _, _, _, _, h1, h2 => ⟨h1.1.trans h2.1.symm, h1.2.1.trans h2.2.1.symm, h1.2.2.1.trans h2.2.2.1.symm, h1.2.2.2.1.trans h2.2.2.2.1.symm, h1.2.2.2.2.trans h2.2.2.2.2.symm⟩
  | s :: L, _, _, _, _, _, _, _, _, _, _, ⟨A, c, l, g, e, a1, a2, a3⟩, ⟨A', c', l', g', e', b1, b2, b3⟩ => by
    obtain ⟨rfl, rfl, rfl, rfl, rfl⟩ := crun_one a1 b1
    obtain ⟨rfl, q1, q2, q3⟩ := wrel_one a2 b2
    exact ⟨rfl, q1, q2, q3, a3.trans b3.symm⟩
def pick (wh c l g e : Nat) : Nat := if wh = 0 then c else if wh = 1 then l else if wh = 2 then g else e
theorem way_one {nx : Nat → Option Nat} {A : Nat → Nat} {st n i j : Nat} (h : wayN nx A st n) (hi : i < n) (hj : j < n) (e : tv nx st i = tv nx st j) : i = j := by
  rcases Nat.lt_trichotomy i j with h1 | h1 | h1
  · exact absurd e (h.2 i j h1 hj)
  · exact h1
  · exact absurd e.symm (h.2 j i h1 hi)

theorem off_gt {u R : Nat} (hu : u < 1000) (hR : R < 1000) : nI R < nI u - nI R ↔ 2 * R < u := by
  rw [Int32.lt_iff_toInt_lt, pk_sub_toInt (by omega) (by omega), nI_toInt (by omega)]
  omega
theorem off_100 {u R : Nat} (hR : R ≤ 100) : nI u - nI R + 100 = nI (u + (100 - R)) := by
  have h1 : (100 : Int32) = nI R + nI (100 - R) := by
    rw [nI_add, show R + (100 - R) = 100 by omega]; rfl
  rw [h1, ← Int32.add_assoc, Int32.sub_add_cancel, nI_add]
theorem off_s {u R : Nat} : nI u - nI R + 1 = nI (u + 1) - nI R := by
  rw [← nI_1, Int32.sub_eq_add_neg, Int32.sub_eq_add_neg, Int32.add_assoc, Int32.add_comm (-nI R) 1, ← Int32.add_assoc]
theorem off_sI {R u v : Nat} (hR : R ≤ 100) : nI (201 * (u + (100 - R))) + (nI v - nI R) + 100 = nI (sI R u v) := by
  rw [Int32.add_assoc, off_100 hR, nI_add]; rfl
theorem sI_lt {R u v : Nat} (hR : R ≤ 12) (hu : u ≤ 2 * R) (hv : v ≤ 2 * R) : sI R u v < 40401 := by
  unfold sI; omega
theorem kA_3 {F : Nat → Int32} {q : Nat} (hq : q < 40401) : kA F q = 3 ↔ F q = -1 := by
  unfold kA kF
  rw [if_pos hq]
  constructor
  · intro h
    by_cases h1 : F q = 0
    · rw [if_pos h1] at h; exact absurd h (by decide)
    · rw [if_neg h1] at h
      by_cases h2 : F q = -1
      · exact h2
      · rw [if_neg h2] at h; exact absurd h (by decide)
  · intro h
    rw [h, if_neg (by decide), if_pos rfl]
theorem wrel_skip {nx : Nat → Option Nat} {st : Nat} {A : Nat → Nat} {c l g : Nat} (h : A st ≠ 0) : wrel nx st A c l g A c l g :=
  ⟨0, ⟨wayN_0, fun a ha => by cases ha; exact Or.inl h⟩, rfl, ⟨fun i hi => absurd hi (Nat.not_lt_zero i), fun _ => ⟨rfl, rfl, rfl⟩⟩⟩
theorem kA_zero {F : Nat → Int32} : kA (zeroTo F 40401) = fun _ => 0 := by
  funext q
  unfold kA kF zeroTo
  by_cases h : q < 40401
  · rw [if_pos h, if_pos h, if_pos rfl]
  · rw [if_neg h]
theorem fOK_zero {F : Nat → Int32} {c : Nat} : fOK (zeroTo F 40401) c := fun q hq => Or.inr (Or.inr ⟨0, Nat.zero_le c, by unfold zeroTo; rw [if_pos hq]; rfl⟩)
