/-! the law's rows of taps: from the last one on by one number; the answers of a design -/
theorem hsum_lt (f : Nat → Int32) (w u : Nat) : hsum f w u < 97 := by
  cases u with
  | zero => exact (by decide : 0 < 97)
  | succ u => exact Nat.mod_lt _ (by decide)
theorem hsum_step {f : Nat → Int32} {w u : Nat} : (hsum f w u * w + gN (f (31 - u))) % 97 = hsum f w (u + 1) := by
  rw [hsum_s, Nat.add_comm, Nat.mul_comm]
theorem hsum_as {f : Nat → Int32} {T : Nat} : hsum f (pw (T % 32)) 32 = asum f T 32 := by
  have h := hsum_end f T
  rw [pw_mod, ← h, Nat.mod_eq_of_lt (hsum_lt f (pw T) 32)]
theorem dsum_asum (f : Nat → Int32) (T : Nat) : ∀ k, dsum f T k = asum f (32 - T) k
  | 0 => rfl
  | k + 1 => by rw [dsum_s, asum_s, dsum_asum f T k, Nat.mul_comm k]
/-- 52 by itself, so many times, by 97 -/
theorem p52_s : ∀ k, k < 32 → pw (32 - k) * 52 % 97 = pw (32 - (k + 1)) := by decide
theorem des_sum {f : Nat → Int32} {T : Nat} : hsum f (pw (32 - T)) 32 * 94 % 97 = desT f T := by
  have h := hsum_as (f := f) (T := 32 - T)
  rw [pw_mod] at h
  rw [h, ← dsum_asum]; rfl
/-! sums of naturals, by 97 -/
def nsm (f : Nat → Nat) : Nat → Nat
  | 0 => 0
  | k + 1 => nsm f k + f k
theorem nsm_congr {f g : Nat → Nat} : ∀ {n}, (∀ i, i < n → f i = g i) → nsm f n = nsm g n
  | 0, _ => rfl
  | n + 1, h => by
    show nsm f n + f n = nsm g n + g n
    rw [nsm_congr (fun i hi => h i (by omega)), h n (by omega)]
theorem nsm_mod {f g : Nat → Nat} : ∀ {n}, (∀ i, i < n → f i % 97 = g i % 97) → nsm f n % 97 = nsm g n % 97
  | 0, _ => rfl
  | n + 1, h => by
    have h1 := nsm_mod (n := n) (fun i hi => h i (by omega))
    have h2 := h n (by omega)
    show (nsm f n + f n) % 97 = (nsm g n + g n) % 97
    omega
theorem nsm_mul {f : Nat → Nat} (c : Nat) : ∀ n, nsm (fun i => c * f i) n = c * nsm f n
  | 0 => rfl
  | n + 1 => by
    show nsm (fun i => c * f i) n + c * f n = c * (nsm f n + f n)
    rw [nsm_mul c n, Nat.mul_add]
theorem nsm_add {f g : Nat → Nat} : ∀ n, nsm (fun i => f i + g i) n = nsm f n + nsm g n
  | 0 => rfl
  | n + 1 => by
    show nsm (fun i => f i + g i) n + (f n + g n) = nsm f n + f n + (nsm g n + g n)
    rw [nsm_add n]; omega
theorem nsm_swap {f : Nat → Nat → Nat} (m : Nat) : ∀ n, nsm (fun i => nsm (fun j => f i j) m) n = nsm (fun j => nsm (fun i => f i j) n) m
  | 0 => by
    show 0 = nsm (fun j => 0) m
    induction m with
    | zero => rfl
    | succ m ih => show 0 = nsm (fun _ => 0) m + 0; rw [← ih]
  | n + 1 => by
    show nsm (fun i => nsm (fun j => f i j) m) n + nsm (fun j => f n j) m = nsm (fun j => nsm (fun i => f i j) n + f n j) m
    rw [nsm_swap m n, nsm_add]
theorem nsm_one {f : Nat → Nat} {k n : Nat} (hk : k < n) (h : ∀ i, i < n → i ≠ k → f i = 0) : nsm f n = f k := by
  induction n with
  | zero => omega
  | succ n ih =>
    show nsm f n + f n = f k
    by_cases e : k = n
    · subst e
      have : nsm f k = 0 := by
        have h1 : nsm f k = nsm (fun _ => 0) k := nsm_congr (fun i hi => h i (by omega) (by omega))
        rw [h1]
        clear h h1 ih hk
        induction k with
        | zero => rfl
        | succ k ih => exact ih
      omega
    · rw [ih (by omega) (fun i hi hn => h i (by omega) hn), h n (by omega) (fun e9 => e e9.symm)]
      rfl
theorem asum_nsm (f : Nat → Int32) (T : Nat) : ∀ k, nsm (fun i => gN (f i) * pw (T * i)) k % 97 = asum f T k
  | 0 => rfl
  | k + 1 => by
    rw [asum_s, pw_mod, ← asum_nsm f T k]
    show (nsm (fun i => gN (f i) * pw (T * i)) k + gN (f k) * pw (T * k)) % 97 = _
    omega
/-- the powers of a root that isn't 1 come to 0 together -/
theorem pw_orth : ∀ d, d < 32 → nsm (fun t => pw (d * t % 32)) 32 % 97 = if d = 0 then 32 else 0 := by decide +kernel
theorem pw_sum {k T : Nat} (hk : k < 32) (hT : T < 32) : nsm (fun t => pw ((32 - t) * k) * pw (T * t)) 32 % 97 = if k = T then 32 else 0 := by
  have h := pw_orth ((T + 32 - k) % 32) (Nat.mod_lt _ (by decide))
  have e : (if (T + 32 - k) % 32 = 0 then (32 : Nat) else 0) = if k = T then 32 else 0 := by
    by_cases h1 : k = T
    · rw [if_pos h1, if_pos (by omega)]
    · rw [if_neg h1, if_neg (by omega)]
  rw [e] at h
  rw [← h]
  refine nsm_mod (fun t ht => ?_)
  rw [Nat.mul_mod ((T + 32 - k) % 32) t 32, Nat.mod_mod, ← Nat.mul_mod, pw_mod]
  rw [Nat.mod_eq_of_lt (pw_lt ((T + 32 - k) * t)), ← pw_add, ← pw_mod ((32 - t) * k + T * t), ← pw_mod ((T + 32 - k) * t)]
  congr 1
  have e1 : (T + 32 - k) * t = T * t + (32 - k) * t := by rw [← Nat.add_mul]; congr 1; omega
  have e2 : (32 - t) * k + t * k = 32 * k := by rw [← Nat.add_mul]; congr 1; omega
  have e3 : (32 - k) * t + k * t = 32 * t := by rw [← Nat.add_mul]; congr 1; omega
  have e4 : t * k = k * t := Nat.mul_comm _ _
  omega
/-- a design answers what was asked -/
theorem des_ans {a b : Nat → Int32} (ha : isR a 32) {T : Nat} (hT : T < 32) : nI (asum (desA a b 32) T 32) = a T := by
  have h1 : ∀ t, t < 32 → gN (desA a b 32 t) = desT a t := by
    intro t ht
    unfold desA
    rw [if_pos ht, gN_nI (by have := desT_lt a t; omega)]
  have h2 : ∀ t, t < 32 → desT a t % 97 = nsm (fun k => 94 * (gN (a k) * pw ((32 - t) * k))) 32 % 97 := by
    intro t ht
    rw [nsm_mul, Nat.mul_mod, asum_nsm, ← dsum_asum]
    unfold desT
    rw [Nat.mod_mod, Nat.mul_comm]
  have h3 : asum (desA a b 32) T 32 = nsm (fun t => nsm (fun k => 94 * (gN (a k) * (pw ((32 - t) * k) * pw (T * t)))) 32) 32 % 97 := by
    rw [← asum_nsm]
    refine nsm_mod (fun t ht => ?_)
    show gN (desA a b 32 t) * pw (T * t) % 97 = _
    rw [h1 t ht, Nat.mul_mod, h2 t ht, ← Nat.mul_mod, Nat.mul_comm, ← nsm_mul]
    congr 1
    refine nsm_congr (fun k hk => ?_)
    show pw (T * t) * (94 * (gN (a k) * pw ((32 - t) * k))) = _
    rw [Nat.mul_left_comm, Nat.mul_comm (pw (T * t)), Nat.mul_assoc]
  have h4 : asum (desA a b 32) T 32 = gN (a T) := by
    rw [h3, nsm_swap]
    have h5 : nsm (fun k => nsm (fun t => 94 * (gN (a k) * (pw ((32 - t) * k) * pw (T * t)))) 32) 32 % 97 = nsm (fun k => if k = T then 94 * (gN (a k) * 32) else 0) 32 % 97 := by
      refine nsm_mod (fun k hk => ?_)
      rw [nsm_mul, nsm_mul, Nat.mul_mod, Nat.mul_mod (gN (a k)), pw_sum hk hT]
      by_cases e : k = T
      · rw [if_pos e, if_pos e, Nat.mul_mod 94 (gN (a k) * 32), Nat.mul_mod (gN (a k)) 32]
      · rw [if_neg e, if_neg e, Nat.mul_zero, Nat.zero_mod]
    rw [h5, nsm_one hT (fun i _ hi => if_neg hi), if_pos rfl]
    have := (ha T hT).2
    omega
  rw [h4]
  exact (ha T hT).1.symm
/-- the sifted samples, as far as they are there -/
theorem csum_ssum {f g : Nat → Int32} {B Y : Nat} : ∀ {i}, B + i ≤ Y → csum f (fun j => gN (g (B + j))) i % 97 = ssum f g B Y i
  | 0, _ => rfl
  | i + 1, h => by
    rw [csum_s, ssum_s (by omega), ← csum_ssum (i := i) (by omega)]; omega
