/-- three bytes out of twenty-four answers -/
def zbt (b : Bool) : Nat := if b then 1 else 0
def zby (q : Nat → Bool) (o : Nat) : Nat := zbt (q o) + 2 * zbt (q (o + 1)) + 4 * zbt (q (o + 2)) + 8 * zbt (q (o + 3)) + 16 * zbt (q (o + 4)) + 32 * zbt (q (o + 5)) + 64 * zbt (q (o + 6)) + 128 * zbt (q (o + 7))
theorem zbt_le (b : Bool) : zbt b ≤ 1 := by cases b <;> decide
theorem zby_lt {q : Nat → Bool} {o : Nat} : zby q o < 256 := by
  unfold zby
  have h0 := zbt_le (q o)
  have h1 := zbt_le (q (o + 1))
  have h2 := zbt_le (q (o + 2))
  have h3 := zbt_le (q (o + 3))
  have h4 := zbt_le (q (o + 4))
  have h5 := zbt_le (q (o + 5))
  have h6 := zbt_le (q (o + 6))
  have h7 := zbt_le (q (o + 7))
  omega
theorem zpop_b : ∀ b0 b1 b2 b3 b4 b5 b6 b7 : Bool, zpop8 (zbt b0 + 2 * zbt b1 + 4 * zbt b2 + 8 * zbt b3 + 16 * zbt b4 + 32 * zbt b5 + 64 * zbt b6 + 128 * zbt b7) = zbt b0 + zbt b1 + zbt b2 + zbt b3 + zbt b4 + zbt b5 + zbt b6 + zbt b7 := by decide +kernel
theorem zby_pop {q : Nat → Bool} {o : Nat} : zpop8 (zby q o) = zbt (q o) + zbt (q (o + 1)) + zbt (q (o + 2)) + zbt (q (o + 3)) + zbt (q (o + 4)) + zbt (q (o + 5)) + zbt (q (o + 6)) + zbt (q (o + 7)) := zpop_b _ _ _ _ _ _ _ _
theorem zNb_s {p : Nat → Bool} {n : Nat} : zNb p (n + 1) = zNb p n + 2 ^ n * zbt (p n) := by
  show zNb p n + _ = _
  unfold zbt
  split <;> omega
theorem zNb_24 {p : Nat → Bool} : zNb p 24 = zby p 0 + 256 * (zby p 8 + 256 * zby p 16) := by
  simp only [zNb_s, show zNb p 0 = 0 from rfl, zby, Nat.reducePow, Nat.reduceAdd]
  omega
def zcount (p : Nat → Bool) : Nat → Nat
  | 0 => 0
  | n + 1 => zcount p n + zbt (p n)
theorem zcount_24 {p : Nat → Bool} : zc5 (zNb p 24) = zcount p 24 := by
  rw [zNb_24, zc5_eq zby_lt zby_lt zby_lt, zby_pop, zby_pop, zby_pop]
  simp only [zcount, Nat.reduceAdd]
  omega
theorem zcount_cut {p : Nat → Bool} {n : Nat} : ∀ {m : Nat}, n ≤ m → zcount (fun k => decide (k < n) && p k) m = zcount p n
  | 0, h => by
    rw [show n = 0 by omega]
    rfl
  | m + 1, h => by
    show zcount _ m + zbt (decide (m < n) && p m) = _
    by_cases h1 : n = m + 1
    · subst h1
      show _ = zcount p m + zbt (p m)
      rw [show (decide (m < m + 1) && p m) = p m by simp]
      congr 1
      have : ∀ {k : Nat}, k ≤ m → zcount (fun j => decide (j < m + 1) && p j) k = zcount p k := by
        intro k
        induction k with
        | zero => intro _; rfl
        | succ k ih =>
          intro hk
          show zcount _ k + zbt (decide (k < m + 1) && p k) = zcount p k + zbt (p k)
          rw [ih (by omega), show (decide (k < m + 1) && p k) = p k by simp; omega]
      exact this (Nat.le_refl _)
    · rw [zcount_cut (m := m) (by omega), show (decide (m < n) && p m) = false by simp; omega]
      rfl
theorem zcount_sum {p : Nat → Bool} : ∀ {n : Nat}, zi (zcount p n) = zsum (fun k => cond (p k) 1 0) n
  | 0 => rfl
  | n + 1 => by
    show zi (zcount p n + zbt (p n)) = zsum _ n + cond (p n) 1 0
    rw [← zi_add, zcount_sum (n := n)]
    congr 1
    cases p n <;> rfl
theorem zi_sb {a b : Nat} (h : b ≤ a) : zi a - zi b = zi (a - b) := (Int32.ofNat_sub a b h).symm
