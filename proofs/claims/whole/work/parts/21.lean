/-! sets of numbers as bits; how many they are -/
theorem zbits_s {p : Nat → Bool} {n : Nat} : zbits p (n + 1) = zbits p n ||| (if p n then (1 : Int32) <<< (zi n &&& 31) else 0) := rfl
theorem zbits_congr {p q : Nat → Bool} : ∀ {n : Nat}, (∀ k, k < n → p k = q k) → zbits p n = zbits q n
  | 0, _ => rfl
  | n + 1, h => by
    rw [zbits_s, zbits_s, zbits_congr (n := n) (fun k hk => h k (by omega)), h n (by omega)]
def zNb (p : Nat → Bool) : Nat → Nat
  | 0 => 0
  | n + 1 => zNb p n + (if p n then 2 ^ n else 0)
theorem zNb_lt {p : Nat → Bool} : ∀ {n : Nat}, zNb p n < 2 ^ n
  | 0 => Nat.zero_lt_one
  | n + 1 => by
    have h := zNb_lt (p := p) (n := n)
    show zNb p n + _ < _
    rw [Nat.pow_succ]
    split <;> omega
theorem zNb_or {p : Nat → Bool} {n : Nat} : zNb p (n + 1) = zNb p n ||| (if p n then 2 ^ n else 0) := by
  show zNb p n + _ = _
  have h := zNb_lt (p := p) (n := n)
  split
  · have e := Nat.two_pow_add_eq_or_of_lt h 1
    rw [Nat.mul_one] at e
    rw [Nat.add_comm, e, Nat.or_comm]
  · rw [Nat.or_zero, Nat.add_zero]
theorem zi_bv (a : Nat) : (zi a).toBitVec.toNat = a % 2 ^ 32 := BitVec.toNat_ofNat _ _
theorem zi_or (a b : Nat) : zi a ||| zi b = zi (a ||| b) := by
  apply Int32.toBitVec_inj.mp
  apply BitVec.eq_of_toNat_eq
  rw [Int32.toBitVec_or, BitVec.toNat_or, zi_bv, zi_bv, zi_bv, Nat.or_mod_two_pow]
theorem zi_and (a b : Nat) : zi a &&& zi b = zi (a &&& b) := by
  apply Int32.toBitVec_inj.mp
  apply BitVec.eq_of_toNat_eq
  rw [Int32.toBitVec_and, BitVec.toNat_and, zi_bv, zi_bv, zi_bv, Nat.and_mod_two_pow]
theorem zi_one_shl : ∀ n : Nat, n < 31 → (1 : Int32) <<< (zi n &&& 31) = zi (2 ^ n) := by decide +kernel
theorem zbits_nat {p : Nat → Bool} : ∀ {n : Nat}, n ≤ 31 → zbits p n = zi (zNb p n)
  | 0, _ => rfl
  | n + 1, h => by
    rw [zbits_s, zNb_or, zbits_nat (n := n) (by omega), ← zi_or]
    congr 1
    split
    · rw [zi_one_shl n (by omega)]
    · rfl
theorem zNb_bit {p : Nat → Bool} : ∀ {n i : Nat}, (zNb p n).testBit i = (decide (i < n) && p i)
  | 0, i => by simp [zNb]
  | n + 1, i => by
    rw [zNb_or, Nat.testBit_or, zNb_bit (n := n)]
    by_cases hp : p n = true
    · rw [if_pos hp, Nat.testBit_two_pow]
      by_cases h1 : n = i
      · subst h1
        simp [hp]
      · by_cases h2 : i < n
        · simp [h1, h2, show i < n + 1 by omega]
        · simp [h1, h2, show ¬ i < n + 1 by omega]
    · rw [if_neg hp, Nat.zero_testBit, Bool.or_false]
      by_cases h1 : n = i
      · subst h1
        simp [hp]
      · by_cases h2 : i < n
        · simp [h2, show i < n + 1 by omega]
        · simp [h2, show ¬ i < n + 1 by omega]
theorem zNb_eq {a n : Nat} {p : Nat → Bool} (h : ∀ i, a.testBit i = (decide (i < n) && p i)) : a = zNb p n := Nat.eq_of_testBit_eq fun i => by rw [h, zNb_bit]
theorem zbits_and {p q : Nat → Bool} {n m : Nat} (hn : n ≤ 31) (hm : m ≤ 31) : zbits p n &&& zbits q m = zbits (fun k => p k && (decide (k < m) && q k)) n := by
  rw [zbits_nat hn, zbits_nat hm, zbits_nat hn, zi_and]
  congr 1
  apply zNb_eq
  intro i
  rw [Nat.testBit_and, zNb_bit, zNb_bit, Bool.and_assoc]
theorem zbits_or {p q : Nat → Bool} {n : Nat} (hn : n ≤ 31) : zbits p n ||| zbits q n = zbits (fun k => p k || q k) n := by
  rw [zbits_nat hn, zbits_nat hn, zbits_nat hn, zi_or]
  congr 1
  apply zNb_eq
  intro i
  rw [Nat.testBit_or, zNb_bit, zNb_bit]
  cases decide (i < n) <;> simp
theorem zbits_up {p : Nat → Bool} {n m : Nat} (hm : m ≤ 31) (h : n ≤ m) : zbits p n = zbits (fun k => decide (k < n) && p k) m := by
  rw [zbits_nat (by omega), zbits_nat hm]
  congr 1
  apply zNb_eq
  intro i
  rw [zNb_bit]
  by_cases h1 : i < n
  · simp [h1, show i < m by omega]
  · simp [h1]
theorem zbits_one {f n : Nat} (hn : n ≤ 31) (hf : f < n) : (1 : Int32) <<< (zi f &&& 31) = zbits (fun k => k == f) n := by
  rw [zi_one_shl f (by omega), zbits_nat hn]
  congr 1
  apply zNb_eq
  intro i
  rw [Nat.testBit_two_pow]
  by_cases h : f = i
  · subst h
    simp [hf]
  · simp [h, Ne.symm h]
theorem zsmod : ∀ k : Nat, k < 31 → (zi k).toBitVec.smod 32 = (zi k).toBitVec := by decide +kernel
theorem zi_msb {a : Nat} (ha : a < 2147483648) : (zi a).toBitVec.msb = false := by
  rw [BitVec.msb_eq_decide, show (zi a).toBitVec.toNat = a % 2 ^ 32 from BitVec.toNat_ofNat _ _]
  exact decide_eq_false (by omega)
theorem zi_asr {a k : Nat} (ha : a < 2147483648) (hk : k < 31) : zi a >>> (zi k &&& 31) = zi (a >>> k) := by
  have e31 : zi k &&& 31 = zi k := by
    rw [show (31 : Int32) = zi 31 from rfl, zi_and]
    congr 1
    rw [show (31 : Nat) = 2 ^ 5 - 1 from rfl, Nat.and_two_pow_sub_one_eq_mod]
    omega
  rw [e31]
  apply Int32.toBitVec_inj.mp
  rw [Int32.toBitVec_shiftRight, show (zi k).toBitVec.smod 32 = (zi k).toBitVec from zsmod k hk, BitVec.sshiftRight_eq', show (zi k).toBitVec.toNat = k % 2 ^ 32 from BitVec.toNat_ofNat _ _, Nat.mod_eq_of_lt (by omega)]
  rw [BitVec.sshiftRight_eq_of_msb_false (zi_msb ha)]
  apply BitVec.eq_of_toNat_eq
  rw [BitVec.toNat_ushiftRight, show (zi a).toBitVec.toNat = a % 2 ^ 32 from BitVec.toNat_ofNat _ _, show (zi (a >>> k)).toBitVec.toNat = (a >>> k) % 2 ^ 32 from BitVec.toNat_ofNat _ _, Nat.mod_eq_of_lt (by omega : a < 2 ^ 32), Nat.mod_eq_of_lt]
  rw [Nat.shiftRight_eq_div_pow]
  exact Nat.lt_of_le_of_lt (Nat.div_le_self _ _) (by omega)
theorem zbits_at {p : Nat → Bool} {n k : Nat} (hn : n ≤ 31) (hk : k < 31) : ((zbits p n >>> (zi k &&& 31)) &&& (1 : Int32)) = if k < n ∧ p k = true then 1 else 0 := by
  rw [zbits_nat hn, zi_asr (Nat.lt_of_lt_of_le zNb_lt (Nat.pow_le_pow_right (by decide) hn)) hk, show (1 : Int32) = zi 1 from rfl, zi_and]
  have h := zNb_bit (p := p) (n := n) (i := k)
  rw [Nat.testBit_eq_decide_div_mod_eq] at h
  rw [Nat.and_one_is_mod, Nat.shiftRight_eq_div_pow]
  by_cases hq : k < n ∧ p k = true
  · rw [if_pos hq]
    simp [hq.1, hq.2] at h
    rw [h]
  · rw [if_neg hq]
    have h2 : (decide (k < n) && p k) = false := by
      by_cases h1 : k < n
      · simp [h1]
        exact Bool.eq_false_iff.mpr fun q => hq ⟨h1, q⟩
      · simp [h1]
    rw [h2] at h
    have h3 : ¬ zNb p n / 2 ^ k % 2 = 1 := of_decide_eq_false h
    rw [show zNb p n / 2 ^ k % 2 = 0 by omega]
    rfl
