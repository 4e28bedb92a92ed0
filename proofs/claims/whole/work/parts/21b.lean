/-! how many bits: the JDK's count over three bytes -/
def zc1 (x : Nat) : Nat := x - ((x >>> 1) &&& 1431655765)
def zc2 (x : Nat) : Nat := (zc1 x &&& 858993459) + ((zc1 x >>> 2) &&& 858993459)
def zc3 (x : Nat) : Nat := (zc2 x + (zc2 x >>> 4)) &&& 252645135
def zc4 (x : Nat) : Nat := zc3 x + (zc3 x >>> 8)
def zc5 (x : Nat) : Nat := (zc4 x + (zc4 x >>> 16)) &&& 63
theorem zi_lsr {a k : Nat} (ha : a < 2147483648) (hk : ((zi k).toUInt32 &&& Int32.toUInt32 31).toNat % 32 = k) : ((zi a).toUInt32 >>> ((zi k).toUInt32 &&& Int32.toUInt32 31)).toInt32 = zi (a >>> k) := by
  apply Int32.toBitVec_inj.mp
  apply BitVec.eq_of_toNat_eq
  show ((zi a).toUInt32 >>> ((zi k).toUInt32 &&& Int32.toUInt32 31)).toNat = _
  rw [UInt32.toNat_shiftRight, show (((zi k).toUInt32 &&& Int32.toUInt32 31).toNat % 32) = k from hk, show (zi (a >>> k)).toBitVec.toNat = (a >>> k) % 2 ^ 32 from BitVec.toNat_ofNat _ _, show (zi a).toUInt32.toNat = a % 2 ^ 32 from BitVec.toNat_ofNat _ _, Nat.mod_eq_of_lt (by omega : a < 2 ^ 32), Nat.mod_eq_of_lt]
  rw [Nat.shiftRight_eq_div_pow]
  exact Nat.lt_of_le_of_lt (Nat.div_le_self _ _) (by omega)
theorem zand_split (a m y k : Nat) (ha : a < 256) (hm : m < 256) : (a + 256 * y) &&& (m + 256 * k) = (a &&& m) + 256 * (y &&& k) := by
  have e1 : ((a + 256 * y) &&& (m + 256 * k)) % 2 ^ 8 = (a &&& m) := by
    rw [Nat.and_mod_two_pow]
    rw [show (a + 256 * y) % 2 ^ 8 = a by omega, show (m + 256 * k) % 2 ^ 8 = m by omega]
  have e2 : ((a + 256 * y) &&& (m + 256 * k)) / 2 ^ 8 = (y &&& k) := by
    rw [Nat.and_div_two_pow]
    rw [show (a + 256 * y) / 2 ^ 8 = y by omega, show (m + 256 * k) / 2 ^ 8 = k by omega]
  omega
/-! the three steps go byte by byte -/
def zd1 (a : Nat) : Nat := a - ((a >>> 1) &&& 85)
def zd2 (a : Nat) : Nat := (zd1 a &&& 51) + ((zd1 a >>> 2) &&& 51)
def zd3 (a : Nat) : Nat := (zd2 a + (zd2 a >>> 4)) &&& 15
theorem zb1 : ∀ a : Nat, a < 256 → ∀ c : Nat, c < 2 → ((a / 2 + 128 * c) &&& 85) = (a >>> 1) &&& 85 := by decide +kernel
theorem zb2 : ∀ a : Nat, a < 256 → ∀ c : Nat, c < 4 → ((a / 4 + 64 * c) &&& 51) = (a >>> 2) &&& 51 := by decide +kernel
theorem zb3 : ∀ a : Nat, a < 69 → ∀ c : Nat, c < 5 → ((a + (a / 16 + 16 * c)) &&& 15) = ((a + (a >>> 4)) &&& 15) := by decide +kernel
theorem zb4 : ∀ a : Nat, a < 256 → ((a >>> 1) &&& 85) ≤ a ∧ zd1 a < 256 ∧ (zd2 a < 69 ∧ zd2 a % 16 < 5) ∧ zd3 a = (a % 2 + a / 2 % 2 + a / 4 % 2 + a / 8 % 2 + a / 16 % 2 + a / 32 % 2 + a / 64 % 2 + a / 128 % 2) := by decide +kernel
theorem zc1_split {a y m : Nat} (ha : a < 256) (hy : ((y >>> 1) &&& m) ≤ y) : (a + 256 * y) - (((a + 256 * y) >>> 1) &&& (85 + 256 * m)) = zd1 a + 256 * (y - ((y >>> 1) &&& m)) := by
  have e : (a + 256 * y) >>> 1 = (a / 2 + 128 * (y % 2)) + 256 * (y >>> 1) := by
    rw [Nat.shiftRight_eq_div_pow, Nat.shiftRight_eq_div_pow]
    omega
  rw [e, zand_split _ _ _ _ (by omega) (by omega), zb1 a ha _ (by omega)]
  have h4 := (zb4 a ha).1
  unfold zd1
  omega
theorem zc1_eq {a b c : Nat} (ha : a < 256) (hb : b < 256) (hc : c < 256) : zc1 (a + 256 * (b + 256 * c)) = zd1 a + 256 * (zd1 b + 256 * zd1 c) := by
  unfold zc1
  have hc1 : c - ((c >>> 1) &&& 21845) = zd1 c := by
    have := zc1_split (a := c) (y := 0) (m := 85) hc (by decide)
    simpa using this
  have hc0 : ((c >>> 1) &&& 21845) ≤ c := Nat.le_trans Nat.and_le_left (by rw [Nat.shiftRight_eq_div_pow]; omega)
  have hb1 := zc1_split (a := b) (y := c) (m := 21845) hb hc0
  have hb0 : (((b + 256 * c) >>> 1) &&& (85 + 256 * 21845)) ≤ b + 256 * c := Nat.le_trans Nat.and_le_left (by rw [Nat.shiftRight_eq_div_pow]; omega)
  have ha1 := zc1_split (a := a) (y := b + 256 * c) (m := 85 + 256 * 21845) ha hb0
  rw [hc1] at hb1
  rw [hb1] at ha1
  exact ha1
theorem zc2_split {a y m : Nat} (ha : a < 256) : ((a + 256 * y) &&& (51 + 256 * m)) + (((a + 256 * y) >>> 2) &&& (51 + 256 * m)) = ((a &&& 51) + ((a >>> 2) &&& 51)) + 256 * ((y &&& m) + ((y >>> 2) &&& m)) := by
  have e : (a + 256 * y) >>> 2 = (a / 4 + 64 * (y % 4)) + 256 * (y >>> 2) := by
    rw [Nat.shiftRight_eq_div_pow, Nat.shiftRight_eq_div_pow]
    omega
  rw [e, zand_split _ _ _ _ (by omega) (by omega), zand_split _ _ _ _ (by omega) (by omega), zb2 a ha _ (by omega)]
  omega
theorem zc2_eq {a b c : Nat} (ha : a < 256) (hb : b < 256) (hc : c < 256) : zc2 (a + 256 * (b + 256 * c)) = zd2 a + 256 * (zd2 b + 256 * zd2 c) := by
  unfold zc2
  rw [zc1_eq ha hb hc]
  have hd1 := (zb4 a ha).2.1
  have hd2 := (zb4 b hb).2.1
  have hd3 := (zb4 c hc).2.1
  have e3 : (zd1 c &&& 13107) + ((zd1 c >>> 2) &&& 13107) = zd2 c := by
    have := zc2_split (a := zd1 c) (y := 0) (m := 51) hd3
    simpa [zd2] using this
  have e2 := zc2_split (a := zd1 b) (y := zd1 c) (m := 13107) hd2
  have e1 := zc2_split (a := zd1 a) (y := zd1 b + 256 * zd1 c) (m := 51 + 256 * 13107) hd1
  rw [e3] at e2
  rw [e2] at e1
  exact e1
theorem zc3_split {a y m : Nat} (ha : a < 69) (hy : y % 16 < 5) : ((a + 256 * y) + ((a + 256 * y) >>> 4)) &&& (15 + 256 * m) = ((a + (a >>> 4)) &&& 15) + 256 * ((y + (y >>> 4)) &&& m) := by
  have e : (a + 256 * y) + ((a + 256 * y) >>> 4) = (a + (a / 16 + 16 * (y % 16))) + 256 * (y + (y >>> 4)) := by
    rw [Nat.shiftRight_eq_div_pow, Nat.shiftRight_eq_div_pow]
    omega
  rw [e, zand_split _ _ _ _ (by omega) (by omega), zb3 a ha _ hy]
theorem zc3_eq {a b c : Nat} (ha : a < 256) (hb : b < 256) (hc : c < 256) : zc3 (a + 256 * (b + 256 * c)) = zd3 a + 256 * (zd3 b + 256 * zd3 c) := by
  unfold zc3
  rw [zc2_eq ha hb hc]
  have hd1 := (zb4 a ha).2.2.1
  have hd2 := (zb4 b hb).2.2.1
  have hd3 := (zb4 c hc).2.2.1
  have e3 : (zd2 c + (zd2 c >>> 4)) &&& 3855 = zd3 c := by
    have := zc3_split (a := zd2 c) (y := 0) (m := 15) hd3.1 (by decide)
    simpa [zd3] using this
  have e2 := zc3_split (a := zd2 b) (y := zd2 c) (m := 3855) hd2.1 hd3.2
  have e1 := zc3_split (a := zd2 a) (y := zd2 b + 256 * zd2 c) (m := 15 + 256 * 3855) hd1.1 (by omega)
  rw [e3] at e2
  rw [e2] at e1
  exact e1
def zpop8 (a : Nat) : Nat := a % 2 + a / 2 % 2 + a / 4 % 2 + a / 8 % 2 + a / 16 % 2 + a / 32 % 2 + a / 64 % 2 + a / 128 % 2
theorem zc5_eq {a b c : Nat} (ha : a < 256) (hb : b < 256) (hc : c < 256) : zc5 (a + 256 * (b + 256 * c)) = zpop8 a + zpop8 b + zpop8 c := by
  unfold zc5 zc4
  rw [zc3_eq ha hb hc, (zb4 a ha).2.2.2, (zb4 b hb).2.2.2, (zb4 c hc).2.2.2]
  show _ = zpop8 a + zpop8 b + zpop8 c
  rw [show a % 2 + a / 2 % 2 + a / 4 % 2 + a / 8 % 2 + a / 16 % 2 + a / 32 % 2 + a / 64 % 2 + a / 128 % 2 = zpop8 a from rfl, show b % 2 + b / 2 % 2 + b / 4 % 2 + b / 8 % 2 + b / 16 % 2 + b / 32 % 2 + b / 64 % 2 + b / 128 % 2 = zpop8 b from rfl, show c % 2 + c / 2 % 2 + c / 4 % 2 + c / 8 % 2 + c / 16 % 2 + c / 32 % 2 + c / 64 % 2 + c / 128 % 2 = zpop8 c from rfl]
  have h1 : zpop8 a ≤ 8 := by unfold zpop8; omega
  have h2 : zpop8 b ≤ 8 := by unfold zpop8; omega
  have h3 : zpop8 c ≤ 8 := by unfold zpop8; omega
  generalize zpop8 a = x at *
  generalize zpop8 b = y at *
  generalize zpop8 c = z at *
  rw [show (63 : Nat) = 2 ^ 6 - 1 from rfl, Nat.and_two_pow_sub_one_eq_mod, Nat.shiftRight_eq_div_pow, Nat.shiftRight_eq_div_pow]
  have e1 : (x + 256 * (y + 256 * z)) / 2 ^ 8 = y + 256 * z := by omega
  rw [e1]
  have e2 : (x + 256 * (y + 256 * z) + (y + 256 * z)) / 2 ^ 16 = z := by omega
  rw [e2]
  have e3 : x + 256 * (y + 256 * z) + (y + 256 * z) + z = (x + y + z) + 64 * (4 * (y + 256 * z) + 4 * z) := by omega
  rw [e3]
  have e4 : x + y + z < 64 := by omega
  generalize 4 * (y + 256 * z) + 4 * z = w
  omega
