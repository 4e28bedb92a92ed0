def zls (a k : Int32) : Int32 := (a.toUInt32 >>> (k.toUInt32 &&& Int32.toUInt32 31)).toInt32
def zh1 (a : Int32) : Int32 := a - (zls a 1 &&& (1431655765 : Int32))
def zh2 (a : Int32) : Int32 := (a &&& (858993459 : Int32)) + (zls a 2 &&& (858993459 : Int32))
def zh3 (a : Int32) : Int32 := (a + zls a 4) &&& (252645135 : Int32)
def zh4 (a : Int32) : Int32 := a + zls a 8
def zh5 (a : Int32) : Int32 := (a + zls a 16) &&& (63 : Int32)
theorem zo_cnt (a : Int32) (s : yb_S) : f_J6_bitCount_0f7a4 a s = some (zh5 (zh4 (zh3 (zh2 (zh1 a))))) := rfl
theorem zh1_n {x : Nat} (hx : x < 16777216) : zh1 (zi x) = zi (zc1 x) := by
  have g1 : zls (zi x) 1 = zi (x >>> 1) := zi_lsr (k := 1) (by omega) rfl
  unfold zh1 zc1
  rw [g1, show (1431655765 : Int32) = zi 1431655765 from rfl, zi_and, zi_sb]
  exact Nat.le_trans Nat.and_le_left (by rw [Nat.shiftRight_eq_div_pow]; omega)
theorem zh2_n {x : Nat} (hx : x < 16777216) : zh2 (zi x) = zi ((x &&& 858993459) + ((x >>> 2) &&& 858993459)) := by
  have g1 : zls (zi x) 2 = zi (x >>> 2) := zi_lsr (k := 2) (by omega) rfl
  unfold zh2
  rw [g1, show (858993459 : Int32) = zi 858993459 from rfl, zi_and, zi_and, zi_add]
theorem zh3_n {x : Nat} (hx : x < 16777216) : zh3 (zi x) = zi ((x + (x >>> 4)) &&& 252645135) := by
  have g1 : zls (zi x) 4 = zi (x >>> 4) := zi_lsr (k := 4) (by omega) rfl
  unfold zh3
  rw [g1, show (252645135 : Int32) = zi 252645135 from rfl, zi_add, zi_and]
theorem zh4_n {x : Nat} (hx : x < 16777216) : zh4 (zi x) = zi (x + (x >>> 8)) := by
  have g1 : zls (zi x) 8 = zi (x >>> 8) := zi_lsr (k := 8) (by omega) rfl
  unfold zh4
  rw [g1, zi_add]
theorem zh5_n {x : Nat} (hx : x < 33554432) : zh5 (zi x) = zi ((x + (x >>> 16)) &&& 63) := by
  have g1 : zls (zi x) 16 = zi (x >>> 16) := zi_lsr (k := 16) (by omega) rfl
  unfold zh5
  rw [g1, show (63 : Int32) = zi 63 from rfl, zi_add, zi_and]
theorem zc2_e (x : Nat) : zc2 x = (zc1 x &&& 858993459) + ((zc1 x >>> 2) &&& 858993459) := rfl
theorem zc3_e (x : Nat) : zc3 x = (zc2 x + (zc2 x >>> 4)) &&& 252645135 := rfl
theorem zc4_e (x : Nat) : zc4 x = zc3 x + (zc3 x >>> 8) := rfl
theorem zc5_e (x : Nat) : zc5 x = (zc4 x + (zc4 x >>> 16)) &&& 63 := rfl
theorem zo_count {x : Nat} {s : yb_S} (hx : x < 16777216) (h1 : zc1 x < 16777216) (h2 : zc2 x < 16777216) (h3 : zc3 x < 16777216) (h4 : zc4 x < 33554432) : f_J6_bitCount_0f7a4 (zi x) s = some (zi (zc5 x)) := by
  rw [zo_cnt, zh1_n hx, zh2_n h1, ← zc2_e, zh3_n h2, ← zc3_e, zh4_n h3, ← zc4_e, zh5_n h4, ← zc5_e]
theorem zb5 : ∀ a : Nat, a < 256 → zd1 a < 256 ∧ zd2 a < 69 ∧ zd3 a ≤ 8 := by decide +kernel
theorem z_b3 {a b c : Nat} (ha : a < 256) (hb : b < 256) (hc : c < 256) : a + 256 * (b + 256 * c) < 16777216 := by omega
theorem z_b4 {a : Nat} (ha : a < 16777216) : a + (a >>> 8) < 33554432 := by
  rw [Nat.shiftRight_eq_div_pow]
  omega
theorem zo_bits {p : Nat → Bool} {n : Nat} {s : yb_S} (hn : n ≤ 24) : f_J6_bitCount_0f7a4 (zbits p n) s = some (zsum (fun k => cond (p k) 1 0) n) := by
  rw [zbits_up (m := 24) (by decide) hn, zbits_nat (by decide), ← zcount_sum, ← zcount_cut hn, ← zcount_24]
  generalize (fun k => decide (k < n) && p k) = q
  have hx := zNb_24 (p := q)
  have g1 := zc1_eq (zby_lt (q := q) (o := 0)) (zby_lt (q := q) (o := 8)) (zby_lt (q := q) (o := 16))
  have g2 := zc2_eq (zby_lt (q := q) (o := 0)) (zby_lt (q := q) (o := 8)) (zby_lt (q := q) (o := 16))
  have g3 := zc3_eq (zby_lt (q := q) (o := 0)) (zby_lt (q := q) (o := 8)) (zby_lt (q := q) (o := 16))
  rw [← hx] at g1 g2 g3
  have k0 : zNb q 24 < 16777216 := zNb_lt
  have k1 : zc1 (zNb q 24) < 16777216 := by
    rw [g1]
    exact z_b3 (zb5 _ zby_lt).1 (zb5 _ zby_lt).1 (zb5 _ zby_lt).1
  have k2 : zc2 (zNb q 24) < 16777216 := by
    rw [g2]
    exact z_b3 (Nat.lt_trans (zb5 _ zby_lt).2.1 (by decide)) (Nat.lt_trans (zb5 _ zby_lt).2.1 (by decide)) (Nat.lt_trans (zb5 _ zby_lt).2.1 (by decide))
  have k3 : zc3 (zNb q 24) < 16777216 := by
    rw [g3]
    exact z_b3 (Nat.lt_of_le_of_lt (zb5 _ zby_lt).2.2 (by decide)) (Nat.lt_of_le_of_lt (zb5 _ zby_lt).2.2 (by decide)) (Nat.lt_of_le_of_lt (zb5 _ zby_lt).2.2 (by decide))
  refine zo_count k0 k1 k2 k3 ?_
  rw [zc4_e]
  exact z_b4 k3
