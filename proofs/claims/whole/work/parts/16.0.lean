/-! who is there, on both sides -/
theorem zi_div {a b : Nat} (ha : a < 2147483648) (hb : b < 2147483648) : zi a / zi b = zi (a / b) := (Int32.ofNat_div ha hb).symm
theorem zi_rem {a b : Nat} (ha : a < 2147483648) (hb : b < 2147483648) : yb_rem (zi a) (zi b) = zi (a % b) := by
  unfold yb_rem
  rw [zi_div ha hb, zi_mul, zi_sub (Nat.div_mul_le_self a b)]
  congr 1
  have := Nat.div_add_mod a b
  have h2 : a / b * b = b * (a / b) := Nat.mul_comm _ _
  omega
def zin (a : Int32) (n : Nat) : Prop := ∃ k, k < n ∧ a = zi k
theorem zin_no {a : Int32} {n : Nat} (hn : n < 2147483648) (h : ¬ zin a n) : a < zi 0 ∨ zi n ≤ a := by
  rcases zi_cases a with h1 | ⟨k, hk, rfl⟩
  · exact Or.inl h1
  · refine Or.inr ?_
    rw [zi_le hn hk]
    exact Nat.not_lt.mp fun q => h ⟨k, q, rfl⟩
theorem z_inC1 {n k : Nat} {s : yb_S} (hn : n < 2147483648) (hk : k < n) : f_X12_in (zi k).toInt64 (0 : Int64) ((zi n - 1).toInt64) s = some 1 := by
  simp only [z_in64]
  rw [if_pos]
  refine ⟨?_, ?_⟩
  · rw [show (0 : Int64) = (0 : Int32).toInt64 from rfl, z64_le, show (0 : Int32) = zi 0 from rfl, zi_le (by omega) (by omega)]
    omega
  · rw [z64_le, zi_pred (by omega), zi_le (by omega) (by omega)]
    omega
theorem z_inC0 {n : Nat} {x : Int32} {s : yb_S} (hn : n < 2147483648) (hk : ¬ zin x n) : f_X12_in x.toInt64 (0 : Int64) ((zi n - 1).toInt64) s = some 0 := by
  simp only [z_in64]
  rw [if_neg]
  intro q
  rw [show (0 : Int64) = (0 : Int32).toInt64 from rfl, z64_le, z64_le] at q
  rcases zin_no hn hk with h1 | h1
  · exact absurd q.1 (Int32.not_le.mpr h1)
  · have h2 := Int32.le_trans h1 q.2
    rw [Int32.le_iff_toInt_le, zi_toInt hn] at h2
    rcases Nat.eq_zero_or_pos n with h0 | h0
    · subst h0
      revert h2
      decide
    · rw [zi_pred h0, zi_toInt (by omega)] at h2
      omega
theorem zo_has10t {k n : Nat} {s : yb_S} (h0 : s.1 2 0 = zi n) (hn : n ≤ 8) (hk : k < n) : f_X10_has (zi k) s = some 1 := by
  unfold f_X10_has
  simp (disch := omega) only [h0, ↓zmd, zl, zi_div, zi_rem, zi_lt, zi_le, zi_inj, zi_add, zi_sub, zi_addm, zi_eqm, zi_meq, zi_mlt, zi_ltm, zi_lem, zi_mle, zi_tn, zi_rd, zi_wr, zi_rl, zi_wl, zi_ri, zu_ne, zu_nef, zu_eq, zu_id, zu_rl, zu_rdL, zu_neL, zu_idL, Option.bind_some, ↓reduceIte, Nat.reduceEqDiff, if_pos, if_neg]
theorem zo_has10f {a : Int32} {n : Nat} {s : yb_S} (h0 : s.1 2 0 = zi n) (hn : n ≤ 8) (hk : ¬ zin a n) : f_X10_has a s = some 0 := by
  unfold f_X10_has
  rw [h0]
  rcases zin_no (by omega) hk with h1 | h1
  · rw [if_pos (show a < 0 from h1)]
  · by_cases h2 : a < 0
    · rw [if_pos h2]
    · rw [if_neg h2, if_pos h1]
theorem zo_has4t {k n : Nat} {s : yb_S} (h0 : s.1 13 0 = zi n) (hn : n ≤ 24) (hk : k < n) : f_X4_has (zi k) s = some 1 := by
  unfold f_X4_has
  simp (disch := omega) only [h0, ↓zmd, zl, zi_div, zi_rem, zi_lt, zi_le, zi_inj, zi_add, zi_sub, zi_addm, zi_eqm, zi_meq, zi_mlt, zi_ltm, zi_lem, zi_mle, zi_tn, zi_rd, zi_wr, zi_rl, zi_wl, zi_ri, zu_ne, zu_nef, zu_eq, zu_id, zu_rl, zu_rdL, zu_neL, zu_idL, Option.bind_some, ↓reduceIte, Nat.reduceEqDiff, if_pos, if_neg]
theorem zo_has4f {a : Int32} {n : Nat} {s : yb_S} (h0 : s.1 13 0 = zi n) (hn : n ≤ 24) (hk : ¬ zin a n) : f_X4_has a s = some 0 := by
  unfold f_X4_has
  rw [h0]
  rcases zin_no (by omega) hk with h1 | h1
  · rw [if_pos (show a < 0 from h1)]
  · by_cases h2 : a < 0
    · rw [if_pos h2]
    · rw [if_neg h2, if_pos h1]
theorem zo_has2t {k n : Nat} {s : yb_S} (h0 : s.1 21 0 = zi n) (hn : n ≤ 24) (hk : k < n) : f_X2_has (zi k) s = some 1 := by
  unfold f_X2_has
  simp (disch := omega) only [h0, ↓zmd, zl, zi_div, zi_rem, zi_lt, zi_le, zi_inj, zi_add, zi_sub, zi_addm, zi_eqm, zi_meq, zi_mlt, zi_ltm, zi_lem, zi_mle, zi_tn, zi_rd, zi_wr, zi_rl, zi_wl, zi_ri, zu_ne, zu_nef, zu_eq, zu_id, zu_rl, zu_rdL, zu_neL, zu_idL, Option.bind_some, ↓reduceIte, Nat.reduceEqDiff, if_pos, if_neg]
theorem zo_has2f {a : Int32} {n : Nat} {s : yb_S} (h0 : s.1 21 0 = zi n) (hn : n ≤ 24) (hk : ¬ zin a n) : f_X2_has a s = some 0 := by
  unfold f_X2_has
  rw [h0]
  rcases zin_no (by omega) hk with h1 | h1
  · rw [if_pos (show a < 0 from h1)]
  · by_cases h2 : a < 0
    · rw [if_pos h2]
    · rw [if_neg h2, if_pos h1]
theorem zo_has5t {k n : Nat} {s : yb_S} (h0 : s.1 54 0 = zi n) (hn : n ≤ 10) (hk : k < n) : f_X5_has (zi k) s = some 1 := by
  unfold f_X5_has
  simp (disch := omega) only [h0, ↓zmd, zl, zi_div, zi_rem, zi_lt, zi_le, zi_inj, zi_add, zi_sub, zi_addm, zi_eqm, zi_meq, zi_mlt, zi_ltm, zi_lem, zi_mle, zi_tn, zi_rd, zi_wr, zi_rl, zi_wl, zi_ri, zu_ne, zu_nef, zu_eq, zu_id, zu_rl, zu_rdL, zu_neL, zu_idL, Option.bind_some, ↓reduceIte, Nat.reduceEqDiff, if_pos, if_neg]
theorem zo_has5f {a : Int32} {n : Nat} {s : yb_S} (h0 : s.1 54 0 = zi n) (hn : n ≤ 10) (hk : ¬ zin a n) : f_X5_has a s = some 0 := by
  unfold f_X5_has
  rw [h0]
  rcases zin_no (by omega) hk with h1 | h1
  · rw [if_pos (show a < 0 from h1)]
  · by_cases h2 : a < 0
    · rw [if_pos h2]
    · rw [if_neg h2, if_pos h1]
theorem zo_has7t {k n : Nat} {s : yb_S} (h0 : s.1 41 0 = zi n) (hn : n ≤ 60) (hk : k < n) : f_X7_has (zi k) s = some 1 := by
  unfold f_X7_has
  simp (disch := omega) only [h0, ↓zmd, zl, zi_div, zi_rem, zi_lt, zi_le, zi_inj, zi_add, zi_sub, zi_addm, zi_eqm, zi_meq, zi_mlt, zi_ltm, zi_lem, zi_mle, zi_tn, zi_rd, zi_wr, zi_rl, zi_wl, zi_ri, zu_ne, zu_nef, zu_eq, zu_id, zu_rl, zu_rdL, zu_neL, zu_idL, Option.bind_some, ↓reduceIte, Nat.reduceEqDiff, if_pos, if_neg]
theorem zo_has7f {a : Int32} {n : Nat} {s : yb_S} (h0 : s.1 41 0 = zi n) (hn : n ≤ 60) (hk : ¬ zin a n) : f_X7_has a s = some 0 := by
  unfold f_X7_has
  rw [h0]
  rcases zin_no (by omega) hk with h1 | h1
  · rw [if_pos (show a < 0 from h1)]
  · by_cases h2 : a < 0
    · rw [if_pos h2]
    · rw [if_neg h2, if_pos h1]
theorem zm_isTownt {k n : Nat} {s : yb_S} (h0 : s.1 176 6 = zi n) (hn : n ≤ 8) (hk : k < n) : f_X12_isTown (zi k) s = some 1 := by
  unfold f_X12_isTown
  rw [h0, z_inC1 (by omega) hk]
  rfl
theorem zm_isTownf {a : Int32} {n : Nat} {s : yb_S} (h0 : s.1 176 6 = zi n) (hn : n ≤ 8) (hk : ¬ zin a n) : f_X12_isTown a s = some 0 := by
  unfold f_X12_isTown
  rw [h0, z_inC0 (by omega) hk]
  rfl
theorem zm_isHomet {k n : Nat} {s : yb_S} (h0 : s.1 176 15 = zi n) (hn : n ≤ 24) (hk : k < n) : f_X12_isHome (zi k) s = some 1 := by
  unfold f_X12_isHome
  rw [h0, z_inC1 (by omega) hk]
  rfl
theorem zm_isHomef {a : Int32} {n : Nat} {s : yb_S} (h0 : s.1 176 15 = zi n) (hn : n ≤ 24) (hk : ¬ zin a n) : f_X12_isHome a s = some 0 := by
  unfold f_X12_isHome
  rw [h0, z_inC0 (by omega) hk]
  rfl
theorem zm_isFamilyt {k n : Nat} {s : yb_S} (h0 : s.1 176 27 = zi n) (hn : n ≤ 24) (hk : k < n) : f_X12_isFamily (zi k) s = some 1 := by
  unfold f_X12_isFamily
  rw [h0, z_inC1 (by omega) hk]
  rfl
theorem zm_isFamilyf {a : Int32} {n : Nat} {s : yb_S} (h0 : s.1 176 27 = zi n) (hn : n ≤ 24) (hk : ¬ zin a n) : f_X12_isFamily a s = some 0 := by
  unfold f_X12_isFamily
  rw [h0, z_inC0 (by omega) hk]
  rfl
theorem zm_isRecordt {k n : Nat} {s : yb_S} (h0 : s.1 176 36 = zi n) (hn : n ≤ 60) (hk : k < n) : f_X12_isRecord (zi k) s = some 1 := by
  unfold f_X12_isRecord
  rw [h0, z_inC1 (by omega) hk]
  rfl
theorem zm_isRecordf {a : Int32} {n : Nat} {s : yb_S} (h0 : s.1 176 36 = zi n) (hn : n ≤ 60) (hk : ¬ zin a n) : f_X12_isRecord a s = some 0 := by
  unfold f_X12_isRecord
  rw [h0, z_inC0 (by omega) hk]
  rfl
theorem z_inZ {β : Type} {k a b : Nat} {l h : Int64} {s : yb_S} {f : Int32 → Option β} (hl : l = (zi a).toInt64) (hh : h = (zi b).toInt64) (hk : k < 2147483648) (ha : a < 2147483648) (hb : b < 2147483648) : (f_X12_in (zi k).toInt64 l h s).bind f = if a ≤ k ∧ k ≤ b then f 1 else f 0 := by
  rw [z_in hl hh]
  simp only [zi_le ha hk, zi_le hk hb]
theorem z_inN {β : Type} {x : Int32} {l h : Int64} {s : yb_S} {f : Int32 → Option β} (hx : x < zi 0) (hl : (0 : Int64) ≤ l) : (f_X12_in x.toInt64 l h s).bind f = f 0 := by
  rw [z_in64, if_neg, Option.bind_some]
  intro q
  have h1 : (0 : Int64) ≤ x.toInt64 := Int64.le_trans hl q.1
  rw [show (0 : Int64) = (0 : Int32).toInt64 from rfl, z64_le] at h1
  exact absurd h1 (Int32.not_le.mpr hx)
theorem zi_ne_neg {k : Nat} {x : Int32} (hx : x < zi 0) (hk : k < 2147483648) : ¬ zin x k := by
  rintro ⟨j, hj, rfl⟩
  rw [zi_lt (by omega) (by omega)] at hx
  omega
