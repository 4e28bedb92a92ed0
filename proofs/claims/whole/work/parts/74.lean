/-! the reference finds the tokens -/
theorem zby8 : ∀ k, k < 256 → (128 ≤ k → (zi k - 128) &&& 255 = zi k - 128 ∧ 0 ≤ zi k - 128) ∧ (k < 128 → 128 ≤ (zi k - 128) &&& 255 ∧ zi k - 128 < 0) := by decide +kernel
theorem zby_k {x : Int32} (h : -128 ≤ x ∧ x ≤ 127) : ∃ k, k < 256 ∧ x = zi k - 128 := by
  have h1 := Int32.le_iff_toInt_le.mp h.1
  have h2 := Int32.le_iff_toInt_le.mp h.2
  have h1 : (-128 : Int) ≤ x.toInt := h1
  have h2 : x.toInt ≤ 127 := h2
  refine ⟨(x.toInt + 128).toNat, by omega, ?_⟩
  apply Int32.toInt_inj.mp
  rw [Int32.toInt_sub, zi_toInt (by omega)]
  show x.toInt = Int.bmod (((x.toInt + 128).toNat : Int) - 128) (2 ^ 32)
  rw [Int.bmod_eq_of_le_mul_two (by omega) (by omega)]
  omega
theorem zby_p {x : Int32} (h : -128 ≤ x ∧ x ≤ 127) : (0 ≤ x ∧ x &&& 255 = x) ∨ (x < 0 ∧ 128 ≤ x &&& 255) := by
  obtain ⟨k, hk, rfl⟩ := zby_k h
  rcases Nat.lt_or_ge k 128 with q | q
  · exact Or.inr ⟨((zby8 k hk).2 q).2, ((zby8 k hk).2 q).1⟩
  · exact Or.inl ⟨((zby8 k hk).1 q).2, ((zby8 k hk).1 q).1⟩
theorem zby_e {x c : Int32} (h : -128 ≤ x ∧ x ≤ 127) (hc0 : 0 ≤ c) (hc : c < 128) : (x = c) = (x &&& 255 = c) := by
  rcases zby_p h with ⟨h1, h2⟩ | ⟨h1, h2⟩
  · rw [h2]
  · apply propext
    constructor
    · intro e
      rw [e] at h1
      exact absurd hc0 (Int32.not_le.mpr h1)
    · intro e
      rw [e] at h2
      exact absurd hc (Int32.not_lt.mpr h2)
theorem zby_r {x a b : Int32} (h : -128 ≤ x ∧ x ≤ 127) (ha : 0 ≤ a) (hb : b < 128) : (decide (a ≤ x) && decide (x ≤ b)) = (decide (a ≤ x &&& 255) && decide (x &&& 255 ≤ b)) := by
  rcases zby_p h with ⟨h1, h2⟩ | ⟨h1, h2⟩
  · rw [h2]
  · rw [decide_eq_false (show ¬ a ≤ x from fun q => absurd (Int32.le_trans ha q) (Int32.not_le.mpr h1)), decide_eq_false (show ¬ x &&& 255 ≤ b from fun q => absurd (Int32.le_trans h2 q) (Int32.not_le.mpr hb)), Bool.false_and, Bool.and_false]
theorem zm_isL {c : Int32} {s : yb_S} : f_X12_isLetter c s = some (zb (zlt c)) := by
  unfold f_X12_isLetter zlt
  by_cases h1 : c < 97
  · rw [if_pos h1, decide_eq_false (Int32.not_le.mpr h1)]
    rfl
  · rw [if_neg h1, decide_eq_true (Int32.not_lt.mp h1)]
    by_cases h2 : 122 < c
    · rw [if_pos h2, decide_eq_false (Int32.not_le.mpr h2)]
      rfl
    · rw [if_neg h2, decide_eq_true (Int32.not_lt.mp h2)]
      rfl
theorem zm_isDg {c : Int32} {s : yb_S} : f_X12_isDigit c s = some (zb (zdg c)) := by
  unfold f_X12_isDigit zdg
  by_cases h1 : c < 48
  · rw [if_pos h1, decide_eq_false (Int32.not_le.mpr h1)]
    rfl
  · rw [if_neg h1, decide_eq_true (Int32.not_lt.mp h1)]
    by_cases h2 : 57 < c
    · rw [if_pos h2, decide_eq_false (Int32.not_le.mpr h2)]
      rfl
    · rw [if_neg h2, decide_eq_true (Int32.not_lt.mp h2)]
      rfl
/-- the text in the reference's memory -/
def ztx (T : Nat → Int32) (n : Nat) (u : yb_S) : Prop := n ≤ 500 ∧ u.1 176 44 = zi n ∧ ∀ k, k < n → (-128 ≤ u.1 242 k ∧ u.1 242 k ≤ 127) ∧ u.1 242 k &&& 255 = T k
/-- u is s, but for the place and the end of the token -/
def zf45 (s u : yb_S) : Prop := (∀ id k, ¬ (id = 176 ∧ (k = 45 ∨ k = 46)) → u.1 id k = s.1 id k) ∧ u.2 = s.2
theorem zf45_r (s : yb_S) : zf45 s s := ⟨fun _ _ _ => rfl, rfl⟩
theorem zf45_w {s u : yb_S} (h : zf45 s u) {k : Nat} {x : Int32} (hk : k = 45 ∨ k = 46) : zf45 s (yb_pI u 176 k x) := by
  refine ⟨fun id j q => ?_, h.2⟩
  rw [← h.1 id j q]
  by_cases e : id = 176
  · subst e
    rw [zu_id, if_neg (by omega)]
  · rw [zu_ne e]
theorem zf45_x {T : Nat → Int32} {n : Nat} {s u : yb_S} (h : zf45 s u) (hx : ztx T n s) : ztx T n u := by
  refine ⟨hx.1, ?_, fun k hk => ?_⟩
  · rw [h.1 176 44 (by omega)]
    exact hx.2.1
  · rw [h.1 242 k (by omega)]
    exact hx.2.2 k hk
theorem ztx_L {T : Nat → Int32} {n : Nat} {s : yb_S} (hx : ztx T n s) {k : Nat} (hk : k < n) : zlt (s.1 242 k) = zlt (T k) ∧ zdg (s.1 242 k) = zdg (T k) ∧ zbl (s.1 242 k) = zbl (T k) ∧ ∀ c : Int32, 0 ≤ c → c < 128 → (s.1 242 k = c) = (T k = c) := by
  have h := hx.2.2 k hk
  rw [← h.2]
  refine ⟨zby_r h.1 (by decide) (by decide), zby_r h.1 (by decide) (by decide), ?_, fun c h1 h2 => zby_e h.1 h1 h2⟩
  unfold zbl
  have e1 := zby_e h.1 (show (0 : Int32) ≤ 32 by decide) (by decide)
  have e2 := zby_e h.1 (show (0 : Int32) ≤ 10 by decide) (by decide)
  rw [Bool.eq_iff_iff]
  simp only [Bool.or_eq_true, beq_iff_eq]
  rw [e1, e2]
theorem zm_sk141 {T : Nat → Int32} {n q : Nat} {s : yb_S} (hx : ztx T n s) (hq : q < n) (h45 : s.1 176 45 = zi q) (h46 : s.1 176 46 = zi q) (hl : zlt (T q) = false) (hd : zdg (T q) = true) : zs_P (l_X12_skips_141 yb_N s) (fun u => zf45 s u ∧ u.1 176 45 = zi q ∧ u.1 176 46 = zi (zen T n q)) := by
  have ee : zen T n q = zrun zdg T n q := by
    unfold zen
    rw [if_pos hq, hl, hd]
    rfl
  rw [ee]
  have hn := hx.1
  have hb := zrun_b (b := zdg) (T := T) (n := n) (p := q) (Nat.le_of_lt hq)
  unfold l_X12_skips_141
  refine zs_up (fun j u => zf45 s u ∧ u.1 176 45 = zi q ∧ u.1 176 46 = zi (q + j) ∧ zrun zdg T n (q + j) = zrun zdg T n q) (n - q) ?_ yb_N 0 _ (Nat.zero_le _) (by unfold yb_N; omega) (by exact ⟨zf45_r s, h45, h46, rfl⟩)
  rintro j u rc hj ⟨i1, i2, i3, i4⟩ hnx
  show zs_P (f_X12_skips_141 (fun s => rc s) u) _
  have hxu := zf45_x i1 hx
  unfold f_X12_skips_141
  rw [hxu.2.1, i3]
  rcases Nat.lt_or_ge (q + j) n with hlt | hge
  · rw [if_neg (by rw [zi_le (by omega) (by omega)]; omega), zi_rd (by omega) (by omega), Option.bind_some, zm_isDg, Option.bind_some, (ztx_L hxu hlt).2.1]
    cases hz : zdg (T (q + j))
    · rw [if_pos (show zb false = 0 from rfl)]
      rw [zrun_e fun _ => hz] at i4
      exact zs_ret ⟨i1, i2, by rw [i3, i4]⟩
    · rw [if_neg (show ¬ zb true = 0 by decide), Option.bind_some, zi_succ]
      refine hnx (by omega) _ ⟨zf45_w i1 (Or.inr rfl), ?_, zu_eq, ?_⟩
      · rw [zu_id, if_neg (by decide)]
        exact i2
      · rw [← i4, zrun_s hlt hz]
        rfl
  · rw [if_pos (by rw [zi_le (by omega) (by omega)]; omega)]
    rw [zrun_e fun h => absurd h (by omega)] at i4
    exact zs_ret ⟨i1, i2, by rw [i3, i4]⟩
theorem zm_sk87 {T : Nat → Int32} {n q : Nat} {s : yb_S} (hx : ztx T n s) (hq : q < n) (h45 : s.1 176 45 = zi q) (h46 : s.1 176 46 = zi q) (hl : zlt (T q) = true) : zs_P (l_X12_skips_87 yb_N s) (fun u => zf45 s u ∧ u.1 176 45 = zi q ∧ u.1 176 46 = zi (zen T n q)) := by
  have ee : zen T n q = zrun zlt T n q := by
    unfold zen
    rw [if_pos hq, hl]
    rfl
  rw [ee]
  have hn := hx.1
  have hb := zrun_b (b := zlt) (T := T) (n := n) (p := q) (Nat.le_of_lt hq)
  unfold l_X12_skips_87
  refine zs_up (fun j u => zf45 s u ∧ u.1 176 45 = zi q ∧ u.1 176 46 = zi (q + j) ∧ zrun zlt T n (q + j) = zrun zlt T n q) (n - q) ?_ yb_N 0 _ (Nat.zero_le _) (by unfold yb_N; omega) (by exact ⟨zf45_r s, h45, h46, rfl⟩)
  rintro j u rc hj ⟨i1, i2, i3, i4⟩ hnx
  show zs_P (f_X12_skips_87 (fun s => rc s) u) _
  have hxu := zf45_x i1 hx
  unfold f_X12_skips_87
  rw [hxu.2.1, i3]
  rcases Nat.lt_or_ge (q + j) n with hlt | hge
  · rw [if_neg (by rw [zi_le (by omega) (by omega)]; omega), zi_rd (by omega) (by omega), Option.bind_some, zm_isL, Option.bind_some, (ztx_L hxu hlt).1]
    cases hz : zlt (T (q + j))
    · rw [if_pos (show zb false = 0 from rfl)]
      rw [zrun_e fun _ => hz] at i4
      exact zs_ret ⟨i1, i2, by rw [i3, i4]⟩
    · rw [if_neg (show ¬ zb true = 0 by decide), Option.bind_some, zi_succ]
      refine hnx (by omega) _ ⟨zf45_w i1 (Or.inr rfl), ?_, zu_eq, ?_⟩
      · rw [zu_id, if_neg (by decide)]
        exact i2
      · rw [← i4, zrun_s hlt hz]
        rfl
  · rw [if_pos (by rw [zi_le (by omega) (by omega)]; omega)]
    rw [zrun_e fun h => absurd h (by omega)] at i4
    exact zs_ret ⟨i1, i2, by rw [i3, i4]⟩
theorem zm_sk52 {T : Nat → Int32} {n q : Nat} {s : yb_S} (hx : ztx T n s) (hq : q ≤ n) (h45 : s.1 176 45 = zi q) : zs_P (j_X12_skips_52 s) (fun u => zf45 s u ∧ u.1 176 45 = zi q ∧ u.1 176 46 = zi (zen T n q)) := by
  have hn := hx.1
  unfold j_X12_skips_52
  have f1 : zf45 s (yb_pI s 176 46 (s.1 176 45)) := zf45_w (zf45_r s) (Or.inr rfl)
  have hx1 := zf45_x f1 hx
  have e45 : (yb_pI s 176 46 (s.1 176 45)).1 176 45 = zi q := by rw [zu_id, if_neg (by decide)]; exact h45
  have e46 : (yb_pI s 176 46 (s.1 176 45)).1 176 46 = zi q := by rw [zu_eq]; exact h45
  rw [Option.bind_some]
  generalize yb_pI s 176 46 (s.1 176 45) = v at *
  rw [e45, hx1.2.1]
  rcases Nat.lt_or_ge q n with hlt | hge
  · rw [if_neg (by rw [zi_inj (by omega) (by omega)]; omega), zi_rd (by omega) (by omega), Option.bind_some, zm_isL, Option.bind_some, (ztx_L hx1 hlt).1]
    cases hl : zlt (T q)
    · rw [if_pos (show zb false = 0 from rfl), Option.bind_some, zm_isDg, Option.bind_some, (ztx_L hx1 hlt).2.1]
      cases hd : zdg (T q)
      · rw [if_pos (show zb false = 0 from rfl), Option.bind_some, zi_succ]
        refine zs_ret ⟨zf45_w f1 (Or.inr rfl), ?_, ?_⟩
        · rw [zu_id, if_neg (by decide)]
          exact e45
        · rw [zu_eq]
          unfold zen
          rw [if_pos hlt, hl, hd]
          rfl
      · rw [if_neg (show ¬ zb true = 0 by decide)]
        refine zs_mono (zm_sk141 hx1 hlt e45 e46 hl hd) fun u hu => ⟨⟨fun id k q => (hu.1.1 id k q).trans (f1.1 id k q), hu.1.2.trans f1.2⟩, hu.2⟩
    · rw [if_neg (show ¬ zb true = 0 by decide)]
      refine zs_mono (zm_sk87 hx1 hlt e45 e46 hl) fun u hu => ⟨⟨fun id k q => (hu.1.1 id k q).trans (f1.1 id k q), hu.1.2.trans f1.2⟩, hu.2⟩
  · have e : q = n := Nat.le_antisymm hq hge
    rw [if_pos (by rw [e])]
    exact zs_ret ⟨f1, e45, by rw [zen_n hge]; exact e46⟩
theorem zm_skips {T : Nat → Int32} {n p : Nat} {s : yb_S} (hx : ztx T n s) (hp : p ≤ n) (h45 : s.1 176 45 = zi p) : zs_P (f_X12_skips s) (fun u => zf45 s u ∧ u.1 176 45 = zi (zsk T n p) ∧ u.1 176 46 = zi (zen T n (zsk T n p))) := by
  have hn := hx.1
  unfold f_X12_skips l_X12_skips_0
  refine zs_up (fun j u => zf45 s u ∧ u.1 176 45 = zi (p + j) ∧ zsk T n (p + j) = zsk T n p) (n - p) ?_ yb_N 0 _ (Nat.zero_le _) (by unfold yb_N; omega) (by exact ⟨zf45_r s, h45, rfl⟩)
  rintro j u rc hj ⟨i1, i2, i3⟩ hnx
  show zs_P (f_X12_skips_0 (fun s => rc s) u) _
  have hxu := zf45_x i1 hx
  have fin : zsk T n (p + j) = p + j → zs_P (j_X12_skips_52 u) (fun u => zf45 s u ∧ u.1 176 45 = zi (zsk T n p) ∧ u.1 176 46 = zi (zen T n (zsk T n p))) := fun e => by
    rw [← i3, e]
    exact zs_mono (zm_sk52 hxu (by omega) i2) fun u hu => ⟨⟨fun id k q => (hu.1.1 id k q).trans (i1.1 id k q), hu.1.2.trans i1.2⟩, hu.2⟩
  unfold f_X12_skips_0 j_X12_skips_39
  rw [hxu.2.1, i2]
  rcases Nat.lt_or_ge (p + j) n with hlt | hge
  · rw [if_neg (by rw [zi_le (by omega) (by omega)]; omega), zi_rd (by omega) (by omega), Option.bind_some, Option.bind_some]
    cases hz : zbl (T (p + j))
    · have hz2 := (ztx_L hxu hlt).2.2.1.trans hz
      unfold zbl at hz2
      rw [Bool.or_eq_false_iff, beq_eq_false_iff_ne, beq_eq_false_iff_ne] at hz2
      rw [if_neg hz2.1, Option.bind_some, if_neg hz2.2]
      exact fin (zrun_e fun _ => hz)
    · have hz2 := (ztx_L hxu hlt).2.2.1.trans hz
      unfold zbl at hz2
      rw [Bool.or_eq_true, beq_iff_eq, beq_iff_eq] at hz2
      have goal : zs_P (rc (yb_pI u 176 45 (zi (p + j) + 1))) (fun u => zf45 s u ∧ u.1 176 45 = zi (zsk T n p) ∧ u.1 176 46 = zi (zen T n (zsk T n p))) := by
        rw [zi_succ]
        refine hnx (by omega) _ ⟨zf45_w i1 (Or.inl rfl), zu_eq, ?_⟩
        rw [← i3]
        unfold zsk
        rw [zrun_s hlt hz]
        rfl
      rw [Option.bind_some]
      by_cases c : u.1 242 (p + j) = 32
      · rw [if_pos c]
        exact goal
      · rw [if_neg c, if_pos (hz2.resolve_left c)]
        exact goal
  · rw [if_pos (by rw [zi_le (by omega) (by omega)]; omega)]
    exact fin (zrun_e fun h => absurd h (by omega))
theorem zm_goesOn {T : Nat → Int32} {n p : Nat} {s : yb_S} (hx : ztx T n s) (hp : p ≤ n) (h46 : s.1 176 46 = zi (zen T n p)) : zs_P (f_X12_goesOn s) (fun u => zf45 s u ∧ u.1 176 45 = zi (zsk T n (zen T n p)) ∧ u.1 176 46 = zi (zen T n (zsk T n (zen T n p)))) := by
  unfold f_X12_goesOn
  rw [Option.bind_some]
  have f1 : zf45 s (yb_pI s 176 45 (s.1 176 46)) := zf45_w (zf45_r s) (Or.inl rfl)
  refine zs_bind (zm_skips (zf45_x f1 hx) (zen_le hp).2 (by rw [zu_eq]; exact h46)) fun u hu => zs_ret ⟨⟨fun id k q => (hu.1.1 id k q).trans (f1.1 id k q), hu.1.2.trans f1.2⟩, hu.2⟩
theorem zm_isWord {T : Nat → Int32} {n p w : Nat} {s : yb_S} (hx : ztx T n s) (hp : p ≤ n) (h45 : s.1 176 45 = zi p) (h46 : s.1 176 46 = zi (zen T n p)) (hw : w < 28) (hw0 : 0 < w) : f_X12_isWord_str (100000 + w) s = some (zb (zwd T p (zen T n p) w)) := by
  have hn := hx.1
  have hz := zen_le (T := T) hp
  have hl := yb_len_small w hw
  have hl0 : 0 < yb_len w := (show ∀ w, w < 28 → 0 < w → 0 < yb_len w by decide) w hw hw0
  unfold f_X12_isWord_str
  rw [zsl hw, Option.bind_some, h45, h46, hx.2.1, zi_sub hz.1]
  by_cases c : zen T n p - p = yb_len w
  · have hlt : p < n := by omega
    have ew : zwd T p (zen T n p) w = zeqw T p w (yb_len w) := by
      unfold zwd
      rw [beq_iff_eq.mpr c]
      rfl
    rw [if_pos (by rw [c]), if_neg (by rw [zi_inj (by omega) (by omega)]; omega), ew]
    unfold l_X12_isWord_str_31
    refine zs_exE (fun k => zi k) (yb_len w) _ (fun k => ∀ i, i < k → T (p + i) = yb_chr w i) ?_ ?_ yb_N 0 (Nat.zero_le _) (by unfold yb_N; omega) (fun i hi => absurd hi (Nat.not_lt_zero _))
    · intro k rc hk hI
      show f_X12_isWord_str_31 (fun x2 => rc x2) (100000 + w) s (zi k) = _ ∨ _
      unfold f_X12_isWord_str_31
      rw [zsl hw, Option.bind_some, if_neg (by rw [zi_le (by omega) (by omega)]; omega), h45, zi_add, zi_rd (by omega) (by omega), Option.bind_some, zsc hw hk, Option.bind_some, zi_succ]
      have hch : 0 ≤ yb_chr w k ∧ yb_chr w k < 128 := (show ∀ w, w < 28 → ∀ k, k < yb_len w → 0 ≤ yb_chr w k ∧ yb_chr w k < 128 by decide +kernel) w hw k hk
      have e := (ztx_L hx (show p + k < n by omega)).2.2.2 (yb_chr w k) hch.1 hch.2
      by_cases cc : T (p + k) = yb_chr w k
      · rw [if_pos (by rw [e]; exact cc)]
        refine Or.inr ⟨rfl, fun i hi => ?_⟩
        by_cases ek : i = k
        · rw [ek]
          exact cc
        · exact hI i (by omega)
      · rw [if_neg (by rw [e]; exact cc)]
        left
        have : zeqw T p w (yb_len w) = false := by
          cases h : zeqw T p w (yb_len w)
          · rfl
          · exact absurd (zeqw_t.mp h k hk) cc
        rw [this]
        rfl
    · intro hI rc
      show f_X12_isWord_str_31 (fun x2 => rc x2) (100000 + w) s (zi (yb_len w)) = _
      unfold f_X12_isWord_str_31
      rw [zsl hw, Option.bind_some, if_pos (Int32.le_refl _), zeqw_t.mpr hI]
      rfl
  · rw [if_neg (by rw [zi_inj (by omega) (by omega)]; exact c)]
    have : zwd T p (zen T n p) w = false := by
      unfold zwd
      rw [beq_eq_false_iff_ne.mpr c]
      rfl
    rw [this]
    rfl
theorem zwd_l {T : Nat → Int32} {p e w : Nat} (hw : w < 28) (hw0 : 0 < w) (h : zwd T p e w = true) : zlt (T p) = true := by
  have hl0 : 0 < yb_len w := (show ∀ w, w < 28 → 0 < w → 0 < yb_len w by decide) w hw hw0
  rw [zwd_t] at h
  have := h.2 0 hl0
  rw [Nat.add_zero] at this
  rw [this]
  exact (show ∀ w, w < 28 → 0 < w → zlt (yb_chr w 0) = true by decide +kernel) w hw hw0
theorem zm_isSign {T : Nat → Int32} {n p : Nat} {s : yb_S} (hx : ztx T n s) (hp : p ≤ n) (h45 : s.1 176 45 = zi p) {c : Int32} (hc : zsn c = true) : f_X12_isSign c s = some (zb (zki T n p == c)) := by
  have hn := hx.1
  have hcr : 0 ≤ c ∧ c < 128 ∧ zlt c = false ∧ zdg c = false := by
    unfold zsn at hc
    simp only [Bool.or_eq_true, beq_iff_eq] at hc
    rcases hc with ((((((((((h | h) | h) | h) | h) | h) | h) | h) | h) | h) | h) | h <;> subst h <;> decide
  have hne := zsn_ne hc
  unfold f_X12_isSign
  rw [hx.2.1, h45]
  rcases Nat.lt_or_ge p n with hlt | hge
  · rw [if_neg (by rw [zi_le (by omega) (by omega)]; omega), zi_rd (by omega) (by omega), Option.bind_some]
    have e := (ztx_L hx hlt).2.2.2 c hcr.1 hcr.2.1
    by_cases cc : T p = c
    · rw [if_pos (by rw [e]; exact cc)]
      have : zki T n p = c := by
        unfold zki
        rw [if_pos hlt, cc, hcr.2.2.1, hcr.2.2.2, hc]
        rfl
      rw [this, beq_self_eq_true]
      rfl
    · rw [if_neg (by rw [e]; exact cc)]
      have : (zki T n p == c) = false := beq_eq_false_iff_ne.mpr (by
        unfold zki
        rw [if_pos hlt]
        cases hl : zlt (T p)
        · cases hd : zdg (T p)
          · cases hs : zsn (T p)
            · exact fun q => hne.2.2.2.2.2.2.2 q.symm
            · exact cc
          · show (if _ then (7 : Int32) else 1) ≠ c
            split
            · exact fun q => hne.2.2.2.2.2.2.2 q.symm
            · exact fun q => hne.2.1 q.symm
        · show zkw _ ≠ c
          unfold zkw
          split
          · exact fun q => hne.2.2.2.2.2.2.2 q.symm
          · repeat' split
            · exact fun q => hne.2.2.1 q.symm
            · exact fun q => hne.2.2.2.1 q.symm
            · exact fun q => hne.2.2.2.2.1 q.symm
            · exact fun q => hne.2.2.2.2.2.1 q.symm
            · exact fun q => hne.2.2.2.2.2.2.1 q.symm)
      rw [this]
      rfl
  · rw [if_pos (by rw [zi_le (by omega) (by omega)]; omega)]
    have : zki T n p = 0 := if_neg (by omega)
    rw [this, beq_eq_false_iff_ne.mpr (fun q => hne.1 q.symm)]
    rfl
/-- a number, or none -/
theorem zm_isNum {T : Nat → Int32} {n p : Nat} {s : yb_S} (hx : ztx T n s) (hp : p ≤ n) (h45 : s.1 176 45 = zi p) (h46 : s.1 176 46 = zi (zen T n p)) : ((zki T n p = 1 ∨ (zki T n p = 7 ∧ p < n ∧ zlt (T p) = false ∧ zdg (T p) = true)) ∧ ∃ v, f_X12_isNumber s = some (1, yb_pI s 176 49 (zi v)) ∧ v ≤ 999999 ∧ (zki T n p = 1 → v ≤ 99999 ∧ zva T n p = zi v) ∧ (zki T n p ≠ 1 → 99999 < v)) ∨ (zki T n p ≠ 1 ∧ f_X12_isNumber s = some (0, s)) := by
  have hn := hx.1
  have hz := zen_le (T := T) hp
  have stay : ¬ (p < n ∧ zdg (T p) = true) → f_X12_isNumber s = some (0, s) := fun hc => by
    unfold f_X12_isNumber
    rw [hx.2.1, h45]
    rcases Nat.lt_or_ge p n with hlt | hge
    · rw [if_neg (by rw [zi_inj (by omega) (by omega)]; omega), zi_rd (by omega) (by omega), Option.bind_some, zm_isDg, Option.bind_some, (ztx_L hx hlt).2.1]
      cases hd : zdg (T p)
      · rw [if_pos (show zb false = 0 from rfl)]
      · exact absurd ⟨hlt, hd⟩ hc
    · rw [if_pos (by rw [show p = n by omega])]
  by_cases hc : p < n ∧ zdg (T p) = true
  · obtain ⟨hlt, hd⟩ := hc
    have hl : zlt (T p) = false := by
      obtain ⟨d, hd9, ed⟩ := zdg_c hd
      rw [ed]
      exact (show ∀ d, d < 10 → zlt (zi (48 + d)) = false by decide) d hd9
    have hdg := zen_dg hlt hl hd
    have ek : zki T n p = if 99999 < znm T p (zen T n p - p) then 7 else 1 := by
      unfold zki
      rw [if_pos hlt, hl, hd]
      rfl
    have ev : zva T n p = zi (znm T p (zen T n p - p)) := by
      unfold zva
      rw [if_pos hlt, hl, hd]
      rfl
    have hm := znm_b (T := T) (p := p) (k := zen T n p - p) hdg
    have run : ∃ v, f_X12_isNumber s = some (1, yb_pI s 176 49 (zi v)) ∧ v ≤ 999999 ∧ (znm T p (zen T n p - p) ≤ 99999 → v = znm T p (zen T n p - p)) ∧ (99999 < znm T p (zen T n p - p) → 99999 < v) := by
      have hP : zs_P (f_X12_isNumber s) (fun a => a.1 = 1 ∧ ∃ v, a.2 = yb_pI s 176 49 (zi v) ∧ v ≤ 999999 ∧ (znm T p (zen T n p - p) ≤ 99999 → v = znm T p (zen T n p - p)) ∧ (99999 < znm T p (zen T n p - p) → 99999 < v)) := by
        unfold f_X12_isNumber
        rw [hx.2.1, h45, if_neg (by rw [zi_inj (by omega) (by omega)]; omega), zi_rd (by omega) (by omega), Option.bind_some, zm_isDg, Option.bind_some, (ztx_L hx hlt).2.1, hd, if_neg (show ¬ zb true = 0 by decide), Option.bind_some, zu_id, if_neg (by decide), h45]
        unfold l_X12_isNumber_38
        refine zs_up (fun j a => a.1 = zi (p + j) ∧ ∃ v, a.2 = yb_pI s 176 49 (zi v) ∧ v ≤ 999999 ∧ (znm T p j ≤ 99999 → v = znm T p j) ∧ (99999 < znm T p j → 99999 < v)) (zen T n p - p) ?_ yb_N 0 _ (Nat.zero_le _) (by unfold yb_N; omega) (by exact ⟨rfl, 0, rfl, by decide, fun _ => rfl, fun q => q⟩)
        rintro j ⟨z, u⟩ rc hj ⟨i1, v, i2, i3, i4, i5⟩ hnx
        dsimp only at i1 i2
        subst i1 i2
        show zs_P (f_X12_isNumber_38 (fun x1 s => rc (x1, s)) (zi (p + j)) (yb_pI s 176 49 (zi v))) _
        unfold f_X12_isNumber_38 j_X12_isNumber_80
        have e49 : (yb_pI s 176 49 (zi v)).1 176 49 = zi v := zu_eq
        have e46 : (yb_pI s 176 49 (zi v)).1 176 46 = zi (zen T n p) := by rw [zu_id, if_neg (by decide)]; exact h46
        have e242 : (yb_pI s 176 49 (zi v)).1 242 (p + j) = s.1 242 (p + j) := zu_ne (by decide)
        have twice : ∀ a b, yb_pI (yb_pI s 176 49 a) 176 49 b = yb_pI s 176 49 b := fun a b => by
          apply Prod.ext
          · funext id k
            rw [zu_rd, zu_rd, zu_rd]
            by_cases e : id = 176
            · rw [if_pos e, if_pos e, if_pos e]
              by_cases e2 : k = 49
              · rw [if_pos e2, if_pos e2]
              · rw [if_neg e2, if_neg e2, if_neg e2]
            · rw [if_neg e, if_neg e, if_neg e]
          · rfl
        rw [e46, e49]
        rcases Nat.lt_or_ge j (zen T n p - p) with hjl | hjg
        · rw [if_neg (by rw [zi_le (by omega) (by omega)]; omega)]
          have es : znm T p (j + 1) = if 99999 < znm T p j then znm T p j else 10 * znm T p j + ((T (p + j)).toNatClampNeg - 48) := rfl
          obtain ⟨d, hd9, ed⟩ := zdg_c (hdg j hjl)
          rw [ed, zi_tn (by omega)] at es
          by_cases cv : v ≤ 99999
          · have cz : ¬ 99999 < znm T p j := fun q => by
              have := i5 q
              omega
            have hv := i4 (by omega)
            rw [if_neg cz] at es
            rw [if_pos (by rw [show (99999 : Int32) = zi 99999 from rfl, zi_le (by omega) (by omega)]; exact cv), zi_rd (by omega) (by omega), Option.bind_some, e242, Option.bind_some, twice, zi_succ]
            have eb : s.1 242 (p + j) = zi (48 + d) := by
              rw [(ztx_L hx (show p + j < n by omega)).2.2.2 (zi (48 + d)) (by rw [zi_ge0 (by omega)]; trivial) (by rw [show (128 : Int32) = zi 128 from rfl, zi_lt (by omega) (by omega)]; omega)]
              exact ed
            rw [eb, show (10 : Int32) = zi 10 from rfl, show (48 : Int32) = zi 48 from rfl, zi_mul, zi_add, zi_sub (by omega)]
            refine hnx hjl _ ⟨rfl, 10 * v + (48 + d) - 48, rfl, by omega, fun _ => by rw [es, hv]; omega, fun q => by rw [es] at q; omega⟩
          · rw [if_neg (by rw [show (99999 : Int32) = zi 99999 from rfl, zi_le (by omega) (by omega)]; exact cv), Option.bind_some, twice, zi_succ]
            have cz : 99999 < znm T p j := Classical.byContradiction fun q => by
              have := i4 (by omega)
              omega
            rw [if_pos cz] at es
            exact hnx hjl _ ⟨rfl, 999999, rfl, by decide, fun q => by omega, fun _ => by decide⟩
        · have hjj : j = zen T n p - p := Nat.le_antisymm hj hjg
          subst hjj
          rw [if_pos (by rw [zi_le (by omega) (by omega)]; omega)]
          exact zs_ret ⟨rfl, v, rfl, i3, i4, i5⟩
      obtain ⟨⟨a1, a2⟩, ha, h1, v, h2, h3⟩ := hP
      dsimp only at h1 h2
      subst h1 h2
      exact ⟨v, ha, h3⟩
    obtain ⟨v, r1, r2, r3, r4⟩ := run
    left
    rw [ek, ev]
    by_cases c : 99999 < znm T p (zen T n p - p)
    · rw [if_pos c]
      exact ⟨Or.inr ⟨rfl, hlt, hl, hd⟩, v, r1, r2, fun q => absurd q (by decide), fun _ => r4 c⟩
    · rw [if_neg c]
      refine ⟨Or.inl rfl, v, r1, r2, fun _ => ⟨?_, ?_⟩, fun q => absurd rfl q⟩
      · have := r3 (by omega)
        omega
      · rw [r3 (by omega)]
  · right
    refine ⟨?_, stay hc⟩
    unfold zki
    rcases Nat.lt_or_ge p n with hlt | hge
    · rw [if_pos hlt]
      cases hl : zlt (T p)
      · cases hd : zdg (T p)
        · cases hs : zsn (T p)
          · show (7 : Int32) ≠ 1
            decide
          · exact (zsn_ne hs).2.1
        · exact absurd ⟨hlt, hd⟩ hc
      · exact zkw_ne.2
    · rw [if_neg (by omega)]
      decide
