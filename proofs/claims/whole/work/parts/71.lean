/-! the tokens, pure: T tells the bytes, n how many -/
def zlt (c : Int32) : Bool := decide (97 ≤ c) && decide (c ≤ 122)
def zdg (c : Int32) : Bool := decide (48 ≤ c) && decide (c ≤ 57)
def zbl (c : Int32) : Bool := c == 32 || c == 10
def zsn (c : Int32) : Bool := c == 40 || c == 41 || c == 42 || c == 43 || c == 45 || c == 47 || c == 59 || c == 60 || c == 61 || c == 62 || c == 91 || c == 93
def zrn (b : Int32 → Bool) (T : Nat → Int32) : Nat → Nat → Nat
  | 0, p => p
  | f + 1, p => cond (b (T p)) (zrn b T f (p + 1)) p
def zrun (b : Int32 → Bool) (T : Nat → Int32) (n p : Nat) : Nat := zrn b T (n - p) p
theorem zrun_s {b : Int32 → Bool} {T : Nat → Int32} {n p : Nat} (h : p < n) (hb : b (T p) = true) : zrun b T n p = zrun b T n (p + 1) := by
  unfold zrun
  rw [show n - p = (n - (p + 1)) + 1 by omega]
  show cond (b (T p)) _ p = _
  rw [hb]
  rfl
theorem zrun_e {b : Int32 → Bool} {T : Nat → Int32} {n p : Nat} (hb : p < n → b (T p) = false) : zrun b T n p = p := by
  unfold zrun
  rcases Nat.lt_or_ge p n with h | h
  · rw [show n - p = (n - (p + 1)) + 1 by omega]
    show cond (b (T p)) _ p = _
    rw [hb h]
    rfl
  · rw [show n - p = 0 by omega]
    rfl
theorem zrn_b {b : Int32 → Bool} {T : Nat → Int32} : ∀ {f p : Nat}, p ≤ zrn b T f p ∧ zrn b T f p ≤ p + f ∧ (∀ k, p ≤ k → k < zrn b T f p → b (T k) = true) ∧ (zrn b T f p < p + f → b (T (zrn b T f p)) = false)
  | 0, p => ⟨Nat.le_refl _, Nat.le_refl _, fun k h1 h2 => absurd h2 (by show ¬ k < p; omega), fun h => absurd h (Nat.lt_irrefl _)⟩
  | f + 1, p => by
    have e : zrn b T (f + 1) p = cond (b (T p)) (zrn b T f (p + 1)) p := rfl
    cases hb : b (T p)
    · rw [e, hb]
      exact ⟨Nat.le_refl _, Nat.le_add_right _ _, fun k h1 h2 => absurd h2 (by show ¬ k < p; omega), fun _ => hb⟩
    · rw [e, hb]
      obtain ⟨h1, h2, h3, h4⟩ := zrn_b (b := b) (T := T) (f := f) (p := p + 1)
      refine ⟨by show p ≤ zrn b T f (p + 1); omega, by show zrn b T f (p + 1) ≤ p + (f + 1); omega, fun k q1 q2 => ?_, fun q => h4 (by have q : zrn b T f (p + 1) < p + (f + 1) := q; omega)⟩
      by_cases ek : k = p
      · rw [ek]
        exact hb
      · exact h3 k (by omega) q2
theorem zrun_b {b : Int32 → Bool} {T : Nat → Int32} {n p : Nat} (hp : p ≤ n) : p ≤ zrun b T n p ∧ zrun b T n p ≤ n ∧ (∀ k, p ≤ k → k < zrun b T n p → b (T k) = true) ∧ (zrun b T n p < n → b (T (zrun b T n p)) = false) := by
  obtain ⟨h1, h2, h3, h4⟩ := zrn_b (b := b) (T := T) (f := n - p) (p := p)
  refine ⟨h1, ?_, h3, fun q => h4 ?_⟩
  · show zrn b T (n - p) p ≤ n
    omega
  · have q : zrn b T (n - p) p < n := q
    omega
def zsk (T : Nat → Int32) (n p : Nat) : Nat := zrun zbl T n p
def zen (T : Nat → Int32) (n p : Nat) : Nat := if p < n then cond (zlt (T p)) (zrun zlt T n p) (cond (zdg (T p)) (zrun zdg T n p) (p + 1)) else p
theorem zen_b {T : Nat → Int32} {n p : Nat} (h : p < n) : p < zen T n p ∧ zen T n p ≤ n := by
  unfold zen
  rw [if_pos h]
  cases h1 : zlt (T p)
  · cases h2 : zdg (T p)
    · show p < p + 1 ∧ p + 1 ≤ n
      omega
    · show p < zrun zdg T n p ∧ zrun zdg T n p ≤ n
      rw [zrun_s h h2]
      have := zrun_b (b := zdg) (T := T) (n := n) (p := p + 1) h
      omega
  · show p < zrun zlt T n p ∧ zrun zlt T n p ≤ n
    rw [zrun_s h h1]
    have := zrun_b (b := zlt) (T := T) (n := n) (p := p + 1) h
    omega
theorem zen_n {T : Nat → Int32} {n p : Nat} (h : n ≤ p) : zen T n p = p := by
  unfold zen
  rw [if_neg (by omega)]
theorem zen_le {T : Nat → Int32} {n p : Nat} (h : p ≤ n) : p ≤ zen T n p ∧ zen T n p ≤ n := by
  rcases Nat.lt_or_ge p n with q | q
  · have := zen_b (T := T) q
    omega
  · rw [zen_n q]
    omega
theorem zsk_b {T : Nat → Int32} {n p : Nat} (hp : p ≤ n) : p ≤ zsk T n p ∧ zsk T n p ≤ n := ⟨(zrun_b hp).1, (zrun_b hp).2.1⟩
/-- where the tokens start -/
def zS (T : Nat → Int32) (n : Nat) : Nat → Nat
  | 0 => zsk T n 0
  | i + 1 => zsk T n (zen T n (zS T n i))
theorem zS_n {T : Nat → Int32} {n : Nat} : ∀ {i : Nat}, zS T n i ≤ n
  | 0 => (zsk_b (Nat.zero_le _)).2
  | i + 1 => (zsk_b (zen_le (zS_n (i := i))).2).2
theorem zS_s {T : Nat → Int32} {n i : Nat} (h : zS T n i < n) : zS T n i < zS T n (i + 1) := by
  have h1 := zen_b (T := T) h
  have h2 := zsk_b (T := T) (n := n) h1.2
  show zS T n i < zsk T n (zen T n (zS T n i))
  omega
theorem zS_end {T : Nat → Int32} {n i : Nat} (h : zS T n i = n) : zS T n (i + 1) = n := by
  show zsk T n (zen T n (zS T n i)) = n
  rw [h, zen_n (Nat.le_refl _)]
  exact zrun_e fun q => absurd q (Nat.lt_irrefl _)
theorem zS_lt {T : Nat → Int32} {n : Nat} : ∀ {i : Nat}, zS T n i < n → i ≤ zS T n i
  | 0, _ => Nat.zero_le _
  | i + 1, h => by
    have hle := zS_n (T := T) (n := n) (i := i)
    rcases Nat.lt_or_ge (zS T n i) n with q | q
    · have := zS_lt (i := i) q
      have := zS_s q
      omega
    · rw [zS_end (Nat.le_antisymm hle q)] at h
      exact absurd h (Nat.lt_irrefl _)
theorem zS_ex {T : Nat → Int32} {n : Nat} : ∃ m, m ≤ n ∧ zS T n m = n ∧ ∀ i, i < m → zS T n i < n := by
  have : ∀ j, (∃ m, m ≤ j ∧ zS T n m = n ∧ ∀ i, i < m → zS T n i < n) ∨ ∀ i, i ≤ j → zS T n i < n := by
    intro j
    induction j with
    | zero =>
      rcases Nat.lt_or_ge (zS T n 0) n with q | q
      · exact Or.inr fun i hi => by rw [Nat.le_zero.mp hi]; exact q
      · exact Or.inl ⟨0, Nat.le_refl _, Nat.le_antisymm zS_n q, fun i hi => absurd hi (Nat.not_lt_zero _)⟩
    | succ j ih =>
      rcases ih with ⟨m, h1, h2, h3⟩ | ih
      · exact Or.inl ⟨m, by omega, h2, h3⟩
      · rcases Nat.lt_or_ge (zS T n (j + 1)) n with q | q
        · exact Or.inr fun i hi => by
            rcases Nat.lt_or_ge i (j + 1) with r | r
            · exact ih i (by omega)
            · rw [Nat.le_antisymm hi r]
              exact q
        · exact Or.inl ⟨j + 1, Nat.le_refl _, Nat.le_antisymm zS_n q, fun i hi => ih i (by omega)⟩
  rcases this n with ⟨m, h1, h2, h3⟩ | h
  · exact ⟨m, h1, h2, h3⟩
  · have h1 := h n (Nat.le_refl _)
    have := zS_lt h1
    omega
/-! words -/
def zwj (j : Nat) : Nat := if j < 6 then 1 + j else if j = 6 then 26 else if j = 7 then 27 else if j = 8 then 25 else j - 2
theorem zwj_lt {j : Nat} (h : j < 27) : 0 < zwj j ∧ zwj j < 28 := by
  unfold zwj
  repeat' split
  all_goals omega
/-- the bytes from p on are those of the string w, k of them -/
def zeqw (T : Nat → Int32) (p w : Nat) : Nat → Bool
  | 0 => true
  | k + 1 => zeqw T p w k && T (p + k) == yb_chr w k
theorem zeqw_t {T : Nat → Int32} {p w : Nat} : ∀ {k : Nat}, zeqw T p w k = true ↔ ∀ i, i < k → T (p + i) = yb_chr w i
  | 0 => ⟨fun _ i hi => absurd hi (Nat.not_lt_zero _), fun _ => rfl⟩
  | k + 1 => by
    unfold zeqw
    rw [Bool.and_eq_true, zeqw_t (k := k), beq_iff_eq]
    constructor
    · rintro ⟨h1, h2⟩ i hi
      by_cases e : i = k
      · rw [e]
        exact h2
      · exact h1 i (by omega)
    · exact fun h => ⟨fun i hi => h i (by omega), h k (by omega)⟩
def zwd (T : Nat → Int32) (p e w : Nat) : Bool := e - p == yb_len w && zeqw T p w (yb_len w)
theorem zwd_t {T : Nat → Int32} {p e w : Nat} : zwd T p e w = true ↔ e - p = yb_len w ∧ ∀ i, i < yb_len w → T (p + i) = yb_chr w i := by
  unfold zwd
  rw [Bool.and_eq_true, beq_iff_eq, zeqw_t]
def zwdf (a b : Nat) : Bool := yb_len a != yb_len b || (List.range (yb_len a)).any fun i => yb_chr a i != yb_chr b i
theorem zw_diff0 : ∀ a, a < 28 → ∀ b, b < 28 → (a == 0 || b == 0 || a == b || zwdf a b) = true := by decide +kernel
theorem zw_diff (a : Nat) (ha : a < 28) (b : Nat) (hb : b < 28) (ha0 : 0 < a) (hb0 : 0 < b) (hab : a ≠ b) : yb_len a ≠ yb_len b ∨ ∃ i, i < yb_len a ∧ yb_chr a i ≠ yb_chr b i := by
  have h := zw_diff0 a ha b hb
  rw [show (a == 0) = false from beq_eq_false_iff_ne.mpr (by omega), show (b == 0) = false from beq_eq_false_iff_ne.mpr (by omega), show (a == b) = false from beq_eq_false_iff_ne.mpr hab] at h
  have h : zwdf a b = true := h
  unfold zwdf at h
  rw [Bool.or_eq_true, bne_iff_ne, List.any_eq_true] at h
  rcases h with h | ⟨i, hi, h⟩
  · exact Or.inl h
  · exact Or.inr ⟨i, List.mem_range.mp hi, bne_iff_ne.mp h⟩
theorem zwd_u {T : Nat → Int32} {p e a b : Nat} (ha : a < 28) (hb : b < 28) (ha0 : 0 < a) (hb0 : 0 < b) (h1 : zwd T p e a = true) (h2 : zwd T p e b = true) : a = b := by
  rw [zwd_t] at h1 h2
  by_cases e : a = b
  · exact e
  · rcases zw_diff a ha b hb ha0 hb0 e with q | ⟨i, hi, q⟩
    · exact absurd (h1.1.symm.trans h2.1) q
    · have hl : yb_len a = yb_len b := h1.1.symm.trans h2.1
      exact absurd ((h1.2 i hi).symm.trans (h2.2 i (by omega))) q
theorem zwj_inj {i j : Nat} (hi : i < 27) (hj : j < 27) (h : zwj i = zwj j) : i = j := by
  unfold zwj at h
  repeat' split at h
  all_goals omega
def zwix (T : Nat → Int32) (p e : Nat) : Option Nat := zfind (fun j => zwd T p e (zwj j)) 27
theorem zwix_s {T : Nat → Int32} {p e j : Nat} (hj : j < 27) (h : zwd T p e (zwj j) = true) : zwix T p e = some j := by
  unfold zwix
  refine zfind_t hj (fun x hx => ?_) h
  cases hq : zwd T p e (zwj x)
  · rfl
  · have := zwj_inj (by omega) hj (zwd_u (zwj_lt (by omega)).2 (zwj_lt hj).2 (zwj_lt (by omega)).1 (zwj_lt hj).1 hq h)
    omega
theorem zwix_iff {T : Nat → Int32} {p e j : Nat} (hj : j < 27) : zwd T p e (zwj j) = decide (zwix T p e = some j) := by
  cases h : zwd T p e (zwj j)
  · refine (decide_eq_false fun q => ?_).symm
    have := (zfind_ok q).2
    rw [h] at this
    cases this
  · exact (decide_eq_true (zwix_s hj h)).symm
theorem zwix_lt {T : Nat → Int32} {p e j : Nat} (h : zwix T p e = some j) : j < 27 := (zfind_ok h).1
/-! numbers -/
def znm (T : Nat → Int32) (p : Nat) : Nat → Nat
  | 0 => 0
  | k + 1 => if 99999 < znm T p k then znm T p k else 10 * znm T p k + ((T (p + k)).toNatClampNeg - 48)
theorem zdg_c {c : Int32} (h : zdg c = true) : ∃ d, d < 10 ∧ c = zi (48 + d) := by
  unfold zdg at h
  rw [Bool.and_eq_true, decide_eq_true_eq, decide_eq_true_eq] at h
  rcases zi_cases c with q | ⟨k, hk, rfl⟩
  · exact absurd h.1 (Int32.not_le.mpr (Int32.lt_of_lt_of_le q (by decide)))
  · rw [show (48 : Int32) = zi 48 from rfl, show (57 : Int32) = zi 57 from rfl, zi_le (by omega) hk, zi_le hk (by omega)] at h
    exact ⟨k - 48, by omega, by rw [show 48 + (k - 48) = k by omega]⟩
theorem znm_b {T : Nat → Int32} {p : Nat} : ∀ {k : Nat}, (∀ i, i < k → zdg (T (p + i)) = true) → znm T p k ≤ 999999
  | 0, _ => Nat.zero_le _
  | k + 1, h => by
    have := znm_b (k := k) fun i hi => h i (by omega)
    unfold znm
    by_cases c : 99999 < znm T p k
    · rw [if_pos c]
      exact this
    · obtain ⟨d, hd, e⟩ := zdg_c (h k (by omega))
      rw [if_neg c, e, zi_tn (by omega)]
      omega
/-! kinds and values -/
def zkw (o : Option Nat) : Int32 := match o with
  | none => 7
  | some j => if 9 ≤ j then 2 else if j < 6 then 3 else if j = 6 then 4 else if j = 7 then 5 else 6
def zvw (o : Option Nat) : Int32 := match o with
  | none => 0
  | some j => if 9 ≤ j then zi (j - 9) else if j < 6 then zi j else 0
def zki (T : Nat → Int32) (n p : Nat) : Int32 := if p < n then cond (zlt (T p)) (zkw (zwix T p (zen T n p))) (cond (zdg (T p)) (if 99999 < znm T p (zen T n p - p) then 7 else 1) (cond (zsn (T p)) (T p) 7)) else 0
def zva (T : Nat → Int32) (n p : Nat) : Int32 := if p < n then cond (zlt (T p)) (zvw (zwix T p (zen T n p))) (cond (zdg (T p)) (zi (znm T p (zen T n p - p))) 0) else 0
def zKk (T : Nat → Int32) (n i : Nat) : Int32 := zki T n (zS T n i)
def zVv (T : Nat → Int32) (n i : Nat) : Int32 := zva T n (zS T n i)
theorem zsn_ne {c : Int32} (h : zsn c = true) : c ≠ 0 ∧ c ≠ 1 ∧ c ≠ 2 ∧ c ≠ 3 ∧ c ≠ 4 ∧ c ≠ 5 ∧ c ≠ 6 ∧ c ≠ 7 := by
  unfold zsn at h
  simp only [Bool.or_eq_true, beq_iff_eq] at h
  rcases h with ((((((((((h | h) | h) | h) | h) | h) | h) | h) | h) | h) | h) | h <;> subst h <;> decide
theorem zkw_ne {o : Option Nat} : zkw o ≠ 0 ∧ zkw o ≠ 1 := by
  unfold zkw
  cases o with
  | none => decide
  | some j =>
    dsimp only
    repeat' split
    all_goals decide
theorem zen_dg {T : Nat → Int32} {n p : Nat} (h : p < n) (h1 : zlt (T p) = false) (h2 : zdg (T p) = true) : ∀ i, i < zen T n p - p → zdg (T (p + i)) = true := fun i hi => by
  have e : zen T n p = zrun zdg T n p := by
    unfold zen
    rw [if_pos h, h1, h2]
    rfl
  rw [e] at hi
  exact (zrun_b (b := zdg) (T := T) (n := n) (p := p) (Nat.le_of_lt h)).2.2.1 (p + i) (by omega) (by omega)
theorem zpW_ok {T : Nat → Int32} {n m : Nat} (hn : n ≤ 500) (hm : m ≤ n) (h1 : zS T n m = n) (h2 : ∀ i, i < m → zS T n i < n) : zpW (zKk T n) (zVv T n) m := by
  refine ⟨by omega, ?_, fun i hi => ?_, fun i hi => ?_⟩
  · unfold zKk zki
    rw [h1, if_neg (Nat.lt_irrefl _)]
  · have hp := h2 i hi
    unfold zKk zki
    rw [if_pos hp]
    cases hl : zlt (T (zS T n i))
    · cases hd : zdg (T (zS T n i))
      · cases hs : zsn (T (zS T n i))
        · show (7 : Int32) ≠ 0
          decide
        · exact (zsn_ne hs).1
      · show (if _ then (7 : Int32) else 1) ≠ 0
        split <;> decide
    · exact zkw_ne.1
  · have hp := h2 i hi
    unfold zKk zki zVv zva
    rw [if_pos hp, if_pos hp]
    cases hl : zlt (T (zS T n i))
    · cases hd : zdg (T (zS T n i))
      · cases hs : zsn (T (zS T n i))
        · exact ⟨fun q => absurd q (by show (7 : Int32) ≠ 1; decide), fun q => absurd q (by show (7 : Int32) ≠ 2; decide), fun q => absurd q (by show (7 : Int32) ≠ 3; decide)⟩
        · exact ⟨fun q => absurd q (zsn_ne hs).2.1, fun q => absurd q (zsn_ne hs).2.2.1, fun q => absurd q (zsn_ne hs).2.2.2.1⟩
      · simp only [cond_true, cond_false]
        by_cases c : 99999 < znm T (zS T n i) (zen T n (zS T n i) - zS T n i)
        · rw [if_pos c]
          exact ⟨fun q => absurd q (by decide), fun q => absurd q (by decide), fun q => absurd q (by decide)⟩
        · rw [if_neg c]
          exact ⟨fun _ => ⟨_, by omega, rfl⟩, fun q => absurd q (by decide), fun q => absurd q (by decide)⟩
    · simp only [cond_true]
      cases ho : zwix T (zS T n i) (zen T n (zS T n i)) with
      | none => exact ⟨fun q => absurd q (by show (7 : Int32) ≠ 1; decide), fun q => absurd q (by show (7 : Int32) ≠ 2; decide), fun q => absurd q (by show (7 : Int32) ≠ 3; decide)⟩
      | some j =>
        have hj := zwix_lt ho
        refine ⟨fun q => absurd q zkw_ne.2, fun q => ?_, fun q => ?_⟩
        · have h9 : 9 ≤ j := Classical.byContradiction fun c => by
            have e : zkw (some j) = if 9 ≤ j then 2 else if j < 6 then 3 else if j = 6 then 4 else if j = 7 then 5 else 6 := rfl
            rw [e, if_neg c] at q
            repeat' split at q
            all_goals exact absurd q (by decide)
          exact ⟨j - 9, by omega, if_pos h9⟩
        · have h6 : ¬ 9 ≤ j ∧ j < 6 := by
            have e : zkw (some j) = if 9 ≤ j then 2 else if j < 6 then 3 else if j = 6 then 4 else if j = 7 then 5 else 6 := rfl
            rw [e] at q
            repeat' split at q
            all_goals first | omega | exact absurd q (by decide)
          exact ⟨j, h6.2, by show (if 9 ≤ j then zi (j - 9) else if j < 6 then zi j else 0) = _; rw [if_neg h6.1, if_pos h6.2]⟩
