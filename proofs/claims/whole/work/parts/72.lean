/-! the class finds the tokens -/
theorem zo_isL {c : Int32} {s : yb_S} : f_X9_isLetter c s = some (zb (zlt c)) := by
  unfold f_X9_isLetter zlt
  by_cases h1 : c < 97
  · rw [if_pos h1, decide_eq_false (Int32.not_le.mpr h1)]
    rfl
  · rw [if_neg h1, decide_eq_true (Int32.not_lt.mp h1)]
    by_cases h2 : 122 < c
    · rw [if_pos h2, decide_eq_false (Int32.not_le.mpr h2)]
      rfl
    · rw [if_neg h2, decide_eq_true (Int32.not_lt.mp h2)]
      rfl
theorem zo_isDg {c : Int32} {s : yb_S} : f_X9_isDigit c s = some (zb (zdg c)) := by
  unfold f_X9_isDigit zdg
  by_cases h1 : c < 48
  · rw [if_pos h1, decide_eq_false (Int32.not_le.mpr h1)]
    rfl
  · rw [if_neg h1, decide_eq_true (Int32.not_lt.mp h1)]
    by_cases h2 : 57 < c
    · rw [if_pos h2, decide_eq_false (Int32.not_le.mpr h2)]
      rfl
    · rw [if_neg h2, decide_eq_true (Int32.not_lt.mp h2)]
      rfl
theorem zo_isSn {c : Int32} {s : yb_S} : f_X9_isSign c s = some (zb (zsn c)) := by
  unfold f_X9_isSign
  cases h : zsn c
  · unfold zsn at h
    simp only [Bool.or_eq_false_iff, beq_eq_false_iff_ne] at h
    obtain ⟨⟨⟨⟨⟨⟨⟨⟨⟨⟨⟨h1, h2⟩, h3⟩, h4⟩, h5⟩, h6⟩, h7⟩, h8⟩, h9⟩, h10⟩, h11⟩, h12⟩ := h
    rw [if_neg h1, if_neg h2, if_neg h3, if_neg h4, if_neg h5, if_neg h6, if_neg h7, if_neg h8, if_neg h9, if_neg h10, if_neg h11, if_neg h12]
    rfl
  · unfold zsn at h
    simp only [Bool.or_eq_true, beq_iff_eq] at h
    rcases h with ((((((((((h | h) | h) | h) | h) | h) | h) | h) | h) | h) | h) | h <;> subst h <;> rfl
theorem zb_0 {c : Bool} : (zb c = 0) = (c = false) := by cases c <;> decide
theorem zsl {w : Nat} (hw : w < 28) : yb_sl (100000 + w) = some (zi (yb_len w)) := by
  unfold yb_sl
  rw [if_pos (by omega), show 100000 + w - 100000 = w by omega]
  rfl
theorem zsc {w k : Nat} (hw : w < 28) (hk : k < yb_len w) : yb_sc (100000 + w) (zi k) = some (yb_chr w k) := by
  have := yb_len_small w hw
  unfold yb_sc
  rw [if_pos (by omega), show 100000 + w - 100000 = w by omega, if_neg (by rw [zi_neg (by omega), zi_tn (by omega), false_or]; omega), zi_tn (by omega)]
def zeqo (T : Nat → Int32) (p b k : Nat) : Bool := decide (∀ i, i < k → yb_chr 0 (b + i) = T (p + i))
theorem zo_isWordAt {s : yb_S} {T : Nat → Int32} {p e b : Nat} (he : p ≤ e) (he5 : e ≤ 500) (hT : ∀ k, k < e → s.1 96 k = T k) (hb : b + (e - p) ≤ yb_len 0) : f_X9_isWordAt (zi b) (zi p) (zi e) s = some (zb (zeqo T p b (e - p))) := by
  have h28 := yb_len_small 0 (by decide)
  unfold f_X9_isWordAt l_X9_isWordAt_3
  refine zs_exE (fun k => zi k) (e - p) _ (fun k => ∀ i, i < k → yb_chr 0 (b + i) = T (p + i)) ?_ ?_ yb_N 0 (Nat.zero_le _) (by unfold yb_N; omega) (fun i hi => absurd hi (Nat.not_lt_zero _))
  · intro k rc hk hI
    show f_X9_isWordAt_3 (fun x4 => rc x4) (zi b) (zi p) (zi e) s (zi k) = _ ∨ _
    unfold f_X9_isWordAt_3
    rw [zi_sub he, if_neg (by rw [zi_le (by omega) (by omega)]; omega), zi_add, zsc (w := 0) (by decide) (by omega), Option.bind_some, zi_add, zi_rd (by omega) (by omega), Option.bind_some, hT _ (by omega), zi_succ]
    by_cases c : yb_chr 0 (b + k) = T (p + k)
    · rw [if_pos c]
      refine Or.inr ⟨rfl, fun i hi => ?_⟩
      by_cases ek : i = k
      · rw [ek]
        exact c
      · exact hI i (by omega)
    · rw [if_neg c]
      left
      have : zeqo T p b (e - p) = false := decide_eq_false fun q => c (q k hk)
      rw [this]
      rfl
  · intro hI rc
    show f_X9_isWordAt_3 (fun x4 => rc x4) (zi b) (zi p) (zi e) s (zi (e - p)) = _
    unfold f_X9_isWordAt_3
    have : zeqo T p b (e - p) = true := decide_eq_true hI
    rw [zi_sub he, if_pos (Int32.le_refl _), this]
    rfl
def zwp : Nat → Nat × Nat
  | 0 => (0, 0)
  | x + 1 => if yb_chr 0 x = 32 then ((zwp x).1 + 1, x + 1) else zwp x
def zwpk (x : Nat) : Bool := yb_chr 0 x != 32 || (decide ((zwp x).1 < 27) && (decide ((zwp x).2 ≤ x) && (decide (x - (zwp x).2 = yb_len (zwj (zwp x).1)) && (List.range (yb_len (zwj (zwp x).1))).all fun i => yb_chr 0 ((zwp x).2 + i) == yb_chr (zwj (zwp x).1) i)))
theorem zwp_k0 : ∀ x, x < 144 → zwpk x = true := by decide +kernel
theorem zwp_27 : (zwp 144).1 = 27 := by decide +kernel
theorem zwp_b : ∀ x, (zwp x).2 ≤ x ∧ (zwp x).1 ≤ x
  | 0 => ⟨Nat.le_refl _, Nat.le_refl _⟩
  | x + 1 => by
    have := zwp_b x
    unfold zwp
    split
    · exact ⟨Nat.le_refl _, by dsimp only; omega⟩
    · omega
theorem zwp_k {x : Nat} (hx : x < 144) (h : yb_chr 0 x = 32) : (zwp x).1 < 27 ∧ x - (zwp x).2 = yb_len (zwj (zwp x).1) ∧ ∀ i, i < yb_len (zwj (zwp x).1) → yb_chr 0 ((zwp x).2 + i) = yb_chr (zwj (zwp x).1) i := by
  have := zwp_k0 x hx
  unfold zwpk at this
  rw [h] at this
  simp only [bne_self_eq_false, Bool.false_or, Bool.and_eq_true, decide_eq_true_eq, List.all_eq_true, List.mem_range, beq_iff_eq] at this
  exact ⟨this.1, this.2.2.1, this.2.2.2⟩
theorem zo_wordOf {s : yb_S} {T : Nat → Int32} {p e : Nat} (he : p ≤ e) (he5 : e ≤ 500) (hT : ∀ k, k < e → s.1 96 k = T k) : f_X9_wordOf (zi p) (zi e) s = some (zix (zwix T p e)) := by
  have h144 : yb_len 0 = 144 := by decide
  unfold f_X9_wordOf l_X9_wordOf_8
  refine zs_exE (fun x => (zi (zwp x).1, zi (zwp x).2, zi x)) 144 _ (fun x => ∀ j, j < (zwp x).1 → zwd T p e (zwj j) = false) ?_ ?_ yb_N 0 (Nat.zero_le _) (by decide) (fun j hj => absurd hj (Nat.not_lt_zero _))
  · intro x rc hx hI
    show f_X9_wordOf_8 (fun x3 x4 x5 => rc (x3, x4, x5)) (zi p) (zi e) s (zi (zwp x).1) (zi (zwp x).2) (zi x) = _ ∨ _
    unfold f_X9_wordOf_8
    have hb := zwp_b x
    rw [show (100000 : Nat) = 100000 + 0 from rfl, zsl (by decide), Option.bind_some, h144, if_neg (by rw [zi_le (by omega) (by omega)]; omega), zsc (by decide) (by omega), Option.bind_some]
    by_cases c : yb_chr 0 x = 32
    · obtain ⟨f1, f2, f3⟩ := zwp_k hx c
      have es : zwp (x + 1) = ((zwp x).1 + 1, x + 1) := if_pos c
      rw [if_pos c, zi_sub hb.1, zi_sub he]
      have next : zwd T p e (zwj (zwp x).1) = false → ∀ j, j < (zwp (x + 1)).1 → zwd T p e (zwj j) = false := fun hn j hj => by
        rw [es] at hj
        by_cases ej : j = (zwp x).1
        · rw [ej]
          exact hn
        · exact hI j (by dsimp only at hj; omega)
      have step : j_X9_wordOf_54 (fun x3 x4 x5 => rc (x3, x4, x5)) (zi p) (zi e) (zi (zwp x).1) (zi x) s = rc (zi (zwp (x + 1)).1, zi (zwp (x + 1)).2, zi (x + 1)) := by
        unfold j_X9_wordOf_54 j_X9_wordOf_63
        rw [es, zi_succ, zi_succ]
      by_cases c2 : x - (zwp x).2 = e - p
      · rw [c2, if_pos rfl, zo_isWordAt he he5 hT (by omega), Option.bind_some]
        have ew : zeqo T p (zwp x).2 (e - p) = zwd T p e (zwj (zwp x).1) := by
          cases hz : zwd T p e (zwj (zwp x).1)
          · refine decide_eq_false fun q => ?_
            have : zwd T p e (zwj (zwp x).1) = true := zwd_t.mpr ⟨by omega, fun i hi => by rw [← q i (by omega), f3 i hi]⟩
            rw [hz] at this
            cases this
          · refine decide_eq_true fun i hi => ?_
            rw [zwd_t] at hz
            rw [f3 i (by omega), hz.2 i (by omega)]
        rw [ew]
        cases hz : zwd T p e (zwj (zwp x).1)
        · rw [if_pos (show zb false = 0 by decide)]
          right
          exact ⟨step, next hz⟩
        · rw [if_neg (show ¬ zb true = 0 by decide)]
          left
          rw [zwix_s f1 hz]
          rfl
      · rw [if_neg (by rw [zi_inj (by omega) (by omega)]; exact c2)]
        right
        refine ⟨step, next ?_⟩
        cases hz : zwd T p e (zwj (zwp x).1)
        · rfl
        · rw [zwd_t] at hz
          omega
    · have es : zwp (x + 1) = zwp x := if_neg c
      rw [if_neg c]
      unfold j_X9_wordOf_63
      rw [zi_succ]
      right
      rw [es]
      exact ⟨rfl, hI⟩
  · intro hI rc
    show f_X9_wordOf_8 (fun x3 x4 x5 => rc (x3, x4, x5)) (zi p) (zi e) s (zi (zwp 144).1) (zi (zwp 144).2) (zi 144) = _
    unfold f_X9_wordOf_8
    rw [show (100000 : Nat) = 100000 + 0 from rfl, zsl (by decide), Option.bind_some, h144, if_pos (Int32.le_refl _)]
    have : zwix T p e = none := zfind_n fun j hj => hI j (by rw [zwp_27]; exact hj)
    rw [this]
    rfl
def zat (s : yb_S) (t : Nat) (a b c : Int32) : yb_S := yb_pI (yb_pI (yb_pI (yb_pI s 97 t a) 99 t b) 98 t c) 92 10 (zi (t + 1))
theorem zo_addTok {s : yb_S} {t : Nat} {a b c : Int32} (ht : t ≤ 500) (h : s.1 92 10 = zi t) : f_X9_addToken a b c s = some (zat s t a b c) := by
  unfold f_X9_addToken zat
  rw [h, if_neg (by rw [show (500 : Int32) = zi 500 from rfl, zi_lt (by omega) (by omega)]; omega)]
  simp (disch := omega) only [h, zi_wr, zu_ne, Option.bind_some, zi_succ]
theorem zo_splitWord {s : yb_S} {T : Nat → Int32} {n p t : Nat} (hn : n ≤ 500) (hp : p < n) (h0 : s.1 92 0 = zi n) (hT : ∀ k, k < n → s.1 96 k = T k) (ht : t ≤ 500) (h : s.1 92 10 = zi t) (hl : zlt (T p) = true) : f_X9_splitWord (zi p) s = some (zi (zen T n p), zat s t (zki T n p) (zi p) (zva T n p)) := by
  have ee : zen T n p = zrun zlt T n p := by
    unfold zen
    rw [if_pos hp, hl]
    rfl
  have hb := zrun_b (b := zlt) (T := T) (n := n) (p := p) (Nat.le_of_lt hp)
  have hz := zen_b (T := T) hp
  rw [← ee] at hb
  unfold f_X9_splitWord l_X9_splitWord_2
  refine zs_upE (fun k => zi (p + k)) (zen T n p - p) _ ?_ ?_ yb_N 0 (Nat.zero_le _) (by unfold yb_N; omega)
  · intro k rc hk
    show f_X9_splitWord_2 (fun x2 => rc x2) (zi p) s (zi (p + k)) = _
    unfold f_X9_splitWord_2
    rw [h0, if_neg (by rw [zi_le (by omega) (by omega)]; omega), zi_rd (by omega) (by omega), Option.bind_some, zo_isL, Option.bind_some, hT _ (by omega), hb.2.2.1 _ (by omega) (by omega), if_neg (by decide), zi_succ]
    rfl
  · intro rc
    show f_X9_splitWord_2 (fun x2 => rc x2) (zi p) s (zi (p + (zen T n p - p))) = _
    rw [show p + (zen T n p - p) = zen T n p by omega]
    have key : j_X9_splitWord_28 (zi p) (zi (zen T n p)) s = some (zi (zen T n p), zat s t (zki T n p) (zi p) (zva T n p)) := by
      unfold j_X9_splitWord_28 j_X9_splitWord_74 j_X9_splitWord_108 zki zva
      rw [zo_wordOf (T := T) (Nat.le_of_lt hz.1) (by omega) (fun k hk => hT k (by omega)), Option.bind_some, if_pos hp, if_pos hp, hl]
      simp only [zo_addTok ht h, Option.bind_some, cond_true]
      cases ho : zwix T p (zen T n p) with
      | none => rfl
      | some j =>
        have hj := zwix_lt ho
        rw [show zix (some j) = zi j from rfl, show zkw (some j) = (if 9 ≤ j then 2 else if j < 6 then 3 else if j = 6 then 4 else if j = 7 then 5 else 6) from rfl, show zvw (some j) = (if 9 ≤ j then zi (j - 9) else if j < 6 then zi j else 0) from rfl, show (9 : Int32) = zi 9 from rfl]
        by_cases h9 : 9 ≤ j
        · rw [if_neg (by rw [zi_lt (by omega) (by omega)]; omega), if_pos h9, if_pos h9, zi_sub h9]
        · rw [if_pos (by rw [zi_lt (by omega) (by omega)]; omega), if_neg (by rw [zi_neg (by omega)]; exact id), if_neg h9, if_neg h9, show (6 : Int32) = zi 6 from rfl, show (7 : Int32) = zi 7 from rfl, show (8 : Int32) = zi 8 from rfl]
          by_cases h6 : j < 6
          · rw [if_neg (by rw [zi_le (by omega) (by omega)]; omega), if_pos h6, if_pos h6]
          · rw [if_pos (by rw [zi_le (by omega) (by omega)]; omega), if_neg h6, if_neg h6]
            by_cases e6 : j = 6
            · rw [if_pos (by rw [e6]), if_pos e6]
            · rw [if_neg (by rw [zi_inj (by omega) (by omega)]; exact e6), if_neg e6]
              by_cases e7 : j = 7
              · rw [if_pos (by rw [e7]), if_pos e7]
              · rw [if_neg (by rw [zi_inj (by omega) (by omega)]; exact e7), if_neg e7, if_pos (by rw [zi_inj (by omega) (by omega)]; omega)]
    unfold f_X9_splitWord_2
    rw [h0]
    rcases Nat.lt_or_ge (zen T n p) n with q | q
    · rw [if_neg (by rw [zi_le (by omega) (by omega)]; omega), zi_rd (by omega) (by omega), Option.bind_some, zo_isL, Option.bind_some, hT _ q, hb.2.2.2 q, if_pos (by decide), key]
    · rw [if_pos (by rw [zi_le (by omega) (by omega)]; omega), key]
theorem zo_splitNum {s : yb_S} {T : Nat → Int32} {n p t : Nat} (hn : n ≤ 500) (hp : p < n) (h0 : s.1 92 0 = zi n) (hT : ∀ k, k < n → s.1 96 k = T k) (ht : t ≤ 500) (h : s.1 92 10 = zi t) (hl : zlt (T p) = false) (hd : zdg (T p) = true) : f_X9_splitNumber (zi p) s = some (zi (zen T n p), zat s t (zki T n p) (zi p) (zva T n p)) := by
  have ee : zen T n p = zrun zdg T n p := by
    unfold zen
    rw [if_pos hp, hl, hd]
    rfl
  have hb := zrun_b (b := zdg) (T := T) (n := n) (p := p) (Nat.le_of_lt hp)
  have hz := zen_b (T := T) hp
  have hdg := zen_dg hp hl hd
  rw [← ee] at hb
  unfold f_X9_splitNumber l_X9_splitNumber_4
  refine zs_upE (fun k => (zi (p + k), zi (znm T p k))) (zen T n p - p) _ ?_ ?_ yb_N 0 (Nat.zero_le _) (by unfold yb_N; omega)
  · intro k rc hk
    show f_X9_splitNumber_4 (fun x2 x3 => rc (x2, x3)) (zi p) s (zi (p + k)) (zi (znm T p k)) = _
    have hm := znm_b (T := T) (p := p) (k := k) fun i hi => hdg i (by omega)
    unfold f_X9_splitNumber_4 j_X9_splitNumber_45
    rw [h0, if_neg (by rw [zi_le (by omega) (by omega)]; omega), zi_rd (by omega) (by omega), Option.bind_some, zo_isDg, Option.bind_some, hT _ (by omega), hb.2.2.1 _ (by omega) (by omega), if_neg (by decide), zi_succ, show (99999 : Int32) = zi 99999 from rfl]
    have es : znm T p (k + 1) = if 99999 < znm T p k then znm T p k else 10 * znm T p k + ((T (p + k)).toNatClampNeg - 48) := rfl
    by_cases c : 99999 < znm T p k
    · rw [if_pos c] at es
      rw [if_pos (by rw [zi_lt (by omega) (by omega)]; exact c), es]
      rfl
    · obtain ⟨d, hd9, ed⟩ := zdg_c (hdg k hk)
      rw [if_neg c, ed, zi_tn (by omega)] at es
      rw [if_neg (by rw [zi_lt (by omega) (by omega)]; exact c), Option.bind_some, ed, show (10 : Int32) = zi 10 from rfl, show (48 : Int32) = zi 48 from rfl, zi_mul, zi_add, zi_sub (by omega), es, show znm T p k * 10 + (48 + d) - 48 = 10 * znm T p k + (48 + d - 48) by omega]
      rfl
  · intro rc
    show f_X9_splitNumber_4 (fun x2 x3 => rc (x2, x3)) (zi p) s (zi (p + (zen T n p - p))) (zi (znm T p (zen T n p - p))) = _
    have hm := znm_b (T := T) (p := p) (k := zen T n p - p) hdg
    rw [show p + (zen T n p - p) = zen T n p by omega]
    have key : j_X9_splitNumber_51 (zi p) (zi (zen T n p)) (zi (znm T p (zen T n p - p))) s = some (zi (zen T n p), zat s t (zki T n p) (zi p) (zva T n p)) := by
      unfold j_X9_splitNumber_51 j_X9_splitNumber_64 zki zva
      rw [if_pos hp, if_pos hp, hl, hd]
      simp only [zo_addTok ht h, Option.bind_some, cond_true, cond_false]
      rw [show (99999 : Int32) = zi 99999 from rfl]
      by_cases c : 99999 < znm T p (zen T n p - p)
      · rw [if_pos (by rw [zi_lt (by omega) (by omega)]; exact c), if_pos c]
      · rw [if_neg (by rw [zi_lt (by omega) (by omega)]; exact c), if_neg c]
    unfold f_X9_splitNumber_4
    rw [h0]
    rcases Nat.lt_or_ge (zen T n p) n with q | q
    · rw [if_neg (by rw [zi_le (by omega) (by omega)]; omega), zi_rd (by omega) (by omega), Option.bind_some, zo_isDg, Option.bind_some, hT _ q, hb.2.2.2 q, if_pos (by decide), key]
    · rw [if_pos (by rw [zi_le (by omega) (by omega)]; omega), key]
/-- u is s, but for the tokens -/
def zft (s u : yb_S) : Prop := (∀ id k, id ≠ 97 → id ≠ 98 → id ≠ 99 → ¬ (id = 92 ∧ k = 10) → u.1 id k = s.1 id k) ∧ u.2 = s.2
theorem zft_at {s u : yb_S} (h : zft s u) {t : Nat} {a b c : Int32} : zft s (zat u t a b c) := by
  refine ⟨fun id k h1 h2 h3 h4 => ?_, h.2⟩
  unfold zat
  rw [← h.1 id k h1 h2 h3 h4]
  by_cases e : id = 92
  · subst e
    rw [zu_id, if_neg (by omega), zu_ne (by omega), zu_ne (by omega), zu_ne (by omega)]
  · rw [zu_ne e, zu_ne h2, zu_ne h3, zu_ne h1]
def zTok (T : Nat → Int32) (n t : Nat) (u : yb_S) : Prop := u.1 92 10 = zi t ∧ ∀ j, j < t → u.1 97 j = zKk T n j ∧ u.1 98 j = zVv T n j ∧ u.1 99 j = zi (zS T n j)
theorem zTok_at {T : Nat → Int32} {n t : Nat} {u : yb_S} (h : zTok T n t u) : zTok T n (t + 1) (zat u t (zki T n (zS T n t)) (zi (zS T n t)) (zva T n (zS T n t))) := by
  unfold zat
  refine ⟨zu_eq, fun j hj => ?_⟩
  by_cases e : j = t
  · subst e
    refine ⟨?_, ?_, ?_⟩
    · rw [zu_ne (by omega), zu_ne (by omega), zu_ne (by omega), zu_eq]
      rfl
    · rw [zu_ne (by omega), zu_eq]
      rfl
    · rw [zu_ne (by omega), zu_ne (by omega), zu_eq]
  · have := h.2 j (by omega)
    refine ⟨?_, ?_, ?_⟩
    · rw [zu_ne (by omega), zu_ne (by omega), zu_ne (by omega), zu_col e]
      exact this.1
    · rw [zu_ne (by omega), zu_col e, zu_ne (by omega), zu_ne (by omega)]
      exact this.2.1
    · rw [zu_ne (by omega), zu_ne (by omega), zu_col e, zu_ne (by omega)]
      exact this.2.2
theorem zo_split {s : yb_S} {T : Nat → Int32} {n : Nat} (hn : n ≤ 500) (h0 : s.1 92 0 = zi n) (hT : ∀ k, k < n → s.1 96 k = T k) : zs_P (f_X9_splitTokens s) (fun u => zft s u ∧ ∃ m, m ≤ n ∧ zS T n m = n ∧ (∀ j, j < m → zS T n j < n) ∧ zTok T n (m + 1) u) := by
  unfold f_X9_splitTokens l_X9_splitTokens_9
  rw [Option.bind_some]
  refine zs_up (fun i a => ∃ t bh, a.1 = zi bh ∧ a.2.1 = zi i ∧ bh ≤ n ∧ t ≤ i ∧ zS T n t = zsk T n (max i bh) ∧ (∀ j, j < t → zS T n j < n) ∧ zft s a.2.2 ∧ zTok T n t a.2.2) n ?_ yb_N 0 _ (Nat.zero_le _) (by unfold yb_N; omega) (by
    refine ⟨0, 0, rfl, rfl, Nat.zero_le _, Nat.le_refl _, rfl, fun j hj => absurd hj (Nat.not_lt_zero _), ⟨fun id k h1 h2 h3 h4 => ?_, rfl⟩, zu_eq, fun j hj => absurd hj (Nat.not_lt_zero _)⟩
    dsimp only
    by_cases e : id = 92
    · subst e
      rw [zu_id, if_neg (by omega)]
    · rw [zu_ne e])
  rintro i ⟨x, y, u⟩ rc hi ⟨t, bh, i1, i2, i3, i4, i5, i6, i7, i8⟩ hx
  dsimp only at i1 i2 i7 i8
  subst i1 i2
  show zs_P (f_X9_splitTokens_9 (fun x1 x2 s => rc (x1, x2, s)) (zi bh) (zi i) u) _
  have u0 : u.1 92 0 = zi n := by rw [i7.1 92 0 (by decide) (by decide) (by decide) (by decide)]; exact h0
  have uT : ∀ k, k < n → u.1 96 k = T k := fun k hk => by rw [i7.1 96 k (by decide) (by decide) (by decide) (by omega)]; exact hT k hk
  unfold f_X9_splitTokens_9 j_X9_splitTokens_90 j_X9_splitTokens_95
  rw [u0]
  rcases Nat.lt_or_ge i n with hlt | hge
  · rw [if_neg (by rw [zi_le (by omega) (by omega)]; omega), zi_rd (by omega) (by omega), Option.bind_some, uT i hlt, zi_succ]
    by_cases c : i < bh
    · rw [if_pos (by rw [zi_lt (by omega) (by omega)]; exact c)]
      exact hx hlt _ ⟨t, bh, rfl, rfl, i3, by omega, by rw [i5, show max (i + 1) bh = max i bh by omega], i6, i7, i8⟩
    · rw [if_neg (by rw [zi_lt (by omega) (by omega)]; exact c)]
      rw [show max i bh = i by omega] at i5
      by_cases cb : zbl (T i) = true
      · have i5' : zS T n t = zsk T n (i + 1) := i5.trans (zrun_s hlt cb)
        have goal : zs_P (rc (zi bh, zi (i + 1), u)) (fun u => zft s u ∧ ∃ m, m ≤ n ∧ zS T n m = n ∧ (∀ j, j < m → zS T n j < n) ∧ zTok T n (m + 1) u) :=
          hx hlt _ ⟨t, bh, rfl, rfl, i3, by omega, by rw [i5', show max (i + 1) bh = i + 1 by omega], i6, i7, i8⟩
        unfold zbl at cb
        rw [Bool.or_eq_true, beq_iff_eq, beq_iff_eq] at cb
        by_cases c32 : T i = 32
        · rw [if_pos c32]
          exact goal
        · rw [if_neg c32, if_pos (cb.resolve_left c32)]
          exact goal
      · have cb : zbl (T i) = false := by
          cases h : zbl (T i)
          · rfl
          · exact absurd h cb
        have i5' : zS T n t = i := i5.trans (zrun_e fun _ => cb)
        unfold zbl at cb
        rw [Bool.or_eq_false_iff, beq_eq_false_iff_ne, beq_eq_false_iff_ne] at cb
        rw [if_neg cb.1, if_neg cb.2, zo_isL, Option.bind_some]
        have hen := zen_b (T := T) hlt
        have tok := zTok_at i8
        rw [i5'] at tok
        have next : ∀ bh' : Nat, bh' ≤ n → max (i + 1) bh' = zen T n i → zs_P (rc (zi bh', zi (i + 1), zat u t (zki T n i) (zi i) (zva T n i))) (fun u => zft s u ∧ ∃ m, m ≤ n ∧ zS T n m = n ∧ (∀ j, j < m → zS T n j < n) ∧ zTok T n (m + 1) u) := fun bh' hb1 hb2 =>
          hx hlt _ ⟨t + 1, bh', rfl, rfl, hb1, by omega, by rw [hb2]; show zsk T n (zen T n (zS T n t)) = _; rw [i5'], fun j hj => by
            by_cases e : j = t
            · rw [e, i5']
              exact hlt
            · exact i6 j (by omega), zft_at i7, tok⟩
        cases hl : zlt (T i)
        · rw [if_pos (by decide), zo_isDg, Option.bind_some]
          cases hd : zdg (T i)
          · rw [if_pos (by decide), zo_isSn, Option.bind_some]
            have ezn : zen T n i = i + 1 := by
              unfold zen
              rw [if_pos hlt, hl, hd]
              rfl
            have ev : zva T n i = 0 := by
              unfold zva
              rw [if_pos hlt, hl, hd]
              rfl
            have ek : zki T n i = cond (zsn (T i)) (T i) 7 := by
              unfold zki
              rw [if_pos hlt, hl, hd]
              rfl
            rw [ev, ek] at next
            cases hs : zsn (T i)
            · rw [hs] at next
              rw [if_pos (by decide), zo_addTok (by omega) i8.1, Option.bind_some]
              exact next bh i3 (by omega)
            · rw [hs] at next
              rw [if_neg (by decide), zo_addTok (by omega) i8.1, Option.bind_some]
              exact next bh i3 (by omega)
          · rw [if_neg (by decide), zo_splitNum hn hlt u0 uT (by omega) i8.1 hl hd, Option.bind_some]
            exact next (zen T n i) hen.2 (by omega)
        · rw [if_neg (by decide), zo_splitWord hn hlt u0 uT (by omega) i8.1 hl, Option.bind_some]
          exact next (zen T n i) hen.2 (by omega)
  · have hkl := Nat.le_antisymm hi hge
    subst hkl
    rw [if_pos (Int32.le_refl _), zo_addTok (by omega) i8.1, Option.bind_some]
    rw [show max i bh = i by omega] at i5
    have i5' : zS T i t = i := i5.trans (zrun_e fun q => absurd q (Nat.lt_irrefl _))
    have tok := zTok_at i8
    rw [i5'] at tok
    have ek : zki T i i = 0 := if_neg (Nat.lt_irrefl _)
    have ev : zva T i i = 0 := if_neg (Nat.lt_irrefl _)
    rw [ek, ev] at tok
    exact zs_ret ⟨zft_at i7, t, i4, i5', i6, tok⟩
