/-! the class reads -/
def ztk (K V : Nat → Int32) (S : Nat → Nat) (m : Nat) (w : yb_S) : Prop := w.1 92 10 = zi (m + 1) ∧ (∀ j, j < m + 1 → w.1 97 j = K j ∧ w.1 98 j = V j ∧ w.1 99 j = zi (S j)) ∧ (∀ j, S j ≤ 500) ∧ zpW K V m
def zcl (S : Nat → Nat) (b : Nat) (w u : yb_S) (x : zpS) : Prop := (∀ id k, id ≠ 93 → ¬ (id = 92 ∧ (k = 1 ∨ k = 2 ∨ k = 11)) → u.1 id k = w.1 id k) ∧ u.2 = w.2 ∧ u.1 92 11 = zi x.2.1 ∧ u.1 92 1 = cond x.1 (-1) (zi (S x.2.1)) ∧ (∃ c, c ≤ 500 ∧ u.1 92 2 = zi c) ∧ (x.1 = true → u.1 92 2 = zi (b + x.2.2.1) ∧ (∀ k, k < b → u.1 93 k = w.1 93 k) ∧ ∀ k, k < x.2.2.1 → u.1 93 (b + k) = zstep (x.2.2.2 k).1 (x.2.2.2 k).2)
section
variable {K V : Nat → Int32} {S : Nat → Nat} {m b : Nat} {w : yb_S}
theorem zc_rd {u : yb_S} {x : zpS} (hk : ztk K V S m w) (h : zcl S b w u x) {j : Nat} (hj : j ≤ m) : u.1 97 j = K j ∧ u.1 98 j = V j ∧ u.1 99 j = zi (S j) := by
  rw [h.1 97 j (by decide) (by omega), h.1 98 j (by decide) (by omega), h.1 99 j (by decide) (by omega)]
  exact hk.2.1 j (by omega)
theorem zc_10 {u : yb_S} {x : zpS} (hk : ztk K V S m w) (h : zcl S b w u x) : u.1 92 10 = zi (m + 1) := by
  rw [h.1 92 10 (by decide) (by omega)]
  exact hk.1
theorem zc_is {u : yb_S} {x : zpS} (hk : ztk K V S m w) (h : zcl S b w u x) (hi : x.2.1 ≤ m) {c : Int32} : f_X9_isNext c u = some (zb (zpis K c x)) := by
  have hm := hk.2.2.2.1
  have hS := hk.2.2.1 x.2.1
  unfold f_X9_isNext
  rw [h.2.2.2.1, h.2.2.1, zc_10 hk h]
  cases hx : x.1
  · rw [zpis_f hx, if_neg (show ¬ cond false (-1 : Int32) (zi (S x.2.1)) = -1 by show ¬ zi (S x.2.1) = -1; rw [zi_m1 (by omega)]; exact id)]
    rfl
  · rw [if_pos (show cond true (-1 : Int32) (zi (S x.2.1)) = -1 from rfl), if_neg (by rw [zi_le (by omega) (by omega)]; omega), zi_rd (by omega) (by omega), Option.bind_some, (zc_rd hk h hi).1, zpis_e hx]
    by_cases e : K x.2.1 = c
    · rw [if_pos e, beq_iff_eq.mpr e]
      rfl
    · rw [if_neg e, beq_eq_false_iff_ne.mpr e]
      rfl
theorem zc_nx {u : yb_S} {x : zpS} (h : zcl S b w u x) (hx : x.1 = true) : zcl S b w (yb_pI u 92 11 (u.1 92 11 + 1)) (zpnx x) := by
  obtain ⟨h1, h2, h3, h4, h5, h6⟩ := h
  refine ⟨fun id k q1 q2 => ?_, h2, ?_, ?_, ?_, fun _ => ?_⟩
  · by_cases e : id = 92
    · subst e
      rw [zu_id, if_neg (by omega)]
      exact h1 92 k q1 q2
    · rw [zu_ne e]
      exact h1 id k q1 q2
  · rw [zu_eq, h3, zi_succ]
    rfl
  · rw [zu_id, if_neg (by decide), h4]
    show cond x.1 _ _ = cond x.1 _ _
    rw [hx]
    rfl
  · rw [zu_id, if_neg (by decide)]
    exact h5
  · rw [zu_id, if_neg (by decide), zu_nef (by decide)]
    exact h6 hx
theorem zc_fl {u : yb_S} {x : zpS} (hk : ztk K V S m w) (h : zcl S b w u x) (hi : x.2.1 ≤ m) : zs_P (f_X9_fail u) (fun u' => zcl S b w u' (zpfl x)) := by
  have hm := hk.2.2.2.1
  have hS := hk.2.2.1 x.2.1
  have h0 := h
  obtain ⟨h1, h2, h3, h4, h5, h6⟩ := h
  unfold f_X9_fail
  rw [h4, h3, zc_10 hk h0]
  cases hx : x.1
  · rw [if_neg (show ¬ cond false (-1 : Int32) (zi (S x.2.1)) = -1 by show ¬ zi (S x.2.1) = -1; rw [zi_m1 (by omega)]; exact id)]
    refine zs_ret ?_
    rw [zpfl_i hx]
    exact h0
  · rw [if_pos (show cond true (-1 : Int32) (zi (S x.2.1)) = -1 from rfl), if_neg (by rw [zi_le (by omega) (by omega)]; omega), zi_rd (by omega) (by omega), Option.bind_some, (zc_rd hk h0 hi).2.2, Option.bind_some]
    refine zs_ret ⟨fun id k q1 q2 => ?_, h2, ?_, ?_, ?_, fun q => by cases q⟩
    · by_cases e : id = 92
      · subst e
        rw [zu_id, if_neg (by omega)]
        exact h1 92 k q1 q2
      · rw [zu_ne e]
        exact h1 id k q1 q2
    · rw [zu_id, if_neg (by decide)]
      exact h3
    · exact zu_eq
    · rw [zu_id, if_neg (by decide)]
      exact h5
theorem zc_ps {u : yb_S} {x : zpS} (hk : ztk K V S m w) (h : zcl S b w u x) (hi : x.2.1 ≤ m) {c : Int32} : zs_P (f_X9_pass c u) (fun u' => zcl S b w u' (zpps K c x)) := by
  unfold f_X9_pass zpps
  rw [zc_is hk h hi, Option.bind_some]
  cases hx : zpis K c x
  · rw [if_pos (show zb false = 0 from rfl)]
    exact zs_bind (zc_fl hk h hi) fun a ha => zs_ret ha
  · rw [if_neg (show ¬ zb true = 0 by decide), Option.bind_some]
    exact zs_ret (zc_nx h (zpis_t hx).1)
theorem zc_put {u : yb_S} {x : zpS} (h : zcl S b w u x) {op v a : Int32} (ha : a = zstep op v) (hb : x.1 = true → b + x.2.2.1 < 500) : zs_P (f_X9_put a u) (fun u' => zcl S b w u' (zpt op v x)) := by
  obtain ⟨h1, h2, h3, h4, ⟨c, hc, h5⟩, h6⟩ := h
  unfold f_X9_put
  rw [h5]
  rcases Nat.lt_or_ge c 500 with q | q
  · rw [if_neg (by rw [show (500 : Int32) = zi 500 from rfl, zi_le (by omega) (by omega)]; omega), zi_wr q (by omega), Option.bind_some, Option.bind_some]
    refine zs_ret ⟨fun id k q1 q2 => ?_, h2, ?_, ?_, ⟨c + 1, q, ?_⟩, fun hx => ?_⟩
    · by_cases e : id = 92
      · subst e
        rw [zu_id, if_neg (by omega), zu_ne q1]
        exact h1 92 k q1 q2
      · rw [zu_ne e, zu_ne q1]
        exact h1 id k q1 q2
    · rw [zu_id, if_neg (by decide), zu_ne (by decide), zpt_m]
      exact h3
    · rw [zu_id, if_neg (by decide), zu_ne (by decide), zpt_m, zpt_1]
      exact h4
    · rw [zu_eq, zu_ne (by decide), h5, zi_succ]
    · rw [zpt_1] at hx
      obtain ⟨g1, g2, g3⟩ := h6 hx
      have hcb : c = b + x.2.2.1 := by
        rw [h5] at g1
        rwa [zi_inj (by omega) (by have := hb hx; omega)] at g1
      have ez : zpt op v x = (true, x.2.1, x.2.2.1 + 1, fun k => if k = x.2.2.1 then (op, v) else x.2.2.2 k) := by
        unfold zpt
        rw [hx]
        rfl
      rw [ez]
      refine ⟨?_, fun k hk => ?_, fun k hk => ?_⟩
      · rw [zu_eq, zu_ne (by decide), h5, zi_succ, hcb]
        rfl
      · rw [zu_ne (by decide), zu_col (by omega)]
        exact g2 k hk
      · dsimp only at hk ⊢
        rw [zu_ne (by decide)]
        by_cases e : k = x.2.2.1
        · rw [if_pos e, e, ← hcb, zu_eq]
          exact ha
        · rw [if_neg e, zu_col (by omega)]
          exact g3 k (by omega)
  · rw [if_pos (by rw [show (500 : Int32) = zi 500 from rfl, zi_le (by omega) (by omega)]; omega)]
    refine zs_ret ?_
    have hx : x.1 = false := by
      cases hx : x.1
      · rfl
      · have g1 := (h6 hx).1
        have := hb hx
        rw [h5, zi_inj (by omega) (by omega)] at g1
        omega
    rw [zpt_i hx]
    exact ⟨h1, h2, h3, h4, ⟨c, hc, h5⟩, h6⟩
def zPC (S : Nat → Nat) (m b : Nat) (w : yb_S) (p : zpS → zpS) (X : yb_S → Option yb_S) (need : Nat) : Prop := ∀ u x D r, zcl S b w u x → zpG m b x D r → D + need ≤ 60 → zs_P (X u) (fun u' => zcl S b w u' (p x))
theorem zc_lp (hk : ztk K V S m w) {c1 c2 : Int32} {p : zpS → zpS} {need : Nat} {F : (Int32 × yb_S → Option yb_S) → Int32 × yb_S → Option yb_S} (hg : zPG m b p need) (hm : zPM p) (h1 : c1 ≠ 0) (h2 : c2 ≠ 0) (b1 : zbin (zpop c1)) (b2 : zbin (zpop c2))
    (hstep : ∀ (k : Nat) (u : yb_S) (x : zpS) (D r : Nat) (rc : Int32 × yb_S → Option yb_S) (Q : yb_S → Prop), k < 500 → zcl S b w u x → zpG m b x D r → D + need ≤ 60 → (zpis K c1 x || zpis K c2 x) = true → (∀ u', zcl S b w u' (zpt (zpop (K x.2.1)) 0 (p (zpnx x))) → zs_P (rc (zi (k + 1), u')) Q) → zs_P (F rc (zi k, u)) Q)
    (hstop : ∀ (k : Nat) (u : yb_S) (x : zpS) (rc : Int32 × yb_S → Option yb_S), k ≤ 500 → zcl S b w u x → x.2.1 ≤ m → (zpis K c1 x || zpis K c2 x) = false → F rc (zi k, u) = some u)
    {u : yb_S} {x : zpS} {D r : Nat} (hu : zcl S b w u x) (hG : zpG m b x D r) (hD : 1 ≤ D) (hn : D + need ≤ 60) : zs_P (yb_it F yb_N (0, u)) (fun u' => zcl S b w u' (zplp K c1 c2 p 501 x)) := by
  have hm5 := hk.2.2.2.1
  refine zs_up (fun k a => a.1 = zi k ∧ ∃ y, zcl S b w a.2 y ∧ zpG m b y D r ∧ k ≤ y.2.1 ∧ zplp K c1 c2 p (501 - k) y = zplp K c1 c2 p 501 x) 500 ?_ yb_N 0 _ (Nat.zero_le _) (by unfold yb_N; omega) (by exact ⟨rfl, x, hu, hG, Nat.zero_le _, rfl⟩)
  rintro k ⟨z, v⟩ rc hkk ⟨i1, y, i2, i3, i4, i5⟩ hnx
  dsimp only at i1 i2
  subst i1
  rw [show 501 - k = (500 - k) + 1 by omega] at i5
  have e : zplp K c1 c2 p ((500 - k) + 1) y = cond (zpis K c1 y || zpis K c2 y) (zplp K c1 c2 p (500 - k) (zpt (zpop (K y.2.1)) 0 (p (zpnx y)))) y := rfl
  rw [e] at i5
  cases hc : (zpis K c1 y || zpis K c2 y)
  · rw [hc] at i5
    rw [hstop k v y rc hkk i2 i3.1 hc]
    refine zs_ret ?_
    rw [← i5]
    exact i2
  · rw [hc] at i5
    have g1 := zpG_nx2 hk.2.2.2 i3 h1 h2 hc
    have hlt : k < 500 := by
      have : y.2.1 + 1 ≤ m := g1.1
      omega
    refine hstep k v y D r rc _ hlt i2 i3 hn hc fun u' hu' => hnx hlt _ ⟨rfl, _, hu', ?_, ?_, ?_⟩
    · refine zpG_t (hg (zpnx y) D (r + 1) g1 hn) (fun _ => ?_) (by omega)
      exact Or.inr (Or.inr (Or.inr ⟨(zbin_op b1 b2 hc).2.1, by omega, rfl⟩))
    · rw [zpt_m]
      have : y.2.1 + 1 ≤ (p (zpnx y)).2.1 := hm (zpnx y)
      omega
    · rw [show 501 - (k + 1) = 500 - k by omega]
      exact i5
/-- room for one more code -/
theorem zpG_r {x : zpS} {D r : Nat} (hk : ztk K V S m w) (h : zpG m b x D (r + 1)) : x.1 = true → b + x.2.2.1 < 500 := fun q => by
  have := (h.2 q).1
  have := h.1
  have := hk.2.2.2.1
  omega
theorem zst_s {k : Int32} (h : k = 42 ∨ k = 47 ∨ k = 43 ∨ k = 45 ∨ k = 60 ∨ k = 61 ∨ k = 62) : k = zstep k 0 := by
  rcases h with h | h | h | h | h | h | h <;> subst h <;> rfl
theorem zst_p {k : Int32} (h : k = 42 ∨ k = 47 ∨ k = 43 ∨ k = 45) : zpop k = k := by
  rcases h with h | h | h | h <;> subst h <;> rfl
theorem zc_prod (hk : ztk K V S m w) {F : zpS → zpS} {need : Nat} {X1 X2 X3 : Int32 → yb_S → Option yb_S} {d : Int32} (hF : zPC S m b w F (X1 d) need) (hg : zPG m b F need) (hm : zPM F) : zPC S m b w (zppr K F) (f_X9_readProduct X1 X2 X3 d) (need + 1) := by
  have hm5 := hk.2.2.2.1
  intro u x D r hu hG hn
  unfold f_X9_readProduct l_X9_readProduct_7 zppr
  refine zs_bind (hF u x D r hu hG (by omega)) fun v hv => ?_
  have hG1 := hg x D r hG (by omega)
  refine zc_lp hk hg hm (by decide) (by decide) zbin_42.1 zbin_42.2.1 (fun k u x D r rc Q hlt hu hG hn hc K1 => ?_) (fun k u x rc hlt hu hi hc => ?_) hv hG1 (by omega) (by omega)
  · show zs_P (f_X9_readProduct_7 X1 X2 X3 (fun x2 s => rc (x2, s)) d (zi k) u) Q
    have hk0 := (zbin_op zbin_42.1 zbin_42.2.1 hc).2.2
    have g1 := zpG_nx2 hk.2.2.2 hG (by decide) (by decide) hc
    have hx1 := (zbin_op zbin_42.1 zbin_42.2.1 hc).1
    have key : zs_P (j_X9_readProduct_32 X1 X2 X3 (fun x2 s => rc (x2, s)) d (zi k) u) Q := by
      unfold j_X9_readProduct_32
      have hnx := zc_nx hu hx1
      have hi := hG.1
      rw [hu.2.2.1] at hnx ⊢
      rw [zi_rd (by omega) (by omega), Option.bind_some, (zc_rd hk hu hG.1).1, Option.bind_some]
      refine zs_bind (hF _ _ D (r + 1) hnx g1 hn) fun v hv => ?_
      rw [← show zpop (K x.2.1) = K x.2.1 from zst_p (by rcases hk0 with e | e <;> rw [e] <;> decide)]
      refine zs_bind (zc_put (op := zpop (K x.2.1)) (v := 0) hv (zst_s (by rcases hk0 with e | e <;> rw [e] <;> decide)) (zpG_r hk (hg _ D (r + 1) g1 hn))) fun v2 hv2 => ?_
      rw [zi_succ]
      exact K1 v2 hv2
    unfold f_X9_readProduct_7
    rw [if_neg (by rw [show (500 : Int32) = zi 500 from rfl, zi_le (by omega) (by omega)]; omega), zc_is hk hu hG.1, Option.bind_some]
    cases h42 : zpis K 42 x
    · rw [h42, Bool.false_or] at hc
      rw [if_pos (show zb false = 0 from rfl), zc_is hk hu hG.1, Option.bind_some, hc, if_neg (show ¬ zb true = 0 by decide)]
      exact key
    · rw [if_neg (show ¬ zb true = 0 by decide)]
      exact key
  · show f_X9_readProduct_7 X1 X2 X3 (fun x2 s => rc (x2, s)) d (zi k) u = some u
    rw [Bool.or_eq_false_iff] at hc
    unfold f_X9_readProduct_7
    rcases Nat.lt_or_ge k 500 with q | q
    · rw [if_neg (by rw [show (500 : Int32) = zi 500 from rfl, zi_le (by omega) (by omega)]; omega), zc_is hk hu hi, Option.bind_some, hc.1, if_pos (show zb false = 0 from rfl), zc_is hk hu hi, Option.bind_some, hc.2, if_pos (show zb false = 0 from rfl)]
    · rw [if_pos (by rw [show (500 : Int32) = zi 500 from rfl, zi_le (by omega) (by omega)]; omega)]
theorem zc_sum (hk : ztk K V S m w) {F : zpS → zpS} {need : Nat} {X1 X2 X3 : Int32 → yb_S → Option yb_S} {d : Int32} (hF : zPC S m b w (zppr K F) (X2 d) need) (hg : zPG m b (zppr K F) need) (hm : zPM (zppr K F)) : zPC S m b w (zpsm K F) (f_X9_readSum X1 X2 X3 d) (need + 1) := by
  have hm5 := hk.2.2.2.1
  intro u x D r hu hG hn
  unfold f_X9_readSum l_X9_readSum_7 zpsm
  refine zs_bind (hF u x D r hu hG (by omega)) fun v hv => ?_
  have hG1 := hg x D r hG (by omega)
  refine zc_lp hk hg hm (by decide) (by decide) zbin_42.2.2.1 zbin_42.2.2.2.1 (fun k u x D r rc Q hlt hu hG hn hc K1 => ?_) (fun k u x rc hlt hu hi hc => ?_) hv hG1 (by omega) (by omega)
  · show zs_P (f_X9_readSum_7 X1 X2 X3 (fun x2 s => rc (x2, s)) d (zi k) u) Q
    have hk0 := (zbin_op zbin_42.2.2.1 zbin_42.2.2.2.1 hc).2.2
    have g1 := zpG_nx2 hk.2.2.2 hG (by decide) (by decide) hc
    have hx1 := (zbin_op zbin_42.2.2.1 zbin_42.2.2.2.1 hc).1
    have key : zs_P (j_X9_readSum_32 X1 X2 X3 (fun x2 s => rc (x2, s)) d (zi k) u) Q := by
      unfold j_X9_readSum_32
      have hnx := zc_nx hu hx1
      have hi := hG.1
      rw [hu.2.2.1] at hnx ⊢
      rw [zi_rd (by omega) (by omega), Option.bind_some, (zc_rd hk hu hG.1).1, Option.bind_some]
      refine zs_bind (hF _ _ D (r + 1) hnx g1 hn) fun v hv => ?_
      rw [← show zpop (K x.2.1) = K x.2.1 from zst_p (by rcases hk0 with e | e <;> rw [e] <;> decide)]
      refine zs_bind (zc_put (op := zpop (K x.2.1)) (v := 0) hv (zst_s (by rcases hk0 with e | e <;> rw [e] <;> decide)) (zpG_r hk (hg _ D (r + 1) g1 hn))) fun v2 hv2 => ?_
      rw [zi_succ]
      exact K1 v2 hv2
    unfold f_X9_readSum_7
    rw [if_neg (by rw [show (500 : Int32) = zi 500 from rfl, zi_le (by omega) (by omega)]; omega), zc_is hk hu hG.1, Option.bind_some]
    cases h42 : zpis K 43 x
    · rw [h42, Bool.false_or] at hc
      rw [if_pos (show zb false = 0 from rfl), zc_is hk hu hG.1, Option.bind_some, hc, if_neg (show ¬ zb true = 0 by decide)]
      exact key
    · rw [if_neg (show ¬ zb true = 0 by decide)]
      exact key
  · show f_X9_readSum_7 X1 X2 X3 (fun x2 s => rc (x2, s)) d (zi k) u = some u
    rw [Bool.or_eq_false_iff] at hc
    unfold f_X9_readSum_7
    rcases Nat.lt_or_ge k 500 with q | q
    · rw [if_neg (by rw [show (500 : Int32) = zi 500 from rfl, zi_le (by omega) (by omega)]; omega), zc_is hk hu hi, Option.bind_some, hc.1, if_pos (show zb false = 0 from rfl), zc_is hk hu hi, Option.bind_some, hc.2, if_pos (show zb false = 0 from rfl)]
    · rw [if_pos (by rw [show (500 : Int32) = zi 500 from rfl, zi_le (by omega) (by omega)]; omega)]
theorem zc_each (hk : ztk K V S m w) {F : zpS → zpS} {need : Nat} {X1 X2 X3 : Int32 → yb_S → Option yb_S} {d : Int32} (hF : zPC S m b w F (X3 d) need) (hg : zPG m b F need) (hm : zPM F) : zPC S m b w (zpea K F) (f_X9_readEach X1 X2 X3 d) (need + 1) := by
  have hm5 := hk.2.2.2.1
  intro u x D r hu hG hn
  unfold f_X9_readEach l_X9_readEach_7 zpea
  refine zs_bind (hF u x D r hu hG (by omega)) fun v hv => ?_
  have hG1 := hg x D r hG (by omega)
  refine zc_lp hk hg hm (by decide) (by decide) zbin_42.2.2.2.2.1 zbin_42.2.2.2.2.1 (fun k u x D r rc Q hlt hu hG hn hc K1 => ?_) (fun k u x rc hlt hu hi hc => ?_) hv hG1 (by omega) (by omega)
  · show zs_P (f_X9_readEach_7 X1 X2 X3 (fun x2 s => rc (x2, s)) d (zi k) u) Q
    have g1 := zpG_nx2 hk.2.2.2 hG (by decide) (by decide) hc
    rw [Bool.or_self] at hc
    have hx1 := (zpis_t hc).1
    have hx2 := (zpis_t hc).2
    have hnx := zc_nx hu hx1
    unfold f_X9_readEach_7
    rw [if_neg (by rw [show (500 : Int32) = zi 500 from rfl, zi_le (by omega) (by omega)]; omega), zc_is hk hu hG.1, Option.bind_some, hc, if_neg (show ¬ zb true = 0 by decide), Option.bind_some]
    refine zs_bind (hF _ _ D (r + 1) hnx g1 hn) fun v hv => ?_
    rw [hx2] at K1
    refine zs_bind (zc_put (op := zpop 4) (v := 0) hv rfl (zpG_r hk (hg _ D (r + 1) g1 hn))) fun v2 hv2 => ?_
    rw [zi_succ]
    exact K1 v2 hv2
  · show f_X9_readEach_7 X1 X2 X3 (fun x2 s => rc (x2, s)) d (zi k) u = some u
    rw [Bool.or_self] at hc
    unfold f_X9_readEach_7
    rcases Nat.lt_or_ge k 500 with q | q
    · rw [if_neg (by rw [show (500 : Int32) = zi 500 from rfl, zi_le (by omega) (by omega)]; omega), zc_is hk hu hi, Option.bind_some, hc, if_pos (show zb false = 0 from rfl)]
    · rw [if_pos (by rw [show (500 : Int32) = zi 500 from rfl, zi_le (by omega) (by omega)]; omega)]
theorem zc_any (hk : ztk K V S m w) {F : zpS → zpS} {need : Nat} {X1 X2 X3 : Int32 → yb_S → Option yb_S} {d : Int32} (hF : zPC S m b w (zpea K F) (X2 d) need) (hg : zPG m b (zpea K F) need) (hm : zPM (zpea K F)) : zPC S m b w (zpan K F) (f_X9_readAny X1 X2 X3 d) (need + 1) := by
  have hm5 := hk.2.2.2.1
  intro u x D r hu hG hn
  unfold f_X9_readAny l_X9_readAny_7 zpan
  refine zs_bind (hF u x D r hu hG (by omega)) fun v hv => ?_
  have hG1 := hg x D r hG (by omega)
  refine zc_lp hk hg hm (by decide) (by decide) zbin_42.2.2.2.2.2 zbin_42.2.2.2.2.2 (fun k u x D r rc Q hlt hu hG hn hc K1 => ?_) (fun k u x rc hlt hu hi hc => ?_) hv hG1 (by omega) (by omega)
  · show zs_P (f_X9_readAny_7 X1 X2 X3 (fun x2 s => rc (x2, s)) d (zi k) u) Q
    have g1 := zpG_nx2 hk.2.2.2 hG (by decide) (by decide) hc
    rw [Bool.or_self] at hc
    have hx1 := (zpis_t hc).1
    have hx2 := (zpis_t hc).2
    have hnx := zc_nx hu hx1
    unfold f_X9_readAny_7
    rw [if_neg (by rw [show (500 : Int32) = zi 500 from rfl, zi_le (by omega) (by omega)]; omega), zc_is hk hu hG.1, Option.bind_some, hc, if_neg (show ¬ zb true = 0 by decide), Option.bind_some]
    refine zs_bind (hF _ _ D (r + 1) hnx g1 hn) fun v hv => ?_
    rw [hx2] at K1
    refine zs_bind (zc_put (op := zpop 5) (v := 0) hv rfl (zpG_r hk (hg _ D (r + 1) g1 hn))) fun v2 hv2 => ?_
    rw [zi_succ]
    exact K1 v2 hv2
  · show f_X9_readAny_7 X1 X2 X3 (fun x2 s => rc (x2, s)) d (zi k) u = some u
    rw [Bool.or_self] at hc
    unfold f_X9_readAny_7
    rcases Nat.lt_or_ge k 500 with q | q
    · rw [if_neg (by rw [show (500 : Int32) = zi 500 from rfl, zi_le (by omega) (by omega)]; omega), zc_is hk hu hi, Option.bind_some, hc, if_pos (show zb false = 0 from rfl)]
    · rw [if_pos (by rw [show (500 : Int32) = zi 500 from rfl, zi_le (by omega) (by omega)]; omega)]
/-- one level of a factor -/
theorem zc_facT (hk : ztk K V S m w) {X1 X2 X3 : Int32 → yb_S → Option yb_S} {L d : Nat} (hd : d + L = 8) (hS : ∀ L', L = L' + 1 → zPC S m b w (zpsm K (zpfc K V L')) (X3 (zi (d + 1))) (2 * L' + 3)) : zPC S m b w (zpfc K V L) (f_X9_readFactor X1 X2 X3 (zi d)) (2 * L + 1) := by
  have hm5 := hk.2.2.2.1
  intro u x D r hu hG hn
  have hi := hG.1
  unfold f_X9_readFactor j_X9_readFactor_113
  have val : ∀ {c op a : Int32}, zpis K c x = true → c ≠ 0 → a = zstep op (V x.2.1) → zs_P ((f_X9_put a u).bind fun q => (some (yb_pI q 92 11 (q.1 92 11 + 1))).bind fun s => some s) (fun u' => zcl S b w u' (zpt op (V x.2.1) (zpnx x))) := by
    intro c op a hc h0 ha
    have hlt := zpis_lt hk.2.2.2 hi h0 hc
    have hx := (zpis_t hc).1
    refine zs_bind (zc_put (op := op) (v := V x.2.1) hu ha fun q => ?_) fun v hv => ?_
    · have := (hG.2 q).1
      omega
    · rw [Option.bind_some]
      have := zc_nx hv (by rw [zpt_1]; exact hx)
      have e : zpnx (zpt op (V x.2.1) x) = zpt op (V x.2.1) (zpnx x) := by
        obtain ⟨a, i, n, g⟩ := x
        dsimp only at hx
        rw [hx]
        rfl
      rw [e] at this
      exact zs_ret this
  have fl : zs_P ((f_X9_fail u).bind fun q => some q) (fun u' => zcl S b w u' (zpfl x)) := zs_bind (zc_fl hk hu hi) fun a ha => zs_ret ha
  rw [zc_is hk hu hi, Option.bind_some]
  cases h1 : zpis K 1 x
  · rw [if_pos (show zb false = 0 from rfl), zc_is hk hu hi, Option.bind_some]
    cases h2 : zpis K 2 x
    · rw [if_pos (show zb false = 0 from rfl), zc_is hk hu hi, Option.bind_some]
      cases h3 : zpis K 40 x
      · have ez : zpfc K V L x = zpfl x := by
          cases L <;> unfold zpfc <;> simp only [h1, h2, h3, cond_false]
        rw [if_pos (show zb false = 0 from rfl), ez]
        exact fl
      · rw [if_neg (show ¬ zb true = 0 by decide)]
        cases L with
        | zero =>
          have ez : zpfc K V 0 x = zpfl x := by
            unfold zpfc
            simp only [h1, h2, cond_false]
          rw [if_pos (by rw [show (8 : Int32) = zi 8 from rfl, zi_le (by omega) (by omega)]; omega), ez]
          exact fl
        | succ L' =>
          have ez : zpfc K V (L' + 1) x = zpps K 41 (zpsm K (zpfc K V L') (zpnx x)) := by
            show cond (zpis K 1 x) _ (cond (zpis K 2 x) _ (cond (zpis K 40 x) _ _)) = _
            rw [h1, h2, h3]
            rfl
          rw [if_neg (by rw [show (8 : Int32) = zi 8 from rfl, zi_le (by omega) (by omega)]; omega), Option.bind_some, ez, zi_succ]
          have g1 := zpG_nx hk.2.2.2 hG (by decide) h3
          refine zs_bind (hS L' rfl _ _ D (r + 1) (zc_nx hu (zpis_t h3).1) g1 (by omega)) fun v hv => ?_
          have g2 := zpsm_g hk.2.2.2 (zpfc_g hk.2.2.2 (L := L')) (zpnx x) D (r + 1) g1 (by omega)
          exact zs_bind (zc_ps hk hv g2.1) fun a ha => zs_ret ha
    · have ez : zpfc K V L x = zpt 118 (V x.2.1) (zpnx x) := by
        cases L <;> unfold zpfc <;> simp only [h1, h2, cond_false, cond_true]
      have hlt := zpis_lt hk.2.2.2 hi (by decide) h2
      rw [if_neg (show ¬ zb true = 0 by decide), hu.2.2.1, zi_rd (by omega) (by omega), Option.bind_some, (zc_rd hk hu hi).2.1, ez]
      exact val h2 (by decide) rfl
  · have ez : zpfc K V L x = zpt 110 (V x.2.1) (zpnx x) := by
      cases L <;> unfold zpfc <;> simp only [h1, cond_true]
    have hlt := zpis_lt hk.2.2.2 hi (by decide) h1
    rw [if_neg (show ¬ zb true = 0 by decide), hu.2.2.1, zi_rd (by omega) (by omega), Option.bind_some, (zc_rd hk hu hi).2.1, ez]
    exact val h1 (by decide) rfl
theorem zc_F (hk : ztk K V S m w) : ∀ (L d : Nat), d + L = 8 → (∀ f, 3 * L + 1 ≤ f → zPC S m b w (zpfc K V L) ((gg_X9_readFactor f).1 (zi d)) (2 * L + 1)) ∧ (∀ f, 3 * L + 2 ≤ f → zPC S m b w (zppr K (zpfc K V L)) ((gg_X9_readFactor f).2.1 (zi d)) (2 * L + 2)) ∧ ∀ f, 3 * L + 3 ≤ f → zPC S m b w (zpsm K (zpfc K V L)) ((gg_X9_readFactor f).2.2 (zi d)) (2 * L + 3) := by
  intro L
  induction L with
  | zero =>
    intro d hd
    have A : ∀ f, 3 * 0 + 1 ≤ f → zPC S m b w (zpfc K V 0) ((gg_X9_readFactor f).1 (zi d)) (2 * 0 + 1) := fun f hf => by
      obtain ⟨f, rfl⟩ : ∃ g, f = g + 1 := ⟨f - 1, by omega⟩
      exact zc_facT hk hd (fun L' e => by omega)
    have B : ∀ f, 3 * 0 + 2 ≤ f → zPC S m b w (zppr K (zpfc K V 0)) ((gg_X9_readFactor f).2.1 (zi d)) (2 * 0 + 2) := fun f hf => by
      obtain ⟨f, rfl⟩ : ∃ g, f = g + 1 := ⟨f - 1, by omega⟩
      exact zc_prod hk (A f (by omega)) (zpfc_g hk.2.2.2) zpfc_m
    refine ⟨A, B, fun f hf => ?_⟩
    obtain ⟨f, rfl⟩ : ∃ g, f = g + 1 := ⟨f - 1, by omega⟩
    exact zc_sum hk (B f (by omega)) (zppr_g hk.2.2.2 (zpfc_g hk.2.2.2)) (zppr_m zpfc_m)
  | succ L ih =>
    intro d hd
    have A : ∀ f, 3 * (L + 1) + 1 ≤ f → zPC S m b w (zpfc K V (L + 1)) ((gg_X9_readFactor f).1 (zi d)) (2 * (L + 1) + 1) := fun f hf => by
      obtain ⟨f, rfl⟩ : ∃ g, f = g + 1 := ⟨f - 1, by omega⟩
      refine zc_facT hk hd (fun L' e => ?_)
      have e2 : L' = L := by omega
      subst e2
      exact (ih (d + 1) (by omega)).2.2 f (by omega)
    have B : ∀ f, 3 * (L + 1) + 2 ≤ f → zPC S m b w (zppr K (zpfc K V (L + 1))) ((gg_X9_readFactor f).2.1 (zi d)) (2 * (L + 1) + 2) := fun f hf => by
      obtain ⟨f, rfl⟩ : ∃ g, f = g + 1 := ⟨f - 1, by omega⟩
      exact zc_prod hk (A f (by omega)) (zpfc_g hk.2.2.2) zpfc_m
    refine ⟨A, B, fun f hf => ?_⟩
    obtain ⟨f, rfl⟩ : ∃ g, f = g + 1 := ⟨f - 1, by omega⟩
    exact zc_sum hk (B f (by omega)) (zppr_g hk.2.2.2 (zpfc_g hk.2.2.2)) (zppr_m zpfc_m)
theorem zc_S (hk : ztk K V S m w) {L d : Nat} (hd : d + L = 8) : zPC S m b w (zpsm K (zpfc K V L)) (g_X9_readSum (zi d)) (2 * L + 3) := (zc_F hk L d hd).2.2 120 (by omega)
/-- one level of what holds -/
theorem zc_cmT (hk : ztk K V S m w) {X1 X2 X3 : Int32 → yb_S → Option yb_S} {L d : Nat} (hd : d + L = 8) {u : yb_S} {x : zpS} {D r : Nat} (hu : zcl S b w u x) (hG : zpG m b x D r) (hn : D + (2 * L + 4) ≤ 60) : zs_P ((g_X9_readSum (zi d) u).bind fun q11 => (f_X9_isNext (60 : Int32) q11).bind fun q13 => if q13 = 0 then (f_X9_isNext (62 : Int32) q11).bind fun q16 => if q16 = 0 then j_X9_readHolds_146 X1 X2 X3 (zi d) (61 : Int32) q11 else j_X9_readHolds_146 X1 X2 X3 (zi d) (62 : Int32) q11 else j_X9_readHolds_146 X1 X2 X3 (zi d) (60 : Int32) q11) (fun u' => zcl S b w u' (zpcm K (zpfc K V L) x)) := by
  have g1 := zpsm_g hk.2.2.2 (zpfc_g hk.2.2.2 (L := L)) x D r hG (by omega)
  refine zs_bind (zc_S hk hd u x D r hu hG (by omega)) fun v hv => ?_
  have key : ∀ c : Int32, c = zpsg K (zpsm K (zpfc K V L) x) → zs_P (j_X9_readHolds_146 X1 X2 X3 (zi d) c v) (fun u' => zcl S b w u' (zpcm K (zpfc K V L) x)) := by
    intro c hc
    unfold j_X9_readHolds_146 zpcm
    rw [← hc]
    have hc0 := (zpsg_b (K := K) (x := zpsm K (zpfc K V L) x)).2
    rw [← hc] at hc0
    have g2 := zpG_ps hk.2.2.2 g1 hc0
    refine zs_bind (zc_ps hk hv g1.1) fun v2 hv2 => ?_
    refine zs_bind (zc_S hk hd v2 _ (D + 1) (r + 1) hv2 g2 (by omega)) fun v3 hv3 => ?_
    have g3 := zpsm_g hk.2.2.2 (zpfc_g hk.2.2.2 (L := L)) _ (D + 1) (r + 1) g2 (by omega)
    refine zs_bind (zc_put (op := c) (v := 0) hv3 (zst_s ?_) (zpG_r hk g3)) fun v4 hv4 => zs_ret hv4
    rw [hc]
    unfold zpsg
    cases zpis K 60 (zpsm K (zpfc K V L) x) <;> cases zpis K 62 (zpsm K (zpfc K V L) x) <;> decide
  rw [zc_is hk hv g1.1, Option.bind_some]
  cases h60 : zpis K 60 (zpsm K (zpfc K V L) x)
  · rw [if_pos (show zb false = 0 from rfl), zc_is hk hv g1.1, Option.bind_some]
    cases h62 : zpis K 62 (zpsm K (zpfc K V L) x)
    · rw [if_pos (show zb false = 0 from rfl)]
      exact key _ (by unfold zpsg; rw [h60, h62]; rfl)
    · rw [if_neg (show ¬ zb true = 0 by decide)]
      exact key _ (by unfold zpsg; rw [h60, h62]; rfl)
  · rw [if_neg (show ¬ zb true = 0 by decide)]
    exact key _ (by unfold zpsg; rw [h60]; rfl)
theorem zc_ttT (hk : ztk K V S m w) {X1 X2 X3 : Int32 → yb_S → Option yb_S} {L d : Nat} (hd : d + L = 8) (hA : ∀ L', L = L' + 1 → zPC S m b w (zpan K (zptt K V L')) (X1 (zi (d + 1))) (2 * L' + 6)) (hT : ∀ L', L = L' + 1 → zPC S m b w (zptt K V L') (X3 (zi (d + 1))) (2 * L' + 4)) : zPC S m b w (zptt K V L) (f_X9_readHolds X1 X2 X3 (zi d)) (2 * L + 4) := by
  intro u x D r hu hG hn
  have hi := hG.1
  have fl : zs_P ((f_X9_fail u).bind fun q => some q) (fun u' => zcl S b w u' (zpfl x)) := zs_bind (zc_fl hk hu hi) fun a ha => zs_ret ha
  unfold f_X9_readHolds j_X9_readHolds_18
  rw [zc_is hk hu hi, Option.bind_some]
  cases h6 : zpis K 6 x
  · rw [if_pos (show zb false = 0 from rfl), zc_is hk hu hi, Option.bind_some]
    cases h91 : zpis K 91 x
    · have ez : zptt K V L x = zpcm K (zpfc K V L) x := by
        cases L <;> unfold zptt <;> simp only [h6, h91, cond_false]
      rw [if_pos (show zb false = 0 from rfl), ez]
      unfold j_X9_readHolds_23 j_X9_readHolds_41
      rw [if_pos rfl, zc_is hk hu hi, Option.bind_some, h6, if_pos (show zb false = 0 from rfl), zc_is hk hu hi, Option.bind_some, h91, if_pos (show zb false = 0 from rfl)]
      exact zc_cmT hk hd hu hG hn
    · rw [if_neg (show ¬ zb true = 0 by decide)]
      unfold j_X9_readHolds_23 j_X9_readHolds_41
      rw [if_neg (by decide)]
      cases L with
      | zero =>
        have ez : zptt K V 0 x = zpfl x := by
          unfold zptt
          simp only [h6, h91, cond_false, cond_true]
        rw [if_neg (by rw [show (8 : Int32) = zi 8 from rfl, zi_lt (by omega) (by omega)]; omega), ez]
        exact fl
      | succ L' =>
        have ez : zptt K V (L' + 1) x = zpps K 93 (zpan K (zptt K V L') (zpnx x)) := by
          show cond (zpis K 6 x) _ (cond (zpis K 91 x) _ _) = _
          rw [h6, h91]
          rfl
        rw [if_pos (by rw [show (8 : Int32) = zi 8 from rfl, zi_lt (by omega) (by omega)]; omega), zc_is hk hu hi, Option.bind_some, h6, if_pos (show zb false = 0 from rfl), zc_is hk hu hi, Option.bind_some, h91, if_neg (show ¬ zb true = 0 by decide), Option.bind_some, zi_succ, ez]
        have g1 := zpG_nx hk.2.2.2 hG (by decide) h91
        refine zs_bind (hA L' rfl _ _ D (r + 1) (zc_nx hu (zpis_t h91).1) g1 (by omega)) fun v hv => ?_
        have g2 := zpan_g hk.2.2.2 (zptt_g hk.2.2.2 (L := L')) (zpnx x) D (r + 1) g1 (by omega)
        exact zs_bind (zc_ps hk hv g2.1) fun a ha => zs_ret ha
  · rw [if_neg (show ¬ zb true = 0 by decide)]
    unfold j_X9_readHolds_23 j_X9_readHolds_41
    rw [if_neg (by decide)]
    cases L with
    | zero =>
      have ez : zptt K V 0 x = zpfl x := by
        unfold zptt
        simp only [h6, cond_true]
      rw [if_neg (by rw [show (8 : Int32) = zi 8 from rfl, zi_lt (by omega) (by omega)]; omega), ez]
      exact fl
    | succ L' =>
      have ez : zptt K V (L' + 1) x = zpt 33 0 (zptt K V L' (zpnx x)) := by
        show cond (zpis K 6 x) _ _ = _
        rw [h6]
        rfl
      rw [if_pos (by rw [show (8 : Int32) = zi 8 from rfl, zi_lt (by omega) (by omega)]; omega), zc_is hk hu hi, Option.bind_some, h6, if_neg (show ¬ zb true = 0 by decide), Option.bind_some, zi_succ, ez]
      have g1 := zpG_nx hk.2.2.2 hG (by decide) h6
      refine zs_bind (hT L' rfl _ _ D (r + 1) (zc_nx hu (zpis_t h6).1) g1 (by omega)) fun v hv => ?_
      have g2 := zptt_g hk.2.2.2 (L := L') (zpnx x) D (r + 1) g1 (by omega)
      exact zs_bind (zc_put (op := 33) (v := 0) hv rfl (zpG_r hk g2)) fun a ha => zs_ret ha
theorem zc_T (hk : ztk K V S m w) : ∀ (L d : Nat), d + L = 8 → (∀ f, 3 * L + 1 ≤ f → zPC S m b w (zptt K V L) ((gg_X9_readAny f).2.2 (zi d)) (2 * L + 4)) ∧ (∀ f, 3 * L + 2 ≤ f → zPC S m b w (zpea K (zptt K V L)) ((gg_X9_readAny f).2.1 (zi d)) (2 * L + 5)) ∧ ∀ f, 3 * L + 3 ≤ f → zPC S m b w (zpan K (zptt K V L)) ((gg_X9_readAny f).1 (zi d)) (2 * L + 6) := by
  intro L
  induction L with
  | zero =>
    intro d hd
    have A : ∀ f, 3 * 0 + 1 ≤ f → zPC S m b w (zptt K V 0) ((gg_X9_readAny f).2.2 (zi d)) (2 * 0 + 4) := fun f hf => by
      obtain ⟨f, rfl⟩ : ∃ g, f = g + 1 := ⟨f - 1, by omega⟩
      exact zc_ttT hk hd (fun L' e => by omega) (fun L' e => by omega)
    have B : ∀ f, 3 * 0 + 2 ≤ f → zPC S m b w (zpea K (zptt K V 0)) ((gg_X9_readAny f).2.1 (zi d)) (2 * 0 + 5) := fun f hf => by
      obtain ⟨f, rfl⟩ : ∃ g, f = g + 1 := ⟨f - 1, by omega⟩
      exact zc_each hk (A f (by omega)) (zptt_g hk.2.2.2) zptt_m
    refine ⟨A, B, fun f hf => ?_⟩
    obtain ⟨f, rfl⟩ : ∃ g, f = g + 1 := ⟨f - 1, by omega⟩
    exact zc_any hk (B f (by omega)) (zpea_g hk.2.2.2 (zptt_g hk.2.2.2)) (zpea_m zptt_m)
  | succ L ih =>
    intro d hd
    have A : ∀ f, 3 * (L + 1) + 1 ≤ f → zPC S m b w (zptt K V (L + 1)) ((gg_X9_readAny f).2.2 (zi d)) (2 * (L + 1) + 4) := fun f hf => by
      obtain ⟨f, rfl⟩ : ∃ g, f = g + 1 := ⟨f - 1, by omega⟩
      refine zc_ttT hk hd (fun L' e => ?_) (fun L' e => ?_)
      · have e2 : L' = L := by omega
        subst e2
        exact (ih (d + 1) (by omega)).2.2 f (by omega)
      · have e2 : L' = L := by omega
        subst e2
        exact (ih (d + 1) (by omega)).1 f (by omega)
    have B : ∀ f, 3 * (L + 1) + 2 ≤ f → zPC S m b w (zpea K (zptt K V (L + 1))) ((gg_X9_readAny f).2.1 (zi d)) (2 * (L + 1) + 5) := fun f hf => by
      obtain ⟨f, rfl⟩ : ∃ g, f = g + 1 := ⟨f - 1, by omega⟩
      exact zc_each hk (A f (by omega)) (zptt_g hk.2.2.2) zptt_m
    refine ⟨A, B, fun f hf => ?_⟩
    obtain ⟨f, rfl⟩ : ∃ g, f = g + 1 := ⟨f - 1, by omega⟩
    exact zc_any hk (B f (by omega)) (zpea_g hk.2.2.2 (zptt_g hk.2.2.2)) (zpea_m zptt_m)
theorem zc_A (hk : ztk K V S m w) {L d : Nat} (hd : d + L = 8) : zPC S m b w (zpan K (zptt K V L)) (g_X9_readAny (zi d)) (2 * L + 6) := (zc_T hk L d hd).2.2 120 (by omega)
end
