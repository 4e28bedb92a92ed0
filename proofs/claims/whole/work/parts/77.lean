/-! the clauses of a text: (no fault yet, the token, how many codes in all, the clauses told with their codes) -/
abbrev ztS : Type := Bool × Nat × Nat × (Nat → Nat × (Nat → Int32 × Int32))
def zt0 (i : Nat) : zpS := (true, i, 0, fun _ => (0, 0))
def ztE (K V : Nat → Int32) (c i : Nat) : zpS := cond (decide (4 ≤ c)) (zpan K (zptt K V 8) (zt0 i)) (zpsm K (zpfc K V 8) (zt0 i))
def ztN (e r : zpS) (c b : Nat) (C : Nat → Nat × (Nat → Int32 × Int32)) : ztS := (r.1, r.2.1, b + e.2.2.1, fun k => if k = c then (e.2.2.1, e.2.2.2) else C k)
def ztC (K V : Nat → Int32) (y : ztS) : ztS :=
  if K y.2.1 = 3 ∧ (y.2.2.2 (V y.2.1).toNatClampNeg).1 = 0 then ztN (ztE K V (V y.2.1).toNatClampNeg (y.2.1 + 1)) (zpps K 59 (ztE K V (V y.2.1).toNatClampNeg (y.2.1 + 1))) (V y.2.1).toNatClampNeg y.2.2.1 y.2.2.2
  else (false, y.2)
def ztL (K V : Nat → Int32) : Nat → ztS → ztS
  | 0, y => y
  | f + 1, y => cond (y.1 && K y.2.1 != 0) (ztL K V f (ztC K V y)) y
def ztI : ztS := (true, 0, 0, fun _ => (0, fun _ => (0, 0)))
theorem ztL_s {K V : Nat → Int32} {f : Nat} {y : ztS} : ztL K V (f + 1) y = cond (y.1 && K y.2.1 != 0) (ztL K V f (ztC K V y)) y := rfl
/-! what they keep -/
def ztG (m : Nat) (y : ztS) : Prop := y.2.1 ≤ m ∧ (y.1 = true → y.2.2.1 ≤ y.2.1 ∧ ∀ c, c < 6 → (y.2.2.2 c).1 ≠ 0 → zpdp (y.2.2.2 c).1 (y.2.2.2 c).2 1 ∧ (y.2.2.2 c).1 ≤ 500)
theorem ztE_g {K V : Nat → Int32} {m : Nat} (hW : zpW K V m) {c i b : Nat} (hi : i ≤ m) (hb : b ≤ i) : zpG m b (ztE K V c i) 1 0 := by
  have h0 : zpG m b (zt0 i) 0 0 := ⟨hi, fun _ => ⟨by show b + 0 + 0 ≤ i; omega, zpdp_0⟩⟩
  unfold ztE
  cases decide (4 ≤ c)
  · exact zpsm_g hW (zpfc_g hW) (zt0 i) 0 0 h0 (by decide)
  · exact zpan_g hW (zptt_g hW) (zt0 i) 0 0 h0 (by decide)
theorem zpdp_1 {n : Nat} {g : Nat → Int32 × Int32} (h : zpdp n g 1) : n ≠ 0 := by
  obtain ⟨dep, h1, h2, -⟩ := h
  intro e
  rw [e, h1] at h2
  cases h2
theorem zpps_1 {K : Nat → Int32} {c : Int32} {x : zpS} (h : (zpps K c x).1 = true) : x.1 = true ∧ zpps K c x = zpnx x ∧ zpis K c x = true := by
  cases hc : zpis K c x
  · unfold zpps at h
    rw [hc] at h
    cases h
  · refine ⟨(zpis_t hc).1, ?_, rfl⟩
    unfold zpps
    rw [hc]
    rfl
theorem zpps_n {K : Nat → Int32} {c : Int32} {x : zpS} : (zpps K c x).2.2 = x.2.2 := by
  unfold zpps
  cases zpis K c x <;> rfl
theorem ztC_g {K V : Nat → Int32} {m : Nat} (hW : zpW K V m) {y : ztS} (hG : ztG m y) (hy : y.1 = true) (h0 : K y.2.1 ≠ 0) : ztG m (ztC K V y) := by
  have hlt : y.2.1 < m := by
    rcases Nat.lt_or_ge y.2.1 m with q | q
    · exact q
    · rw [Nat.le_antisymm hG.1 q] at h0
      exact absurd hW.2.1 h0
  unfold ztC
  split
  · have g1 := ztE_g hW (c := (V y.2.1).toNatClampNeg) (i := y.2.1 + 1) (b := y.2.2.1) hlt (by have := (hG.2 hy).1; omega)
    have g2 := zpG_ps hW g1 (c := 59) (by decide)
    refine ⟨g2.1, fun hr => ?_⟩
    obtain ⟨e1, e2, e3⟩ := zpps_1 hr
    have q1 := g1.2 e1
    have q2 := (g2.2 hr).1
    rw [zpps_n] at q2
    refine ⟨by show y.2.2.1 + (ztE K V (V y.2.1).toNatClampNeg (y.2.1 + 1)).2.2.1 ≤ (zpps K 59 (ztE K V (V y.2.1).toNatClampNeg (y.2.1 + 1))).2.1; omega, fun c hc hne => ?_⟩
    unfold ztN at hne ⊢
    dsimp only at hne ⊢
    by_cases e : c = (V y.2.1).toNatClampNeg
    · rw [if_pos e] at hne ⊢
      refine ⟨q1.2, ?_⟩
      have := g1.1
      have := hW.1
      dsimp only
      omega
    · rw [if_neg e] at hne ⊢
      exact (hG.2 hy).2 c hc hne
  · exact ⟨hG.1, fun q => by cases q⟩
/-! at most six -/
def ztz (n : Nat) : Nat := if n = 0 then 1 else 0
def ztn (y : ztS) : Nat := ztz (y.2.2.2 0).1 + ztz (y.2.2.2 1).1 + ztz (y.2.2.2 2).1 + ztz (y.2.2.2 3).1 + ztz (y.2.2.2 4).1 + ztz (y.2.2.2 5).1
theorem ztC_n {K V : Nat → Int32} {m : Nat} (hW : zpW K V m) {y : ztS} (hG : ztG m y) (hy : y.1 = true) (h0 : K y.2.1 ≠ 0) (hr : (ztC K V y).1 = true) : ztn (ztC K V y) + 1 = ztn y := by
  have hlt : y.2.1 < m := by
    rcases Nat.lt_or_ge y.2.1 m with q | q
    · exact q
    · rw [Nat.le_antisymm hG.1 q] at h0
      exact absurd hW.2.1 h0
  unfold ztC at hr ⊢
  split at hr
  · rename_i hc
    rw [if_pos hc]
    obtain ⟨c, hc6, ec⟩ := (hW.2.2.2 y.2.1 hlt).2.2 hc.1
    have g1 := ztE_g hW (c := (V y.2.1).toNatClampNeg) (i := y.2.1 + 1) (b := y.2.2.1) hlt (by have := (hG.2 hy).1; omega)
    obtain ⟨e1, -, -⟩ := zpps_1 hr
    have hne := zpdp_1 (g1.2 e1).2
    have hz := hc.2
    unfold ztn ztN
    dsimp only
    generalize ztE K V (V y.2.1).toNatClampNeg (y.2.1 + 1) = e at *
    rw [ec, zi_tn (by omega)] at hz ⊢
    have z1 : ztz e.2.2.1 = 0 := if_neg hne
    have z2 : ztz (y.2.2.2 c).1 = 1 := if_pos hz
    rcases (show c = 0 ∨ c = 1 ∨ c = 2 ∨ c = 3 ∨ c = 4 ∨ c = 5 by omega) with e | e | e | e | e | e <;> subst e <;> simp only [if_pos, if_neg, ↓reduceIte, Nat.reduceEqDiff, z1, z2] <;> omega
  · cases hr
theorem ztC_0 {K V : Nat → Int32} {m : Nat} (hW : zpW K V m) {y : ztS} (hG : ztG m y) (hn : ztn y = 0) (h0 : K y.2.1 ≠ 0) : (ztC K V y).1 = false := by
  have hlt : y.2.1 < m := by
    rcases Nat.lt_or_ge y.2.1 m with q | q
    · exact q
    · rw [Nat.le_antisymm hG.1 q] at h0
      exact absurd hW.2.1 h0
  unfold ztC
  split
  · rename_i hc
    exfalso
    obtain ⟨c, hc6, ec⟩ := (hW.2.2.2 y.2.1 hlt).2.2 hc.1
    have hz := hc.2
    rw [ec, zi_tn (by omega)] at hz
    have z2 : ztz (y.2.2.2 c).1 = 1 := if_pos hz
    unfold ztn at hn
    rcases (show c = 0 ∨ c = 1 ∨ c = 2 ∨ c = 3 ∨ c = 4 ∨ c = 5 by omega) with e | e | e | e | e | e <;> subst e <;> omega
  · rfl
/-! the class reads the clauses -/
def ztc (S : Nat → Nat) (w u : yb_S) (y : ztS) : Prop := (∀ id k, id ≠ 93 → id ≠ 94 → id ≠ 95 → ¬ (id = 92 ∧ (k = 1 ∨ k = 2 ∨ k = 11)) → u.1 id k = w.1 id k) ∧ u.2 = w.2 ∧ u.1 92 11 = zi y.2.1 ∧ u.1 92 1 = cond y.1 (-1) (zi (S y.2.1)) ∧ (∃ c, c ≤ 500 ∧ u.1 92 2 = zi c) ∧ (y.1 = true → u.1 92 2 = zi y.2.2.1 ∧ ∀ c, c < 6 → ((y.2.2.2 c).1 = 0 → u.1 94 c = -1) ∧ (0 < (y.2.2.2 c).1 → ∃ p, p + (y.2.2.2 c).1 ≤ y.2.2.1 ∧ u.1 94 c = zi p ∧ u.1 95 c = zi (p + (y.2.2.2 c).1) ∧ ∀ k, k < (y.2.2.2 c).1 → u.1 93 (p + k) = zstep ((y.2.2.2 c).2 k).1 ((y.2.2.2 c).2 k).2))
section
variable {K V : Nat → Int32} {S : Nat → Nat} {m : Nat} {w : yb_S}
theorem ztk_w {u : yb_S} (hk : ztk K V S m w) (h : ∀ id k, id ≠ 93 → id ≠ 94 → id ≠ 95 → ¬ (id = 92 ∧ (k = 1 ∨ k = 2 ∨ k = 11)) → u.1 id k = w.1 id k) : ztk K V S m u := by
  refine ⟨?_, fun j hj => ?_, hk.2.2⟩
  · rw [h 92 10 (by decide) (by decide) (by decide) (by omega)]
    exact hk.1
  · rw [h 97 j (by decide) (by decide) (by decide) (by omega), h 98 j (by decide) (by decide) (by decide) (by omega), h 99 j (by decide) (by decide) (by decide) (by omega)]
    exact hk.2.1 j hj
theorem zc_clause (hk : ztk K V S m w) {u : yb_S} {y : ztS} (hu : ztc S w u y) (hG : ztG m y) (hy : y.1 = true) (h0 : K y.2.1 ≠ 0) : zs_P (f_X9_readClause u) (fun v => ztc S w v (ztC K V y)) := by
  have hm5 := hk.2.2.2.1
  have hku := ztk_w hk hu.1
  have hlt : y.2.1 < m := by
    rcases Nat.lt_or_ge y.2.1 m with q | q
    · exact q
    · rw [Nat.le_antisymm hG.1 q] at h0
      exact absurd hk.2.2.2.2.1 h0
  obtain ⟨t1, t2, t3⟩ := hku.2.1 y.2.1 (by omega)
  obtain ⟨h1, h2, h3, h4, ⟨cc, hcc, h5⟩, h6⟩ := hu
  obtain ⟨b1, b2⟩ := h6 hy
  have hbi := (hG.2 hy).1
  unfold f_X9_readClause
  rw [h3, zi_rd (by omega) (by omega), Option.bind_some, zi_rd (by omega) (by omega), Option.bind_some, t1, t2]
  have fl : zs_P (j_X9_readClause_43 u) (fun v => ztc S w v (false, y.2)) := by
    unfold j_X9_readClause_43
    rw [h3, zi_rd (by omega) (by omega), Option.bind_some, t3, Option.bind_some]
    refine zs_ret ⟨fun id k q1 q2 q3 q4 => ?_, h2, ?_, zu_eq, ⟨cc, hcc, ?_⟩, fun q => by cases q⟩
    · rw [← h1 id k q1 q2 q3 q4]
      by_cases e : id = 92
      · subst e
        rw [zu_id, if_neg (by omega)]
      · rw [zu_ne e]
    · rw [zu_id, if_neg (by decide)]
      exact h3
    · rw [zu_id, if_neg (by decide)]
      exact h5
  by_cases c3 : K y.2.1 = 3
  · obtain ⟨c, hc6, ec⟩ := (hk.2.2.2.2.2.2 y.2.1 hlt).2.2 c3
    have et : (V y.2.1).toNatClampNeg = c := by rw [ec, zi_tn (by omega)]
    rw [if_pos c3, ec, if_neg (by rw [zi_neg (by omega)]; exact id), if_neg (by rw [show (6 : Int32) = zi 6 from rfl, zi_le (by omega) (by omega)]; omega), zi_rd hc6 (by omega), Option.bind_some]
    by_cases cl : (y.2.2.2 c).1 = 0
    · have ez : ztC K V y = ztN (ztE K V c (y.2.1 + 1)) (zpps K 59 (ztE K V c (y.2.1 + 1))) c y.2.2.1 y.2.2.2 := by
        unfold ztC
        rw [et, if_pos ⟨c3, cl⟩]
      rw [ez, if_pos ((b2 c hc6).1 cl), zi_wr hc6 (by omega), Option.bind_some, Option.bind_some, b1]
      -- the state from which the clause is read
      have w1f : ∀ id k, id ≠ 93 → id ≠ 94 → id ≠ 95 → ¬ (id = 92 ∧ (k = 1 ∨ k = 2 ∨ k = 11)) → (yb_pI u 94 c (zi y.2.2.1)).1 id k = w.1 id k := fun id k q1 q2 q3 q4 => by
        rw [zu_ne q2]
        exact h1 id k q1 q2 q3 q4
      have hk1 := ztk_w hk w1f
      have e92 : ∀ k, (yb_pI u 94 c (zi y.2.2.1)).1 92 k = u.1 92 k := fun k => zu_ne (by decide)
      have hcl0 : zcl S y.2.2.1 (yb_pI u 94 c (zi y.2.2.1)) (yb_pI (yb_pI u 94 c (zi y.2.2.1)) 92 11 ((yb_pI u 94 c (zi y.2.2.1)).1 92 11 + 1)) (zt0 (y.2.1 + 1)) := by
        refine ⟨fun id k q1 q2 => ?_, rfl, ?_, ?_, ⟨cc, hcc, ?_⟩, fun _ => ⟨?_, fun k hk => ?_, fun k hk => absurd hk (Nat.not_lt_zero _)⟩⟩
        · by_cases e : id = 92
          · subst e
            rw [zu_id, if_neg (by omega)]
          · rw [zu_ne e]
        · rw [zu_eq, e92, h3, zi_succ]
          rfl
        · rw [zu_id, if_neg (by decide), e92, h4, hy]
          rfl
        · rw [zu_id, if_neg (by decide), e92]
          exact h5
        · rw [zu_id, if_neg (by decide), e92, b1]
          rfl
        · rw [zu_ne (by decide)]
      have g0 : zpG m y.2.2.1 (zt0 (y.2.1 + 1)) 0 0 := ⟨hlt, fun _ => ⟨by show y.2.2.1 + 0 + 0 ≤ y.2.1 + 1; omega, zpdp_0⟩⟩
      have g1 := ztE_g hk.2.2.2 (c := c) (i := y.2.1 + 1) (b := y.2.2.1) hlt (by omega)
      have fin : ∀ v, zcl S y.2.2.1 (yb_pI u 94 c (zi y.2.2.1)) v (ztE K V c (y.2.1 + 1)) → zs_P (j_X9_readClause_100 (zi c) v) (fun v => ztc S w v (ztN (ztE K V c (y.2.1 + 1)) (zpps K 59 (ztE K V c (y.2.1 + 1))) c y.2.2.1 y.2.2.2)) := by
        intro v hv
        unfold j_X9_readClause_100
        rw [zi_wr hc6 (by omega), Option.bind_some]
        have hv95 : zcl S y.2.2.1 (yb_pI (yb_pI u 94 c (zi y.2.2.1)) 95 c (v.1 92 2)) (yb_pI v 95 c (v.1 92 2)) (ztE K V c (y.2.1 + 1)) := by
          obtain ⟨r1, r2, r3, r4, r5, r6⟩ := hv
          refine ⟨fun id k q1 q2 => ?_, r2, ?_, ?_, ?_, fun q => ?_⟩
          · by_cases e : id = 95
            · subst e
              rw [zu_id, zu_id, r1 95 k q1 q2]
            · rw [zu_ne e, zu_ne e]
              exact r1 id k q1 q2
          · rw [zu_ne (by decide)]
            exact r3
          · rw [zu_ne (by decide)]
            exact r4
          · rw [zu_ne (by decide)]
            exact r5
          · rw [zu_ne (by decide), zu_nef (by decide), zu_nef (by decide)]
            exact r6 q
        have hk2 : ztk K V S m (yb_pI (yb_pI u 94 c (zi y.2.2.1)) 95 c (v.1 92 2)) := ztk_w hk fun id k q1 q2 q3 q4 => by
          rw [zu_ne q3]
          exact w1f id k q1 q2 q3 q4
        refine zs_bind (zc_ps hk2 hv95 g1.1) fun v2 hv2 => zs_ret ?_
        obtain ⟨r1, r2, r3, r4, r5, r6⟩ := hv2
        refine ⟨fun id k q1 q2 q3 q4 => ?_, r2.trans h2, r3, r4, r5, fun hr => ?_⟩
        · rw [r1 id k q1 q4, zu_ne q3]
          exact w1f id k q1 q2 q3 q4
        · obtain ⟨e1, e2, e3⟩ := zpps_1 hr
          obtain ⟨s1, s2, s3⟩ := r6 hr
          rw [zpps_n] at s1 s3
          have hd := zpdp_1 (g1.2 e1).2
          have hv2b := (hv.2.2.2.2.2 e1).1
          refine ⟨s1, fun k hk6 => ?_⟩
          unfold ztN
          dsimp only
          by_cases e : k = c
          · rw [if_pos e]
            refine ⟨fun q => absurd q hd, fun _ => ⟨y.2.2.1, Nat.le_refl _, ?_, ?_, fun j hj => s3 j hj⟩⟩
            · rw [e, r1 94 c (by decide) (by omega), zu_ne (by decide), zu_eq]
            · rw [e, r1 95 c (by decide) (by omega), zu_eq, hv2b]
          · rw [if_neg e]
            have q94 : v2.1 94 k = u.1 94 k := by rw [r1 94 k (by decide) (by omega), zu_ne (by decide), zu_col e]
            have q95 : v2.1 95 k = u.1 95 k := by rw [r1 95 k (by decide) (by omega), zu_col e, zu_ne (by decide)]
            rw [q94, q95]
            refine ⟨(b2 k hk6).1, fun hp => ?_⟩
            obtain ⟨p, p1, p2, p3, p4⟩ := (b2 k hk6).2 hp
            refine ⟨p, by omega, p2, p3, fun j hj => ?_⟩
            rw [s2 (p + j) (by omega), zu_ne (by decide), zu_ne (by decide)]
            exact p4 j hj
      unfold j_X9_readClause_87
      by_cases c4 : c = 4
      · rw [if_pos (by rw [c4]; rfl)]
        have eE : ztE K V c (y.2.1 + 1) = zpan K (zptt K V 8) (zt0 (y.2.1 + 1)) := by
          unfold ztE
          rw [decide_eq_true (by omega)]
          rfl
        rw [eE] at fin ⊢
        exact zs_bind (zc_A hk1 (L := 8) (d := 0) rfl _ _ 0 0 hcl0 g0 (by decide)) fun v hv => fin v hv
      · rw [if_neg (by rw [show (4 : Int32) = zi 4 from rfl, zi_inj (by omega) (by omega)]; exact c4)]
        by_cases c5 : c = 5
        · rw [if_pos (by rw [c5]; rfl)]
          have eE : ztE K V c (y.2.1 + 1) = zpan K (zptt K V 8) (zt0 (y.2.1 + 1)) := by
            unfold ztE
            rw [decide_eq_true (by omega)]
            rfl
          rw [eE] at fin ⊢
          exact zs_bind (zc_A hk1 (L := 8) (d := 0) rfl _ _ 0 0 hcl0 g0 (by decide)) fun v hv => fin v hv
        · rw [if_neg (by rw [show (5 : Int32) = zi 5 from rfl, zi_inj (by omega) (by omega)]; exact c5)]
          have eE : ztE K V c (y.2.1 + 1) = zpsm K (zpfc K V 8) (zt0 (y.2.1 + 1)) := by
            unfold ztE
            rw [decide_eq_false (by omega)]
            rfl
          rw [eE] at fin ⊢
          exact zs_bind (zc_S hk1 (L := 8) (d := 0) rfl _ _ 0 0 hcl0 g0 (by decide)) fun v hv => fin v hv
    · have ez : ztC K V y = (false, y.2) := by
        unfold ztC
        rw [et, if_neg (fun q => cl q.2)]
      obtain ⟨p, p1, p2, -⟩ := (b2 c hc6).2 (by omega)
      have := hG.1
      rw [if_neg (by rw [p2, zi_m1 (by omega)]; exact id), ez]
      exact fl
  · have ez : ztC K V y = (false, y.2) := by
      unfold ztC
      rw [if_neg (fun q => c3 q.1)]
    rw [if_neg c3, ez]
    exact fl
/-- the final state of the reading -/
def ztF (K V : Nat → Int32) : ztS := ztL K V 7 ztI
theorem ztI_g : ztG m ztI := ⟨Nat.zero_le _, fun _ => ⟨Nat.le_refl _, fun c _ h => absurd rfl h⟩⟩
/-- after seven rounds all is said -/
theorem ztL_e (hW : zpW K V m) : ∀ (f : Nat) (y : ztS), ztG m y → ztn y < f → ztG m (ztL K V f y) ∧ ((ztL K V f y).1 = true → K (ztL K V f y).2.1 = 0)
  | 0, y, _, h => absurd h (Nat.not_lt_zero _)
  | f + 1, y, hG, h => by
    rw [ztL_s]
    cases hc : (y.1 && K y.2.1 != 0)
    · refine ⟨hG, fun q => ?_⟩
      have q : y.1 = true := q
      show K y.2.1 = 0
      rw [q] at hc
      simpa using hc
    · rw [Bool.and_eq_true, bne_iff_ne] at hc
      have g1 := ztC_g hW hG hc.1 hc.2
      cases hr : (ztC K V y).1
      · have : ztL K V f (ztC K V y) = ztC K V y := by
          cases f with
          | zero => rfl
          | succ f =>
            rw [ztL_s, hr]
            rfl
        show ztG m (ztL K V f (ztC K V y)) ∧ _
        rw [cond_true, this]
        exact ⟨g1, fun q => by rw [hr] at q; cases q⟩
      · have hn := ztC_n hW hG hc.1 hc.2 hr
        exact ztL_e hW f _ g1 (by omega)
theorem ztF_e (hW : zpW K V m) : ztG m (ztF K V) ∧ ((ztF K V).1 = true → K (ztF K V).2.1 = 0) := ztL_e hW 7 ztI ztI_g (by decide)
theorem zc_clauses (hk : ztk K V S m w) {u : yb_S} (hu : ztc S w u ztI) : zs_P (l_X9_parse_49 yb_N 0 u) (fun v => ztc S w v (ztF K V)) := by
  have hm5 := hk.2.2.2.1
  unfold l_X9_parse_49
  refine zs_up (fun k a => a.1 = zi k ∧ ∃ y, ztc S w a.2 y ∧ ztG m y ∧ ztL K V (7 - k) y = ztF K V) 7 ?_ yb_N 0 _ (Nat.zero_le _) (by decide) (by exact ⟨rfl, ztI, hu, ztI_g, rfl⟩)
  rintro k ⟨x, v⟩ rc hkk ⟨i1, y, i2, i3, i4⟩ hnx
  dsimp only at i1 i2
  subst i1
  show zs_P (f_X9_parse_49 (fun x1 s => rc (x1, s)) (zi k) v) _
  unfold f_X9_parse_49
  rcases Nat.lt_or_ge k 7 with hlt | hge
  · rw [if_neg (by rw [show (6 : Int32) = zi 6 from rfl, zi_lt (by omega) (by omega)]; omega), i2.2.2.2.1]
    rw [show 7 - k = (6 - k) + 1 by omega, ztL_s] at i4
    have hS := hk.2.2.1 y.2.1
    cases hy : y.1
    · rw [hy] at i4
      have i4 : y = ztF K V := i4
      rw [if_neg (show ¬ cond false (-1 : Int32) (zi (S y.2.1)) = -1 by show ¬ zi (S y.2.1) = -1; rw [zi_m1 (by omega)]; exact id), ← i4]
      exact zs_ret i2
    · have hm := i3.1
      rw [if_pos (show cond true (-1 : Int32) (zi (S y.2.1)) = -1 from rfl), i2.2.2.1, zi_rd (by omega) (by omega), Option.bind_some, ((ztk_w hk i2.1).2.1 y.2.1 (by omega)).1]
      by_cases c0 : K y.2.1 = 0
      · rw [hy, c0] at i4
        have i4 : y = ztF K V := i4
        rw [if_pos c0, ← i4]
        exact zs_ret i2
      · rw [if_neg c0]
        have hc : (y.1 && K y.2.1 != 0) = true := by
          rw [hy, Bool.true_and]
          exact bne_iff_ne.mpr c0
        rw [hc] at i4
        refine zs_bind (zc_clause hk i2 i3 hy c0) fun v2 hv2 => ?_
        rw [zi_succ]
        refine hnx hlt _ ⟨rfl, _, hv2, ztC_g hk.2.2.2 i3 hy c0, ?_⟩
        rw [show 7 - (k + 1) = 6 - k by omega]
        exact i4
  · have e : k = 7 := Nat.le_antisymm hkk hge
    subst e
    rw [if_pos (by decide)]
    have i4 : y = ztF K V := i4
    rw [← i4]
    exact zs_ret i2
end
/-- u is s, but for what the reader writes -/
def zfp (s u : yb_S) : Prop := (∀ id k, ¬ (93 ≤ id ∧ id < 100 ∧ id ≠ 96) → ¬ (id = 92 ∧ k ≠ 0) → u.1 id k = s.1 id k) ∧ u.2 = s.2
theorem zo_parse {s : yb_S} {T : Nat → Int32} {n : Nat} (hn : n ≤ 500) (h0 : s.1 92 0 = zi n) (hT : ∀ k, k < n → s.1 96 k = T k) : zs_P (f_X9_parse s) (fun u => zfp s u ∧ ∃ w, ztc (zS T n) w u (ztF (zKk T n) (zVv T n))) := by
  unfold f_X9_parse
  refine zs_bind (zo_split hn h0 hT) fun q1 hq => ?_
  obtain ⟨f1, m, hm, hS1, hS2, tok⟩ := hq
  have hW := zpW_ok hn hm hS1 hS2
  rw [Option.bind_some, Option.bind_some, Option.bind_some]
  have e92 : ∀ k, k ≠ 1 → k ≠ 2 → k ≠ 11 → (yb_pI (yb_pI (yb_pI q1 92 1 (-1)) 92 2 0) 92 11 0).1 92 k = q1.1 92 k := fun k k1 k2 k3 => by
    rw [zu_id, if_neg k3, zu_id, if_neg k2, zu_id, if_neg k1]
  have ene : ∀ id k, id ≠ 92 → (yb_pI (yb_pI (yb_pI q1 92 1 (-1)) 92 2 0) 92 11 0).1 id k = q1.1 id k := fun id k h => by
    rw [zu_ne h, zu_ne h, zu_ne h]
  have e1 : (yb_pI (yb_pI (yb_pI q1 92 1 (-1)) 92 2 0) 92 11 0).1 92 1 = -1 := by rw [zu_id, if_neg (by decide), zu_id, if_neg (by decide), zu_eq]
  have e2 : (yb_pI (yb_pI (yb_pI q1 92 1 (-1)) 92 2 0) 92 11 0).1 92 2 = zi 0 := by rw [zu_id, if_neg (by decide), zu_eq]; rfl
  have e11 : (yb_pI (yb_pI (yb_pI q1 92 1 (-1)) 92 2 0) 92 11 0).1 92 11 = zi 0 := zu_eq
  have eL : (yb_pI (yb_pI (yb_pI q1 92 1 (-1)) 92 2 0) 92 11 0).2 = q1.2 := rfl
  generalize yb_pI (yb_pI (yb_pI q1 92 1 (-1)) 92 2 0) 92 11 0 = w at *
  have hk : ztk (zKk T n) (zVv T n) (zS T n) m w := by
    refine ⟨?_, fun j hj => ?_, fun j => Nat.le_trans zS_n hn, hW⟩
    · rw [e92 10 (by decide) (by decide) (by decide)]
      exact tok.1
    · rw [ene 97 j (by decide), ene 98 j (by decide), ene 99 j (by decide)]
      exact tok.2 j hj
  unfold l_X9_parse_21
  refine zs_up (fun c a => a.1 = zi c ∧ (∀ id k, id ≠ 94 → id ≠ 95 → a.2.1 id k = w.1 id k) ∧ a.2.2 = w.2 ∧ ∀ k, k < c → a.2.1 94 k = -1) 6 ?_ yb_N 0 _ (Nat.zero_le _) (by decide) (by exact ⟨rfl, fun _ _ _ _ => rfl, rfl, fun k hk => absurd hk (Nat.not_lt_zero _)⟩)
  rintro c ⟨x, u⟩ rc hc ⟨i1, i2, i3, i4⟩ hnx
  dsimp only at i1 i2 i3 i4
  subst i1
  show zs_P (f_X9_parse_21 (fun x1 s => rc (x1, s)) (zi c) u) _
  unfold f_X9_parse_21
  rcases Nat.lt_or_ge c 6 with hlt | hge
  · rw [if_neg (by rw [show (6 : Int32) = zi 6 from rfl, zi_le (by omega) (by omega)]; omega), zi_wr hlt (by omega), Option.bind_some, zi_wr hlt (by omega), Option.bind_some, zi_succ]
    refine hnx hlt _ ⟨rfl, fun id k q1 q2 => ?_, i3, fun k hk => ?_⟩
    · dsimp only
      rw [zu_ne q2, zu_ne q1]
      exact i2 id k q1 q2
    · dsimp only
      rw [zu_ne (by decide), zu_id]
      by_cases e : k = c
      · rw [if_pos e]
      · rw [if_neg e]
        exact i4 k (by omega)
  · rw [if_pos (by rw [show (6 : Int32) = zi 6 from rfl, zi_le (by omega) (by omega)]; omega)]
    have e6 : c = 6 := Nat.le_antisymm hc hge
    subst e6
    have hu : ztc (zS T n) w u ztI := by
      refine ⟨fun id k q1 q2 q3 q4 => i2 id k q2 q3, i3, ?_, ?_, ⟨0, by decide, ?_⟩, fun _ => ⟨?_, fun k hk => ⟨fun _ => i4 k hk, fun q => absurd q (Nat.lt_irrefl _)⟩⟩⟩
      · rw [i2 92 11 (by decide) (by decide)]
        exact e11
      · rw [i2 92 1 (by decide) (by decide)]
        exact e1
      · rw [i2 92 2 (by decide) (by decide)]
        exact e2
      · rw [i2 92 2 (by decide) (by decide)]
        exact e2
    refine zs_mono (zc_clauses hk hu) fun v hv => ⟨⟨fun id k q1 q2 => ?_, ?_⟩, w, hv⟩
    · rw [hv.1 id k (by omega) (by omega) (by omega) (by omega)]
      by_cases e : id = 92
      · subst e
        rw [e92 k (by omega) (by omega) (by omega)]
        exact f1.1 92 k (by decide) (by decide) (by decide) (by omega)
      · rw [ene id k e]
        exact f1.1 id k (by omega) (by omega) (by omega) (by omega)
    · rw [hv.2.1, eL]
      exact f1.2
