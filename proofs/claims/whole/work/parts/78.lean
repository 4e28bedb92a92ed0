/-! the reference reads the clauses -/
theorem zu_tw {s : yb_S} {id k : Nat} {a b : Int32} : yb_pI (yb_pI s id k a) id k b = yb_pI s id k b := by
  apply Prod.ext
  · funext i j
    rw [zu_rd, zu_rd, zu_rd]
    by_cases e : i = id
    · rw [if_pos e, if_pos e, if_pos e]
      by_cases e2 : j = k
      · rw [if_pos e2, if_pos e2]
      · rw [if_neg e2, if_neg e2, if_neg e2]
    · rw [if_neg e, if_neg e, if_neg e]
  · rfl
theorem zki_0 {T : Nat → Int32} {n p : Nat} : (zki T n p = 0) = (n ≤ p) := by
  apply propext
  constructor
  · intro h
    rcases Nat.lt_or_ge p n with q | q
    · exfalso
      unfold zki at h
      rw [if_pos q] at h
      cases hl : zlt (T p)
      · rw [hl] at h
        cases hd : zdg (T p)
        · rw [hd] at h
          cases hs : zsn (T p)
          · rw [hs] at h
            exact absurd h (show ¬ (7 : Int32) = 0 by decide)
          · rw [hs] at h
            exact (zsn_ne hs).1 h
        · rw [hd] at h
          simp only [cond_true, cond_false] at h
          split at h
          · exact absurd h (by decide)
          · exact absurd h (by decide)
      · rw [hl] at h
        exact zkw_ne.1 h
    · exact q
  · intro h
    exact if_neg (by omega)
def zrz (w u : yb_S) : Prop := (∀ id k, ¬ (id = 176 ∧ (k = 45 ∨ k = 46 ∨ k = 47 ∨ k = 48 ∨ k = 49 ∨ k = 55)) → ¬ (315 ≤ id ∧ id < 321) → id ≠ 332 → u.1 id k = w.1 id k) ∧ u.2 = w.2
def ztr (T : Nat → Int32) (n : Nat) (w u : yb_S) (y : ztS) : Prop := zrz w u ∧ u.1 176 47 = cond y.1 (-1) (zi (zS T n y.2.1)) ∧ (y.1 = true → u.1 176 45 = zi (zS T n y.2.1) ∧ u.1 176 46 = zi (zen T n (zS T n y.2.1)) ∧ ∀ c, c < 6 → u.1 332 c = zi (y.2.2.2 c).1 ∧ ∀ k, k < (y.2.2.2 c).1 → u.1 (315 + c) (2 * k) = ((y.2.2.2 c).2 k).1 ∧ u.1 (315 + c) (2 * k + 1) = ((y.2.2.2 c).2 k).2)
section
variable {T : Nat → Int32} {n m : Nat} {w : yb_S}
theorem zrz_x {u : yb_S} (hx : ztx T n w) (h : zrz w u) : ztx T n u := by
  refine ⟨hx.1, ?_, fun k hk => ?_⟩
  · rw [h.1 176 44 (by omega) (by omega) (by omega)]
    exact hx.2.1
  · rw [h.1 242 k (by omega) (by omega) (by omega)]
    exact hx.2.2 k hk
theorem zrz_t {u v : yb_S} (h : zrz w u) (f : zrz u v) : zrz w v := ⟨fun id k q1 q2 q3 => (f.1 id k q1 q2 q3).trans (h.1 id k q1 q2 q3), f.2.trans h.2⟩
theorem zrz_w {u v : yb_S} {c : Nat} (hc : c < 6) (f : zrw c u v) : zrz u v := ⟨fun id k q1 q2 q3 => f.1 id k (by omega) (by omega), f.2⟩
theorem zrz_f {u v : yb_S} (f : zf45 u v) : zrz u v := ⟨fun id k q1 q2 q3 => f.1 id k (by omega), f.2⟩
theorem zrz_k {u : yb_S} {k : Nat} {x : Int32} (hk : k = 45 ∨ k = 46 ∨ k = 47 ∨ k = 48 ∨ k = 49 ∨ k = 55) : zrz u (yb_pI u 176 k x) := by
  refine ⟨fun id j q1 q2 q3 => ?_, rfl⟩
  by_cases e : id = 176
  · subst e
    rw [zu_id, if_neg (by omega)]
  · rw [zu_ne e]
theorem zrz_3 {u : yb_S} {k : Nat} {x : Int32} : zrz u (yb_pI u 332 k x) := ⟨fun id j q1 q2 q3 => zu_ne q3, rfl⟩
theorem zrz_r {u : yb_S} : zrz u u := ⟨fun _ _ _ _ _ => rfl, rfl⟩
/-- the clause is looked at, from the place where the token stands -/
theorem zr_j66 (hk : zpW (zKk T n) (zVv T n) m) {u : yb_S} {y : ztS} {c : Nat} (hc : c < 6) (hx : ztx T n u) (h55 : u.1 176 55 = zi c) (hG : ztG m y) (hy : y.1 = true) (h3 : zKk T n y.2.1 = 3) (hV : zVv T n y.2.1 = zi c) (hl : (y.2.2.2 c).1 = 0) (hu : ztr T n w u y) : zs_P (j_X12_clauses_66 1 u) (fun a => a.1 = zb (ztC (zKk T n) (zVv T n) y).1 ∧ ztr T n w a.2 (ztC (zKk T n) (zVv T n) y)) := by
  have hm5 := hk.1
  have hlt : y.2.1 < m := by
    rcases Nat.lt_or_ge y.2.1 m with q | q
    · exact q
    · rw [Nat.le_antisymm hG.1 q, hk.2.1] at h3
      exact absurd h3 (by decide)
  have et : (zVv T n y.2.1).toNatClampNeg = c := by rw [hV, zi_tn (by omega)]
  have ez : ztC (zKk T n) (zVv T n) y = ztN (ztE (zKk T n) (zVv T n) c (y.2.1 + 1)) (zpps (zKk T n) 59 (ztE (zKk T n) (zVv T n) c (y.2.1 + 1))) c y.2.2.1 y.2.2.2 := by
    unfold ztC
    rw [et, if_pos ⟨h3, hl⟩]
  rw [ez]
  obtain ⟨z1, z2, z3⟩ := hu
  obtain ⟨z4, z5, z6⟩ := z3 hy
  rw [hy] at z2
  have z2 : u.1 176 47 = -1 := z2
  have hbi := (hG.2 hy).1
  unfold j_X12_clauses_66 f_X12_passes
  rw [if_neg (by decide)]
  have hgo := zm_goesOn (p := zS T n y.2.1) hx zS_n z5
  obtain ⟨v, ev, fv, v45, v46⟩ := hgo
  rw [ev, Option.bind_some, Option.bind_some, if_neg (show ¬ (1 : Int32) = 0 by decide), Option.bind_some]
  have v45 : v.1 176 45 = zi (zS T n (y.2.1 + 1)) := v45
  have v46 : v.1 176 46 = zi (zen T n (zS T n (y.2.1 + 1))) := v46
  -- the state from which the expression is read
  have fz : zrz u (yb_pI v 176 48 0) := zrz_t (zrz_f fv) (zrz_k (by omega))
  have q55 : (yb_pI v 176 48 0).1 176 55 = zi c := by rw [zu_id, if_neg (by decide), fv.1 176 55 (by omega)]; exact h55
  have q47 : (yb_pI v 176 48 0).1 176 47 = -1 := by rw [zu_id, if_neg (by decide), fv.1 176 47 (by omega)]; exact z2
  have q45 : (yb_pI v 176 48 0).1 176 45 = zi (zS T n (y.2.1 + 1)) := by rw [zu_id, if_neg (by decide)]; exact v45
  have q46 : (yb_pI v 176 48 0).1 176 46 = zi (zen T n (zS T n (y.2.1 + 1))) := by rw [zu_id, if_neg (by decide)]; exact v46
  have q48 : (yb_pI v 176 48 0).1 176 48 = zi 0 := zu_eq
  have q332 : ∀ k, (yb_pI v 176 48 0).1 332 k = u.1 332 k := fun k => by rw [zu_ne (by decide)]; exact fv.1 332 k (by omega)
  have q315 : ∀ d k, d < 6 → (yb_pI v 176 48 0).1 (315 + d) k = u.1 (315 + d) k := fun d k hd => by rw [zu_ne (by omega)]; exact fv.1 _ k (by omega)
  generalize yb_pI v 176 48 0 = v0 at *
  have hx0 := zrz_x hx fz
  have hb0 : zrb T n c v0 := ⟨hx0, q55, hc⟩
  have hr0 : zrf T n c v0 v0 (zt0 (y.2.1 + 1)) := ⟨⟨fun _ _ _ _ => rfl, rfl⟩, q45, q46, q47, q48, fun k hk => absurd hk (Nat.not_lt_zero _)⟩
  have g0 : zpG m y.2.2.1 (zt0 (y.2.1 + 1)) 0 0 := ⟨hlt, fun _ => ⟨by show y.2.2.1 + 0 + 0 ≤ y.2.1 + 1; omega, zpdp_0⟩⟩
  have g1 := ztE_g hk (c := c) (i := y.2.1 + 1) (b := y.2.2.1) hlt (by omega)
  have bad : ∀ v2, (ztE (zKk T n) (zVv T n) c (y.2.1 + 1)).1 = false → zrx T n c v0 v2 (ztE (zKk T n) (zVv T n) c (y.2.1 + 1)).2.1 → zs_P (some ((0 : Int32), v2)) (fun a => a.1 = zb (ztN (ztE (zKk T n) (zVv T n) c (y.2.1 + 1)) (zpps (zKk T n) 59 (ztE (zKk T n) (zVv T n) c (y.2.1 + 1))) c y.2.2.1 y.2.2.2).1 ∧ ztr T n w a.2 (ztN (ztE (zKk T n) (zVv T n) c (y.2.1 + 1)) (zpps (zKk T n) 59 (ztE (zKk T n) (zVv T n) c (y.2.1 + 1))) c y.2.2.1 y.2.2.2)) := by
    intro v2 he hv2
    rw [zpps_i he]
    unfold ztN
    dsimp only
    rw [he]
    refine zs_ret ⟨rfl, zrz_t z1 (zrz_t fz (zrz_w hc hv2.1)), ?_, fun q => by cases q⟩
    exact hv2.2
  have fin : ∀ v2, (ztE (zKk T n) (zVv T n) c (y.2.1 + 1)).1 = true → zrf T n c v0 v2 (ztE (zKk T n) (zVv T n) c (y.2.1 + 1)) → zs_P (j_X12_clauses_108 v2) (fun a => a.1 = zb (ztN (ztE (zKk T n) (zVv T n) c (y.2.1 + 1)) (zpps (zKk T n) 59 (ztE (zKk T n) (zVv T n) c (y.2.1 + 1))) c y.2.2.1 y.2.2.2).1 ∧ ztr T n w a.2 (ztN (ztE (zKk T n) (zVv T n) c (y.2.1 + 1)) (zpps (zKk T n) 59 (ztE (zKk T n) (zVv T n) c (y.2.1 + 1))) c y.2.2.1 y.2.2.2)) := by
    intro v2 he hv2
    have hd := zpdp_1 (g1.2 he).2
    unfold j_X12_clauses_108
    rw [show (10 : Int32) = zi 10 from rfl, zi_ri (by omega) (by omega), Option.bind_some, zrw_55 hb0 hv2.1, hv2.2.2.2.2.1, show 322 + 1 * 10 = 332 from rfl, zi_wr hc (by omega), Option.bind_some]
    generalize hE : ztE (zKk T n) (zVv T n) c (y.2.1 + 1) = e at *
    have fz2 : zrz v0 (yb_pI v2 332 c (zi e.2.2.1)) := zrz_t (zrz_w hc hv2.1) zrz_3
    have hx2 := zrz_x hx0 fz2
    have hb2 : zrb T n c (yb_pI v2 332 c (zi e.2.2.1)) := ⟨hx2, by rw [zu_ne (by decide)]; exact zrw_55 hb0 hv2.1, hc⟩
    have hr2 : zrf T n c (yb_pI v2 332 c (zi e.2.2.1)) (yb_pI v2 332 c (zi e.2.2.1)) e := by
      obtain ⟨r1, r2, r3, r4, r5, r6⟩ := hv2
      refine ⟨⟨fun _ _ _ _ => rfl, rfl⟩, ?_, ?_, ?_, ?_, fun k hk => ?_⟩
      · rw [zu_ne (by decide)]; exact r2
      · rw [zu_ne (by decide)]; exact r3
      · rw [zu_ne (by decide)]; exact r4
      · rw [zu_ne (by decide)]; exact r5
      · rw [zu_ne (by omega), zu_ne (by omega)]
        exact r6 k hk
    rw [zr_sg hb2 hr2 he (by decide), Option.bind_some]
    refine zs_bind (zr_pass hb2 hr2 he (zpis (zKk T n) 59 e)) fun a ha => ?_
    obtain ⟨a1, a2⟩ := a
    have ep : cond (zpis (zKk T n) 59 e) (zpnx e) (zpfl e) = zpps (zKk T n) 59 e := rfl
    rw [ep] at ha
    cases hp : (zpps (zKk T n) 59 e).1
    · obtain ⟨p1, p2⟩ := ha.2 hp
      dsimp only at p1 p2
      refine zs_ret ?_
      unfold ztN
      dsimp only
      rw [hp]
      exact ⟨p1, zrz_t z1 (zrz_t fz (zrz_t fz2 (zrz_w hc p2.1))), p2.2, fun q => by cases q⟩
    · obtain ⟨p1, p2⟩ := ha.1 hp
      dsimp only at p1 p2
      refine zs_ret ?_
      unfold ztN
      dsimp only
      rw [hp]
      obtain ⟨r1, r2, r3, r4, r5, r6⟩ := p2
      rw [zpps_n] at r6
      refine ⟨p1, zrz_t z1 (zrz_t fz (zrz_t fz2 (zrz_w hc r1))), r4, fun _ => ⟨r2, r3, fun d hd6 => ?_⟩⟩
      dsimp only
      by_cases ed : d = c
      · rw [if_pos ed, ed]
        refine ⟨?_, fun k hk => r6 k hk⟩
        rw [r1.1 332 c (by omega) (by omega), zu_eq]
      · rw [if_neg ed]
        have e1 : a2.1 332 d = u.1 332 d := by rw [r1.1 332 d (by omega) (by omega), zu_col ed, hv2.1.1 332 d (by omega) (by omega), q332]
        have e2 : ∀ k, a2.1 (315 + d) k = u.1 (315 + d) k := fun k => by rw [r1.1 (315 + d) k (by omega) (by omega), zu_ne (by omega), hv2.1.1 (315 + d) k (by omega) (by omega), q315 d k hd6]
        rw [e1]
        refine ⟨(z6 d hd6).1, fun k hk => ?_⟩
        rw [e2, e2]
        exact (z6 d hd6).2 k hk
  rw [q55]
  by_cases c4 : 4 ≤ c
  · rw [if_pos (by rw [show (4 : Int32) = zi 4 from rfl, zi_le (by omega) (by omega)]; exact c4)]
    have eE : ztE (zKk T n) (zVv T n) c (y.2.1 + 1) = zpan (zKk T n) (zptt (zKk T n) (zVv T n) 8) (zt0 (y.2.1 + 1)) := by
      unfold ztE
      rw [decide_eq_true c4]
      rfl
    rw [eE] at fin bad ⊢
    refine zr_then (zr_A hb0 hk (L := 8) (d := 0) rfl _ _ 0 0 rfl hr0 g0 (by decide)) (fun hp v2 hv2 => ?_) (fun hp v2 hv2 => ?_)
    · rw [if_neg (show ¬ (1 : Int32) = 0 by decide)]
      exact fin v2 hp hv2
    · rw [if_pos rfl]
      exact bad v2 hp hv2
  · rw [if_neg (by rw [show (4 : Int32) = zi 4 from rfl, zi_le (by omega) (by omega)]; exact c4)]
    have eE : ztE (zKk T n) (zVv T n) c (y.2.1 + 1) = zpsm (zKk T n) (zpfc (zKk T n) (zVv T n) 8) (zt0 (y.2.1 + 1)) := by
      unfold ztE
      rw [decide_eq_false c4]
      rfl
    rw [eE] at fin bad ⊢
    refine zr_then (zr_S hb0 hk (L := 8) (d := 0) rfl _ _ 0 0 rfl hr0 g0 (by decide)) (fun hp v2 hv2 => ?_) (fun hp v2 hv2 => ?_)
    · rw [if_neg (show ¬ (1 : Int32) = 0 by decide)]
      exact fin v2 hp hv2
    · rw [if_pos rfl]
      exact bad v2 hp hv2
theorem zr_bad {u : yb_S} {y : ztS} (hy : y.1 = true) (hu : ztr T n w u y) {x : Int32} (h : ztC (zKk T n) (zVv T n) y = (false, y.2)) : zs_P (j_X12_clauses_66 0 (yb_pI u 176 55 x)) (fun a => a.1 = zb (ztC (zKk T n) (zVv T n) y).1 ∧ ztr T n w a.2 (ztC (zKk T n) (zVv T n) y)) := by
  rw [h]
  obtain ⟨z1, z2, z3⟩ := hu
  obtain ⟨z4, z5, z6⟩ := z3 hy
  rw [hy] at z2
  unfold j_X12_clauses_66 f_X12_passes f_X12_fails
  have e47 : (yb_pI u 176 55 x).1 176 47 = -1 := by rw [zu_id, if_neg (by decide)]; exact z2
  have e45 : (yb_pI u 176 55 x).1 176 45 = zi (zS T n y.2.1) := by rw [zu_id, if_neg (by decide)]; exact z4
  rw [if_pos rfl, e47, if_pos rfl, Option.bind_some, Option.bind_some, Option.bind_some, if_pos rfl]
  refine zs_ret ⟨rfl, zrz_t z1 (zrz_t (zrz_k (by omega)) (zrz_k (by omega))), ?_, fun q => by cases q⟩
  rw [zu_eq]
  exact e45
theorem zr_clause (hx : ztx T n w) (hk : zpW (zKk T n) (zVv T n) m) {u : yb_S} {y : ztS} (hG : ztG m y) (hy : y.1 = true) (h0 : zKk T n y.2.1 ≠ 0) (hu : ztr T n w u y) : zs_P (f_X12_clauses u) (fun a => a.1 = zb (ztC (zKk T n) (zVv T n) y).1 ∧ ztr T n w a.2 (ztC (zKk T n) (zVv T n) y)) := by
  have hxu := zrz_x hx hu.1
  have hlt : y.2.1 < m := by
    rcases Nat.lt_or_ge y.2.1 m with q | q
    · exact q
    · rw [Nat.le_antisymm hG.1 q] at h0
      exact absurd hk.2.1 h0
  unfold f_X12_clauses l_X12_clauses_7
  rw [Option.bind_some]
  obtain ⟨z1, z2, z3⟩ := hu
  obtain ⟨z4, z5, z6⟩ := z3 hy
  have hu : ztr T n w u y := ⟨z1, z2, z3⟩
  have word : ∀ (x : Int32) (k : Nat), k < 6 → f_X12_isWord_str (100001 + 1 * k) (yb_pI u 176 55 x) = some (zb (zwd T (zS T n y.2.1) (zen T n (zS T n y.2.1)) (zwj k))) := fun x k hk => by
    have ew : zwj k = 1 + k := if_pos hk
    rw [show 100001 + 1 * k = 100000 + (1 + k) by omega, zm_isWord (zrz_x hxu (zrz_k (by omega))) zS_n (by rw [zu_id, if_neg (by decide)]; exact z4) (by rw [zu_id, if_neg (by decide)]; exact z5) (by omega) (by omega), ew]
  by_cases c3 : zKk T n y.2.1 = 3
  · obtain ⟨j, hj, hw, ej, ev⟩ := zki_b (T := T) (n := n) (p := zS T n y.2.1) (Or.inr (Or.inl c3))
    have hj6 : j < 6 ∧ ¬ 9 ≤ j := by
      have c3 : zki T n (zS T n y.2.1) = 3 := c3
      rw [c3, zkw_j] at ej
      repeat' split at ej
      all_goals first | omega | exact absurd ej (by decide)
    have hV : zVv T n y.2.1 = zi j := ev.trans (by show (if 9 ≤ j then zi (j - 9) else if j < 6 then zi j else 0) = _; rw [if_neg hj6.2, if_pos hj6.1])
    have et : (zVv T n y.2.1).toNatClampNeg = j := by rw [hV, zi_tn (by omega)]
    refine zs_up (fun k a => a.1 = zi k ∧ a.2 = yb_pI u 176 55 (if j < k then zi j else -1)) 6 ?_ yb_N 0 _ (Nat.zero_le _) (by decide) (by exact ⟨rfl, by rw [if_neg (Nat.not_lt_zero _)]⟩)
    rintro k ⟨x, v⟩ rc hk6 ⟨i1, i2⟩ hnx
    dsimp only at i1 i2
    subst i1 i2
    show zs_P (f_X12_clauses_7 (fun x1 s => rc (x1, s)) (zi k) (yb_pI u 176 55 (if j < k then zi j else -1))) _
    unfold f_X12_clauses_7 j_X12_clauses_31 j_X12_clauses_65
    rcases Nat.lt_or_ge k 6 with hlt6 | hge
    · rw [if_neg (by rw [show (6 : Int32) = zi 6 from rfl, zi_le (by omega) (by omega)]; omega), zi_ri hlt6 (by omega), Option.bind_some, word _ k hlt6, Option.bind_some]
      by_cases e : k = j
      · rw [e, hw, if_neg (show ¬ zb true = 0 by decide), Option.bind_some, zu_tw, zi_succ]
        subst e
        exact hnx hlt6 _ ⟨rfl, by rw [if_pos (Nat.lt_succ_self _)]⟩
      · have hf : zwd T (zS T n y.2.1) (zen T n (zS T n y.2.1)) (zwj k) = false := by
          cases hq : zwd T (zS T n y.2.1) (zen T n (zS T n y.2.1)) (zwj k)
          · rfl
          · exact absurd (zwj_inj (by omega) hj (zwd_u (zwj_lt (by omega)).2 (zwj_lt hj).2 (zwj_lt (by omega)).1 (zwj_lt hj).1 hq hw)) e
        rw [hf, if_pos (show zb false = 0 from rfl), zi_succ]
        refine hnx hlt6 _ ⟨rfl, ?_⟩
        by_cases e2 : j < k
        · rw [if_pos e2, if_pos (by omega)]
        · rw [if_neg e2, if_neg (by omega)]
    · have e6 : k = 6 := Nat.le_antisymm hk6 hge
      subst e6
      have e332 : (yb_pI u 176 55 (zi j)).1 332 j = zi (y.2.2.2 j).1 := by rw [zu_ne (by decide)]; exact (z6 j hj6.1).1
      rw [if_pos (by decide), if_pos hj6.1, zu_eq, if_neg (by rw [zi_m1 (by omega)]; exact id), show (10 : Int32) = zi 10 from rfl, zi_ri (by omega) (by omega), Option.bind_some, show 322 + 1 * 10 = 332 from rfl, zi_rd hj6.1 (by omega), Option.bind_some, e332]
      by_cases cl : (y.2.2.2 j).1 = 0
      · rw [if_pos (by rw [cl]; rfl)]
        refine zr_j66 hk hj6.1 (zrz_x hxu (zrz_k (by omega))) zu_eq hG hy c3 hV cl ⟨zrz_t z1 (zrz_k (by omega)), ?_, fun _ => ⟨?_, ?_, fun c hc => ?_⟩⟩
        · rw [zu_id, if_neg (by decide)]; exact z2
        · rw [zu_id, if_neg (by decide)]; exact z4
        · rw [zu_id, if_neg (by decide)]; exact z5
        · rw [zu_nef (by decide), zu_nef (by omega)]
          exact z6 c hc
      · have hle := (hG.2 hy).2 j hj6.1 cl
        rw [if_neg (by rw [show (0 : Int32) = zi 0 from rfl, zi_inj (by omega) (by omega)]; exact cl)]
        exact zr_bad hy hu (by
          unfold ztC
          rw [et, if_neg (fun q => cl q.2)])
  · refine zs_up (fun k a => a.1 = zi k ∧ a.2 = yb_pI u 176 55 (-1)) 6 ?_ yb_N 0 _ (Nat.zero_le _) (by decide) (by exact ⟨rfl, rfl⟩)
    rintro k ⟨x, v⟩ rc hk6 ⟨i1, i2⟩ hnx
    dsimp only at i1 i2
    subst i1 i2
    show zs_P (f_X12_clauses_7 (fun x1 s => rc (x1, s)) (zi k) (yb_pI u 176 55 (-1))) _
    unfold f_X12_clauses_7 j_X12_clauses_31 j_X12_clauses_65
    rcases Nat.lt_or_ge k 6 with hlt6 | hge
    · have hf : zwd T (zS T n y.2.1) (zen T n (zS T n y.2.1)) (zwj k) = false := by
        cases hq : zwd T (zS T n y.2.1) (zen T n (zS T n y.2.1)) (zwj k)
        · rfl
        · have := (zki_w zS_n (by omega) hq).1
          rw [zkw_j, if_neg (by omega), if_pos hlt6] at this
          exact absurd this c3
      rw [if_neg (by rw [show (6 : Int32) = zi 6 from rfl, zi_le (by omega) (by omega)]; omega), zi_ri hlt6 (by omega), Option.bind_some, word _ k hlt6, Option.bind_some, hf, if_pos (show zb false = 0 from rfl), zi_succ]
      exact hnx hlt6 _ ⟨rfl, rfl⟩
    · rw [if_pos (by rw [show (6 : Int32) = zi 6 from rfl, zi_le (by omega) (by omega)]; omega), zu_eq, if_pos rfl]
      exact zr_bad hy hu (by
        unfold ztC
        rw [if_neg (fun q => c3 q.1)])
end
theorem zm_reads {s : yb_S} {T : Nat → Int32} {n : Nat} (hx : ztx T n s) : zs_P (f_X12_reads s) (fun u => ztr T n s u (ztF (zKk T n) (zVv T n))) := by
  have hn := hx.1
  obtain ⟨m, hm, hS1, hS2⟩ := zS_ex (T := T) (n := n)
  have hW := zpW_ok hn hm hS1 hS2
  unfold f_X12_reads l_X12_reads_7
  rw [Option.bind_some]
  refine zs_up (fun c a => a.1 = zi c ∧ zrz s a.2 ∧ a.2.1 176 47 = -1 ∧ ∀ k, k < c → a.2.1 332 k = 0) 6 ?_ yb_N 0 _ (Nat.zero_le _) (by decide) (by exact ⟨rfl, zrz_k (by omega), zu_eq, fun k hk => absurd hk (Nat.not_lt_zero _)⟩)
  rintro c ⟨x, u⟩ rc hc ⟨i1, i2, i3, i4⟩ hnx
  dsimp only at i1 i2 i3 i4
  subst i1
  show zs_P (f_X12_reads_7 (fun x1 s => rc (x1, s)) (zi c) u) _
  unfold f_X12_reads_7
  rcases Nat.lt_or_ge c 6 with hlt | hge
  · rw [if_neg (by rw [show (6 : Int32) = zi 6 from rfl, zi_le (by omega) (by omega)]; omega), show (10 : Int32) = zi 10 from rfl, zi_ri (by omega) (by omega), Option.bind_some, show 322 + 1 * 10 = 332 from rfl, zi_wr hlt (by omega), Option.bind_some, zi_succ]
    refine hnx hlt _ ⟨rfl, zrz_t i2 zrz_3, ?_, fun k hk => ?_⟩
    · dsimp only
      rw [zu_ne (by decide)]
      exact i3
    · dsimp only
      rw [zu_id]
      by_cases e : k = c
      · rw [if_pos e]
      · rw [if_neg e]
        exact i4 k (by omega)
  · have e6 : c = 6 := Nat.le_antisymm hc hge
    subst e6
    rw [if_pos (by decide), Option.bind_some]
    have hxu := zrz_x hx i2
    refine zs_bind (zm_skips (p := 0) (zrz_x hxu (zrz_k (k := 45) (x := 0) (by omega))) (Nat.zero_le _) zu_eq) fun v hv => ?_
    have fv : zrz u v := zrz_t (zrz_k (by omega)) (zrz_f hv.1)
    have hv0 : ztr T n s v ztI := by
      refine ⟨zrz_t i2 fv, ?_, fun _ => ⟨hv.2.1, hv.2.2, fun c hc => ⟨?_, fun k hk => absurd hk (Nat.not_lt_zero _)⟩⟩⟩
      · rw [hv.1.1 176 47 (by omega), zu_id, if_neg (by decide)]
        exact i3
      · rw [hv.1.1 332 c (by omega), zu_ne (by decide)]
        exact i4 c hc
    unfold l_X12_reads_40
    refine zs_up (fun k a => ∃ y : ztS, a.1 = zb y.1 ∧ ztr T n s a.2 y ∧ ztG m y ∧ ztL (zKk T n) (zVv T n) (7 - k) y = ztF (zKk T n) (zVv T n) ∧ (y.1 = true → k + ztn y ≤ 6)) 7 ?_ yb_N 0 _ (Nat.zero_le _) (by decide) (by exact ⟨ztI, rfl, hv0, ztI_g, rfl, fun _ => by decide⟩)
    rintro k ⟨x, v⟩ rc hk7 ⟨y, j1, j2, j3, j4, j5⟩ hnx
    dsimp only at j1 j2
    subst j1
    show zs_P (f_X12_reads_40 (fun x1 s => rc (x1, s)) (zb y.1) v) _
    unfold f_X12_reads_40
    have same : y.1 = false → y = ztF (zKk T n) (zVv T n) := fun hy => by
      rw [← j4]
      cases 7 - k with
      | zero => rfl
      | succ f =>
        rw [ztL_s, hy]
        rfl
    cases hy : y.1
    · rw [if_pos (show zb false = 0 from rfl), ← same hy]
      exact zs_ret j2
    · have j5 := j5 hy
      obtain ⟨z4, z5, z6⟩ := j2.2.2 hy
      have hxv := zrz_x hx j2.1
      have hS := zS_n (T := T) (n := n) (i := y.2.1)
      rw [show 7 - k = (6 - k) + 1 by omega, ztL_s, hy, Bool.true_and] at j4
      rw [if_neg (show ¬ zb true = 0 by decide), hxv.2.1, z4]
      by_cases c0 : zKk T n y.2.1 = 0
      · have c1 : n ≤ zS T n y.2.1 := by
          have c0 : zki T n (zS T n y.2.1) = 0 := c0
          rw [zki_0] at c0
          exact c0
        rw [c0] at j4
        have j4 : y = ztF (zKk T n) (zVv T n) := j4
        rw [if_pos (by rw [zi_le (by omega) (by omega)]; exact c1), ← j4]
        exact zs_ret j2
      · have c1 : ¬ n ≤ zS T n y.2.1 := fun q => c0 (by
          show zki T n (zS T n y.2.1) = 0
          rw [zki_0]
          exact q)
        rw [show (zKk T n y.2.1 != 0) = true from bne_iff_ne.mpr c0, cond_true] at j4
        rw [if_neg (by rw [zi_le (by omega) (by omega)]; exact c1)]
        refine zs_bind (zr_clause hx hW j3 hy c0 j2) fun a ha => ?_
        refine hnx (by omega) _ ⟨_, ha.1, ha.2, ztC_g hW j3 hy c0, ?_, fun hr => ?_⟩
        · rw [show 7 - (k + 1) = 6 - k by omega]
          exact j4
        · have := ztC_n hW j3 hy c0 hr
          omega
