/-! best: what is asked -/
def zyv (a : Int32) : Nat := a.toBitVec.toNat
theorem zyv_a {a : Int32} : zi (zyv a) = a := by
  apply Int32.toBitVec_inj.mp
  show BitVec.ofNat 32 a.toBitVec.toNat = a.toBitVec
  apply BitVec.eq_of_toNat_eq
  rw [BitVec.toNat_ofNat]
  exact Nat.mod_eq_of_lt a.toBitVec.isLt
theorem zyv_i {k : Nat} (h : k < 4294967296) : zyv (zi k) = k := by
  show (BitVec.ofNat 32 k).toNat = k
  rw [BitVec.toNat_ofNat]
  exact Nat.mod_eq_of_lt h
def zyt (a : Int32) (q : Nat) : Bool := (zyv a).testBit q
theorem zyt_a {a : Int32} {N : Nat} (hN : N ≤ 24) (h : zyv a < 2 ^ N) : a = zbits (zyt a) N := by
  rw [zbits_nat (by omega), ← zNb_eq (a := zyv a) (n := N) (p := zyt a) fun i => ?_, zyv_a]
  by_cases c : i < N
  · rw [decide_eq_true c, Bool.true_and]
    rfl
  · rw [decide_eq_false c, Bool.false_and]
    exact Nat.testBit_lt_two_pow (Nat.lt_of_lt_of_le h (Nat.pow_le_pow_right (by decide) (by omega)))
theorem zy_31 : ∀ N, N < 25 → ((zi N).toUInt32 &&& Int32.toUInt32 31).toNat = N := by decide
theorem zy_shr {a : Int32} {N : Nat} (hN : N ≤ 24) : ((a.toUInt32 >>> ((zi N).toUInt32 &&& Int32.toUInt32 31)).toInt32 = 0) = (zyv a < 2 ^ N) := by
  have e : (a.toUInt32 >>> ((zi N).toUInt32 &&& Int32.toUInt32 31)).toNat = zyv a / 2 ^ N := by
    rw [UInt32.toNat_shiftRight, zy_31 N (by omega), Nat.mod_eq_of_lt (by omega), Nat.shiftRight_eq_div_pow]
    rfl
  generalize a.toUInt32 >>> ((zi N).toUInt32 &&& Int32.toUInt32 31) = x at *
  have p : 0 < 2 ^ N := Nat.pow_pos (by decide)
  apply propext
  constructor
  · intro h
    have h2 : x = 0 := by
      have t := congrArg Int32.toUInt32 h
      simp only [UInt32.toUInt32_toInt32] at t
      exact t
    rw [h2] at e
    have e : 0 = zyv a / 2 ^ N := e
    exact (Nat.div_eq_zero_iff_lt p).mp e.symm
  · intro h
    rw [Nat.div_eq_of_lt h] at e
    have h2 : x = 0 := UInt32.toNat_inj.mp e
    rw [h2]
    rfl
theorem zyF_pre {b : Nat → Bool} {q : Nat} : ∀ {d : Nat}, (zyF b q).1 ≤ (zyF b (q + d)).1 ∧ ∀ j, j < (zyF b q).1 → (zyF b (q + d)).2 j = (zyF b q).2 j
  | 0 => ⟨Nat.le_refl _, fun _ _ => rfl⟩
  | d + 1 => by
    obtain ⟨h1, h2⟩ := zyF_pre (b := b) (q := q) (d := d)
    show (zyF b q).1 ≤ (zyF b ((q + d) + 1)).1 ∧ ∀ j, j < (zyF b q).1 → (zyF b ((q + d) + 1)).2 j = (zyF b q).2 j
    cases hb : b (q + d)
    · rw [zyF_f hb]
      exact ⟨h1, h2⟩
    · rw [zyF_t hb]
      refine ⟨by dsimp only; omega, fun j hj => ?_⟩
      dsimp only
      rw [if_neg (by omega)]
      exact h2 j hj
theorem zyF_cnt {b : Nat → Bool} {N : Nat} : zsum (fun k => cond (b k) (1 : Int32) 0) N = zi (zyF b N).1 := by
  have h := zyF_sum (b := b) (p := fun _ => true) (q := N)
  have e : zns (fun k => cond ((fun _ => true) ((zyF b N).2 k)) 1 0) (zyF b N).1 = (zyF b N).1 := by
    have : ∀ m, zns (fun k => cond ((fun _ => true) ((zyF b N).2 k)) 1 0) m = m := fun m => by
      induction m with
      | zero => rfl
      | succ m ih =>
        rw [zns_s, ih]
        rfl
    exact this _
  rw [e] at h
  rw [← h]
  exact zsum_congr fun k _ => by simp
theorem zyt_at {a : Int32} {N q : Nat} (hN : N ≤ 24) (h : zyv a < 2 ^ N) (hq : q < N) : ((a >>> (zi q &&& 31)) &&& (1 : Int32)) = if zyt a q = true then 1 else 0 := by
  have := zbits_at (p := zyt a) (n := N) (k := q) (by omega) (by omega)
  rw [← zyt_a hN h] at this
  rw [this]
  by_cases c : zyt a q = true
  · rw [if_pos ⟨hq, c⟩, if_pos c]
  · rw [if_neg (fun z => c z.2), if_neg c]
/-- asked as it must be: some, and at most six -/
def zyG (N : Nat) (a : Int32) : Prop := zyv a < 2 ^ N ∧ 0 < (zyF (zyt a) N).1 ∧ (zyF (zyt a) N).1 ≤ 6
theorem zyv_0 {N : Nat} {a : Int32} (h : zyv a < 2 ^ N) : (zyv a = 0) = ((zyF (zyt a) N).1 = 0) := by
  obtain ⟨f1, f2, f3, f4⟩ := zyF_ok (b := zyt a) (q := N)
  apply propext
  constructor
  · intro e
    rcases Nat.eq_zero_or_pos (zyF (zyt a) N).1 with q | q
    · exact q
    · have := (f2 0 q).2
      unfold zyt at this
      rw [e, Nat.zero_testBit] at this
      cases this
  · intro e
    apply Nat.eq_of_testBit_eq
    intro i
    rw [Nat.zero_testBit]
    cases hb : (zyv a).testBit i
    · rfl
    · exfalso
      have hi : i < N := by
        rcases Nat.lt_or_ge i N with c | c
        · exact c
        · rw [Nat.testBit_lt_two_pow (Nat.lt_of_lt_of_le h (Nat.pow_le_pow_right (by decide) c))] at hb
          cases hb
      obtain ⟨k, hk, -⟩ := f4 i hi hb
      omega
theorem zy_rng {a : Int32} {N : Nat} (hN : N ≤ 24) : (1 ≤ a ∧ a ≤ (((1 : Int32) <<< (zi N &&& 31)) - 1)) = (0 < zyv a ∧ zyv a < 2 ^ N) := by
  have h24 : 2 ^ N ≤ 16777216 := Nat.pow_le_pow_right (by decide) hN
  have p : 0 < 2 ^ N := Nat.pow_pos (by decide)
  rw [zi_one_shl N (by omega), show (1 : Int32) = zi 1 from rfl, zi_sub p]
  apply propext
  constructor
  · rintro ⟨h1, h2⟩
    rcases zi_cases a with q | ⟨k, hk, e⟩
    · exact absurd (Int32.le_trans (show zi 0 ≤ zi 1 by decide) h1) (Int32.not_le.mpr q)
    · subst e
      rw [zyv_i (by omega)]
      rw [zi_le (by omega) hk] at h1
      rw [zi_le hk (by omega)] at h2
      omega
  · rintro ⟨h1, h2⟩
    have e := zyv_a (a := a)
    generalize zyv a = v at *
    subst e
    rw [zi_le (by omega) (by omega), zi_le (by omega) (by omega)]
    omega
theorem zyA_fr {M m s u : yb_S} (hA : zA M m s) (h : ∀ id, ¬ (128 ≤ id ∧ id < 137) → u.1 id = s.1 id) (hL : u.2 = s.2) : zA M m u := by
  have e1 : zO u = zO s := by
    apply Prod.ext
    · funext id k
      show (if zeO id k then u.1 id k else 0) = (if zeO id k then s.1 id k else 0)
      by_cases hk : zeO id k = true
      · rw [if_pos hk, if_pos hk, h id fun c => by
          rw [zeO_f (by omega)] at hk
          cases hk]
      · rw [if_neg hk, if_neg hk]
    · funext id k
      show (if id < 176 then u.2 id k else 0) = (if id < 176 then s.2 id k else 0)
      rw [hL]
  have e2 : zHm u = zHm s := by
    apply Prod.ext
    · funext id
      exact h (id + 176) (by omega)
    · funext id
      show u.2 (id + 176) = s.2 (id + 176)
      rw [hL]
  exact ⟨by rw [e1]; exact hA.1, e2.trans hA.2⟩
theorem zo_unp130 {s : yb_S} {a : Int32} {N : Nat} (hN : N ≤ 24) : zs_P (f_X1_unpacked_130 a (zi N) s) (fun q => ∃ k, q.1 = zi k ∧ k ≤ 6 ∧ (∀ id, id ≠ 130 → q.2.1 id = s.1 id) ∧ q.2.2 = s.2 ∧ (zyG N a → k = (zyF (zyt a) N).1 ∧ ∀ j, j < k → q.2.1 130 j = zi ((zyF (zyt a) N).2 j)) ∧ (¬ zyG N a → k = 0)) := by
  unfold f_X1_unpacked_130
  have none0 : ¬ zyG N a → zs_P (some ((0 : Int32), s)) (fun q => ∃ k, q.1 = zi k ∧ k ≤ 6 ∧ (∀ id, id ≠ 130 → q.2.1 id = s.1 id) ∧ q.2.2 = s.2 ∧ (zyG N a → k = (zyF (zyt a) N).1 ∧ ∀ j, j < k → q.2.1 130 j = zi ((zyF (zyt a) N).2 j)) ∧ (¬ zyG N a → k = 0)) := fun h => zs_ret ⟨0, rfl, Nat.zero_le _, fun _ _ => rfl, rfl, fun g => absurd g h, fun _ => rfl⟩
  have hsh := zy_shr (a := a) hN
  by_cases hv : zyv a < 2 ^ N
  · have ea := zyt_a hN hv
    have hcnt : f_J6_bitCount_0f7a4 a s = some (zi (zyF (zyt a) N).1) := by
      have h := zo_bits (p := zyt a) (n := N) (s := s) hN
      rw [← ea, zyF_cnt] at h
      exact h
    have hle := (zyF_ok (b := zyt a) (q := N)).1
    rw [if_pos (by rw [hsh]; exact hv), hcnt, Option.bind_some]
    by_cases h6 : (zyF (zyt a) N).1 ≤ 6
    · rw [if_pos (by rw [show (6 : Int32) = zi 6 from rfl, zi_le (by omega) (by omega)]; exact h6)]
      unfold l_X1_unpacked_130_22
      refine zs_up (fun q c => c.1 = zi (zyF (zyt a) q).1 ∧ c.2.1 = zi q ∧ (∀ id, id ≠ 130 → c.2.2.1 id = s.1 id) ∧ c.2.2.2 = s.2 ∧ ∀ j, j < (zyF (zyt a) q).1 → c.2.2.1 130 j = zi ((zyF (zyt a) q).2 j)) N ?_ yb_N 0 _ (Nat.zero_le _) (by unfold yb_N; omega) (by exact ⟨rfl, rfl, fun _ _ => rfl, rfl, fun j hj => absurd hj (Nat.not_lt_zero _)⟩)
      rintro q ⟨x, y, u⟩ rc hq ⟨i1, i2, i3, i4, i5⟩ hnx
      dsimp only at i1 i2 i3 i4 i5
      subst i1 i2
      show zs_P (f_X1_unpacked_130_22 (fun x3 x4 s => rc (x3, x4, s)) a (zi N) (zi (zyF (zyt a) q).1) (zi q) u) _
      unfold f_X1_unpacked_130_22 j_X1_unpacked_130_52
      have hpre := zyF_pre (b := zyt a) (q := q) (d := N - q)
      rw [show q + (N - q) = N by omega] at hpre
      have fin : (zyF (zyt a) q).1 = (zyF (zyt a) N).1 → zs_P (some (zi (zyF (zyt a) q).1, u)) (fun q => ∃ k, q.1 = zi k ∧ k ≤ 6 ∧ (∀ id, id ≠ 130 → q.2.1 id = s.1 id) ∧ q.2.2 = s.2 ∧ (zyG N a → k = (zyF (zyt a) N).1 ∧ ∀ j, j < k → q.2.1 130 j = zi ((zyF (zyt a) N).2 j)) ∧ (¬ zyG N a → k = 0)) := fun e => zs_ret ⟨(zyF (zyt a) q).1, rfl, by omega, i3, i4, fun _ => ⟨e, fun j hj => by rw [hpre.2 j hj]; exact i5 j hj⟩, fun g => by
        have : ¬ 0 < (zyF (zyt a) N).1 := fun c => g ⟨hv, c, h6⟩
        omega⟩
      rcases Nat.lt_or_ge q N with hlt | hge
      · rw [if_neg (by rw [zi_le (by omega) (by omega)]; omega)]
        by_cases c6 : 6 ≤ (zyF (zyt a) q).1
        · rw [if_pos (by rw [show (6 : Int32) = zi 6 from rfl, zi_le (by omega) (by omega)]; exact c6)]
          exact fin (by omega)
        · rw [if_neg (by rw [show (6 : Int32) = zi 6 from rfl, zi_le (by omega) (by omega)]; exact c6), zyt_at hN hv hlt]
          cases hb : zyt a q
          · rw [if_neg (show ¬ ((if false = true then (1 : Int32) else 0) = 1) by decide), zi_succ]
            refine hnx hlt _ ⟨?_, rfl, i3, i4, ?_⟩
            · rw [zyF_f hb]
            · rw [zyF_f hb]
              exact i5
          · rw [if_pos (show (if true = true then (1 : Int32) else 0) = 1 from rfl), zi_wr (by omega) (by omega), Option.bind_some, zi_succ, zi_succ]
            refine hnx hlt _ ⟨?_, rfl, fun id h => ?_, i4, fun j hj => ?_⟩
            · rw [zyF_t hb]
            · dsimp only
              rw [zu_nef h]
              exact i3 id h
            · rw [zyF_t hb] at hj ⊢
              dsimp only at hj ⊢
              by_cases e : j = (zyF (zyt a) q).1
              · rw [e, zu_eq, if_pos rfl]
              · rw [zu_col e, if_neg e]
                exact i5 j (by omega)
      · have hkl := Nat.le_antisymm hq hge
        subst hkl
        rw [if_pos (Int32.le_refl _)]
        exact fin rfl
    · rw [if_neg (by rw [show (6 : Int32) = zi 6 from rfl, zi_le (by omega) (by omega)]; exact h6)]
      exact none0 fun g => h6 g.2.2
  · rw [if_neg (by rw [hsh]; exact hv)]
    exact none0 fun g => hv g.1
theorem zo_unp131 {s : yb_S} {a : Int32} {N : Nat} (hN : N ≤ 24) : zs_P (f_X1_unpacked_131 a (zi N) s) (fun q => ∃ k, q.1 = zi k ∧ k ≤ 6 ∧ (∀ id, id ≠ 131 → q.2.1 id = s.1 id) ∧ q.2.2 = s.2 ∧ (zyG N a → k = (zyF (zyt a) N).1 ∧ ∀ j, j < k → q.2.1 131 j = zi ((zyF (zyt a) N).2 j)) ∧ (¬ zyG N a → k = 0)) := by
  unfold f_X1_unpacked_131
  have none0 : ¬ zyG N a → zs_P (some ((0 : Int32), s)) (fun q => ∃ k, q.1 = zi k ∧ k ≤ 6 ∧ (∀ id, id ≠ 131 → q.2.1 id = s.1 id) ∧ q.2.2 = s.2 ∧ (zyG N a → k = (zyF (zyt a) N).1 ∧ ∀ j, j < k → q.2.1 131 j = zi ((zyF (zyt a) N).2 j)) ∧ (¬ zyG N a → k = 0)) := fun h => zs_ret ⟨0, rfl, Nat.zero_le _, fun _ _ => rfl, rfl, fun g => absurd g h, fun _ => rfl⟩
  have hsh := zy_shr (a := a) hN
  by_cases hv : zyv a < 2 ^ N
  · have ea := zyt_a hN hv
    have hcnt : f_J6_bitCount_0f7a4 a s = some (zi (zyF (zyt a) N).1) := by
      have h := zo_bits (p := zyt a) (n := N) (s := s) hN
      rw [← ea, zyF_cnt] at h
      exact h
    have hle := (zyF_ok (b := zyt a) (q := N)).1
    rw [if_pos (by rw [hsh]; exact hv), hcnt, Option.bind_some]
    by_cases h6 : (zyF (zyt a) N).1 ≤ 6
    · rw [if_pos (by rw [show (6 : Int32) = zi 6 from rfl, zi_le (by omega) (by omega)]; exact h6)]
      unfold l_X1_unpacked_131_22
      refine zs_up (fun q c => c.1 = zi (zyF (zyt a) q).1 ∧ c.2.1 = zi q ∧ (∀ id, id ≠ 131 → c.2.2.1 id = s.1 id) ∧ c.2.2.2 = s.2 ∧ ∀ j, j < (zyF (zyt a) q).1 → c.2.2.1 131 j = zi ((zyF (zyt a) q).2 j)) N ?_ yb_N 0 _ (Nat.zero_le _) (by unfold yb_N; omega) (by exact ⟨rfl, rfl, fun _ _ => rfl, rfl, fun j hj => absurd hj (Nat.not_lt_zero _)⟩)
      rintro q ⟨x, y, u⟩ rc hq ⟨i1, i2, i3, i4, i5⟩ hnx
      dsimp only at i1 i2 i3 i4 i5
      subst i1 i2
      show zs_P (f_X1_unpacked_131_22 (fun x3 x4 s => rc (x3, x4, s)) a (zi N) (zi (zyF (zyt a) q).1) (zi q) u) _
      unfold f_X1_unpacked_131_22 j_X1_unpacked_131_52
      have hpre := zyF_pre (b := zyt a) (q := q) (d := N - q)
      rw [show q + (N - q) = N by omega] at hpre
      have fin : (zyF (zyt a) q).1 = (zyF (zyt a) N).1 → zs_P (some (zi (zyF (zyt a) q).1, u)) (fun q => ∃ k, q.1 = zi k ∧ k ≤ 6 ∧ (∀ id, id ≠ 131 → q.2.1 id = s.1 id) ∧ q.2.2 = s.2 ∧ (zyG N a → k = (zyF (zyt a) N).1 ∧ ∀ j, j < k → q.2.1 131 j = zi ((zyF (zyt a) N).2 j)) ∧ (¬ zyG N a → k = 0)) := fun e => zs_ret ⟨(zyF (zyt a) q).1, rfl, by omega, i3, i4, fun _ => ⟨e, fun j hj => by rw [hpre.2 j hj]; exact i5 j hj⟩, fun g => by
        have : ¬ 0 < (zyF (zyt a) N).1 := fun c => g ⟨hv, c, h6⟩
        omega⟩
      rcases Nat.lt_or_ge q N with hlt | hge
      · rw [if_neg (by rw [zi_le (by omega) (by omega)]; omega)]
        by_cases c6 : 6 ≤ (zyF (zyt a) q).1
        · rw [if_pos (by rw [show (6 : Int32) = zi 6 from rfl, zi_le (by omega) (by omega)]; exact c6)]
          exact fin (by omega)
        · rw [if_neg (by rw [show (6 : Int32) = zi 6 from rfl, zi_le (by omega) (by omega)]; exact c6), zyt_at hN hv hlt]
          cases hb : zyt a q
          · rw [if_neg (show ¬ ((if false = true then (1 : Int32) else 0) = 1) by decide), zi_succ]
            refine hnx hlt _ ⟨?_, rfl, i3, i4, ?_⟩
            · rw [zyF_f hb]
            · rw [zyF_f hb]
              exact i5
          · rw [if_pos (show (if true = true then (1 : Int32) else 0) = 1 from rfl), zi_wr (by omega) (by omega), Option.bind_some, zi_succ, zi_succ]
            refine hnx hlt _ ⟨?_, rfl, fun id h => ?_, i4, fun j hj => ?_⟩
            · rw [zyF_t hb]
            · dsimp only
              rw [zu_nef h]
              exact i3 id h
            · rw [zyF_t hb] at hj ⊢
              dsimp only at hj ⊢
              by_cases e : j = (zyF (zyt a) q).1
              · rw [e, zu_eq, if_pos rfl]
              · rw [zu_col e, if_neg e]
                exact i5 j (by omega)
      · have hkl := Nat.le_antisymm hq hge
        subst hkl
        rw [if_pos (Int32.le_refl _)]
        exact fin rfl
    · rw [if_neg (by rw [show (6 : Int32) = zi 6 from rfl, zi_le (by omega) (by omega)]; exact h6)]
      exact none0 fun g => h6 g.2.2
  · rw [if_neg (by rw [hsh]; exact hv)]
    exact none0 fun g => hv g.1
/-- may be asked -/
def zyOk (M : yb_S) (a b : Int32) : Prop := zyG (nF M) a ∧ zyG (nH M) b ∧ ∀ k, k < (zyF (zyt a) (nF M)).1 → M.1 195 ((zyF (zyt a) (nF M)).2 k) ≠ 2
theorem zyOk_F {M : yb_S} {a b : Int32} (h : zyOk M a b) : zyFH M (zyF (zyt a) (nF M)).2 (zyF (zyt b) (nH M)).2 (zyF (zyt a) (nF M)).1 (zyF (zyt b) (nH M)).1 := by
  obtain ⟨f1, f2, f3, f4⟩ := zyF_ok (b := zyt a) (q := nF M)
  obtain ⟨g1, g2, g3, g4⟩ := zyF_ok (b := zyt b) (q := nH M)
  exact ⟨h.1.2.2, h.2.1.2.2, fun k hk => (f2 k hk).1, f3, fun j hj => (g2 j hj).1⟩
theorem zo_takes {M m s : yb_S} (hW : zW M) (hA : zA M m s) (a b : Int32) : zs_P (f_X1_takes a b s) (fun q => zA M m q.2 ∧ (zyOk M a b → q.1 = 1 ∧ q.2.1 128 1 = zi (zyF (zyt a) (nF M)).1 ∧ q.2.1 128 7 = zi (zyF (zyt b) (nH M)).1 ∧ q.2.1 128 6 = a ∧ (∀ k, k < (zyF (zyt a) (nF M)).1 → q.2.1 130 k = zi ((zyF (zyt a) (nF M)).2 k)) ∧ ∀ k, k < (zyF (zyt b) (nH M)).1 → q.2.1 131 k = zi ((zyF (zyt b) (nH M)).2 k)) ∧ (¬ zyOk M a b → q.1 = 0)) := by
  have h8 := zw_F8 hW
  have h24 := zw_H8 hW
  unfold f_X1_takes
  rw [cq_F hA, zw_F hW]
  refine zs_bind (zo_unp130 h8) fun q1 hq1 => ?_
  obtain ⟨k1, p1, p2, p3, p4, p5, p6⟩ := hq1
  rw [Option.bind_some, p1]
  have e13 : (yb_pI q1.2 128 1 (zi k1)).1 13 0 = zi (nH M) := by
    rw [zu_ne (by decide), p3 13 (by decide), cq_H hA, zw_H hW]
  rw [e13]
  refine zs_bind (zo_unp131 h24) fun q2 hq2 => ?_
  obtain ⟨k2, r1, r2, r3, r4, r5, r6⟩ := hq2
  rw [Option.bind_some, Option.bind_some, r1]
  have hA7 : zA M m (yb_pI (yb_pI q2.2 128 7 (zi k2)) 128 6 a) := zyA_fr hA (fun id h => by
    rw [zu_nef (by omega), zu_nef (by omega), r3 id (by omega), zu_nef (by omega), p3 id (by omega)]) (by
    show q2.2.2 = s.2
    rw [r4]
    exact p4)
  have c1 : (yb_pI (yb_pI q2.2 128 7 (zi k2)) 128 6 a).1 128 1 = zi k1 := by rw [zu_id, if_neg (by decide), zu_id, if_neg (by decide), r3 128 (by decide), zu_eq]
  have c7 : (yb_pI (yb_pI q2.2 128 7 (zi k2)) 128 6 a).1 128 7 = zi k2 := by rw [zu_id, if_neg (by decide), zu_eq]
  have c6 : (yb_pI (yb_pI q2.2 128 7 (zi k2)) 128 6 a).1 128 6 = a := zu_eq
  have c130 : ∀ j, (yb_pI (yb_pI q2.2 128 7 (zi k2)) 128 6 a).1 130 j = q1.2.1 130 j := fun j => by rw [zu_ne (by decide), zu_ne (by decide), r3 130 (by decide), zu_ne (by decide)]
  have c131 : ∀ j, (yb_pI (yb_pI q2.2 128 7 (zi k2)) 128 6 a).1 131 j = q2.2.1 131 j := fun j => by rw [zu_ne (by decide), zu_ne (by decide)]
  generalize yb_pI (yb_pI q2.2 128 7 (zi k2)) 128 6 a = v at *
  have no : ¬ zyOk M a b → zs_P (some ((0 : Int32), v)) (fun q => zA M m q.2 ∧ (zyOk M a b → q.1 = 1 ∧ q.2.1 128 1 = zi (zyF (zyt a) (nF M)).1 ∧ q.2.1 128 7 = zi (zyF (zyt b) (nH M)).1 ∧ q.2.1 128 6 = a ∧ (∀ k, k < (zyF (zyt a) (nF M)).1 → q.2.1 130 k = zi ((zyF (zyt a) (nF M)).2 k)) ∧ ∀ k, k < (zyF (zyt b) (nH M)).1 → q.2.1 131 k = zi ((zyF (zyt b) (nH M)).2 k)) ∧ (¬ zyOk M a b → q.1 = 0)) := fun h => zs_ret ⟨hA7, fun g => absurd g h, fun _ => rfl⟩
  unfold l_X1_takes_51
  refine zs_up (fun k x => x = zi k ∧ (zyG (nF M) a → ∀ j, j < k → M.1 195 ((zyF (zyt a) (nF M)).2 j) ≠ 2)) k1 ?_ yb_N 0 _ (Nat.zero_le _) (by unfold yb_N; omega) (by exact ⟨rfl, fun _ j hj => absurd hj (Nat.not_lt_zero _)⟩)
  rintro k x rc hk ⟨i1, i2⟩ hnx
  subst i1
  show zs_P (f_X1_takes_51 (fun x3 => rc x3) v (zi k)) _
  unfold f_X1_takes_51
  rw [c1]
  rcases Nat.lt_or_ge k k1 with hlt | hge
  · have hG : zyG (nF M) a := Classical.byContradiction fun g => by
      have := p6 g
      omega
    obtain ⟨q5, q6⟩ := p5 hG
    have hfk := ((zyF_ok (b := zyt a) (q := nF M)).2.1 k (by omega)).1
    rw [if_neg (by rw [zi_le (by omega) (by omega)]; omega), zi_rd (by omega) (by omega), Option.bind_some, c130, q6 k hlt, zo_isHere hW hA7 hfk, Option.bind_some]
    by_cases c2 : M.1 195 ((zyF (zyt a) (nF M)).2 k) = 2
    · rw [c2, show (!((2 : Int32) == 2)) = false from rfl, if_pos (show zb false = 0 from rfl)]
      exact no fun g => g.2.2 k (by omega) c2
    · rw [beq_eq_false_iff_ne.mpr c2, if_neg (show ¬ zb (!false) = 0 by decide), zi_succ]
      refine hnx hlt _ ⟨rfl, fun _ j hj => ?_⟩
      by_cases e : j = k
      · rw [e]
        exact c2
      · exact i2 hG j (by omega)
  · have hkl := Nat.le_antisymm hk hge
    subst hkl
    rw [if_pos (Int32.le_refl _)]
    by_cases hG : zyG (nF M) a
    · obtain ⟨q5, q6⟩ := p5 hG
      have hp := hG.2.1
      rw [if_neg (by rw [show (0 : Int32) = zi 0 from rfl, zi_le (by omega) (by omega)]; omega), c7]
      by_cases hH : zyG (nH M) b
      · obtain ⟨q7, q8⟩ := r5 hH
        have hp2 := hH.2.1
        have ok : zyOk M a b := ⟨hG, hH, fun j hj => i2 hG j (by omega)⟩
        rw [if_neg (by rw [show (0 : Int32) = zi 0 from rfl, zi_le (by omega) (by omega)]; omega)]
        refine zs_ret ⟨hA7, fun _ => ⟨rfl, ?_, ?_, c6, fun j hj => ?_, fun j hj => ?_⟩, fun g => absurd ok g⟩
        · rw [c1, q5]
        · rw [c7, q7]
        · rw [c130]
          exact q6 j (by omega)
        · rw [c131]
          exact q8 j (by omega)
      · have := r6 hH
        rw [if_pos (by rw [show (0 : Int32) = zi 0 from rfl, zi_le (by omega) (by omega)]; omega)]
        exact no fun g => hH g.2.1
    · have := p6 hG
      rw [if_pos (by rw [show (0 : Int32) = zi 0 from rfl, zi_le (by omega) (by omega)]; omega)]
      exact no fun g => hG g.1
theorem zm_canAsk {M o s : yb_S} (hW : zW M) (hQ : zQ M o s) (a b : Int32) : zs_P (f_X12_canAsk a b s) (fun q => zQ M o q.2 ∧ (zyOk M a b → q.1 = 1 ∧ zyqw (zyF (zyt a) (nF M)).2 (zyF (zyt b) (nH M)).2 (zyF (zyt a) (nF M)).1 (zyF (zyt b) (nH M)).1 q.2) ∧ (¬ zyOk M a b → q.1 = 0)) := by
  have h8 := zw_F8 hW
  have h24 := zw_H8 hW
  unfold f_X12_canAsk
  rw [Option.bind_some, Option.bind_some]
  have hQ2 := zQ_k (zQ_k hQ (k := 74) (x := 0) (by omega)) (k := 75) (x := 0) (by omega)
  have e74 : (yb_pI (yb_pI s 176 74 0) 176 75 0).1 176 74 = zi 0 := by rw [zu_id, if_neg (by decide), zu_eq]; rfl
  have e75 : (yb_pI (yb_pI s 176 74 0) 176 75 0).1 176 75 = zi 0 := zu_eq
  generalize yb_pI (yb_pI s 176 74 0) 176 75 0 = v at *
  have no : ∀ v, zQ M o v → ¬ zyOk M a b → zs_P (some ((0 : Int32), v)) (fun q => zQ M o q.2 ∧ (zyOk M a b → q.1 = 1 ∧ zyqw (zyF (zyt a) (nF M)).2 (zyF (zyt b) (nH M)).2 (zyF (zyt a) (nF M)).1 (zyF (zyt b) (nH M)).1 q.2) ∧ (¬ zyOk M a b → q.1 = 0)) := fun v hv h => zs_ret ⟨hv, fun g => absurd g h, fun _ => rfl⟩
  rw [zqk hQ2 (by omega), zqk hQ2 (by omega), zw_F hW, zw_H hW, z_in (l := 1) (lo := 1) (hi := ((1 : Int32) <<< (zi (nF M) &&& 31)) - 1) (by decide) rfl]
  have g1 := zy_rng (a := a) h8
  have g2 := zy_rng (a := b) h24
  by_cases ha : 0 < zyv a ∧ zyv a < 2 ^ nF M
  · rw [if_pos (by rw [g1]; exact ha), if_neg (by decide), z_in (l := 1) (lo := 1) (hi := ((1 : Int32) <<< (zi (nH M) &&& 31)) - 1) (by decide) rfl]
    by_cases hb : 0 < zyv b ∧ zyv b < 2 ^ nH M
    · rw [if_pos (by rw [g2]; exact hb), if_neg (by decide)]
      have na : 0 < (zyF (zyt a) (nF M)).1 := by
        have := zyv_0 ha.2
        have h0 : ¬ zyv a = 0 := by omega
        rw [this] at h0
        omega
      have nb : 0 < (zyF (zyt b) (nH M)).1 := by
        have := zyv_0 hb.2
        have h0 : ¬ zyv b = 0 := by omega
        rw [this] at h0
        omega
      unfold l_X12_canAsk_50
      refine zs_up (fun q c => c.1 = zi q ∧ zQ M o c.2 ∧ c.2.1 176 74 = zi (zyF (zyt a) q).1 ∧ c.2.1 176 75 = zi 0 ∧ (zyF (zyt a) q).1 ≤ 6 ∧ ∀ j, j < (zyF (zyt a) q).1 → c.2.1 592 j = zi ((zyF (zyt a) q).2 j) ∧ M.1 195 ((zyF (zyt a) q).2 j) ≠ 2) (nF M) ?_ yb_N 0 _ (Nat.zero_le _) (by unfold yb_N; omega) (by exact ⟨rfl, hQ2, e74, e75, Nat.zero_le 6, fun j hj => absurd hj (Nat.not_lt_zero _)⟩)
      rintro q ⟨x, u⟩ rc hq ⟨i1, i2, i3, i4, i5, i6⟩ hnx
      dsimp only at i1 i2 i3 i4 i5 i6
      subst i1
      show zs_P (f_X12_canAsk_50 (fun x3 s => rc (x3, s)) a b (zi q) u) _
      unfold f_X12_canAsk_50 j_X12_canAsk_110
      rw [zqk i2 (by omega), zw_F hW]
      rcases Nat.lt_or_ge q (nF M) with hlt | hge
      · rw [if_neg (by rw [zi_le (by omega) (by omega)]; omega), zyt_at h8 ha.2 hlt]
        have hpre := zyF_pre (b := zyt a) (q := q + 1) (d := nF M - (q + 1))
        rw [show q + 1 + (nF M - (q + 1)) = nF M by omega] at hpre
        cases hbt : zyt a q
        · rw [if_pos (show (if false = true then (1 : Int32) else 0) = 0 from rfl), zi_succ]
          exact hnx hlt _ ⟨rfl, i2, by rw [zyF_f hbt]; exact i3, i4, by rw [zyF_f hbt]; exact i5, by rw [zyF_f hbt]; exact i6⟩
        · rw [zyF_t hbt] at hpre
          dsimp only at hpre
          rw [if_neg (show ¬ ((if true = true then (1 : Int32) else 0) = 0) by decide), i3]
          by_cases c6 : (zyF (zyt a) q).1 = 6
          · rw [if_pos (by rw [c6]; rfl)]
            exact no u i2 fun g => by
              have := g.1.2.2
              omega
          · rw [if_neg (by rw [show (6 : Int32) = zi 6 from rfl, zi_inj (by omega) (by omega)]; exact c6), zi_rd (by omega) (by omega), Option.bind_some, zq i2 (by omega)]
            by_cases c2 : M.1 195 q = 2
            · rw [if_pos c2]
              refine no u i2 fun g => ?_
              have e := hpre.2 (zyF (zyt a) q).1 (by omega)
              rw [if_pos rfl] at e
              exact g.2.2 (zyF (zyt a) q).1 (by omega) (by rw [e]; exact c2)
            · rw [if_neg c2, zi_wr (by omega) (by omega), Option.bind_some, Option.bind_some, zi_succ]
              have w1 := zQ_w i2 (id := 592) (k := (zyF (zyt a) q).1) (x := zi q) (by omega)
              have e2 : (yb_pI u 592 (zyF (zyt a) q).1 (zi q)).1 176 74 = zi (zyF (zyt a) q).1 := by rw [zu_ne (by decide)]; exact i3
              rw [e2, zi_succ]
              refine hnx hlt _ ⟨rfl, zQ_k w1 (by omega), ?_, ?_, ?_, fun j hj => ?_⟩
              · rw [zyF_t hbt]
                exact zu_eq
              · dsimp only
                rw [zu_id, if_neg (by decide), zu_ne (by decide)]
                exact i4
              · rw [zyF_t hbt]
                dsimp only
                omega
              · rw [zyF_t hbt] at hj ⊢
                dsimp only at hj ⊢
                rw [zu_ne (by decide)]
                by_cases e : j = (zyF (zyt a) q).1
                · rw [e, zu_eq, if_pos rfl]
                  exact ⟨rfl, c2⟩
                · rw [zu_col e, if_neg e]
                  exact i6 j (by omega)
      · have hkl := Nat.le_antisymm hq hge
        subst hkl
        rw [if_pos (Int32.le_refl _)]
        unfold l_X12_canAsk_118
        refine zs_up (fun q c => c.1 = zi q ∧ zQ M o c.2 ∧ c.2.1 176 75 = zi (zyF (zyt b) q).1 ∧ c.2.1 176 74 = zi (zyF (zyt a) (nF M)).1 ∧ (∀ j, c.2.1 592 j = u.1 592 j) ∧ (zyF (zyt b) q).1 ≤ 6 ∧ ∀ j, j < (zyF (zyt b) q).1 → c.2.1 593 j = zi ((zyF (zyt b) q).2 j)) (nH M) ?_ yb_N 0 _ (Nat.zero_le _) (by unfold yb_N; omega) (by exact ⟨rfl, i2, i4, i3, fun _ => rfl, Nat.zero_le 6, fun j hj => absurd hj (Nat.not_lt_zero _)⟩)
        rintro q ⟨x, z⟩ rd hq2 ⟨j1, j2, j3, j4, j5, j6, j7⟩ hm
        dsimp only at j1 j2 j3 j4 j5 j6 j7
        subst j1
        show zs_P (f_X12_canAsk_118 (fun x3 s => rd (x3, s)) b (zi q) z) _
        unfold f_X12_canAsk_118 j_X12_canAsk_168
        rw [zqk j2 (by omega), zw_H hW]
        rcases Nat.lt_or_ge q (nH M) with hlt2 | hge2
        · rw [if_neg (by rw [zi_le (by omega) (by omega)]; omega), zyt_at h24 hb.2 hlt2]
          have hpre := zyF_pre (b := zyt b) (q := q + 1) (d := nH M - (q + 1))
          rw [show q + 1 + (nH M - (q + 1)) = nH M by omega] at hpre
          cases hbt : zyt b q
          · rw [if_pos (show (if false = true then (1 : Int32) else 0) = 0 from rfl), zi_succ]
            exact hm hlt2 _ ⟨rfl, j2, by rw [zyF_f hbt]; exact j3, j4, j5, by rw [zyF_f hbt]; exact j6, by rw [zyF_f hbt]; exact j7⟩
          · rw [zyF_t hbt] at hpre
            dsimp only at hpre
            rw [if_neg (show ¬ ((if true = true then (1 : Int32) else 0) = 0) by decide), j3]
            by_cases c6 : (zyF (zyt b) q).1 = 6
            · rw [if_pos (by rw [c6]; rfl)]
              exact no z j2 fun g => by
                have := g.2.1.2.2
                omega
            · rw [if_neg (by rw [show (6 : Int32) = zi 6 from rfl, zi_inj (by omega) (by omega)]; exact c6), zi_wr (by omega) (by omega), Option.bind_some, Option.bind_some, zi_succ]
              have w1 := zQ_w j2 (id := 593) (k := (zyF (zyt b) q).1) (x := zi q) (by omega)
              have e2 : (yb_pI z 593 (zyF (zyt b) q).1 (zi q)).1 176 75 = zi (zyF (zyt b) q).1 := by rw [zu_ne (by decide)]; exact j3
              rw [e2, zi_succ]
              refine hm hlt2 _ ⟨rfl, zQ_k w1 (by omega), ?_, ?_, fun j => ?_, ?_, fun j hj => ?_⟩
              · rw [zyF_t hbt]
                exact zu_eq
              · dsimp only
                rw [zu_id, if_neg (by decide), zu_ne (by decide)]
                exact j4
              · dsimp only
                rw [zu_ne (by decide), zu_ne (by decide)]
                exact j5 j
              · rw [zyF_t hbt]
                dsimp only
                omega
              · rw [zyF_t hbt] at hj ⊢
                dsimp only at hj ⊢
                rw [zu_ne (by decide)]
                by_cases e : j = (zyF (zyt b) q).1
                · rw [e, zu_eq, if_pos rfl]
                · rw [zu_col e, if_neg e]
                  exact j7 j (by omega)
        · have hkl2 := Nat.le_antisymm hq2 hge2
          subst hkl2
          rw [if_pos (Int32.le_refl _)]
          have ok : zyOk M a b := ⟨⟨ha.2, na, i5⟩, ⟨hb.2, nb, j6⟩, fun k hk => (i6 k hk).2⟩
          exact zs_ret ⟨j2, fun _ => ⟨rfl, j4, j3, fun k hk => by rw [j5]; exact (i6 k hk).1, j7⟩, fun g => absurd ok g⟩
    · rw [if_neg (by rw [g2]; exact hb), if_pos rfl]
      refine no v hQ2 fun g => hb ⟨?_, g.2.1.1⟩
      have := zyv_0 g.2.1.1
      have hp := g.2.1.2.1
      rcases Nat.eq_zero_or_pos (zyv b) with q | q
      · rw [this] at q
        omega
      · exact q
  · rw [if_neg (by rw [g1]; exact ha), if_pos rfl]
    refine no v hQ2 fun g => ha ⟨?_, g.1.1⟩
    have := zyv_0 g.1.1
    have hp := g.1.2.1
    rcases Nat.eq_zero_or_pos (zyv a) with q | q
    · rw [this] at q
      omega
    · exact q
