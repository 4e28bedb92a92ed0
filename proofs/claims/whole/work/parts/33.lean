/-! the numbers of a day that ended -/
def zNm (M : yb_S) (d k : Nat) : Int32 := (M.2 (392 + 1 * d) k).toInt32
theorem zw_b {M : yb_S} (hW : zW M) {d : Nat} (hd : d < nD M) : (∀ k, k < 4 → M.2 (392 + 1 * d) k = (zDayH M d (zi k)).toInt64) ∧ (∃ n : Nat, n ≤ 24000000 ∧ M.2 (392 + 1 * d) 4 = (zi n).toInt64) ∧ ∀ f, f < nF M → M.1 198 f ≤ zi d → (∃ h, h < 24 ∧ M.1 (367 + f % 24) d = zi h) ∨ M.1 (367 + f % 24) d = 100 ∨ M.1 (367 + f % 24) d = 101 := by
  have h9 := zw_D8 hW
  have := hW.2.2.2.2.2.2.2.2.2.2.2.1 d hd
  rw [show 392 + d % 200 = 392 + 1 * d by omega] at this
  exact this
theorem zNm_h {M : yb_S} (hW : zW M) {d k : Nat} (hd : d < nD M) (hk : k < 4) : zNm M d k = zDayH M d (zi k) ∧ M.2 (392 + 1 * d) k = (zNm M d k).toInt64 := by
  have e := (zw_b hW hd).1 k hk
  unfold zNm
  rw [e, Int32.toInt32_toInt64]
  exact ⟨rfl, rfl⟩
theorem zNm_4 {M : yb_S} (hW : zW M) {d : Nat} (hd : d < nD M) : M.2 (392 + 1 * d) 4 = (zNm M d 4).toInt64 := by
  obtain ⟨n, -, e⟩ := (zw_b hW hd).2.1
  unfold zNm
  rw [e, Int32.toInt32_toInt64]
theorem cq_164 {M m s : yb_S} (hW : zW M) (h : zA M m s) {d : Nat} (hd : d < nD M) : zsum (fun t => s.1 (164 + 1 * t) d) 8 = zNm M d 4 := by
  have h9 := zw_D8 hW
  have e := h.1.2.2.2.2.2.2.2.2.2.2.2.1.2.1 d hd
  have e2 : zsum (fun t => (zO s).1 (164 + t % 8) d) 8 = zsum (fun t => s.1 (164 + 1 * t) d) 8 := zsum_congr fun t ht => by
    rw [zO_rd (zeO_t (by omega)), show 164 + t % 8 = 164 + 1 * t by omega]
  rw [e2, show 392 + d % 200 = 392 + 1 * d by omega] at e
  unfold zNm
  rw [← e, Int32.toInt32_toInt64]
theorem zo_sumOf {M m s : yb_S} (hW : zW M) (hA : zA M m s) {d : Nat} (hd : d < nD M) : f_X0_sumOfTowns (zi d) s = some (zNm M d 4) := by
  have h9 := zw_D8 hW
  rw [← cq_164 hW hA hd]
  unfold f_X0_sumOfTowns l_X0_sumOfTowns_4
  refine zs_upE (fun k => (zsum (fun t => s.1 (164 + 1 * t) d) k, zi k)) 8 _ ?_ ?_ yb_N 0 (Nat.zero_le _) (by decide)
  · intro k rc hk
    show f_X0_sumOfTowns_4 _ _ _ (zsum _ k) (zi k) = _
    unfold f_X0_sumOfTowns_4
    rw [show (8 : Int32) = zi 8 from rfl, if_neg (by rw [zi_le (by omega) (by omega)]; omega), zi_ri (by omega) (by omega), Option.bind_some, zi_rd (by omega) (by omega), Option.bind_some, zi_succ, zsum_succ]
  · intro rc
    show f_X0_sumOfTowns_4 _ _ _ (zsum _ 8) (zi 8) = _
    unfold f_X0_sumOfTowns_4
    rw [if_pos (by decide)]
theorem zo_number {M m s : yb_S} (hW : zW M) (hA : zA M m s) {d k : Nat} (hd : d < nD M) (hk : k < 5) : f_X0_numberOf_21 (zi d) (zi k) s = some (zNm M d k) := by
  have h8 := zw_F8 hW
  have h9 := zw_D8 hW
  unfold f_X0_numberOf_21
  rw [zo_sumOf hW hA hd]
  by_cases e4 : k = 4
  · subst e4
    rfl
  · rw [if_neg (by rw [show (4 : Int32) = zi 4 from rfl, zi_inj (by omega) (by omega)]; exact e4), (zNm_h hW hd (by omega)).1]
    unfold l_X0_numberOf_21_17 zDayH
    refine zs_upE (fun j => (zsum (fun f => cond (zle (M.1 198 f) (zi d) && (zi k == 3 || zOn (M.1 (367 + f % 24) d) == zi k)) (M.1 189 f) 0) j, zi j)) (nF M) _ ?_ ?_ yb_N 0 (Nat.zero_le _) (by unfold yb_N; omega)
    · intro j rc hj
      show f_X0_numberOf_21_17 _ _ _ _ (zsum _ j) (zi j) = _
      unfold f_X0_numberOf_21_17 j_X0_numberOf_21_53 j_X0_numberOf_21_65 f_X0_stateOn
      rw [cq_F hA, zw_F hW, if_neg (by rw [zi_le (by omega) (by omega)]; omega), zi_rd (by omega) (by omega), Option.bind_some, cq_32 hA hj, zi_succ, zi_rd (by omega) (by omega), Option.bind_some, cq_22 hA hj, zsum_succ]
      by_cases e : zi d < M.1 198 j
      · rw [if_pos e, show zle (M.1 198 j) (zi d) = false from zle_f.mpr e]
        simp
      · rw [if_neg e, show zle (M.1 198 j) (zi d) = true from zle_t.mpr (Int32.not_lt.mp e)]
        by_cases e3 : zi k = 3
        · rw [if_pos e3, e3]
          simp
        · rw [if_neg e3, show (zi k == 3) = false from beq_eq_false_iff_ne.mpr e3, zi_ri (by omega) (by omega), Option.bind_some, zi_rd (by omega) (by omega), Option.bind_some, cq_139 hA hd hj h8 (Int32.not_lt.mp e), show 367 + j % 24 = 367 + 1 * j by omega]
          have eo : (if M.1 (367 + 1 * j) d = 100 then some (0 : Int32) else if M.1 (367 + 1 * j) d = 101 then some 2 else some 1) = some (zOn (M.1 (367 + 1 * j) d)) := by
            unfold zOn
            repeat' split
            all_goals rfl
          rw [eo, Option.bind_some]
          by_cases e5 : zOn (M.1 (367 + 1 * j) d) = zi k
          · rw [if_pos e5, e5]
            simp
          · rw [if_neg e5, show (zOn (M.1 (367 + 1 * j) d) == zi k) = false from beq_eq_false_iff_ne.mpr e5]
            simp
    · intro rc
      show f_X0_numberOf_21_17 _ _ _ _ (zsum _ (nF M)) (zi (nF M)) = _
      unfold f_X0_numberOf_21_17
      rw [cq_F hA, zw_F hW, if_pos (Int32.le_refl _)]
theorem z_num5 {x : Int32} (h : ¬ zin x 5) : ¬ (0 ≤ x ∧ x ≤ 4) := by
  rintro ⟨q1, q2⟩
  rcases zi_cases x with q3 | ⟨k, hk, rfl⟩
  · exact absurd q1 (Int32.not_le.mpr q3)
  · rw [show (4 : Int32) = zi 4 from rfl, zi_le hk (by decide)] at q2
    exact h ⟨k, by omega, rfl⟩
theorem zo_num0 {A : Option Int32} {x : Int32} (h : ¬ zin x 5) : (if x < 0 then some (-1 : Int32) else if x ≤ 4 then A else some (-1)) = some (-1) := by
  by_cases h1 : x < 0
  · rw [if_pos h1]
  · rw [if_neg h1, if_neg (fun q => z_num5 h ⟨Int32.not_lt.mp h1, q⟩)]
theorem zo_num1 {A : Option Int32} {k : Nat} (h : k < 5) : (if zi k < 0 then some (-1 : Int32) else if zi k ≤ 4 then A else some (-1)) = A := by
  rw [if_neg (by rw [zi_neg (by omega)]; exact id), if_pos (by rw [show (4 : Int32) = zi 4 from rfl, zi_le (by omega) (by omega)]; omega)]
theorem ze_43 : ∀ (a1 a2 : Int32) (s : yb_S), zInv s → ∃ (r : Int32) (s1 s2 : yb_S), (f_X11_ended a1 a2 s = some r ∧ s1 = s) ∧ (f_X12_ended a1 a2 s1 = some r ∧ s2 = s1) ∧ zInv s2 := by
  intro a1 a2 s h
  have hW := h.1
  have h9 := zw_D8 hW
  by_cases hc : zin a1 (nD (zP s)) ∧ zin a2 5
  · obtain ⟨⟨d, hd, rfl⟩, ⟨k, hk, rfl⟩⟩ := hc
    refine z_ask0 (A := f_X11_ended (zi d) (zi k)) (B := f_X12_ended (zi d) (zi k)) h (zNm (zP s) d k) (fun m t hA => ?_) (fun o t hQ => ?_)
    · unfold f_X11_ended
      rw [zo_ended1 hW hA hd, Option.bind_some, if_neg (by decide), zo_num1 hk, zo_number hW hA hd hk]
      rfl
    · unfold f_X12_ended
      rw [zm_ended1 hW hQ hd, Option.bind_some, if_neg (by decide), z_inZ (l := 0) (h := 4) (a := 0) (b := 4) (by decide) (by decide) (by omega) (by decide) (by decide), if_pos (by omega), if_neg (by decide), zi_ri (by omega) (by omega), Option.bind_some, zi_rl (by omega) (by omega), Option.bind_some, zql hQ (by omega)]
      rfl
  · refine z_ask0 (A := f_X11_ended a1 a2) (B := f_X12_ended a1 a2) h (-1) (fun m t hA => ?_) (fun o t hQ => ?_)
    · unfold f_X11_ended
      by_cases hf : zin a1 (nD (zP s))
      · obtain ⟨f, hf, rfl⟩ := hf
        rw [zo_ended1 hW hA hf, Option.bind_some, if_neg (by decide), zo_num0 (fun q => hc ⟨⟨f, hf, rfl⟩, q⟩)]
      · rw [zo_ended0 hW hA hf]
        rfl
    · unfold f_X12_ended
      by_cases hf : zin a1 (nD (zP s))
      · obtain ⟨f, hf, rfl⟩ := hf
        rw [zm_ended1 hW hQ hf, Option.bind_some, if_neg (by decide), z_in (l := 0) (h := 4) (lo := 0) (hi := 4) (by decide) (by decide), if_neg (z_num5 (fun q => hc ⟨⟨f, hf, rfl⟩, q⟩))]
        rfl
      · rw [zm_ended0 hW hQ hf]
        rfl
/-! a day checked -/
def zAlt (M : yb_S) (d n : Nat) (mask : Int32) (k : Nat) : Int32 := if k = n then zNm M d k ^^^ mask else zNm M d k
def zChk (M : yb_S) (d n : Nat) (mask : Int32) : Int32 := if (zAlt M d n mask 0 + zAlt M d n mask 1) + zAlt M d n mask 2 = zAlt M d n mask 3 then (if zAlt M d n mask 4 = zNm M d 4 then 0 else 2) else 1
theorem zo_alt {M m s : yb_S} (hW : zW M) (hA : zA M m s) {d n k : Nat} {mask : Int32} (hd : d < nD M) (hk : k < 5) (hn : n < 5) : f_X0_altered_21 (zi d) (zi k) (zi n) mask s = some (zAlt M d n mask k) := by
  unfold f_X0_altered_21 zAlt
  rw [zo_number hW hA hd hk, Option.bind_some]
  simp (disch := omega) only [zi_inj]
  split <;> rfl
theorem zDayH_le {M : yb_S} (hW : zW M) {d : Nat} {k : Int32} : ∃ a, a ≤ 240 ∧ zDayH M d k = zi a := by
  have h8 := zw_F8 hW
  unfold zDayH
  have : ∀ n, n ≤ nF M → ∃ a, a ≤ 10 * n ∧ zsum (fun f => cond (zle (M.1 198 f) (zi d) && (k == 3 || zOn (M.1 (367 + f % 24) d) == k)) (M.1 189 f) 0) n = zi a := by
    intro n
    induction n with
    | zero => intro _; exact ⟨0, by omega, rfl⟩
    | succ n ih =>
      intro hn
      obtain ⟨a, ha, e⟩ := ih (by omega)
      obtain ⟨q, hq, eq⟩ := (zw_f hW (f := n) (by omega)).1
      rw [zsum_succ, e, eq]
      cases (zle (M.1 198 n) (zi d) && (k == 3 || zOn (M.1 (367 + n % 24) d) == k))
      · exact ⟨a, by omega, Int32.add_zero _⟩
      · exact ⟨a + q, by omega, zi_add a q⟩
  obtain ⟨a, ha, e⟩ := this (nF M) (Nat.le_refl _)
  exact ⟨a, by omega, e⟩
theorem z64_sum {a b c : Int32} : ((a.toInt64 + b.toInt64) + c.toInt64).toInt = a.toInt + b.toInt + c.toInt := by
  have ha := a.toInt_lt
  have hb := b.toInt_lt
  have hc := c.toInt_lt
  have ha2 := a.le_toInt
  have hb2 := b.le_toInt
  have hc2 := c.le_toInt
  rw [Int64.toInt_add, Int64.toInt_add, Int32.toInt_toInt64, Int32.toInt_toInt64, Int32.toInt_toInt64]
  rw [Int.bmod_eq_of_le_mul_two (x := a.toInt + b.toInt) (by omega) (by omega)]
  rw [Int.bmod_eq_of_le_mul_two (by omega) (by omega)]
theorem z_sum4 {a b c d : Int32} (h : (∃ x y z : Nat, x ≤ 240 ∧ y ≤ 240 ∧ z ≤ 240 ∧ ((a = zi x ∧ b = zi y ∧ c = zi z) ∨ (a = zi x ∧ b = zi y ∧ d = zi z) ∨ (a = zi x ∧ c = zi y ∧ d = zi z) ∨ (b = zi x ∧ c = zi y ∧ d = zi z)))) : ((a.toInt64 + b.toInt64) + c.toInt64 = d.toInt64) = ((a + b) + c = d) := by
  apply propext
  constructor
  · intro e
    have := congrArg Int64.toInt32 e
    simpa using this
  · intro e
    apply Int64.toInt_inj.mp
    rw [z64_sum, Int32.toInt_toInt64]
    have e2 := congrArg Int32.toInt e
    rw [Int32.toInt_add, Int32.toInt_add] at e2
    have ha := a.toInt_lt
    have hb := b.toInt_lt
    have hc := c.toInt_lt
    have hd := d.toInt_lt
    have ha2 := a.le_toInt
    have hb2 := b.le_toInt
    have hc2 := c.le_toInt
    have hd2 := d.le_toInt
    rw [Int.bmod_add_bmod] at e2
    rw [Int.bmod_def] at e2
    obtain ⟨x, y, z, hx, hy, hz, q⟩ := h
    have ex := zi_toInt (a := x) (by omega)
    have ey := zi_toInt (a := y) (by omega)
    have ez := zi_toInt (a := z) (by omega)
    rcases q with ⟨q1, q2, q3⟩ | ⟨q1, q2, q3⟩ | ⟨q1, q2, q3⟩ | ⟨q1, q2, q3⟩ <;> rw [← q1] at ex <;> rw [← q2] at ey <;> rw [← q3] at ez <;> split at e2 <;> omega
theorem zNm_le {M : yb_S} (hW : zW M) {d k : Nat} (hd : d < nD M) (hk : k < 4) : ∃ a, a ≤ 240 ∧ zNm M d k = zi a := by
  rw [(zNm_h hW hd hk).1]
  exact zDayH_le hW
theorem zAlt_sum {M : yb_S} (hW : zW M) {d n : Nat} {mask : Int32} (hd : d < nD M) (hn : n < 5) : (((zAlt M d n mask 0).toInt64 + (zAlt M d n mask 1).toInt64) + (zAlt M d n mask 2).toInt64 = (zAlt M d n mask 3).toInt64) = ((zAlt M d n mask 0 + zAlt M d n mask 1) + zAlt M d n mask 2 = zAlt M d n mask 3) := by
  obtain ⟨x, hx, ex⟩ := zNm_le hW hd (k := 0) (by decide)
  obtain ⟨y, hy, ey⟩ := zNm_le hW hd (k := 1) (by decide)
  obtain ⟨z, hz, ez⟩ := zNm_le hW hd (k := 2) (by decide)
  obtain ⟨w, hw, ew⟩ := zNm_le hW hd (k := 3) (by decide)
  apply z_sum4
  have hq : n = 0 ∨ n = 1 ∨ n = 2 ∨ n = 3 ∨ n = 4 := by omega
  have ho : ∀ k, k ≠ n → zAlt M d n mask k = zNm M d k := fun k h => if_neg h
  rcases hq with q | q | q | q | q <;> subst q
  · exact ⟨y, z, w, hy, hz, hw, Or.inr (Or.inr (Or.inr ⟨(ho 1 (by decide)).trans ey, (ho 2 (by decide)).trans ez, (ho 3 (by decide)).trans ew⟩))⟩
  · exact ⟨x, z, w, hx, hz, hw, Or.inr (Or.inr (Or.inl ⟨(ho 0 (by decide)).trans ex, (ho 2 (by decide)).trans ez, (ho 3 (by decide)).trans ew⟩))⟩
  · exact ⟨x, y, w, hx, hy, hw, Or.inr (Or.inl ⟨(ho 0 (by decide)).trans ex, (ho 1 (by decide)).trans ey, (ho 3 (by decide)).trans ew⟩)⟩
  · exact ⟨x, y, z, hx, hy, hz, Or.inl ⟨(ho 0 (by decide)).trans ex, (ho 1 (by decide)).trans ey, (ho 2 (by decide)).trans ez⟩⟩
  · exact ⟨x, y, z, hx, hy, hz, Or.inl ⟨(ho 0 (by decide)).trans ex, (ho 1 (by decide)).trans ey, (ho 2 (by decide)).trans ez⟩⟩
theorem zlg0 {x y : Int64} : (lg_cmp x y = 0) = (x = y) := by
  unfold lg_cmp
  by_cases h1 : x > y
  · rw [if_pos h1]
    apply propext
    exact ⟨fun q => absurd q (by decide), fun q => by subst q; exact absurd h1 Int64.lt_irrefl⟩
  · rw [if_neg h1]
    by_cases h2 : x = y
    · rw [if_pos h2]
      simp [h2, zc_b, bne]
    · rw [if_neg h2]
      apply propext
      exact ⟨fun q => absurd q (by decide), fun q => absurd q h2⟩
theorem z64_inj {x y : Int32} : (x.toInt64 = y.toInt64) = (x = y) := by
  apply propext
  constructor
  · intro e
    have := congrArg Int64.toInt32 e
    rwa [Int32.toInt32_toInt64, Int32.toInt32_toInt64] at this
  · intro e
    rw [e]
theorem zQ_zL {M o s : yb_S} (h : zQ M o s) {id : Nat} (hid : 603 ≤ id) : zQ M o (yb_zL s id) := by
  have h1 : zP (yb_zL s id) = zP s := by
    apply Prod.ext
    · rfl
    · funext a b
      show (if 176 ≤ a ∧ a < 603 then (yb_zL s id).2 a b else 0) = (if 176 ≤ a ∧ a < 603 then s.2 a b else 0)
      by_cases q : 176 ≤ a ∧ a < 603
      · rw [if_pos q, if_pos q]
        show (if a = id then fun _ => 0 else s.2 a) b = _
        rw [if_neg (by omega)]
      · rw [if_neg q, if_neg q]
  have h2 : zHo (yb_zL s id) = zHo s := by
    apply Prod.ext
    · rfl
    · funext a b
      show (if a < 176 then (yb_zL s id).2 a b else 0) = (if a < 176 then s.2 a b else 0)
      by_cases q : a < 176
      · rw [if_pos q, if_pos q]
        show (if a = id then fun _ => 0 else s.2 a) b = _
        rw [if_neg (by omega)]
      · rw [if_neg q, if_neg q]
  exact ⟨h1.trans h.1, h2.trans h.2.1, zC_congr (s := s) (fun _ _ _ => rfl) rfl rfl rfl rfl h.2.2⟩
theorem ze_42 : ∀ (a1 a2 a3 : Int32) (nx : Nat) (s : yb_S), 603 ≤ nx → zInv s → ∃ (r : Int32) (s1 s2 : yb_S), (f_X11_check a1 a2 a3 s = some r ∧ s1 = s) ∧ f_X12_check a1 a2 a3 nx s1 = some (r, s2) ∧ zInv s2 := by
  intro a1 a2 a3 nx s hnx h
  have hW := h.1
  have h9 := zw_D8 hW
  by_cases hc : zin a1 (nD (zP s)) ∧ zin a2 5
  · obtain ⟨⟨d, hd, rfl⟩, ⟨n, hn, rfl⟩⟩ := hc
    refine z_ask1 (A := f_X11_check (zi d) (zi n) a3) (B := f_X12_check (zi d) (zi n) a3 nx) h (zChk (zP s) d n a3) (fun m t hA => ?_) (fun o t hQ => ?_)
    · unfold f_X11_check f_X0_checked_21 zChk
      rw [zo_ended1 hW hA hd, Option.bind_some, if_neg (by decide), zo_num1 hn]
      rw [show (0 : Int32) = zi 0 from rfl, show (1 : Int32) = zi 1 from rfl, show (2 : Int32) = zi 2 from rfl, show (3 : Int32) = zi 3 from rfl, show (4 : Int32) = zi 4 from rfl, zo_alt hW hA hd (by decide) hn, zo_alt hW hA hd (by decide) hn, zo_alt hW hA hd (by decide) hn, zo_alt hW hA hd (by decide) hn, zo_alt hW hA hd (by decide) hn, zo_sumOf hW hA hd]
      simp only [Option.bind_some]
      split
      · split <;> rfl
      · rfl
    · unfold f_X12_check
      rw [zm_ended1 hW hQ hd, Option.bind_some, if_neg (by decide), z_inZ (l := 0) (h := 4) (a := 0) (b := 4) (by decide) (by decide) (by omega) (by decide) (by decide), if_pos (by omega), if_neg (by decide), Option.bind_some]
      have hQ0 := zQ_zL hQ hnx
      generalize yb_zL t nx = t0 at *
      unfold l_X12_check_30
      refine zs_up (fun k q => q.1 = zi k ∧ zQ (zP s) o q.2 ∧ ∀ j, j < k → q.2.2 nx j = (zAlt (zP s) d n a3 j).toInt64) 5 ?_ yb_N 0 _ (Nat.zero_le _) (by decide) ⟨rfl, hQ0, fun j hj => absurd hj (Nat.not_lt_zero _)⟩
      rintro k ⟨x, u⟩ rc hk ⟨i1, i2, i3⟩ hnext
      dsimp only at i1 i2 i3
      subst i1
      show zs_P (f_X12_check_30 (fun x5 s => rc (x5, s)) (zi d) (zi n) a3 nx (zi k) u) _
      unfold f_X12_check_30 j_X12_check_71
      rcases Nat.lt_or_ge k 5 with hlt | hge
      · rw [show (5 : Int32) = zi 5 from rfl, if_neg (by rw [zi_le (by omega) (by omega)]; omega)]
        simp (disch := omega) only [zi_ri, zi_rl, Option.bind_some, zql i2]
        have h64 : (zP s).2 (392 + 1 * d) k = (zNm (zP s) d k).toInt64 := by
          by_cases e : k = 4
          · subst e
            exact zNm_4 hW hd
          · exact (zNm_h hW hd (by omega)).2
        have hw : ∀ x, x = (zAlt (zP s) d n a3 k).toInt64 → zs_P ((yb_wl u nx 5 (zi k) x).bind fun s20 => rc (zi k + 1, s20)) (fun q => q.1 = zChk (zP s) d n a3 ∧ zQ (zP s) o q.2) := by
          intro x hx
          rw [zi_wl (by omega) (by omega), Option.bind_some, zi_succ]
          refine hnext hlt _ ⟨rfl, zQ_wL i2 hnx, fun j hj => ?_⟩
          show (if nx = nx then (if j = k then x else u.2 nx j) else u.2 nx j) = _
          rw [if_pos rfl]
          by_cases e : j = k
          · rw [if_pos e, e, hx]
          · rw [if_neg e]
            exact i3 j (by omega)
        simp (disch := omega) only [zi_inj]
        by_cases e : k = n
        · rw [if_pos e]
          refine hw _ ?_
          unfold zAlt
          rw [if_pos e, h64, Int32.toInt32_toInt64]
        · rw [if_neg e]
          refine hw _ ?_
          unfold zAlt
          rw [if_neg e, h64]
      · have hkl := Nat.le_antisymm hk hge
        subst hkl
        rw [if_pos (by decide)]
        simp (disch := omega) only [show (0 : Int32) = zi 0 from rfl, show (1 : Int32) = zi 1 from rfl, show (2 : Int32) = zi 2 from rfl, show (3 : Int32) = zi 3 from rfl, show (4 : Int32) = zi 4 from rfl, zi_rl, zi_ri, Option.bind_some, i3, zql i2]
        simp only [show zi 0 = (0 : Int32) from rfl, zlg0, zAlt_sum hW hd hn, zNm_4 hW hd, z64_inj]
        unfold zChk
        by_cases e : zAlt (zP s) d n a3 0 + zAlt (zP s) d n a3 1 + zAlt (zP s) d n a3 2 = zAlt (zP s) d n a3 3
        · rw [if_pos e]
          by_cases e2 : zAlt (zP s) d n a3 4 = zNm (zP s) d 4
          · rw [if_pos e2]
            exact zs_ret ⟨by rw [if_pos e, if_pos e2], i2⟩
          · rw [if_neg e2]
            exact zs_ret ⟨by rw [if_pos e, if_neg e2]; rfl, i2⟩
        · rw [if_neg e]
          exact zs_ret ⟨by rw [if_neg e]; rfl, i2⟩
  · refine z_ask1 (A := f_X11_check a1 a2 a3) (B := f_X12_check a1 a2 a3 nx) h (-1) (fun m t hA => ?_) (fun o t hQ => ?_)
    · unfold f_X11_check
      by_cases hf : zin a1 (nD (zP s))
      · obtain ⟨f, hf, rfl⟩ := hf
        rw [zo_ended1 hW hA hf, Option.bind_some, if_neg (by decide), zo_num0 (fun q => hc ⟨⟨f, hf, rfl⟩, q⟩)]
      · rw [zo_ended0 hW hA hf]
        rfl
    · unfold f_X12_check
      by_cases hf : zin a1 (nD (zP s))
      · obtain ⟨f, hf, rfl⟩ := hf
        rw [zm_ended1 hW hQ hf, Option.bind_some, if_neg (by decide), z_in (l := 0) (h := 4) (lo := 0) (hi := 4) (by decide) (by decide), if_neg (z_num5 (fun q => hc ⟨⟨f, hf, rfl⟩, q⟩)), if_pos rfl]
        exact zs_ret ⟨rfl, hQ⟩
      · rw [zm_ended0 hW hQ hf]
        exact zs_ret ⟨rfl, hQ⟩
