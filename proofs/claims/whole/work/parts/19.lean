/-! records: points, bars, match, rivals, heaps asked -/
theorem zabs_eq (x : Int32) : yb_abs x = zabs x := by
  unfold yb_abs zabs
  rw [Int32.zero_sub]
theorem zo_ptsL {r : Nat} {b2 : Int32} {s : yb_S} (hr : r < 60) : ∀ (m n : Nat) (acc a b : Int32), m ≤ 6 → m < n → l_X7_points_27 (zi r) b2 s n acc a b (zi (6 - m)) = some (acc + zsame m a b - zabs (s.1 44 r - b2))
  | 0, n + 1, acc, a, b, hm, hn => by
    show f_X7_points_27 (fun x4 x5 x6 x7 => l_X7_points_27 (zi r) b2 s n x4 x5 x6 x7) _ _ _ acc a b (zi 6) = _
    unfold f_X7_points_27
    simp (disch := omega) only [↓zmd, zl, zi_div, zi_rem, zi_lt, zi_le, zi_inj, zi_add, zi_sub, zi_addm, zi_eqm, zi_meq, zi_mlt, zi_ltm, zi_lem, zi_mle, zi_tn, zi_rd, zi_wr, zi_rl, zi_wl, zi_ri, zu_ne, zu_nef, zu_eq, zu_id, zu_rl, zu_rdL, zu_neL, zu_idL, Option.bind_some, ↓reduceIte, Nat.reduceEqDiff, if_pos, if_neg]
    rw [zabs_eq]
    simp only [zsame, Int32.add_zero]
  | m + 1, n + 1, acc, a, b, hm, hn => by
    show f_X7_points_27 (fun x4 x5 x6 x7 => l_X7_points_27 (zi r) b2 s n x4 x5 x6 x7) _ _ _ acc a b (zi (6 - (m + 1))) = _
    unfold f_X7_points_27 j_X7_points_50
    have e : 6 - (m + 1) + 1 = 6 - m := by omega
    rw [if_neg (show ¬ ((6 : Int32) ≤ zi (6 - (m + 1))) by rw [show (6 : Int32) = zi 6 from rfl, zi_le (by omega) (by omega)]; omega), zi_succ, e]
    dsimp only
    rw [zo_ptsL hr m n _ _ _ (by omega) (by omega), zo_ptsL hr m n _ _ _ (by omega) (by omega)]
    show _ = some (acc + ((if yb_rem a 10 = yb_rem b 10 then 1 else 0) + zsame m (a / 10) (b / 10)) - zabs (s.1 44 r - b2))
    split
    · rw [Int32.add_assoc]
    · rw [Int32.zero_add]
theorem zo_pts {r n : Nat} {nm b2 : Int32} {s : yb_S} (h0 : s.1 41 0 = zi n) (hn : n ≤ 60) (hr : r < n) : f_X7_points (zi r) nm b2 s = some (zpts (s.1 43 r) (s.1 44 r) nm b2) := by
  unfold f_X7_points
  rw [zo_has7t h0 hn hr, Option.bind_some, if_neg (by decide), zi_rd (by omega) (by omega), Option.bind_some]
  rw [show (0 : Int32) = zi (6 - 6) from rfl, zo_ptsL (by omega) 6 yb_N _ _ _ (by omega) (by decide)]
  unfold zpts
  rw [show zi (6 - 6) = 0 from rfl, Int32.zero_add]
theorem zm_size {x : Int32} {s : yb_S} : f_X12_size x s = some (zabs x) := by
  unfold f_X12_size zabs
  split <;> rfl
theorem zm_ptsL {b1 b2 : Int32} {s : yb_S} : ∀ (m n : Nat) (acc a b : Int32), m ≤ 6 → m < n → l_X12_points_12 b1 b2 s n acc a b (zi (6 - m)) = some (acc + zsame m a b - zabs (b1 - b2))
  | 0, n + 1, acc, a, b, hm, hn => by
    show f_X12_points_12 (fun x4 x5 x6 x7 => l_X12_points_12 b1 b2 s n x4 x5 x6 x7) _ _ _ acc a b (zi 6) = _
    unfold f_X12_points_12
    rw [zm_size]
    simp (disch := omega) only [↓zmd, zl, zi_div, zi_rem, zi_lt, zi_le, zi_inj, zi_add, zi_sub, zi_addm, zi_eqm, zi_meq, zi_mlt, zi_ltm, zi_lem, zi_mle, zi_tn, zi_rd, zi_wr, zi_rl, zi_wl, zi_ri, zu_ne, zu_nef, zu_eq, zu_id, zu_rl, zu_rdL, zu_neL, zu_idL, Option.bind_some, ↓reduceIte, Nat.reduceEqDiff, if_pos, if_neg]
    simp only [zsame, Int32.add_zero]
  | m + 1, n + 1, acc, a, b, hm, hn => by
    show f_X12_points_12 (fun x4 x5 x6 x7 => l_X12_points_12 b1 b2 s n x4 x5 x6 x7) _ _ _ acc a b (zi (6 - (m + 1))) = _
    unfold f_X12_points_12 j_X12_points_39
    have e : 6 - (m + 1) + 1 = 6 - m := by omega
    rw [if_neg (show ¬ ((6 : Int32) ≤ zi (6 - (m + 1))) by rw [show (6 : Int32) = zi 6 from rfl, zi_le (by omega) (by omega)]; omega), zi_succ, e]
    dsimp only
    rw [zm_ptsL m n _ _ _ (by omega) (by omega), zm_ptsL m n _ _ _ (by omega) (by omega)]
    show _ = some (acc + ((if yb_rem a 10 = yb_rem b 10 then 1 else 0) + zsame m (a / 10) (b / 10)) - zabs (b1 - b2))
    split
    · rw [Int32.add_assoc]
    · rw [Int32.zero_add, Int32.add_zero]
theorem zm_pts {n1 b1 n2 b2 : Int32} {s : yb_S} : f_X12_points n1 b1 n2 b2 s = some (zpts n1 b1 n2 b2) := by
  unfold f_X12_points
  rw [show (0 : Int32) = zi (6 - 6) from rfl, zm_ptsL 6 yb_N _ _ _ (by omega) (by decide)]
  unfold zpts
  rw [show zi (6 - 6) = 0 from rfl, Int32.zero_add]
def zpo (M : yb_S) (a b : Nat) : Int32 := zpts (M.1 208 a) (M.1 209 a) (M.1 208 b) (M.1 209 b)
theorem zm_pof {a b : Nat} {s : yb_S} (ha : a < 60) (hb : b < 60) : f_X12_pointsOf (zi a) (zi b) s = some (zpo s a b) := by
  unfold f_X12_pointsOf
  simp only [zm_pts]
  simp (disch := omega) only [↓zmd, zl, zi_div, zi_rem, zi_lt, zi_le, zi_inj, zi_add, zi_sub, zi_addm, zi_eqm, zi_meq, zi_mlt, zi_ltm, zi_lem, zi_mle, zi_tn, zi_rd, zi_wr, zi_rl, zi_wl, zi_ri, zu_ne, zu_nef, zu_eq, zu_id, zu_rl, zu_rdL, zu_neL, zu_idL, Option.bind_some, ↓reduceIte, Nat.reduceEqDiff, if_pos, if_neg]
  rfl
def zbar2 (M : yb_S) (a b : Nat) : Bool := zle (M.1 210 a) (M.1 211 b) && zle (M.1 210 b) (M.1 211 a)
def zal (M : yb_S) (a b : Nat) : Bool := (M.1 207 a != M.1 207 b) && !zbar2 M a b
def zb (c : Bool) : Int32 := cond c 1 0
theorem zb_t {c : Bool} : (zb c = zi 0) = (c = false) := by cases c <;> decide
theorem zb_t0 {c : Bool} : (zb c = 0) = (c = false) := by cases c <;> decide
theorem zle_f {a b : Int32} : (zle a b = false) = (b < a) := by
  unfold zle
  rw [decide_eq_false_iff_not, Int32.not_le]
theorem zle_t {a b : Int32} : (zle a b = true) = (a ≤ b) := by
  unfold zle
  rw [decide_eq_true_eq]
theorem zm_barred {a b : Nat} {s : yb_S} (ha : a < 60) (hb : b < 60) : f_X12_areBarred (zi a) (zi b) s = some (zb (zbar2 s a b)) := by
  unfold f_X12_areBarred zbar2
  simp (disch := omega) only [↓zmd, zl, zi_div, zi_rem, zi_lt, zi_le, zi_inj, zi_add, zi_sub, zi_addm, zi_eqm, zi_meq, zi_mlt, zi_ltm, zi_lem, zi_mle, zi_tn, zi_rd, zi_wr, zi_rl, zi_wl, zi_ri, zu_ne, zu_nef, zu_eq, zu_id, zu_rl, zu_rdL, zu_neL, zu_idL, Option.bind_some, ↓reduceIte, Nat.reduceEqDiff, if_pos, if_neg]
  by_cases h1 : s.1 211 b < s.1 210 a
  · rw [if_pos h1, show zle (s.1 210 a) (s.1 211 b) = false from zle_f.mpr h1]
    rfl
  · rw [if_neg h1, show zle (s.1 210 a) (s.1 211 b) = true from zle_t.mpr (Int32.not_lt.mp h1)]
    by_cases h2 : s.1 211 a < s.1 210 b
    · rw [if_pos h2, show zle (s.1 210 b) (s.1 211 a) = false from zle_f.mpr h2]
      rfl
    · rw [if_neg h2, show zle (s.1 210 b) (s.1 211 a) = true from zle_t.mpr (Int32.not_lt.mp h2)]
      rfl
theorem zo_barred {a b n : Nat} {s : yb_S} (hR : zRr s s) (hn : nR s = n) (hn6 : n ≤ 60) (ha : a < n) (hb : b < n) : f_X7_areBarred (zi a) (zi b) s = some (zb (zbar2 s a b)) := by
  have ea := hR.2.2.1 a (by omega)
  have eb := hR.2.2.1 b (by omega)
  rw [← zm_barred (by omega) (by omega)]
  unfold f_X7_areBarred f_X12_areBarred
  simp (disch := omega) only [ea.2.2.2.1, ea.2.2.2.2.1, eb.2.2.2.1, eb.2.2.2.2.1, ↓zmd, zl, zi_div, zi_rem, zi_lt, zi_le, zi_inj, zi_add, zi_sub, zi_addm, zi_eqm, zi_meq, zi_mlt, zi_ltm, zi_lem, zi_mle, zi_tn, zi_rd, zi_wr, zi_rl, zi_wl, zi_ri, zu_ne, zu_nef, zu_eq, zu_id, zu_rl, zu_rdL, zu_neL, zu_idL, Option.bind_some, ↓reduceIte, Nat.reduceEqDiff, if_pos, if_neg]
theorem zo_alike {a b n : Nat} {s : yb_S} (hR : zRr s s) (hn : nR s = n) (h0 : s.1 41 0 = zi n) (hn6 : n ≤ 60) (ha : a < n) (hb : b < n) : f_X7_canBeAlike (zi a) (zi b) s = some (zb (zal s a b)) := by
  have ea := hR.2.2.1 a (by omega)
  have eb := hR.2.2.1 b (by omega)
  unfold f_X7_canBeAlike zal
  rw [zo_has7t h0 hn6 ha, zo_has7t h0 hn6 hb, zo_barred hR hn hn6 ha hb]
  simp (disch := omega) only [ea.1, eb.1, zb_t, ↓zmd, zl, zi_div, zi_rem, zi_lt, zi_le, zi_inj, zi_add, zi_sub, zi_addm, zi_eqm, zi_meq, zi_mlt, zi_ltm, zi_lem, zi_mle, zi_tn, zi_rd, zi_wr, zi_rl, zi_wl, zi_ri, zu_ne, zu_nef, zu_eq, zu_id, zu_rl, zu_rdL, zu_neL, zu_idL, Option.bind_some, ↓reduceIte, Nat.reduceEqDiff, if_pos, if_neg]
  by_cases h1 : s.1 207 a = s.1 207 b
  · rw [if_pos h1, show (s.1 207 a != s.1 207 b) = false from by simp [h1]]
    rfl
  · rw [if_neg h1, show (s.1 207 a != s.1 207 b) = true from by simp [h1]]
    cases zbar2 s a b <;> rfl
theorem zo_alike0 {a b : Int32} {n : Nat} {s : yb_S} (h0 : s.1 41 0 = zi n) (hn6 : n ≤ 60) (hab : ¬ (zin a n ∧ zin b n)) : f_X7_canBeAlike a b s = some 0 := by
  unfold f_X7_canBeAlike
  by_cases ha : zin a n
  · obtain ⟨k, hk, rfl⟩ := ha
    rw [zo_has7t h0 hn6 hk, zo_has7f h0 hn6 (fun q => hab ⟨⟨k, hk, rfl⟩, q⟩)]
    rfl
  · rw [zo_has7f h0 hn6 ha]
    rfl
def zMatch (M : yb_S) (r o : Nat) : Bool := zal M r o && zle 4 (zpo M r o)
theorem zbar2_comm {M : yb_S} {a b : Nat} : zbar2 M a b = zbar2 M b a := by
  unfold zbar2
  exact Bool.and_comm _ _
theorem zm_isMatch {r o : Nat} {s : yb_S} (hr : r < 60) (ho : o < 60) : f_X12_isMatch (zi r) (zi o) s = some (zb (zMatch s r o)) := by
  unfold f_X12_isMatch
  rw [zm_barred ho hr, zm_pof hr ho]
  simp (disch := omega) only [zb_t, ↓zmd, zl, zi_div, zi_rem, zi_lt, zi_le, zi_inj, zi_add, zi_sub, zi_addm, zi_eqm, zi_meq, zi_mlt, zi_ltm, zi_lem, zi_mle, zi_tn, zi_rd, zi_wr, zi_rl, zi_wl, zi_ri, zu_ne, zu_nef, zu_eq, zu_id, zu_rl, zu_rdL, zu_neL, zu_idL, Option.bind_some, ↓reduceIte, Nat.reduceEqDiff, if_pos, if_neg]
  unfold zMatch zal
  by_cases h1 : s.1 207 o = s.1 207 r
  · rw [if_pos h1, show (s.1 207 r != s.1 207 o) = false from by simp [h1]]
    rfl
  · rw [if_neg h1, show (s.1 207 r != s.1 207 o) = true from by simp [Ne.symm h1], zbar2_comm]
    cases zbar2 s r o
    · rw [if_pos rfl]
      by_cases h2 : zpo s r o < zi 4
      · rw [if_pos h2, show zle 4 (zpo s r o) = false from zle_f.mpr h2]
        rfl
      · rw [if_neg h2, show zle 4 (zpo s r o) = true from zle_t.mpr (Int32.not_lt.mp h2)]
        rfl
    · rfl
def zmt (M : yb_S) (r : Nat) : Nat → Option Nat
  | 0 => none
  | n + 1 => match zmt M r n with
    | none => if zMatch M r n then some n else none
    | some b => if zMatch M r n && !zle (zpo M r n) (zpo M r b) then some n else some b
theorem zmt_succ {M : yb_S} {r n : Nat} : zmt M r (n + 1) = match zmt M r n with
    | none => if zMatch M r n then some n else none
    | some b => if zMatch M r n && !zle (zpo M r n) (zpo M r b) then some n else some b := rfl
theorem zmt_ok {M : yb_S} {r : Nat} : ∀ {n b : Nat}, zmt M r n = some b → b < n ∧ zMatch M r b = true
  | n + 1, b, h => by
    rw [zmt_succ] at h
    split at h
    · split at h
      · cases h
        exact ⟨by omega, by assumption⟩
      · cases h
    · rename_i b' hb
      have := zmt_ok hb
      split at h
      · rename_i hq
        cases h
        simp only [Bool.and_eq_true] at hq
        exact ⟨by omega, hq.1⟩
      · cases h
        exact ⟨by omega, this.2⟩
theorem zo_matchOf {r n : Nat} {s : yb_S} (hR : zRr s s) (hn : nR s = n) (h0 : s.1 41 0 = zi n) (hn6 : n ≤ 60) (hr : r < n) : f_X7_matchOf (zi r) s = some (zix (zmt s r n)) := by
  unfold f_X7_matchOf l_X7_matchOf_7
  refine zs_upE (fun k => (zix (zmt s r k), (match zmt s r k with | none => 3 | some b => zpo s r b), zi k)) n _ ?_ ?_ yb_N 0 (by omega) (by unfold yb_N; omega)
  · intro k rc hk
    have ek := hR.2.2.1 k (by omega)
    have er := hR.2.2.1 r (by omega)
    show f_X7_matchOf_7 _ _ _ (zix (zmt s r k)) _ (zi k) = _
    unfold f_X7_matchOf_7 j_X7_matchOf_59
    rw [zo_alike hR hn h0 hn6 hr hk]
    simp only [zo_pts h0 hn6 hr, ek.2.1, ek.2.2.1, er.2.1, er.2.2.1]
    simp (disch := omega) only [h0, zb_t, ek.2.1, ek.2.2.1, ↓zmd, zl, zi_div, zi_rem, zi_lt, zi_le, zi_inj, zi_add, zi_sub, zi_addm, zi_eqm, zi_meq, zi_mlt, zi_ltm, zi_lem, zi_mle, zi_tn, zi_rd, zi_wr, zi_rl, zi_wl, zi_ri, zu_ne, zu_nef, zu_eq, zu_id, zu_rl, zu_rdL, zu_neL, zu_idL, Option.bind_some, ↓reduceIte, Nat.reduceEqDiff, if_pos, if_neg]
    rw [show zpts (s.1 208 r) (s.1 209 r) (s.1 208 k) (s.1 209 k) = zpo s r k from rfl]
    rw [zmt_succ]
    cases hz : zmt s r k with
    | none =>
      unfold zMatch
      dsimp only
      cases hal : zal s r k
      · rw [if_pos rfl]
        rfl
      · rw [if_neg (by simp)]
        by_cases h4 : zpo s r k ≤ zi 3
        · rw [if_pos h4, show zle 4 (zpo s r k) = false from zle_f.mpr (by
            rw [Int32.le_iff_toInt_le] at h4
            rw [Int32.lt_iff_toInt_lt]
            have e3 : (zi 3).toInt = 3 := rfl
            have e4 : (4 : Int32).toInt = 4 := rfl
            omega)]
          rfl
        · rw [if_neg h4, show zle 4 (zpo s r k) = true from zle_t.mpr (by
            rw [Int32.le_iff_toInt_le] at h4 ⊢
            have e3 : (zi 3).toInt = 3 := rfl
            have e4 : (4 : Int32).toInt = 4 := rfl
            omega)]
          rfl
    | some b =>
      have hb := (zmt_ok hz).2
      unfold zMatch at hb ⊢
      dsimp only
      simp only [Bool.and_eq_true, zle_t] at hb
      cases hal : zal s r k
      · rw [if_pos rfl]
        rfl
      · rw [if_neg (by simp)]
        by_cases h4 : zpo s r k ≤ zpo s r b
        · rw [if_pos h4, show zle (zpo s r k) (zpo s r b) = true from zle_t.mpr h4]
          simp
        · rw [if_neg h4, show zle (zpo s r k) (zpo s r b) = false from zle_f.mpr (Int32.not_le.mp h4), show zle 4 (zpo s r k) = true from zle_t.mpr (Int32.le_trans hb.2 (Int32.le_of_lt (Int32.not_le.mp h4)))]
          rfl
  · intro rc
    show f_X7_matchOf_7 _ _ _ (zix (zmt s r n)) _ (zi n) = _
    unfold f_X7_matchOf_7
    simp (disch := omega) only [h0, ↓zmd, zl, zi_div, zi_rem, zi_lt, zi_le, zi_inj, zi_add, zi_sub, zi_addm, zi_eqm, zi_meq, zi_mlt, zi_ltm, zi_lem, zi_mle, zi_tn, zi_rd, zi_wr, zi_rl, zi_wl, zi_ri, zu_ne, zu_nef, zu_eq, zu_id, zu_rl, zu_rdL, zu_neL, zu_idL, Option.bind_some, ↓reduceIte, Nat.reduceEqDiff, if_pos, if_neg]
theorem zm_match {r n : Nat} {s : yb_S} (h0 : s.1 176 36 = zi n) (hn6 : n ≤ 60) (hr : r < n) : f_X12_match (zi r) s = some (zix (zmt s r n)) := by
  unfold f_X12_match l_X12_match_14
  rw [zm_isRecordt h0 hn6 hr, Option.bind_some, if_neg (by decide)]
  refine zs_upE (fun k => (zix (zmt s r k), zi k)) n _ ?_ ?_ yb_N 0 (by omega) (by unfold yb_N; omega)
  · intro k rc hk
    show f_X12_match_14 _ _ _ (zix (zmt s r k)) (zi k) = _
    unfold f_X12_match_14 j_X12_match_51 j_X12_match_53
    rw [zm_isMatch (by omega) (by omega)]
    simp only [zm_pof (by omega : r < 60) (by omega : k < 60)]
    simp (disch := omega) only [h0, zb_t, ↓zmd, zl, zi_div, zi_rem, zi_lt, zi_le, zi_inj, zi_add, zi_sub, zi_addm, zi_eqm, zi_meq, zi_mlt, zi_ltm, zi_lem, zi_mle, zi_tn, zi_rd, zi_wr, zi_rl, zi_wl, zi_ri, zu_ne, zu_nef, zu_eq, zu_id, zu_rl, zu_rdL, zu_neL, zu_idL, Option.bind_some, ↓reduceIte, Nat.reduceEqDiff, if_pos, if_neg]
    rw [zmt_succ]
    cases hz : zmt s r k with
    | none =>
      cases hal : zMatch s r k
      · rw [if_pos rfl]
        rfl
      · rw [if_neg (by simp), if_pos (by rfl)]
        rfl
    | some b =>
      have hb := (zmt_ok hz).1
      show (if _ then _ else if zi b = zm then _ else (f_X12_pointsOf (zi r) (zi b) s).bind _) = _
      rw [zm_pof (by omega) (by omega)]
      simp (disch := omega) only [↓zmd, zl, zi_div, zi_rem, zi_lt, zi_le, zi_inj, zi_add, zi_sub, zi_addm, zi_eqm, zi_meq, zi_mlt, zi_ltm, zi_lem, zi_mle, zi_tn, zi_rd, zi_wr, zi_rl, zi_wl, zi_ri, zu_ne, zu_nef, zu_eq, zu_id, zu_rl, zu_rdL, zu_neL, zu_idL, Option.bind_some, ↓reduceIte, Nat.reduceEqDiff, if_pos, if_neg]
      cases hal : zMatch s r k
      · rw [if_pos rfl]
        rfl
      · rw [if_neg (by simp)]
        by_cases h4 : zpo s r k ≤ zpo s r b
        · rw [if_pos h4, show zle (zpo s r k) (zpo s r b) = true from zle_t.mpr h4]
          rfl
        · rw [if_neg h4, show zle (zpo s r k) (zpo s r b) = false from zle_f.mpr (Int32.not_le.mp h4)]
          rfl
  · intro rc
    show f_X12_match_14 _ _ _ (zix (zmt s r n)) (zi n) = _
    unfold f_X12_match_14
    simp (disch := omega) only [h0, ↓zmd, zl, zi_div, zi_rem, zi_lt, zi_le, zi_inj, zi_add, zi_sub, zi_addm, zi_eqm, zi_meq, zi_mlt, zi_ltm, zi_lem, zi_mle, zi_tn, zi_rd, zi_wr, zi_rl, zi_wl, zi_ri, zu_ne, zu_nef, zu_eq, zu_id, zu_rl, zu_rdL, zu_neL, zu_idL, Option.bind_some, ↓reduceIte, Nat.reduceEqDiff, if_pos, if_neg]
theorem zm_match0 {a : Int32} {n : Nat} {s : yb_S} (h0 : s.1 176 36 = zi n) (hn6 : n ≤ 60) (ha : ¬ zin a n) : f_X12_match a s = some (-1) := by
  unfold f_X12_match
  rw [zm_isRecordf h0 hn6 ha]
  rfl
theorem zo_match0 {a : Int32} {n : Nat} {s : yb_S} (h0 : s.1 41 0 = zi n) (hn6 : n ≤ 60) (ha : ¬ zin a n) : f_X7_matchOf a s = some (-1) := by
  unfold f_X7_matchOf l_X7_matchOf_7
  refine zs_upE (fun k => (-1, 3, zi k)) n _ ?_ ?_ yb_N 0 (by omega) (by unfold yb_N; omega)
  · intro k rc hk
    show f_X7_matchOf_7 _ _ _ (-1) 3 (zi k) = _
    unfold f_X7_matchOf_7 j_X7_matchOf_59
    rw [zo_alike0 h0 hn6 (fun q => ha q.1)]
    simp (disch := omega) only [h0, ↓zmd, zl, zi_div, zi_rem, zi_lt, zi_le, zi_inj, zi_add, zi_sub, zi_addm, zi_eqm, zi_meq, zi_mlt, zi_ltm, zi_lem, zi_mle, zi_tn, zi_rd, zi_wr, zi_rl, zi_wl, zi_ri, zu_ne, zu_nef, zu_eq, zu_id, zu_rl, zu_rdL, zu_neL, zu_idL, Option.bind_some, ↓reduceIte, Nat.reduceEqDiff, if_pos, if_neg]
  · intro rc
    show f_X7_matchOf_7 _ _ _ (-1) 3 (zi n) = _
    unfold f_X7_matchOf_7
    simp (disch := omega) only [h0, ↓zmd, zl, zi_div, zi_rem, zi_lt, zi_le, zi_inj, zi_add, zi_sub, zi_addm, zi_eqm, zi_meq, zi_mlt, zi_ltm, zi_lem, zi_mle, zi_tn, zi_rd, zi_wr, zi_rl, zi_wl, zi_ri, zu_ne, zu_nef, zu_eq, zu_id, zu_rl, zu_rdL, zu_neL, zu_idL, Option.bind_some, ↓reduceIte, Nat.reduceEqDiff, if_pos, if_neg]
def zriv (M : yb_S) (r b : Nat) (n : Nat) : Int32 := zsum (fun o => cond (o != b && zMatch M r o && zpo M r o == zpo M r b) 1 0) n
theorem zo_riv {r b n : Nat} {s : yb_S} (hR : zRr s s) (hn : nR s = n) (h0 : s.1 41 0 = zi n) (hn6 : n ≤ 60) (hr : r < n) (hb : zmt s r n = some b) : f_X7_rivalsOf (zi r) (zi b) s = some (zriv s r b n) := by
  obtain ⟨hb1, hb2⟩ := zmt_ok hb
  have eb := hR.2.2.1 b (by omega)
  have er := hR.2.2.1 r (by omega)
  unfold zMatch at hb2
  simp only [Bool.and_eq_true, zle_t] at hb2
  unfold f_X7_rivalsOf l_X7_rivalsOf_34
  rw [zo_has7t h0 hn6 hb1, Option.bind_some, if_neg (by decide), zi_rd (by omega) (by omega), zi_rd (by omega) (by omega)]
  rw [Option.bind_some, Option.bind_some, zo_pts h0 hn6 hr, Option.bind_some, eb.2.1, eb.2.2.1, er.2.1, er.2.2.1, show zpts (s.1 208 r) (s.1 209 r) (s.1 208 b) (s.1 209 b) = zpo s r b from rfl]
  refine zs_upE (fun k => (zriv s r b k, zi k)) n _ ?_ ?_ yb_N 0 (by omega) (by unfold yb_N; omega)
  · intro k rc hk
    have ek := hR.2.2.1 k (by omega)
    show f_X7_rivalsOf_34 _ _ _ _ _ (zriv s r b k) (zi k) = _
    unfold f_X7_rivalsOf_34 j_X7_rivalsOf_85
    rw [zo_alike hR hn h0 hn6 hr hk]
    simp only [zo_pts h0 hn6 hr]
    simp (disch := omega) only [h0, zb_t, ek.2.1, ek.2.2.1, er.2.1, er.2.2.1, ↓zmd, zl, zi_div, zi_rem, zi_lt, zi_le, zi_inj, zi_add, zi_sub, zi_addm, zi_eqm, zi_meq, zi_mlt, zi_ltm, zi_lem, zi_mle, zi_tn, zi_rd, zi_wr, zi_rl, zi_wl, zi_ri, zu_ne, zu_nef, zu_eq, zu_id, zu_rl, zu_rdL, zu_neL, zu_idL, Option.bind_some, ↓reduceIte, Nat.reduceEqDiff, if_pos, if_neg]
    rw [show zpts (s.1 208 r) (s.1 209 r) (s.1 208 k) (s.1 209 k) = zpo s r k from rfl, show zriv s r b (k + 1) = zriv s r b k + cond (k != b && zMatch s r k && zpo s r k == zpo s r b) 1 0 from rfl]
    by_cases h1 : k = b
    · rw [if_pos h1, show (k != b) = false from by simp [h1]]
      simp
    · rw [if_neg h1, show (k != b) = true from by simp [h1]]
      unfold zMatch
      cases hal : zal s r k
      · rw [if_pos rfl]
        simp
      · rw [if_neg (by simp)]
        by_cases h4 : zpo s r k = zpo s r b
        · rw [if_pos h4, h4, show zle 4 (zpo s r b) = true from zle_t.mpr hb2.2]
          simp [show zi 1 = 1 from rfl]
        · rw [if_neg h4, show (zpo s r k == zpo s r b) = false from beq_eq_false_iff_ne.mpr h4]
          simp
  · intro rc
    show f_X7_rivalsOf_34 _ _ _ _ _ (zriv s r b n) (zi n) = _
    unfold f_X7_rivalsOf_34
    simp (disch := omega) only [h0, ↓zmd, zl, zi_div, zi_rem, zi_lt, zi_le, zi_inj, zi_add, zi_sub, zi_addm, zi_eqm, zi_meq, zi_mlt, zi_ltm, zi_lem, zi_mle, zi_tn, zi_rd, zi_wr, zi_rl, zi_wl, zi_ri, zu_ne, zu_nef, zu_eq, zu_id, zu_rl, zu_rdL, zu_neL, zu_idL, Option.bind_some, ↓reduceIte, Nat.reduceEqDiff, if_pos, if_neg]
theorem zm_riv {r b n : Nat} {s : yb_S} (h0 : s.1 176 36 = zi n) (hn6 : n ≤ 60) (hr : r < n) (hb : zmt s r n = some b) : f_X12_rivals (zi r) s = some (zriv s r b n) := by
  obtain ⟨hb1, hb2⟩ := zmt_ok hb
  unfold f_X12_rivals l_X12_rivals_18
  rw [zm_match h0 hn6 hr, hb, Option.bind_some, if_neg (by rw [show zix (some b) = zi b from rfl, show (-1 : Int32) = zm from rfl, zi_eqm (by omega)]; exact id)]
  refine zs_upE (fun k => (zriv s r b k, zi k)) n _ ?_ ?_ yb_N 0 (by omega) (by unfold yb_N; omega)
  · intro k rc hk
    show f_X12_rivals_18 _ _ (zi b) _ (zriv s r b k) (zi k) = _
    unfold f_X12_rivals_18 j_X12_rivals_64 j_X12_rivals_65
    rw [zm_isMatch (by omega) (by omega), zm_pof (by omega) (by omega), zm_pof (by omega) (by omega)]
    simp (disch := omega) only [h0, zb_t, ↓zmd, zl, zi_div, zi_rem, zi_lt, zi_le, zi_inj, zi_add, zi_sub, zi_addm, zi_eqm, zi_meq, zi_mlt, zi_ltm, zi_lem, zi_mle, zi_tn, zi_rd, zi_wr, zi_rl, zi_wl, zi_ri, zu_ne, zu_nef, zu_eq, zu_id, zu_rl, zu_rdL, zu_neL, zu_idL, Option.bind_some, ↓reduceIte, Nat.reduceEqDiff, if_pos, if_neg]
    rw [show zriv s r b (k + 1) = zriv s r b k + cond (k != b && zMatch s r k && zpo s r k == zpo s r b) 1 0 from rfl]
    by_cases h1 : k = b
    · rw [if_pos h1, show (k != b) = false from by simp [h1]]
      simp [show zi 0 = 0 from rfl]
    · rw [if_neg h1, show (k != b) = true from by simp [h1]]
      cases hal : zMatch s r k
      · rw [if_pos rfl]
        simp [show zi 0 = 0 from rfl]
      · rw [if_neg (by simp)]
        by_cases h4 : zpo s r k = zpo s r b
        · rw [if_pos h4, h4]
          simp [show zi 1 = 1 from rfl]
        · rw [if_neg h4, show (zpo s r k == zpo s r b) = false from beq_eq_false_iff_ne.mpr h4]
          simp [show zi 0 = 0 from rfl]
  · intro rc
    show f_X12_rivals_18 _ _ (zi b) _ (zriv s r b n) (zi n) = _
    unfold f_X12_rivals_18
    simp (disch := omega) only [h0, ↓zmd, zl, zi_div, zi_rem, zi_lt, zi_le, zi_inj, zi_add, zi_sub, zi_addm, zi_eqm, zi_meq, zi_mlt, zi_ltm, zi_lem, zi_mle, zi_tn, zi_rd, zi_wr, zi_rl, zi_wl, zi_ri, zu_ne, zu_nef, zu_eq, zu_id, zu_rl, zu_rdL, zu_neL, zu_idL, Option.bind_some, ↓reduceIte, Nat.reduceEqDiff, if_pos, if_neg]
theorem ze_q {s : yb_S} {A B : yb_S → Option Int32} {r : Int32} (h : zInv s) (h1 : A s = some r) (h2 : B s = some r) : ∃ (r : Int32) (s1 s2 : yb_S), (A s = some r ∧ s1 = s) ∧ (B s1 = some r ∧ s2 = s1) ∧ zInv s2 := ⟨r, s, s, ⟨h1, rfl⟩, ⟨h2, rfl⟩, h⟩
theorem ze_8 : ∀ (a1 a2 : Int32) (s : yb_S), zInv s → ∃ (r : Int32) (s1 s2 : yb_S), (f_X11_alike a1 a2 s = some r ∧ s1 = s) ∧ (f_X12_alike a1 a2 s1 = some r ∧ s2 = s1) ∧ zInv s2 := by
  intro a1 a2 s h
  obtain ⟨-, -, -, ⟨gR, gR8, oR⟩, -⟩ := zg h
  have hR : zRr s s := h.2.1.2.2.2.2.2.1
  by_cases hc : zin a1 (nR s) ∧ zin a2 (nR s)
  · obtain ⟨⟨a, ha, rfl⟩, ⟨b, hb, rfl⟩⟩ := hc
    have ea := hR.2.2.1 a (by omega)
    have eb := hR.2.2.1 b (by omega)
    refine ze_q (A := f_X11_alike (zi a) (zi b)) (B := f_X12_alike (zi a) (zi b)) (r := cond (zal s a b) (zpo s a b) (-2147483648)) h ?_ ?_
    · unfold f_X11_alike
      rw [zo_alike hR rfl oR gR8 ha hb]
      simp only [zo_pts oR gR8 ha]
      simp (disch := omega) only [zb_t, eb.2.1, eb.2.2.1, ea.2.1, ea.2.2.1, ↓zmd, zl, zi_div, zi_rem, zi_lt, zi_le, zi_inj, zi_add, zi_sub, zi_addm, zi_eqm, zi_meq, zi_mlt, zi_ltm, zi_lem, zi_mle, zi_tn, zi_rd, zi_wr, zi_rl, zi_wl, zi_ri, zu_ne, zu_nef, zu_eq, zu_id, zu_rl, zu_rdL, zu_neL, zu_idL, Option.bind_some, ↓reduceIte, Nat.reduceEqDiff, if_pos, if_neg]
      cases zal s a b <;> rfl
    · unfold f_X12_alike j_X12_alike_40
      rw [zm_isRecordt gR gR8 ha, zm_isRecordt gR gR8 hb, zm_barred (by omega) (by omega), zm_pof (by omega) (by omega)]
      unfold zal
      by_cases h1 : s.1 207 a = s.1 207 b
      · rw [show (s.1 207 a != s.1 207 b) = false from by simp [h1]]
        simp only [Option.bind_some, zi_rd (by omega : a < 60) (by omega : 60 < 2147483648), zi_rd (by omega : b < 60) (by omega : 60 < 2147483648), h1]
        rfl
      · rw [show (s.1 207 a != s.1 207 b) = true from by simp [h1]]
        simp only [Option.bind_some, zi_rd (by omega : a < 60) (by omega : 60 < 2147483648), zi_rd (by omega : b < 60) (by omega : 60 < 2147483648), h1]
        cases zbar2 s a b <;> rfl
  · refine ze_q (A := f_X11_alike a1 a2) (B := f_X12_alike a1 a2) (r := -2147483648) h ?_ ?_
    · unfold f_X11_alike
      rw [zo_alike0 oR gR8 hc]
      rfl
    · unfold f_X12_alike j_X12_alike_40
      by_cases ha : zin a1 (nR s)
      · have hb : ¬ zin a2 (nR s) := fun q => hc ⟨ha, q⟩
        obtain ⟨a, ha, rfl⟩ := ha
        rw [zm_isRecordt gR gR8 ha, zm_isRecordf gR gR8 hb]
        rfl
      · rw [zm_isRecordf gR gR8 ha]
        rfl
theorem ze_9 : ∀ (a1 : Int32) (s : yb_S), zInv s → ∃ (r : Int32) (s1 s2 : yb_S), (f_X11_match a1 s = some r ∧ s1 = s) ∧ (f_X12_match a1 s1 = some r ∧ s2 = s1) ∧ zInv s2 := by
  intro a1 s h
  obtain ⟨-, -, -, ⟨gR, gR8, oR⟩, -⟩ := zg h
  have hR : zRr s s := h.2.1.2.2.2.2.2.1
  by_cases hc : zin a1 (nR s)
  · obtain ⟨a, ha, rfl⟩ := hc
    refine ze_q (A := f_X11_match (zi a)) (B := f_X12_match (zi a)) (r := zix (zmt s a (nR s))) h ?_ (zm_match gR gR8 ha)
    unfold f_X11_match
    rw [zo_matchOf hR rfl oR gR8 ha]
    rfl
  · refine ze_q (A := f_X11_match a1) (B := f_X12_match a1) (r := -1) h ?_ (zm_match0 gR gR8 hc)
    unfold f_X11_match
    rw [zo_match0 oR gR8 hc]
    rfl
theorem ze_10 : ∀ (a1 : Int32) (s : yb_S), zInv s → ∃ (r : Int32) (s1 s2 : yb_S), (f_X11_rivals a1 s = some r ∧ s1 = s) ∧ (f_X12_rivals a1 s1 = some r ∧ s2 = s1) ∧ zInv s2 := by
  intro a1 s h
  obtain ⟨-, -, -, ⟨gR, gR8, oR⟩, -⟩ := zg h
  have hR : zRr s s := h.2.1.2.2.2.2.2.1
  by_cases hc : zin a1 (nR s)
  · obtain ⟨a, ha, rfl⟩ := hc
    cases hz : zmt s a (nR s) with
    | none =>
      refine ze_q (A := f_X11_rivals (zi a)) (B := f_X12_rivals (zi a)) (r := -1) h ?_ ?_
      · unfold f_X11_rivals
        rw [zo_matchOf hR rfl oR gR8 ha, hz]
        rfl
      · unfold f_X12_rivals
        rw [zm_match gR gR8 ha, hz]
        rfl
    | some b =>
      have hb := (zmt_ok hz).1
      refine ze_q (A := f_X11_rivals (zi a)) (B := f_X12_rivals (zi a)) (r := zriv s a b (nR s)) h ?_ (zm_riv gR gR8 ha hz)
      unfold f_X11_rivals
      rw [zo_matchOf hR rfl oR gR8 ha, hz, Option.bind_some, if_neg (by rw [show zix (some b) = zi b from rfl, show (-1 : Int32) = zm from rfl, zi_eqm (by omega)]; exact id), show zix (some b) = zi b from rfl, zo_riv hR rfl oR gR8 ha hz]
      rfl
  · refine ze_q (A := f_X11_rivals a1) (B := f_X12_rivals a1) (r := -1) h ?_ ?_
    · unfold f_X11_rivals
      rw [zo_match0 oR gR8 hc]
      rfl
    · unfold f_X12_rivals
      rw [zm_match0 gR gR8 hc]
      rfl
theorem ze_13 : ∀ (a1 a2 : Int32) (s : yb_S), zInv s → ∃ (r : Int32) (s1 s2 : yb_S), (f_X11_same a1 a2 s = some r ∧ s1 = s) ∧ (f_X12_same a1 a2 s1 = some r ∧ s2 = s1) ∧ zInv s2 := by
  intro a1 a2 s h
  obtain ⟨-, -, -, ⟨gR, gR8, oR⟩, -⟩ := zg h
  have hR : zRr s s := h.2.1.2.2.2.2.2.1
  by_cases hc : zin a1 (nR s) ∧ zin a2 (nR s)
  · obtain ⟨⟨a, ha, rfl⟩, ⟨b, hb, rfl⟩⟩ := hc
    have ea := hR.2.2.1 a (by omega)
    have eb := hR.2.2.1 b (by omega)
    refine ze_q (A := f_X11_same (zi a) (zi b)) (B := f_X12_same (zi a) (zi b)) (r := if s.1 213 a = s.1 213 b then 1 else 0) h ?_ ?_
    · unfold f_X11_same
      rw [zo_has7t oR gR8 ha, zo_has7t oR gR8 hb]
      simp (disch := omega) only [ea.2.2.2.2.2.2, eb.2.2.2.2.2.2, ↓zmd, zl, zi_div, zi_rem, zi_lt, zi_le, zi_inj, zi_add, zi_sub, zi_addm, zi_eqm, zi_meq, zi_mlt, zi_ltm, zi_lem, zi_mle, zi_tn, zi_rd, zi_wr, zi_rl, zi_wl, zi_ri, zu_ne, zu_nef, zu_eq, zu_id, zu_rl, zu_rdL, zu_neL, zu_idL, Option.bind_some, ↓reduceIte, Nat.reduceEqDiff, if_pos, if_neg]
      split <;> rfl
    · unfold f_X12_same
      rw [zm_isRecordt gR gR8 ha, zm_isRecordt gR gR8 hb]
      simp (disch := omega) only [↓zmd, zl, zi_div, zi_rem, zi_lt, zi_le, zi_inj, zi_add, zi_sub, zi_addm, zi_eqm, zi_meq, zi_mlt, zi_ltm, zi_lem, zi_mle, zi_tn, zi_rd, zi_wr, zi_rl, zi_wl, zi_ri, zu_ne, zu_nef, zu_eq, zu_id, zu_rl, zu_rdL, zu_neL, zu_idL, Option.bind_some, ↓reduceIte, Nat.reduceEqDiff, if_pos, if_neg]
      split <;> rfl
  · refine ze_q (A := f_X11_same a1 a2) (B := f_X12_same a1 a2) (r := 0) h ?_ ?_
    · unfold f_X11_same
      by_cases ha : zin a1 (nR s)
      · have hb : ¬ zin a2 (nR s) := fun q => hc ⟨ha, q⟩
        obtain ⟨a, ha, rfl⟩ := ha
        rw [zo_has7t oR gR8 ha, zo_has7f oR gR8 hb]
        rfl
      · rw [zo_has7f oR gR8 ha]
        rfl
    · unfold f_X12_same
      by_cases ha : zin a1 (nR s)
      · have hb : ¬ zin a2 (nR s) := fun q => hc ⟨ha, q⟩
        obtain ⟨a, ha, rfl⟩ := ha
        rw [zm_isRecordt gR gR8 ha, zm_isRecordf gR gR8 hb]
        rfl
      · rw [zm_isRecordf gR gR8 ha]
        rfl
