/-! boats and beds foretold, added up -/
theorem zs_upA {α β : Type} {F : (α → Option β) → α → Option β} (A : Nat → α) (m : Nat) (r : β) (h : ∀ (k : Nat) (rc : α → Option β), k < m → F rc (A k) = rc (A (k + 1))) (hx : ∀ rc : α → Option β, F rc (A m) = some r) (n k : Nat) (a : α) (e : a = A k) (h1 : k ≤ m) (h2 : m - k < n) : yb_it F n a = some r := by
  rw [e]
  exact zs_upE A m r h hx n k h1 h2
def zCol (M : yb_S) (a b n : Nat) (d : Nat) : Int32 := zsum (fun k => cond (M.1 a k == zi d) (M.1 b k) 0) n
def zUpto (M : yb_S) (a b n : Nat) (d : Nat) : Int32 := zsum (fun k => cond (decide (M.1 176 7 ≤ M.1 a k) && decide (M.1 a k < zi d)) (M.1 b k) 0) n
theorem zUpto_0 {M : yb_S} (hW : zW M) {a b n : Nat} (hg : ∀ k, k < n → ∃ d, d ≤ 200 ∧ M.1 a k = zi d) : zUpto M a b n (nD M) = 0 := by
  have h9 := zw_D8 hW
  unfold zUpto
  have : ∀ m, m ≤ n → zsum (fun k => cond (decide (M.1 176 7 ≤ M.1 a k) && decide (M.1 a k < zi (nD M))) (M.1 b k) 0) m = 0 := by
    intro m
    induction m with
    | zero => intro _; rfl
    | succ m ih =>
      intro hm
      obtain ⟨d, hd, e⟩ := hg m (by omega)
      rw [zsum_succ, ih (by omega)]
      simp (disch := omega) only [zw_D hW, e, zi_le, zi_lt]
      by_cases q : nD M ≤ d
      · simp [q, show ¬ d < nD M by omega]
      · simp [q]
  exact this n (Nat.le_refl _)
theorem zUpto_s {M : yb_S} (hW : zW M) {a b n d : Nat} (hg : ∀ k, k < n → ∃ d, d ≤ 200 ∧ M.1 a k = zi d) (hd : nD M ≤ d) (hd2 : d ≤ 200) : zUpto M a b n (d + 1) = zUpto M a b n d + zCol M a b n d := by
  have h9 := zw_D8 hW
  unfold zUpto zCol
  rw [zsum_add]
  refine zsum_congr fun k hk => ?_
  obtain ⟨e, he, q⟩ := hg k hk
  simp (disch := omega) only [zw_D hW, q, zc_b, zi_le, zi_lt, zi_inj]
  by_cases q1 : nD M ≤ e
  · by_cases q2 : e < d
    · simp [q1, q2, show e < d + 1 by omega, show ¬ e = d by omega]
    · by_cases q3 : e = d
      · simp [q1, q3, hd]
      · simp [q1, q2, q3, show ¬ e < d + 1 by omega]
  · simp [q1, show ¬ e = d by omega, zc_b, bne]
theorem zw_gB {M : yb_S} (hW : zW M) : ∀ k, k < nB M → ∃ d, d ≤ 200 ∧ M.1 598 k = zi d := hW.2.2.2.2.2.2.2.2.2.2.2.2.2.1
theorem zw_gG {M : yb_S} (hW : zW M) : ∀ k, k < nG M → ∃ d, d ≤ 200 ∧ M.1 601 k = zi d := hW.2.2.2.2.2.2.2.2.2.2.2.2.2.2
/-- heads above beds on a day -/
def zHds (M : yb_S) (hi : Bool) (d : Nat) : Int32 := zHall M + zUpto M 598 (cond hi 600 599) (nB M) d
def zBds (M : yb_S) (d : Nat) : Int32 := M.1 176 8 + zUpto M 601 602 (nG M) d
def zAbv (M : yb_S) (hi : Bool) (d : Nat) : Int32 := zHds M hi (d + 1) - (if 0 ≤ zBds M (d + 1) then zBds M (d + 1) else 0)
theorem zmax_0 (x : Int32) : yb_max 0 x = if 0 ≤ x then x else 0 := by
  unfold yb_max
  by_cases q : 0 < x
  · rw [if_pos q, if_pos (Int32.le_of_lt q)]
  · rw [if_neg q]
    by_cases q2 : 0 ≤ x
    · rw [if_pos q2]
      exact Int32.le_antisymm q2 (Int32.not_lt.mp q)
    · rw [if_neg q2]
theorem zm_lacks {M o s : yb_S} (hW : zW M) (hQ : zQ M o s) {d : Nat} {hi : Bool} (hd : d ≤ 200) : f_X12_lacks (zi d) (zb hi) s = some (zAbv M hi d) := by
  have h9 := zw_D8 hW
  have h10 := zw_B8 hW
  have h11 := zw_G8 hW
  have h2 : ∀ (n : Nat) (x3 : Int32), l_X12_lacks_77 (zi d) x3 s yb_N (M.1 176 8) (zi 0) = some (x3 - (if 0 ≤ zBds M (d + 1) then zBds M (d + 1) else 0)) := by
    intro _ x3
    unfold l_X12_lacks_77 zBds zUpto
    refine zs_upA (fun k => (M.1 176 8 + zsum (fun k => cond (decide (M.1 176 7 ≤ M.1 601 k) && decide (M.1 601 k < zi (d + 1))) (M.1 602 k) 0) k, zi k)) (nG M) _ ?_ ?_ yb_N 0 _ (by rw [zsum_0, Int32.add_zero] <;> rfl) (Nat.zero_le _) (by unfold yb_N; omega)
    · intro k rc hk
      obtain ⟨e, he, q⟩ := zw_gG hW k hk
      show f_X12_lacks_77 _ _ _ _ (M.1 176 8 + zsum _ k) (zi k) = _
      unfold f_X12_lacks_77 j_X12_lacks_119
      rw [zqk hQ (k := 85) (by omega), zw_G hW, if_neg (by rw [zi_le (by omega) (by omega)]; omega)]
      simp (disch := omega) only [zi_rd, Option.bind_some, zq hQ]
      rw [zqk hQ (k := 7) (by omega), z_in rfl rfl, zi_succ, zsum_succ]
      simp (disch := omega) only [q, zw_D hW, zi_le, zi_lt]
      by_cases q1 : nD M ≤ e
      · by_cases q2 : e ≤ d
        · simp [q1, q2, show e < d + 1 by omega, Int32.add_assoc]
        · simp [q2, show ¬ e < d + 1 by omega]
      · simp [q1]
    · intro rc
      show f_X12_lacks_77 _ _ _ _ (M.1 176 8 + zsum _ (nG M)) (zi (nG M)) = _
      unfold f_X12_lacks_77 j_X12_lacks_137
      rw [zqk hQ (by omega), zw_G hW, if_pos (Int32.le_refl _)]
      split <;> rfl
  unfold f_X12_lacks
  rw [zm_hall hW hQ, Option.bind_some, zqk hQ (by omega)]
  unfold l_X12_lacks_14 zAbv zHds zUpto
  refine zs_upA (fun k => (zHall M + zsum (fun k => cond (decide (M.1 176 7 ≤ M.1 598 k) && decide (M.1 598 k < zi (d + 1))) (M.1 (cond hi 600 599) k) 0) k, zi k)) (nB M) _ ?_ ?_ yb_N 0 _ (by rw [zsum_0, Int32.add_zero] <;> rfl) (Nat.zero_le _) (by unfold yb_N; omega)
  · intro k rc hk
    obtain ⟨e, he, q⟩ := zw_gB hW k hk
    show f_X12_lacks_14 _ _ _ _ _ (zHall M + zsum _ k) (zi k) = _
    unfold f_X12_lacks_14 j_X12_lacks_66 j_X12_lacks_68
    rw [zqk hQ (k := 84) (by omega), zw_B hW, if_neg (by rw [zi_le (by omega) (by omega)]; omega)]
    simp (disch := omega) only [zi_rd, Option.bind_some, zq hQ]
    rw [zqk hQ (k := 7) (by omega), z_in rfl rfl, zi_succ, zsum_succ]
    simp (disch := omega) only [q, zw_D hW, zi_le, zi_lt, zb_t0]
    by_cases q1 : nD M ≤ e
    · by_cases q2 : e ≤ d
      · cases hi
        · simp [q1, q2, show e < d + 1 by omega, Int32.add_assoc]
        · simp [q1, q2, show e < d + 1 by omega, Int32.add_assoc]
      · simp [q2, show ¬ e < d + 1 by omega]
    · simp [q1]
  · intro rc
    show f_X12_lacks_14 _ _ _ _ _ (zHall M + zsum _ (nB M)) (zi (nB M)) = _
    unfold f_X12_lacks_14
    rw [zqk hQ (by omega), zw_B hW, if_pos (Int32.le_refl _)]
    exact h2 0 _
/-- the greatest of the first n days from NOW on, and the first above 0 -/
def zMost (M : yb_S) (hi : Bool) : Nat → Int32
  | 0 => 0
  | n + 1 => if zAbv M hi (nD M + n) ≤ zMost M hi n then zMost M hi n else zAbv M hi (nD M + n)
theorem zMost_s {M : yb_S} {hi : Bool} {n : Nat} : zMost M hi (n + 1) = if zAbv M hi (nD M + n) ≤ zMost M hi n then zMost M hi n else zAbv M hi (nD M + n) := rfl
theorem zmx {x y : Int32} : yb_max x y = if y ≤ x then x else y := by
  unfold yb_max
  by_cases q : x < y
  · rw [if_pos q, if_neg (Int32.not_le.mpr q)]
  · rw [if_neg q, if_pos (Int32.not_lt.mp q)]
theorem cz_17 {M m s : yb_S} (h : zA M m s) {d : Nat} (hd : d < 201) : s.1 173 d = zCol M 598 599 (nB M) d ∧ s.1 174 d = zCol M 598 600 (nB M) d ∧ s.1 175 d = zCol M 601 602 (nG M) d := ⟨cq_173 h hd, cq_174 h hd, cq_175 h hd⟩
theorem zHds_s {M : yb_S} (hW : zW M) {hi : Bool} {d : Nat} (hd : nD M ≤ d) (hd2 : d ≤ 200) : zHds M hi d + zCol M 598 (cond hi 600 599) (nB M) d = zHds M hi (d + 1) := by
  unfold zHds
  rw [zUpto_s hW (zw_gB hW) hd hd2, Int32.add_assoc]
theorem zBds_s {M : yb_S} (hW : zW M) {d : Nat} (hd : nD M ≤ d) (hd2 : d ≤ 200) : zBds M d + zCol M 601 602 (nG M) d = zBds M (d + 1) := by
  unfold zBds
  rw [zUpto_s hW (zw_gG hW) hd hd2, Int32.add_assoc]
theorem zo_most {M m s : yb_S} (hW : zW M) (hA : zA M m s) {e : Nat} (he : nD M ≤ e) (he2 : e ≤ 200) : f_X3_mostAbove_174 (zHall M) (M.1 176 8) (zi (nD M)) (zi e) s = some (zMost M true (e + 1 - nD M)) ∧ f_X3_mostAbove_173 (zHall M) (M.1 176 8) (zi (nD M)) (zi e) s = some (zMost M false (e + 1 - nD M)) := by
  have h9 := zw_D8 hW
  have h0 : ∀ hi, zHds M hi (nD M) = zHall M := fun hi => by
    unfold zHds
    rw [zUpto_0 hW (zw_gB hW), Int32.add_zero]
  have h1 : zBds M (nD M) = M.1 176 8 := by
    unfold zBds
    rw [zUpto_0 hW (zw_gG hW), Int32.add_zero]
  constructor
  · unfold f_X3_mostAbove_174 l_X3_mostAbove_174_13
    rw [← h0 true, ← h1]
    refine zs_upE (fun k => (zHds M true (nD M + k), zBds M (nD M + k), zMost M true k, zi (nD M + k))) (e + 1 - nD M) _ ?_ ?_ yb_N 0 (Nat.zero_le _) (by unfold yb_N; omega)
    · intro k rc hk
      obtain ⟨c1, c2, c3⟩ := cz_17 hA (d := nD M + k) (by omega)
      show f_X3_mostAbove_174_13 _ _ _ (zHds M true (nD M + k)) (zBds M (nD M + k)) (zMost M true k) (zi (nD M + k)) = _
      unfold f_X3_mostAbove_174_13
      rw [if_neg (by rw [zi_lt (by omega) (by omega)]; omega), zi_rd (by omega) (by omega), Option.bind_some, zi_rd (by omega) (by omega), Option.bind_some, c2, c3, zi_succ, zBds_s hW (by omega) (by omega)]
      rw [show zHds M true (nD M + k) + zCol M 598 600 (nB M) (nD M + k) = zHds M true (nD M + k + 1) from zHds_s hW (hi := true) (by omega) (by omega), zmax_0, zmx, zMost_s]
      rfl
    · intro rc
      show f_X3_mostAbove_174_13 _ _ _ _ _ (zMost M true (e + 1 - nD M)) (zi (nD M + (e + 1 - nD M))) = _
      unfold f_X3_mostAbove_174_13
      rw [if_pos (by rw [zi_lt (by omega) (by omega)]; omega)]
  · unfold f_X3_mostAbove_173 l_X3_mostAbove_173_13
    rw [← h0 false, ← h1]
    refine zs_upE (fun k => (zHds M false (nD M + k), zBds M (nD M + k), zMost M false k, zi (nD M + k))) (e + 1 - nD M) _ ?_ ?_ yb_N 0 (Nat.zero_le _) (by unfold yb_N; omega)
    · intro k rc hk
      obtain ⟨c1, c2, c3⟩ := cz_17 hA (d := nD M + k) (by omega)
      show f_X3_mostAbove_173_13 _ _ _ (zHds M false (nD M + k)) (zBds M (nD M + k)) (zMost M false k) (zi (nD M + k)) = _
      unfold f_X3_mostAbove_173_13
      rw [if_neg (by rw [zi_lt (by omega) (by omega)]; omega), zi_rd (by omega) (by omega), Option.bind_some, zi_rd (by omega) (by omega), Option.bind_some, c1, c3, zi_succ, zBds_s hW (by omega) (by omega)]
      rw [show zHds M false (nD M + k) + zCol M 598 599 (nB M) (nD M + k) = zHds M false (nD M + k + 1) from zHds_s hW (hi := false) (by omega) (by omega), zmax_0, zmx, zMost_s]
      rfl
    · intro rc
      show f_X3_mostAbove_173_13 _ _ _ _ _ (zMost M false (e + 1 - nD M)) (zi (nD M + (e + 1 - nD M))) = _
      unfold f_X3_mostAbove_173_13
      rw [if_pos (by rw [zi_lt (by omega) (by omega)]; omega)]
def zFst (M : yb_S) (n : Nat) : Int32 := match zfind (fun k => !decide (zAbv M true (nD M + k) ≤ 0)) n with
  | some k => zi (nD M + k)
  | none => -1
theorem zo_first {M m s : yb_S} (hW : zW M) (hA : zA M m s) {e : Nat} (he : nD M ≤ e) (he2 : e ≤ 200) : f_X3_firstAbove (zHall M) (M.1 176 8) (zi (nD M)) (zi e) s = some (zFst M (e + 1 - nD M)) := by
  have h9 := zw_D8 hW
  have h0 : ∀ hi, zHds M hi (nD M) = zHall M := fun hi => by
    unfold zHds
    rw [zUpto_0 hW (zw_gB hW), Int32.add_zero]
  have h1 : zBds M (nD M) = M.1 176 8 := by
    unfold zBds
    rw [zUpto_0 hW (zw_gG hW), Int32.add_zero]
  unfold f_X3_firstAbove l_X3_firstAbove_9 zFst
  rw [← h0 true, ← h1]
  refine zs_exE (fun k => (zHds M true (nD M + k), zBds M (nD M + k), zi (nD M + k))) (e + 1 - nD M) _ (fun k => ∀ x, x < k → (!decide (zAbv M true (nD M + x) ≤ 0)) = false) ?_ ?_ yb_N 0 (Nat.zero_le _) (by unfold yb_N; omega) (fun x hx => absurd hx (Nat.not_lt_zero _))
  · intro k rc hk hI
    obtain ⟨c1, c2, c3⟩ := cz_17 hA (d := nD M + k) (by omega)
    have hgo : (!decide (zAbv M true (nD M + k) ≤ 0)) = false → ∀ x, x < k + 1 → (!decide (zAbv M true (nD M + x) ≤ 0)) = false := fun q x hx => by
      by_cases e : x = k
      · rw [e]
        exact q
      · exact hI x (by omega)
    show f_X3_firstAbove_9 _ _ _ (zHds M true (nD M + k)) (zBds M (nD M + k)) (zi (nD M + k)) = _ ∨ f_X3_firstAbove_9 _ _ _ (zHds M true (nD M + k)) (zBds M (nD M + k)) (zi (nD M + k)) = _ ∧ _
    unfold f_X3_firstAbove_9
    rw [if_neg (by rw [zi_lt (by omega) (by omega)]; omega), zi_rd (by omega) (by omega), Option.bind_some, zi_rd (by omega) (by omega), Option.bind_some, c2, c3, zi_succ, zBds_s hW (by omega) (by omega)]
    rw [show zHds M true (nD M + k) + zCol M 598 600 (nB M) (nD M + k) = zHds M true (nD M + k + 1) from zHds_s hW (hi := true) (by omega) (by omega), zmax_0]
    rw [show zHds M true (nD M + k + 1) - (if 0 ≤ zBds M (nD M + k + 1) then zBds M (nD M + k + 1) else 0) = zAbv M true (nD M + k) from rfl]
    by_cases q : zAbv M true (nD M + k) ≤ 0
    · right
      rw [if_pos q]
      exact ⟨rfl, hgo (by simp [q])⟩
    · left
      rw [if_neg q, zfind_t hk hI (by simp [q])]
  · intro hI rc
    show f_X3_firstAbove_9 _ _ _ _ _ (zi (nD M + (e + 1 - nD M))) = _
    unfold f_X3_firstAbove_9
    rw [if_pos (by rw [zi_lt (by omega) (by omega)]; omega), zfind_n hI]
theorem ze_40 : ∀ (a1 a2 : Int32) (s : yb_S), zInv s → ∃ (r : Int32) (s1 s2 : yb_S), (f_X11_worst a1 a2 s = some r ∧ s1 = s) ∧ (f_X12_worst a1 a2 s1 = some r ∧ s2 = s1) ∧ zInv s2 := by
  intro a1 a2 s h
  have hW := h.1
  have h9 := zw_D8 hW
  by_cases hc : ∃ e, nD (zP s) ≤ e ∧ e ≤ 200 ∧ a1 = zi e
  · obtain ⟨e, he, he2, rfl⟩ := hc
    have hahead : ∀ m t, zA (zP s) m t → f_X11_isAhead (zi e) t = some 1 := fun m t hA => by
      unfold f_X11_isAhead
      rw [cq_D hA, zw_D hW, if_neg (by rw [zi_lt (by omega) (by omega)]; omega), if_neg (by rw [show (200 : Int32) = zi 200 from rfl, zi_lt (by omega) (by omega)]; omega)]
    have hin : ∀ o t, zQ (zP s) o t → ∀ f : Int32 → Option Int32, (f_X12_in (zi e).toInt64 (t.1 176 7).toInt64 200 t).bind f = f 1 := fun o t hQ f => by
      rw [zqk hQ (by omega), zw_D hW, z_inZ (a := nD (zP s)) (b := 200) rfl (by decide) (by omega) (by omega) (by decide), if_pos ⟨he, he2⟩]
    have hstep : ∀ o t, zQ (zP s) o t → ∀ k, k < e + 1 - nD (zP s) → ∀ (hi : Bool) (f : Int32 → Option Int32), (f_X12_lacks (zi (nD (zP s) + k)) (zb hi) t).bind f = f (zAbv (zP s) hi (nD (zP s) + k)) := fun o t hQ k hk hi f => by
      rw [zm_lacks hW hQ (by omega), Option.bind_some]
    by_cases h1 : a2 = 1
    · subst h1
      refine z_ask0 (A := f_X11_worst (zi e) 1) (B := f_X12_worst (zi e) 1) h (zFst (zP s) (e + 1 - nD (zP s))) (fun m t hA => ?_) (fun o t hQ => ?_)
      · unfold f_X11_worst
        rw [hahead m t hA, Option.bind_some, if_neg (by decide), zo_headsIn hW hA, Option.bind_some, if_neg (by decide), if_pos rfl, cq_N hA, cq_D hA, zw_D hW, zo_first hW hA he he2]
        rfl
      · unfold f_X12_worst
        rw [hin o t hQ, if_neg (by decide), z_in (l := 0) (h := 2) (lo := 0) (hi := 2) (by decide) (by decide), if_pos (by decide), if_neg (by decide), zqk hQ (by omega), zw_D hW]
        unfold l_X12_worst_38 zFst
        refine zs_exE (fun k => ((0 : Int32), zi (nD (zP s) + k))) (e + 1 - nD (zP s)) _ (fun k => ∀ x, x < k → (!decide (zAbv (zP s) true (nD (zP s) + x) ≤ 0)) = false) ?_ ?_ yb_N 0 (Nat.zero_le _) (by unfold yb_N; omega) (fun x hx => absurd hx (Nat.not_lt_zero _))
        · intro k rc hk hI
          have hgo : (!decide (zAbv (zP s) true (nD (zP s) + k) ≤ 0)) = false → ∀ x, x < k + 1 → (!decide (zAbv (zP s) true (nD (zP s) + x) ≤ 0)) = false := fun q x hx => by
            by_cases e : x = k
            · rw [e]
              exact q
            · exact hI x (by omega)
          show f_X12_worst_38 _ _ _ _ 0 (zi (nD (zP s) + k)) = _ ∨ f_X12_worst_38 _ _ _ _ 0 (zi (nD (zP s) + k)) = _ ∧ _
          unfold f_X12_worst_38 j_X12_worst_57 j_X12_worst_75 j_X12_worst_84
          rw [if_neg (by rw [zi_lt (by omega) (by omega)]; omega), if_neg (by decide), show (1 : Int32) = zb true from rfl, hstep o t hQ k hk true, if_pos rfl, show zb true = (1 : Int32) from rfl, zi_succ]
          by_cases q : zAbv (zP s) true (nD (zP s) + k) ≤ 0
          · right
            rw [if_pos q, if_pos q]
            exact ⟨rfl, hgo (by simp [q])⟩
          · left
            rw [if_neg q, zfind_t hk hI (by simp [q])]
        · intro hI rc
          show f_X12_worst_38 _ _ _ _ 0 (zi (nD (zP s) + (e + 1 - nD (zP s)))) = _
          unfold f_X12_worst_38
          rw [if_pos (by rw [zi_lt (by omega) (by omega)]; omega), if_pos rfl, zfind_n hI]
    · by_cases h02 : a2 = 0 ∨ a2 = 2
      · have hm : ∀ hi, (a2 = 0 ∧ hi = true ∨ a2 = 2 ∧ hi = false) → ∀ o t, zQ (zP s) o t → f_X12_worst (zi e) a2 t = some (zMost (zP s) hi (e + 1 - nD (zP s))) := by
          intro hi hhi o t hQ
          have hin2 : (f_X12_in a2.toInt64 0 2 t).bind (fun q4 => if q4 = 0 then some (-1 : Int32) else l_X12_worst_38 (zi e) a2 t yb_N 0 (t.1 176 7)) = l_X12_worst_38 (zi e) a2 t yb_N 0 (t.1 176 7) := by
            rw [z_in (l := 0) (h := 2) (lo := 0) (hi := 2) (by decide) (by decide), if_pos (by rcases h02 with rfl | rfl <;> decide), if_neg (by decide)]
          unfold f_X12_worst
          rw [hin o t hQ, if_neg (by decide), hin2, zqk hQ (by omega), zw_D hW]
          unfold l_X12_worst_38
          refine zs_upE (fun k => (zMost (zP s) hi k, zi (nD (zP s) + k))) (e + 1 - nD (zP s)) _ ?_ ?_ yb_N 0 (Nat.zero_le _) (by unfold yb_N; omega)
          · intro k rc hk
            show f_X12_worst_38 _ _ _ _ (zMost (zP s) hi k) (zi (nD (zP s) + k)) = _
            unfold f_X12_worst_38 j_X12_worst_57 j_X12_worst_75 j_X12_worst_84
            have hw : (if (2 : Int32) ≤ a2 then (f_X12_lacks (zi (nD (zP s) + k)) 0 t) else (f_X12_lacks (zi (nD (zP s) + k)) 1 t)) = some (zAbv (zP s) hi (nD (zP s) + k)) := by
              rcases hhi with ⟨rfl, rfl⟩ | ⟨rfl, rfl⟩
              · rw [if_neg (by decide)]
                exact zm_lacks hW hQ (hi := true) (by omega)
              · rw [if_pos (by decide)]
                exact zm_lacks hW hQ (hi := false) (by omega)
            rw [if_neg (by rw [zi_lt (by omega) (by omega)]; omega), zi_succ]
            have hw2 : ∀ f : Int32 → Option Int32, (if (2 : Int32) ≤ a2 then (f_X12_lacks (zi (nD (zP s) + k)) 0 t).bind f else (f_X12_lacks (zi (nD (zP s) + k)) 1 t).bind f) = f (zAbv (zP s) hi (nD (zP s) + k)) := fun f => by
              rw [← Option.bind_some (f := f), ← hw]
              split <;> rfl
            rw [hw2, if_neg h1, zMost_s]
            split <;> rfl
          · intro rc
            show f_X12_worst_38 _ _ _ _ (zMost (zP s) hi (e + 1 - nD (zP s))) (zi (nD (zP s) + (e + 1 - nD (zP s)))) = _
            unfold f_X12_worst_38
            rw [if_pos (by rw [zi_lt (by omega) (by omega)]; omega), if_neg h1]
        rcases h02 with rfl | rfl
        · refine z_ask0 (A := f_X11_worst (zi e) 0) (B := f_X12_worst (zi e) 0) h _ (fun m t hA => ?_) (hm true (Or.inl ⟨rfl, rfl⟩))
          unfold f_X11_worst
          rw [hahead m t hA, Option.bind_some, if_neg (by decide), zo_headsIn hW hA, Option.bind_some, if_pos rfl, cq_N hA, cq_D hA, zw_D hW, (zo_most hW hA he he2).1]
          rfl
        · refine z_ask0 (A := f_X11_worst (zi e) 2) (B := f_X12_worst (zi e) 2) h _ (fun m t hA => ?_) (hm false (Or.inr ⟨rfl, rfl⟩))
          unfold f_X11_worst
          rw [hahead m t hA, Option.bind_some, if_neg (by decide), zo_headsIn hW hA, Option.bind_some, if_neg (by decide), if_neg (by decide), if_pos rfl, cq_N hA, cq_D hA, zw_D hW, (zo_most hW hA he he2).2]
          rfl
      · refine z_ask0 (A := f_X11_worst (zi e) a2) (B := f_X12_worst (zi e) a2) h (-1) (fun m t hA => ?_) (fun o t hQ => ?_)
        · unfold f_X11_worst
          rw [hahead m t hA, Option.bind_some, if_neg (by decide), zo_headsIn hW hA, Option.bind_some, if_neg (fun q => h02 (Or.inl q)), if_neg h1, if_neg (fun q => h02 (Or.inr q))]
        · unfold f_X12_worst
          rw [hin o t hQ, if_neg (by decide), z_in (l := 0) (h := 2) (lo := 0) (hi := 2) (by decide) (by decide), if_neg, if_pos rfl]
          rintro ⟨q1, q2⟩
          rcases zin_3.mp ⟨q1, Int32.le_trans q2 (by decide)⟩ with q | q | q | q
          · exact h02 (Or.inl q)
          · exact h1 q
          · exact h02 (Or.inr q)
          · rw [q] at q2
            exact absurd q2 (by decide)
  · refine z_ask0 (A := f_X11_worst a1 a2) (B := f_X12_worst a1 a2) h (-1) (fun m t hA => ?_) (fun o t hQ => ?_)
    · have : f_X11_isAhead a1 t = some 0 := by
        unfold f_X11_isAhead
        rw [cq_D hA, zw_D hW]
        rcases zi_cases a1 with q | ⟨k, hk, rfl⟩
        · rw [if_pos (Int32.lt_of_lt_of_le q (by rw [zi_le (by omega) (by omega)]; omega))]
        · simp (disch := omega) only [show (200 : Int32) = zi 200 from rfl, zi_lt]
          by_cases q1 : k < nD (zP s)
          · rw [if_pos q1]
          · rw [if_neg q1, if_pos (Nat.lt_of_not_le fun q => hc ⟨k, by omega, q, rfl⟩)]
      unfold f_X11_worst
      rw [this]
      rfl
    · unfold f_X12_worst
      rw [zqk hQ (by omega), zw_D hW]
      rcases zi_cases a1 with q | ⟨k, hk, rfl⟩
      · rw [z_inN q (by rw [show (0 : Int64) = (zi 0).toInt64 from rfl, z64_le, zi_le (by omega) (by omega)]; omega), if_pos rfl]
      · rw [z_inZ (a := nD (zP s)) (b := 200) rfl (by decide) (by omega) (by omega) (by decide), if_neg (fun q => hc ⟨k, q.1, q.2, rfl⟩), if_pos rfl]
