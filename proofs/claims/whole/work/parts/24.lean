/-! the reference's sums over families and homes -/
theorem zTown_1 {M : yb_S} {f h : Nat} (h1 : M.1 195 f = 1) (e : M.1 196 f = zi h) (hh : h < 2147483648) : zTown M f = M.1 183 h := by
  unfold zTown
  rw [h1, e, zi_tn hh]
  rfl
theorem zTown_0 {M : yb_S} {f : Nat} (h1 : M.1 195 f ≠ 1) : zTown M f = -1 := by
  unfold zTown
  rw [show (M.1 195 f == 1) = false from beq_eq_false_iff_ne.mpr h1]
  rfl
theorem zTown_in {M : yb_S} (hW : zW M) {f : Nat} (hf : f < nF M) : (zTown M f = -1 ∧ M.1 195 f ≠ 1 ∧ M.1 196 f = -1) ∨ ∃ t, t < nT M ∧ zTown M f = zi t ∧ M.1 195 f = 1 ∧ ∃ h, h < nH M ∧ M.1 196 f = zi h ∧ M.1 183 h = zi t := by
  have h8 := zw_H8 hW
  rcases (zw_f hW hf).2.2.2.1 with ⟨h1, h, hh, e⟩ | ⟨h1, e⟩
  · obtain ⟨t, ht, e2⟩ := (zw_h hW hh).1
    exact Or.inr ⟨t, ht, (zTown_1 h1 e (by omega)).trans e2, h1, h, hh, e, e2⟩
  · exact Or.inl ⟨zTown_0 h1, h1, e⟩
theorem zm_isHoused {M o s : yb_S} (hW : zW M) (hQ : zQ M o s) {f : Nat} (hf : f < nF M) : f_X12_isHoused (zi f) s = some (zb (M.1 195 f == 1)) := by
  have h8 := zw_F8 hW
  unfold f_X12_isHoused
  rw [zi_rd (by omega) (by omega), Option.bind_some, zq hQ (by omega)]
  by_cases h1 : M.1 195 f = 1
  · rw [if_pos h1, h1]
    rfl
  · rw [if_neg h1, show (M.1 195 f == 1) = false from beq_eq_false_iff_ne.mpr h1]
    rfl
theorem zm_townFor {M o s : yb_S} (hW : zW M) (hQ : zQ M o s) {f : Nat} (hf : f < nF M) : f_X12_townFor (zi f) s = some (zTown M f) := by
  have h8 := zw_F8 hW
  have h9 := zw_H8 hW
  unfold f_X12_townFor
  rw [zm_isHoused hW hQ hf, Option.bind_some]
  rcases zTown_in hW hf with ⟨e, h1, -⟩ | ⟨t, ht, e, h1, h, hh, e1, e2⟩
  · rw [show (M.1 195 f == 1) = false from beq_eq_false_iff_ne.mpr h1, e]
    rfl
  · rw [h1, e]
    rw [if_neg (by decide), zi_rd (by omega) (by omega), Option.bind_some, zq hQ (by omega), e1, zi_rd (by omega) (by omega), Option.bind_some, zq hQ (by omega), e2]
theorem zm_pupilsIn {M o s : yb_S} (hW : zW M) (hQ : zQ M o s) {t but : Int32} : f_X12_pupilsIn t but s = some (zPup M t but) := by
  have h8 := zw_F8 hW
  unfold f_X12_pupilsIn l_X12_pupilsIn_5 zPup
  refine zs_upE (fun k => (zsum (fun f => cond (zi f != but && zTown M f == t) (M.1 190 f) 0) k, zi k)) (nF M) _ ?_ ?_ yb_N 0 (Nat.zero_le _) (by unfold yb_N; omega)
  · intro k rc hk
    show f_X12_pupilsIn_5 _ _ _ _ (zsum _ k) (zi k) = _
    unfold f_X12_pupilsIn_5 j_X12_pupilsIn_41 j_X12_pupilsIn_42
    rw [zm_townFor hW hQ hk, zsum_succ]
    simp (disch := omega) only [zqk hQ, zq hQ, zw_F hW, zi_le, zi_rd, Option.bind_some, zi_succ, if_neg]
    by_cases h1 : zi k = but
    · simp [h1, zc_b, bne]
    · by_cases h2 : zTown M k = t
      · simp [h1, h2, zc_b, bne]
      · simp [h1, h2, zc_b, bne]
  · intro rc
    show f_X12_pupilsIn_5 _ _ _ _ (zsum _ (nF M)) (zi (nF M)) = _
    unfold f_X12_pupilsIn_5
    rw [zqk hQ (by omega), zw_F hW, if_pos (Int32.le_refl _)]
theorem zm_headsIn {M o s : yb_S} (hW : zW M) (hQ : zQ M o s) {t : Int32} : f_X12_headsIn t s = some (zHeads M t) := by
  have h8 := zw_F8 hW
  unfold f_X12_headsIn l_X12_headsIn_4 zHeads
  refine zs_upE (fun k => (zsum (fun f => cond (zTown M f == t) (M.1 189 f) 0) k, zi k)) (nF M) _ ?_ ?_ yb_N 0 (Nat.zero_le _) (by unfold yb_N; omega)
  · intro k rc hk
    show f_X12_headsIn_4 _ _ _ (zsum _ k) (zi k) = _
    unfold f_X12_headsIn_4 j_X12_headsIn_32
    rw [zm_townFor hW hQ hk, zsum_succ]
    simp (disch := omega) only [zqk hQ, zq hQ, zw_F hW, zi_le, zi_rd, Option.bind_some, zi_succ, if_neg]
    by_cases h2 : zTown M k = t
    · simp [h2, zc_b, bne]
    · simp [h2, zc_b, bne]
  · intro rc
    show f_X12_headsIn_4 _ _ _ (zsum _ (nF M)) (zi (nF M)) = _
    unfold f_X12_headsIn_4
    rw [zqk hQ (by omega), zw_F hW, if_pos (Int32.le_refl _)]
theorem zm_roomsIn {M o s : yb_S} (hW : zW M) (hQ : zQ M o s) {t : Int32} : f_X12_roomsIn t s = some (zRooms M t) := by
  have h8 := zw_H8 hW
  unfold f_X12_roomsIn l_X12_roomsIn_4 zRooms
  refine zs_upE (fun k => (zsum (fun h => cond (M.1 183 h == t) (M.1 184 h) 0) k, zi k)) (nH M) _ ?_ ?_ yb_N 0 (Nat.zero_le _) (by unfold yb_N; omega)
  · intro k rc hk
    show f_X12_roomsIn_4 _ _ _ (zsum _ k) (zi k) = _
    unfold f_X12_roomsIn_4 j_X12_roomsIn_33
    rw [zsum_succ]
    simp (disch := omega) only [zqk hQ, zq hQ, zw_H hW, zi_le, zi_rd, Option.bind_some, zi_succ, if_neg]
    by_cases h2 : M.1 183 k = t
    · simp [h2, zc_b, bne]
    · simp [h2, zc_b, bne]
  · intro rc
    show f_X12_roomsIn_4 _ _ _ (zsum _ (nH M)) (zi (nH M)) = _
    unfold f_X12_roomsIn_4
    rw [zqk hQ (by omega), zw_H hW, if_pos (Int32.le_refl _)]
theorem zm_there {M o s : yb_S} (hW : zW M) (hQ : zQ M o s) : f_X12_headsThere s = some (zThere M) := by
  have h8 := zw_F8 hW
  unfold f_X12_headsThere l_X12_headsThere_4 zThere
  refine zs_upE (fun k => (zsum (fun f => cond (M.1 195 f == 2) 0 (M.1 189 f)) k, zi k)) (nF M) _ ?_ ?_ yb_N 0 (Nat.zero_le _) (by unfold yb_N; omega)
  · intro k rc hk
    show f_X12_headsThere_4 _ _ (zsum _ k) (zi k) = _
    unfold f_X12_headsThere_4 j_X12_headsThere_33
    rw [zsum_succ]
    simp (disch := omega) only [zqk hQ, zq hQ, zw_F hW, zi_le, zi_rd, Option.bind_some, zi_succ, if_neg]
    by_cases h2 : M.1 195 k = 2
    · simp [h2, zc_b, bne]
    · simp [h2, zc_b, bne]
  · intro rc
    show f_X12_headsThere_4 _ _ (zsum _ (nF M)) (zi (nF M)) = _
    unfold f_X12_headsThere_4
    rw [zqk hQ (by omega), zw_F hW, if_pos (Int32.le_refl _)]
theorem zm_hall {M o s : yb_S} (hW : zW M) (hQ : zQ M o s) : f_X12_hallHeads s = some (zHall M) := by
  have h8 := zw_F8 hW
  unfold f_X12_hallHeads l_X12_hallHeads_4 zHall
  refine zs_upE (fun k => (zsum (fun f => cond (M.1 195 f == 0) (M.1 189 f) 0) k, zi k)) (nF M) _ ?_ ?_ yb_N 0 (Nat.zero_le _) (by unfold yb_N; omega)
  · intro k rc hk
    show f_X12_hallHeads_4 _ _ (zsum _ k) (zi k) = _
    unfold f_X12_hallHeads_4 j_X12_hallHeads_32
    rw [zsum_succ]
    simp (disch := omega) only [zqk hQ, zq hQ, zw_F hW, zi_le, zi_rd, Option.bind_some, zi_succ, if_neg]
    by_cases h2 : M.1 195 k = 0
    · simp [h2, zc_b, bne]
    · simp [h2, zc_b, bne]
  · intro rc
    show f_X12_hallHeads_4 _ _ (zsum _ (nF M)) (zi (nF M)) = _
    unfold f_X12_hallHeads_4
    rw [zqk hQ (by omega), zw_F hW, if_pos (Int32.le_refl _)]
/-! who finds whom, in the reference -/
def zany (p : Nat → Bool) : Nat → Bool
  | 0 => false
  | n + 1 => zany p n || p n
theorem zany_range {p : Nat → Bool} : ∀ {n : Nat}, (List.range n).any p = zany p n
  | 0 => rfl
  | n + 1 => by
    rw [List.range_succ, List.any_append, zany_range (n := n)]
    show (_ || (p n || false)) = _
    rw [Bool.or_false]
    rfl
theorem zany_t {p : Nat → Bool} : ∀ {n : Nat}, zany p n = true ↔ ∃ k, k < n ∧ p k = true
  | 0 => by simp [zany]
  | n + 1 => by
    show (zany p n || p n) = true ↔ _
    rw [Bool.or_eq_true, zany_t (n := n)]
    constructor
    · rintro (⟨k, hk, e⟩ | e)
      · exact ⟨k, by omega, e⟩
      · exact ⟨n, by omega, e⟩
    · rintro ⟨k, hk, e⟩
      by_cases q : k = n
      · subst q
        exact Or.inr e
      · exact Or.inl ⟨k, by omega, e⟩
theorem zany_f {p : Nat → Bool} {n : Nat} : zany p n = false ↔ ∀ k, k < n → p k = false := by
  constructor
  · intro h k hk
    cases e : p k
    · rfl
    · rw [zany_t.mpr ⟨k, hk, e⟩] at h
      cases h
  · intro h
    cases e : zany p n
    · rfl
    · obtain ⟨k, hk, q⟩ := zany_t.mp e
      rw [h k hk] at q
      cases q
theorem zOf_a {M : yb_S} {r f : Nat} : zOf M r f = zany (fun x => M.1 212 x == zi f && M.1 213 x == M.1 213 r) (nR M) := zany_range
theorem zFinds_a {M : yb_S} {f o : Nat} : zFinds M f o = zany (fun r => zany (fun k => zHit M f o r k) (nK M)) (nR M) := by
  unfold zFinds
  rw [zany_range]
  congr 1
  funext r
  exact zany_range
theorem zm_isOf {M o s : yb_S} (hW : zW M) (hQ : zQ M o s) {r f : Nat} (hr : r < nR M) : f_X12_isOf (zi r) (zi f) s = some (zb (zOf M r f)) := by
  have h8 := zw_R8 hW
  unfold f_X12_isOf l_X12_isOf_2
  rw [zOf_a]
  refine zs_exE (fun k => zi k) (nR M) _ (fun k => ∀ x, x < k → (M.1 212 x == zi f && M.1 213 x == M.1 213 r) = false) ?_ ?_ yb_N 0 (Nat.zero_le _) (by unfold yb_N; omega) (fun x hx => absurd hx (Nat.not_lt_zero _))
  · intro k rc hk hI
    show f_X12_isOf_2 _ _ _ _ (zi k) = _ ∨ f_X12_isOf_2 _ _ _ _ (zi k) = _ ∧ _
    unfold f_X12_isOf_2 j_X12_isOf_37
    simp (disch := omega) only [zqk hQ, zq hQ, zw_R hW, zi_le, zi_rd, Option.bind_some, zi_succ, if_neg]
    have hgo : (M.1 212 k == zi f && M.1 213 k == M.1 213 r) = false → ∀ x, x < k + 1 → (M.1 212 x == zi f && M.1 213 x == M.1 213 r) = false := fun q x hx => by
      by_cases e : x = k
      · rw [e]
        exact q
      · exact hI x (by omega)
    by_cases h1 : M.1 212 k = zi f
    · by_cases h2 : M.1 213 k = M.1 213 r
      · left
        rw [if_pos h1, if_pos h2, zany_t.mpr ⟨k, hk, by simp [h1, h2, zc_b, bne]⟩]
        rfl
      · right
        rw [if_pos h1, if_neg h2]
        exact ⟨rfl, hgo (by simp [h2, zc_b, bne])⟩
    · right
      rw [if_neg h1]
      exact ⟨rfl, hgo (by simp [h1, zc_b, bne])⟩
  · intro hI rc
    show f_X12_isOf_2 _ _ _ _ (zi (nR M)) = _
    unfold f_X12_isOf_2
    rw [zqk hQ (by omega), zw_R hW, if_pos (Int32.le_refl _), zany_f.mpr hI]
    rfl
def zPt (M : yb_S) (k r : Nat) : Int32 := zpts (M.1 215 k) (M.1 216 k) (M.1 208 r) (M.1 209 r)
def zSp (M : yb_S) (P : Nat → Nat → Nat → Prop) (f o : Nat) (v : Int32) : Prop := (v = -1 ∧ ∀ r, r < nR M → ∀ k, k < nK M → P r o k → zHit M f o r k = false) ∨ (5 ≤ v ∧ (∃ r, r < nR M ∧ ∃ k, k < nK M ∧ P r o k ∧ zHit M f o r k = true ∧ zPt M k r = v) ∧ ∀ r, r < nR M → ∀ k, k < nK M → P r o k → zHit M f o r k = true → zPt M k r ≤ v)
/-- what the table holds when all ahead of (r, o, k) has been done -/
def zDone (r0 o0 k0 : Nat) : Nat → Nat → Nat → Prop := fun r o k => r < r0 ∨ (r = r0 ∧ (o < o0 ∨ (o = o0 ∧ k < k0)))
def zTab (M : yb_S) (r0 o0 k0 : Nat) (t : yb_S) : Prop := ∀ f o, f < nF M → o < nF M → f ≠ o → zSp M (zDone r0 o0 k0) f o (t.1 (218 + f % 24) o)
theorem zSp_congr {M : yb_S} {P P' : Nat → Nat → Nat → Prop} {f o : Nat} {v : Int32} (h : ∀ r, r < nR M → ∀ k, k < nK M → zHit M f o r k = true → (P r o k ↔ P' r o k)) (q : zSp M P f o v) : zSp M P' f o v := by
  rcases q with ⟨e, q⟩ | ⟨e, ⟨r, hr, k, hk, p1, p2, p3⟩, q⟩
  · refine Or.inl ⟨e, fun r hr k hk hp => ?_⟩
    cases hh : zHit M f o r k
    · rfl
    · rw [q r hr k hk ((h r hr k hk hh).mpr hp)] at hh
      cases hh
  · exact Or.inr ⟨e, ⟨r, hr, k, hk, (h r hr k hk p2).mp p1, p2, p3⟩, fun r hr k hk hp hh => q r hr k hk ((h r hr k hk hh).mpr hp) hh⟩
theorem zHit_t {M : yb_S} {f o r k : Nat} : zHit M f o r k = true ↔ M.1 214 k = zi f ∧ 5 ≤ zPt M k r ∧ zOf M r o = true := by
  unfold zHit zge5 zPt
  simp only [Bool.and_eq_true, beq_iff_eq, decide_eq_true_eq]
  constructor
  · rintro ⟨⟨a, b⟩, c⟩
    exact ⟨a, b, c⟩
  · rintro ⟨a, b, c⟩
    exact ⟨⟨a, b⟩, c⟩
