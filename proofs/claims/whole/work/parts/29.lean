/-! bars -/
theorem zi_lo {k : Nat} (hk : k < 2147483648) : (0 : Int32) ≤ zi k := by
  rw [show (0 : Int32) = zi 0 from rfl, zi_le (by omega) hk]
  omega
theorem zi_negI {k : Nat} (hk : k < 2147483648) : (-(zi k)).toInt = -(k : Int) := by
  rw [Int32.toInt_neg, zi_toInt hk]
  exact Int.bmod_eq_of_le_mul_two (by omega) (by omega)
theorem zabs_zi {a b : Nat} (ha : a < 1000) (hb : b < 1000) : ∃ d, d < 1000 ∧ zabs (zi a - zi b) = zi d ∧ zabs (zi b - zi a) = zi d := by
  have key : ∀ a b : Nat, b ≤ a → a < 1000 → zabs (zi a - zi b) = zi (a - b) ∧ zabs (zi b - zi a) = zi (a - b) := by
    intro a b h ha
    have e1 : zi a - zi b = zi (a - b) := zi_subN h
    have e2 : zi b - zi a = - zi (a - b) := by
      rw [← e1, Int32.neg_sub]
    unfold zabs
    rw [e1, e2, if_pos (zi_lo (by omega))]
    refine ⟨rfl, ?_⟩
    by_cases h0 : a - b = 0
    · rw [h0]
      rfl
    · rw [if_neg, Int32.neg_neg]
      intro q
      have q2 := Int32.le_iff_toInt_le.mp q
      rw [zi_negI (by omega), show (0 : Int32).toInt = 0 from rfl] at q2
      omega
  rcases Nat.le_total b a with h | h
  · exact ⟨a - b, by omega, (key a b h ha).1, (key a b h ha).2⟩
  · exact ⟨b - a, by omega, (key b a h hb).2, (key b a h hb).1⟩
theorem zabs_mile {M : yb_S} (hW : zW M) {t u : Nat} (ht : t < nT M) (hu : u < nT M) : zabs (M.1 177 t - M.1 177 u) = zabs (M.1 177 u - M.1 177 t) ∧ 0 ≤ zabs (M.1 177 t - M.1 177 u) := by
  obtain ⟨a, ha, ea⟩ := zw_t hW ht
  obtain ⟨b, hb, eb⟩ := zw_t hW hu
  obtain ⟨d, hd, e1, e2⟩ := zabs_zi ha hb
  rw [ea, eb, e1, e2]
  exact ⟨rfl, zi_lo (by omega)⟩
def zAp (M : yb_S) (f o : Nat) : Int32 := M.1 (201 + (M.1 194 f).toNatClampNeg) (M.1 194 o).toNatClampNeg
def zNear (M : yb_S) (f t o : Nat) : Bool := (zi o != zi f) && ((M.1 195 o == 1) && !decide (zAp M f o ≤ zabs (M.1 177 (zTown M o).toNatClampNeg - M.1 177 t)))
def zApart (M : yb_S) (f t : Nat) : Bool := zany (zNear M f t) (nF M)
theorem zw_cl {M : yb_S} (hW : zW M) {f : Nat} (hf : f < nF M) : ∃ c, c < 6 ∧ M.1 194 f = zi c := (zw_f hW hf).2.1
theorem zm_isApart {M o s : yb_S} (hW : zW M) (hQ : zQ M o s) {f t : Nat} (hf : f < nF M) (ht : t < nT M) : f_X12_isApart (zi f) (zi t) s = some (zb (zApart M f t)) := by
  have h8 := zw_F8 hW
  have h9 := zw_H8 hW
  have h10 := zw_T8 hW
  unfold f_X12_isApart l_X12_isApart_2 zApart
  refine zs_exE (fun k => zi k) (nF M) _ (fun k => ∀ x, x < k → zNear M f t x = false) ?_ ?_ yb_N 0 (Nat.zero_le _) (by unfold yb_N; omega) (fun x hx => absurd hx (Nat.not_lt_zero _))
  · intro k rc hk hI
    have hgo : zNear M f t k = false → ∀ x, x < k + 1 → zNear M f t x = false := fun q x hx => by
      by_cases e : x = k
      · rw [e]
        exact q
      · exact hI x (by omega)
    obtain ⟨c, hc, ec⟩ := zw_cl hW hf
    obtain ⟨d, hd, ed⟩ := zw_cl hW hk
    show f_X12_isApart_2 _ _ _ _ (zi k) = _ ∨ f_X12_isApart_2 _ _ _ _ (zi k) = _ ∧ _
    unfold f_X12_isApart_2 j_X12_isApart_66
    rw [zqk hQ (by omega), zw_F hW, if_neg (by rw [zi_le (by omega) (by omega)]; omega), zm_isHoused hW hQ hk, zm_townFor hW hQ hk, zi_succ]
    by_cases e : zi k = zi f
    · right
      rw [if_pos e]
      exact ⟨rfl, hgo (by unfold zNear; rw [e]; simp)⟩
    · rw [if_neg e, Option.bind_some]
      simp only [zb_t0]
      rcases zTown_in hW hk with ⟨e1, e2, -⟩ | ⟨u, hu, e1, e2, -⟩
      · right
        rw [if_pos (beq_eq_false_iff_ne.mpr e2)]
        exact ⟨rfl, hgo (by unfold zNear; rw [beq_eq_false_iff_ne.mpr e2]; simp)⟩
      · rw [if_neg (by rw [e2]; decide), e1]
        simp (disch := omega) only [zi_rd, zi_ri, Option.bind_some, zq hQ, zm_size, ec, ed]
        have ez : zNear M f t k = !decide (M.1 (201 + 1 * c) d ≤ zabs (M.1 177 u - M.1 177 t)) := by
          unfold zNear zAp
          rw [e1, e2, ec, ed, zi_tn (by omega), zi_tn (by omega), zi_tn (by omega), Nat.one_mul, show (zi k != zi f) = true from bne_iff_ne.mpr e]
          simp
        by_cases h : M.1 (201 + 1 * c) d ≤ zabs (M.1 177 u - M.1 177 t)
        · right
          rw [if_pos h]
          exact ⟨rfl, hgo (by rw [ez, decide_eq_true h]; rfl)⟩
        · left
          rw [if_neg h, zany_t.mpr ⟨k, hk, by rw [ez, decide_eq_false h]; rfl⟩]
          rfl
  · intro hI rc
    show f_X12_isApart_2 _ _ _ _ (zi (nF M)) = _
    unfold f_X12_isApart_2
    rw [zqk hQ (by omega), zw_F hW, if_pos (Int32.le_refl _), zany_f.mpr hI]
    rfl
theorem zw_a {M : yb_S} (hW : zW M) {c : Nat} (hc : c < 6) : M.1 (201 + c) c = 0 := by
  have := hW.2.2.2.2.2.2.2.1 c hc
  rwa [Nat.mod_eq_of_lt hc] at this
theorem zo_tooNear {M m s : yb_S} (hW : zW M) (hA : zA M m s) {f t : Nat} (hf : f < nF M) (ht : t < nT M) : f_X8_isTooNear (zi f) (zi t) s = some (zb (zApart M f t)) := by
  have h8 := zw_F8 hW
  have h9 := zw_H8 hW
  have h10 := zw_T8 hW
  unfold f_X8_isTooNear l_X8_isTooNear_2 zApart
  refine zs_exE (fun k => zi k) (nF M) _ (fun k => ∀ x, x < k → zNear M f t x = false) ?_ ?_ yb_N 0 (Nat.zero_le _) (by unfold yb_N; omega) (fun x hx => absurd hx (Nat.not_lt_zero _))
  · intro k rc hk hI
    have hgo : zNear M f t k = false → ∀ x, x < k + 1 → zNear M f t x = false := fun q x hx => by
      by_cases e : x = k
      · rw [e]
        exact q
      · exact hI x (by omega)
    obtain ⟨c, hc, ec⟩ := zw_cl hW hf
    obtain ⟨d, hd, ed⟩ := zw_cl hW hk
    show f_X8_isTooNear_2 _ _ _ _ (zi k) = _ ∨ f_X8_isTooNear_2 _ _ _ _ (zi k) = _ ∧ _
    unfold f_X8_isTooNear_2 j_X8_isTooNear_54
    rw [cq_F hA, zw_F hW, if_neg (by rw [zi_le (by omega) (by omega)]; omega), zi_rd (by omega) (by omega), Option.bind_some, cq_30 hA hk, zi_succ]
    rcases zTown_in hW hk with ⟨e1, e2, -⟩ | ⟨u, hu, e1, e2, -⟩
    · right
      rw [if_pos e1]
      exact ⟨rfl, hgo (by unfold zNear; rw [beq_eq_false_iff_ne.mpr e2]; simp)⟩
    · rw [e1, if_neg (by rw [show (-1 : Int32) = zm from rfl, zi_eqm (by omega)]; exact id), zo_miles hW hA ht hu, Option.bind_some]
      have hap : f_X2_milesApart (zi f) (zi k) s = some (M.1 (201 + c) d) := by
        unfold f_X2_milesApart
        rw [zo_hFt hW hA hf, zo_hFt hW hA hk, Option.bind_some, if_neg (by decide), Option.bind_some, if_neg (by decide), zi_rd (by omega) (by omega), Option.bind_some, cq_27 hA hf, ec, zi_ri (by omega) (by omega), Option.bind_some, zi_rd (by omega) (by omega), Option.bind_some, cq_27 hA hk, ed, zi_rd (by omega) (by omega), Option.bind_some, cq_35 hA hc hd]
      rw [hap, Option.bind_some, (zabs_mile hW ht hu).1]
      have hnn := (zabs_mile hW hu ht).2
      by_cases e : zi k = zi f
      · right
        rw [zi_inj (by omega) (by omega)] at e
        subst e
        rw [ec, zi_inj (by omega) (by omega)] at ed
        subst ed
        rw [zw_a hW hc, if_pos hnn]
        exact ⟨rfl, hgo (by unfold zNear; simp)⟩
      · have ez : zNear M f t k = !decide (M.1 (201 + c) d ≤ zabs (M.1 177 u - M.1 177 t)) := by
          unfold zNear zAp
          rw [e1, e2, ec, ed, zi_tn (by omega), zi_tn (by omega), zi_tn (by omega), show (zi k != zi f) = true from bne_iff_ne.mpr e]
          simp
        by_cases h : M.1 (201 + c) d ≤ zabs (M.1 177 u - M.1 177 t)
        · right
          rw [if_pos h]
          exact ⟨rfl, hgo (by rw [ez, decide_eq_true h]; rfl)⟩
        · left
          rw [if_neg h, zany_t.mpr ⟨k, hk, by rw [ez, decide_eq_false h]; rfl⟩]
          rfl
  · intro hI rc
    show f_X8_isTooNear_2 _ _ _ _ (zi (nF M)) = _
    unfold f_X8_isTooNear_2
    rw [cq_F hA, zw_F hW, if_pos (Int32.le_refl _), zany_f.mpr hI]
    rfl
theorem zfind_t {p : Nat → Bool} : ∀ {n k : Nat}, k < n → (∀ x, x < k → p x = false) → p k = true → zfind p n = some k
  | n + 1, k, hk, hl, hp => by
    show (match zfind p n with | some k => some k | none => if p n then some n else none) = some k
    by_cases e : k = n
    · subst e
      have : ∀ m, m ≤ k → zfind p m = none := by
        intro m
        induction m with
        | zero => intro _; rfl
        | succ m ih =>
          intro hm
          show (match zfind p m with | some k => some k | none => if p m then some m else none) = none
          rw [ih (by omega), hl m (by omega)]
          rfl
      rw [this k (Nat.le_refl _), hp]
      rfl
    · rw [zfind_t (n := n) (by omega) hl hp]
theorem zfind_n {p : Nat → Bool} : ∀ {n : Nat}, (∀ x, x < n → p x = false) → zfind p n = none
  | 0, _ => rfl
  | n + 1, h => by
    show (match zfind p n with | some k => some k | none => if p n then some n else none) = none
    rw [zfind_n (n := n) (fun x hx => h x (by omega)), h n (by omega)]
    rfl
theorem zm_lodger {M o s : yb_S} (hW : zW M) (hQ : zQ M o s) {h : Nat} (hh : h < nH M) : f_X12_lodger (zi h) s = some (zLodger M h) := by
  have h8 := zw_F8 hW
  have h9 := zw_H8 hW
  unfold f_X12_lodger l_X12_lodger_2 zLodger
  refine zs_exE (fun k => zi k) (nF M) _ (fun k => ∀ x, x < k → (M.1 195 x == 1 && M.1 196 x == zi h) = false) ?_ ?_ yb_N 0 (Nat.zero_le _) (by unfold yb_N; omega) (fun x hx => absurd hx (Nat.not_lt_zero _))
  · intro k rc hk hI
    have hgo : (M.1 195 k == 1 && M.1 196 k == zi h) = false → ∀ x, x < k + 1 → (M.1 195 x == 1 && M.1 196 x == zi h) = false := fun q x hx => by
      by_cases e : x = k
      · rw [e]
        exact q
      · exact hI x (by omega)
    show f_X12_lodger_2 _ _ _ (zi k) = _ ∨ f_X12_lodger_2 _ _ _ (zi k) = _ ∧ _
    unfold f_X12_lodger_2 j_X12_lodger_30
    rw [zqk hQ (by omega), zw_F hW, if_neg (by rw [zi_le (by omega) (by omega)]; omega), zm_isHoused hW hQ hk, zi_succ, Option.bind_some, zi_rd (by omega) (by omega), Option.bind_some, zq hQ (by omega)]
    simp only [zb_t0]
    by_cases e1 : M.1 195 k = 1
    · rw [if_neg (by rw [e1]; decide)]
      by_cases e2 : M.1 196 k = zi h
      · left
        rw [if_pos e2, zfind_t hk hI (by rw [e1, e2]; simp)]
        rfl
      · right
        rw [if_neg e2]
        exact ⟨rfl, hgo (by rw [beq_eq_false_iff_ne.mpr e2]; simp)⟩
    · right
      rw [if_pos (beq_eq_false_iff_ne.mpr e1)]
      exact ⟨rfl, hgo (by rw [beq_eq_false_iff_ne.mpr e1]; simp)⟩
  · intro hI rc
    show f_X12_lodger_2 _ _ _ (zi (nF M)) = _
    unfold f_X12_lodger_2
    rw [zqk hQ (by omega), zw_F hW, if_pos (Int32.le_refl _), zfind_n hI]
    rfl
def zTeach (M : yb_S) (t f : Nat) : Bool := (M.1 178 t >>> (M.1 192 f &&& 31)) &&& 1 == 1
theorem zand1 (x : Int32) : x &&& 1 = 0 ∨ x &&& 1 = 1 := by
  have h : (x &&& 1).toBitVec.toNat = x.toBitVec.toNat % 2 := by
    rw [Int32.toBitVec_and, BitVec.toNat_and]
    exact Nat.and_one_is_mod _
  rcases Nat.mod_two_eq_zero_or_one x.toBitVec.toNat with e | e
  · left
    apply Int32.toBitVec_inj.mp
    apply BitVec.eq_of_toNat_eq
    rw [h, e]
    rfl
  · right
    apply Int32.toBitVec_inj.mp
    apply BitVec.eq_of_toNat_eq
    rw [h, e]
    rfl
theorem zand1_0 {x : Int32} : (x &&& 1 = 0) = ¬ (x &&& 1 = 1) := by
  rcases zand1 x with e | e <;> rw [e] <;> decide
/-- the last two grounds -/
def zBarL (M : yb_S) (f h : Nat) : Int32 := if M.1 182 (zHt M h) = 0 then (if zApart M f (zHt M h) then 8 else if zTell M 4 (zNh M f h) = 1 then 0 else 9) else 7
def zBarK (M : yb_S) (f h : Nat) : Int32 := if M.1 186 h = 4 then zBarL M f h else if M.1 186 h = M.1 192 f then zBarL M f h else 6
def zBarS (M : yb_S) (f h : Nat) : Int32 := if M.1 190 f ≤ 0 then zBarK M f h else if zTeach M (zHt M h) f = true then (if M.1 179 (zHt M h) - zPup M (zi (zHt M h)) (zi f) < M.1 190 f then 5 else zBarK M f h) else 5
def zBarR (M : yb_S) (f h : Nat) : Int32 := if M.1 189 f ≤ M.1 184 h then (if M.1 185 h = 1 then (if M.1 191 f = 1 then 4 else zBarS M f h) else zBarS M f h) else 3
def zBar (M : yb_S) (f h : Nat) : Int32 := if M.1 176 7 < M.1 187 h then 1 else if M.1 176 7 ≤ M.1 188 h then (if zLodger M h = -1 then zBarR M f h else if zLodger M h = zi f then zBarR M f h else 2) else 1
theorem zm_barOf {M o s : yb_S} (hW : zW M) (hQ : zQ M o s) {f h : Nat} (hf : f < nF M) (hh : h < nH M) : zs_P (f_X12_barOf (zi f) (zi h) s) (fun a => a.1 = zBar M f h ∧ zG s a.2) := by
  have h8 := zw_F8 hW
  have h9 := zw_H8 hW
  have h10 := zw_T8 hW
  obtain ⟨ht, et⟩ := zw_ht hW hh
  have hL : zs_P (j_X12_barOf_173 (zi f) (zi h) (zi (zHt M h)) s) (fun a => a.1 = zBarL M f h ∧ zG s a.2) := by
    unfold j_X12_barOf_173 zBarL
    rw [zi_rd (by omega) (by omega), Option.bind_some, zq hQ (by omega)]
    by_cases e : M.1 182 (zHt M h) = 0
    · rw [if_pos e, if_pos e, zm_isApart hW hQ hf ht, Option.bind_some]
      simp only [zb_t0]
      cases hz : zApart M f (zHt M h)
      · rw [if_pos rfl]
        refine zs_bind (zm_asksOf_ hW hQ hf hh) fun u hu => ?_
        refine zs_bind (zm_tells hW (zG_Q hu.2 hQ) (c := 4) (by decide) hu.1) fun a ha => ?_
        rw [ha.1]
        by_cases e2 : zTell M 4 (zNh M f h) = 1
        · rw [if_pos e2]
          exact zs_ret ⟨by rw [if_pos e2]; rfl, zG_trans hu.2 (zfs_G ha.2)⟩
        · rw [if_neg e2]
          exact zs_ret ⟨by rw [if_neg e2]; rfl, zG_trans hu.2 (zfs_G ha.2)⟩
      · rw [if_neg (by decide)]
        exact zs_ret ⟨rfl, zG_refl s⟩
    · rw [if_neg e, if_neg e]
      exact zs_ret ⟨rfl, zG_refl s⟩
  have hK : zs_P (j_X12_barOf_145 (zi f) (zi h) (zi (zHt M h)) s) (fun a => a.1 = zBarK M f h ∧ zG s a.2) := by
    unfold j_X12_barOf_145 zBarK
    obtain ⟨q, hq, eq⟩ := (zw_h hW hh).2
    simp (disch := omega) only [zi_rd, Option.bind_some, zq hQ, eq]
    simp (disch := omega) only [show (4 : Int32) = zi 4 from rfl, zi_le, zi_inj]
    by_cases e : q = 4
    · rw [if_pos (by omega), if_pos e]
      exact hL
    · rw [if_neg (by omega), if_neg e]
      by_cases e2 : zi q = M.1 192 f
      · rw [if_pos e2, if_pos e2]
        exact hL
      · rw [if_neg e2, if_neg e2]
        exact zs_ret ⟨rfl, zG_refl s⟩
  have hS : zs_P (j_X12_barOf_94 (zi f) (zi h) (zi (zHt M h)) s) (fun a => a.1 = zBarS M f h ∧ zG s a.2) := by
    unfold j_X12_barOf_94 zBarS
    rw [zm_pupilsIn hW hQ]
    simp (disch := omega) only [zi_rd, Option.bind_some, zq hQ, zand1_0]
    simp only [zTeach, zc_b, decide_eq_true_eq]
    by_cases e : M.1 190 f ≤ 0
    · rw [if_pos e, if_pos e]
      exact hK
    · rw [if_neg e, if_neg e]
      by_cases e2 : (M.1 178 (zHt M h) >>> (M.1 192 f &&& 31)) &&& 1 = 1
      · rw [if_neg (fun q => q e2), if_pos e2]
        by_cases e3 : M.1 179 (zHt M h) - zPup M (zi (zHt M h)) (zi f) < M.1 190 f
        · rw [if_neg (Int32.not_le.mpr e3), if_pos e3]
          exact zs_ret ⟨rfl, zG_refl s⟩
        · rw [if_pos (Int32.not_lt.mp e3), if_neg e3]
          exact hK
      · rw [if_pos e2, if_neg e2]
        exact zs_ret ⟨rfl, zG_refl s⟩
  have hR : zs_P (j_X12_barOf_55 (zi f) (zi h) (zi (zHt M h)) s) (fun a => a.1 = zBarR M f h ∧ zG s a.2) := by
    unfold j_X12_barOf_55 zBarR
    simp (disch := omega) only [zi_rd, Option.bind_some, zq hQ]
    by_cases e : M.1 189 f ≤ M.1 184 h
    · rw [if_pos e, if_pos e]
      by_cases e2 : M.1 185 h = 1
      · rw [if_pos e2, if_pos e2]
        by_cases e3 : M.1 191 f = 1
        · rw [if_pos e3, if_pos e3]
          exact zs_ret ⟨rfl, zG_refl s⟩
        · rw [if_neg e3, if_neg e3]
          exact hS
      · rw [if_neg e2, if_neg e2]
        exact hS
    · rw [if_neg e, if_neg e]
      exact zs_ret ⟨rfl, zG_refl s⟩
  unfold f_X12_barOf zBar
  rw [zm_lodger hW hQ hh]
  simp (disch := omega) only [zi_rd, Option.bind_some, zq hQ, zqk hQ, z_in64, z64_le, et]
  by_cases e : M.1 176 7 < M.1 187 h
  · have hq : ¬ (M.1 187 h ≤ M.1 176 7 ∧ M.1 176 7 ≤ M.1 188 h) := fun q => absurd q.1 (Int32.not_le.mpr e)
    rw [if_pos e, if_neg hq, if_pos rfl]
    exact zs_ret ⟨rfl, zG_refl s⟩
  · rw [if_neg e]
    by_cases e2 : M.1 176 7 ≤ M.1 188 h
    · have hq : M.1 187 h ≤ M.1 176 7 ∧ M.1 176 7 ≤ M.1 188 h := ⟨Int32.not_lt.mp e, e2⟩
      rw [if_pos e2, if_pos hq, if_neg (by decide)]
      by_cases e3 : zLodger M h = -1
      · rw [if_pos e3, if_pos e3]
        exact hR
      · rw [if_neg e3, if_neg e3]
        by_cases e4 : zLodger M h = zi f
        · rw [if_pos e4, if_pos e4]
          exact hR
        · rw [if_neg e4, if_neg e4]
          exact zs_ret ⟨rfl, zG_refl s⟩
    · have hq : ¬ (M.1 187 h ≤ M.1 176 7 ∧ M.1 176 7 ≤ M.1 188 h) := fun q => e2 q.2
      rw [if_neg e2, if_neg hq, if_pos rfl]
      exact zs_ret ⟨rfl, zG_refl s⟩
theorem zo_teaches {M m s : yb_S} (hW : zW M) (hA : zA M m s) {f t : Nat} (ht : t < nT M) : f_X10_teaches (zi t) (M.1 192 f) s = some (zb (zTeach M t f)) := by
  have h9 := zw_T8 hW
  unfold f_X10_teaches zTeach
  rw [cq_T hA, zw_T hW, if_neg (by rw [zi_neg (by omega)]; exact id), if_neg (by rw [zi_le (by omega) (by omega)]; omega), zi_rd (by omega) (by omega), Option.bind_some, cq_4 hA ht, zc_b]
  by_cases h : (M.1 178 t >>> (M.1 192 f &&& 31)) &&& 1 = 1
  · rw [if_pos h, decide_eq_true h]
    rfl
  · rw [if_neg h, decide_eq_false h]
    rfl
theorem zo_barOf {M m s : yb_S} (hW : zW M) (hA : zA M m s) {f h : Nat} (hf : f < nF M) (hh : h < nH M) : zs_P (f_X8_barOf (zi f) (zi h) s) (fun a => a.1 = zBar M f h ∧ zfo s a.2) := by
  have h8 := zw_F8 hW
  have h9 := zw_H8 hW
  have h10 := zw_T8 hW
  obtain ⟨ht, et⟩ := zw_ht hW hh
  have hL : zs_P (j_X8_barOf_207 (zi f) (zi h) (zi (zHt M h)) s) (fun a => a.1 = zBarL M f h ∧ zfo s a.2) := by
    unfold j_X8_barOf_207 zBarL
    rw [zi_rd (by omega) (by omega), Option.bind_some, cq_7 hA (by omega)]
    by_cases e : M.1 182 (zHt M h) = 0
    · rw [if_pos e, if_pos e, zo_tooNear hW hA hf ht, Option.bind_some]
      simp only [zb_t0]
      cases hz : zApart M f (zHt M h)
      · rw [if_pos rfl]
        refine zs_bind (zo_tellsH hW hA (c := 4) (by decide) hf hh) fun a ha => ?_
        rw [ha.1]
        by_cases e2 : zTell M 4 (zNh M f h) = 1
        · rw [if_pos e2]
          exact zs_ret ⟨by rw [if_pos e2]; rfl, ha.2⟩
        · rw [if_neg e2]
          exact zs_ret ⟨by rw [if_neg e2]; rfl, ha.2⟩
      · rw [if_neg (by decide)]
        exact zs_ret ⟨rfl, zfo_refl s⟩
    · rw [if_neg e, if_neg e]
      exact zs_ret ⟨rfl, zfo_refl s⟩
  have hK : zs_P (j_X8_barOf_170 (zi f) (zi h) (zi (zHt M h)) s) (fun a => a.1 = zBarK M f h ∧ zfo s a.2) := by
    unfold j_X8_barOf_170 zBarK
    simp (disch := omega) only [zi_rd, Option.bind_some, cq_17 hA, cq_25 hA]
    by_cases e : M.1 186 h = 4
    · rw [if_pos e, if_pos e]
      exact hL
    · rw [if_neg e, if_neg e]
      by_cases e2 : M.1 186 h = M.1 192 f
      · rw [if_pos e2, if_pos e2]
        exact hL
      · rw [if_neg e2, if_neg e2]
        exact zs_ret ⟨rfl, zfo_refl s⟩
  have hS : zs_P (j_X8_barOf_147 (zi f) (zi h) (zi (zHt M h)) s) (fun a => a.1 = zBarS M f h ∧ zfo s a.2) := by
    unfold j_X8_barOf_147 zBarS f_X8_hasSchoolFor
    rw [zo_seatsFor hW hA hf ht]
    simp (disch := omega) only [zi_rd, Option.bind_some, cq_23 hA, cq_25 hA]
    rw [zo_teaches hW hA ht, Option.bind_some]
    simp only [zb_t0]
    by_cases e : M.1 190 f ≤ 0
    · rw [if_pos e, if_pos e]
      exact hK
    · rw [if_neg e, if_neg e]
      cases hz : zTeach M (zHt M h) f
      · rw [if_pos rfl, Option.bind_some, if_pos rfl, if_neg (by decide)]
        exact zs_ret ⟨rfl, zfo_refl s⟩
      · rw [if_neg (by decide), if_pos rfl]
        by_cases e3 : M.1 179 (zHt M h) - zPup M (zi (zHt M h)) (zi f) < M.1 190 f
        · rw [if_pos e3, Option.bind_some, if_pos rfl, if_pos e3]
          exact zs_ret ⟨rfl, zfo_refl s⟩
        · rw [if_neg e3, Option.bind_some, if_neg (by decide), if_neg e3]
          exact hK
  have hR : zs_P (j_X8_barOf_96 (zi f) (zi h) (zi (zHt M h)) s) (fun a => a.1 = zBarR M f h ∧ zfo s a.2) := by
    unfold j_X8_barOf_96 zBarR
    simp (disch := omega) only [zi_rd, Option.bind_some, cq_22 hA, cq_15 hA, cq_16 hA, cq_24 hA]
    by_cases e : M.1 189 f ≤ M.1 184 h
    · rw [if_pos e, if_pos e]
      by_cases e2 : M.1 185 h = 1
      · rw [if_pos e2, if_pos e2]
        by_cases e3 : M.1 191 f = 1
        · rw [if_pos e3, if_pos e3]
          exact zs_ret ⟨rfl, zfo_refl s⟩
        · rw [if_neg e3, if_neg e3]
          exact hS
      · rw [if_neg e2, if_neg e2]
        exact hS
    · rw [if_neg e, if_neg e]
      exact zs_ret ⟨rfl, zfo_refl s⟩
  unfold f_X8_barOf zBar
  rw [zo_hFt hW hA hf, zo_hHt hW hA hh, Option.bind_some, if_neg (by decide), Option.bind_some, if_neg (by decide)]
  simp (disch := omega) only [zi_rd, Option.bind_some, cq_14 hA, cq_18 hA, cq_19 hA, cq_20 hA, cq_D hA, et]
  by_cases e : M.1 176 7 < M.1 187 h
  · rw [if_pos e, if_pos e]
    exact zs_ret ⟨rfl, zfo_refl s⟩
  · rw [if_neg e, if_neg e]
    by_cases e2 : M.1 176 7 ≤ M.1 188 h
    · rw [if_pos e2, if_pos e2]
      by_cases e3 : zLodger M h = -1
      · rw [if_pos e3, if_pos e3]
        exact hR
      · rw [if_neg e3, if_neg e3]
        by_cases e4 : zLodger M h = zi f
        · rw [if_pos e4, if_pos e4]
          exact hR
        · rw [if_neg e4, if_neg e4]
          exact zs_ret ⟨rfl, zfo_refl s⟩
    · rw [if_neg e2, if_neg e2]
      exact zs_ret ⟨rfl, zfo_refl s⟩
