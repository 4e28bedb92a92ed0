/-! the questions that ask clauses -/
theorem ze_24 : ∀ (a1 a2 : Int32) (s : yb_S), zInv s → ∃ (r : Int32) (s1 s2 : yb_S), f_X11_rank a1 a2 s = some (r, s1) ∧ f_X12_rank a1 a2 s1 = some (r, s2) ∧ zInv s2 := by
  intro a1 a2 s h
  by_cases hf : zin a1 (nF (zP s))
  · obtain ⟨f, hf, rfl⟩ := hf
    by_cases h0 : a2 = 0
    · subst h0
      refine z_ask h (zTell (zP s) 0 (zNf (zP s) f 0)) (fun m t hA => ?_) (fun o t hQ => ?_)
      · unfold f_X11_rank
        rw [zo_hFt h.1 hA hf, Option.bind_some, if_neg (by decide), if_pos rfl]
        exact zs_bind (zo_ahead h.1 hA hf) fun a ha => zs_ret ⟨ha.1, zfo_A ha.2 hA⟩
      · unfold f_X12_rank j_X12_rank_29
        rw [zm_hFt h.1 hQ hf, Option.bind_some, if_neg (by decide), z_in (l := 0) (h := 1) (lo := 0) (hi := 1) (by decide) (by decide), if_pos (by decide), if_neg (by decide), if_pos rfl]
        exact zs_bind (zm_askedOf h.1 hQ (c := 0) hf (by decide)) fun a ha => zs_ret ⟨ha.1, zG_Q ha.2 hQ⟩
    · by_cases h1 : a2 = 1
      · subst h1
        refine z_ask h (zTell (zP s) 2 (zNf (zP s) f 0)) (fun m t hA => ?_) (fun o t hQ => ?_)
        · unfold f_X11_rank
          rw [zo_hFt h.1 hA hf, Option.bind_some, if_neg (by decide), if_neg (by decide), if_pos rfl]
          exact zs_bind (zo_limit h.1 hA hf) fun a ha => zs_ret ⟨ha.1, zfo_A ha.2 hA⟩
        · unfold f_X12_rank j_X12_rank_29
          rw [zm_hFt h.1 hQ hf, Option.bind_some, if_neg (by decide), z_in (l := 0) (h := 1) (lo := 0) (hi := 1) (by decide) (by decide), if_pos (by decide), if_neg (by decide), if_neg (by decide)]
          exact zs_bind (zm_askedOf h.1 hQ (c := 2) hf (by decide)) fun a ha => zs_ret ⟨ha.1, zG_Q ha.2 hQ⟩
      · refine z_ask h (-2147483648) (fun m t hA => ?_) (fun o t hQ => ?_)
        · unfold f_X11_rank
          rw [zo_hFt h.1 hA hf, Option.bind_some, if_neg (by decide), if_neg h0, if_neg h1]
          exact zs_ret ⟨rfl, hA⟩
        · unfold f_X12_rank j_X12_rank_35
          rw [zm_hFt h.1 hQ hf, Option.bind_some, if_neg (by decide), z_in (l := 0) (h := 1) (lo := 0) (hi := 1) (by decide) (by decide), if_neg, if_pos rfl]
          · exact zs_ret ⟨rfl, hQ⟩
          · rintro ⟨q1, q2⟩
            rcases zi_cases a2 with q3 | ⟨k, hk, rfl⟩
            · exact absurd q1 (Int32.not_le.mpr q3)
            · rw [show (1 : Int32) = zi 1 from rfl, zi_le hk (by decide)] at q2
              have : k = 0 ∨ k = 1 := by omega
              rcases this with rfl | rfl
              · exact h0 rfl
              · exact h1 rfl
  · refine z_ask h (-2147483648) (fun m t hA => ?_) (fun o t hQ => ?_)
    · unfold f_X11_rank
      rw [zo_hFf h.1 hA hf]
      exact zs_ret ⟨rfl, hA⟩
    · unfold f_X12_rank j_X12_rank_35
      rw [zm_hFf h.1 hQ hf]
      exact zs_ret ⟨rfl, hQ⟩
theorem ze_25 : ∀ (a1 : Int32) (s : yb_S), zInv s → ∃ (r : Int32) (s1 s2 : yb_S), f_X11_lack a1 s = some (r, s1) ∧ f_X12_lack a1 s1 = some (r, s2) ∧ zInv s2 := by
  intro a1 s h
  by_cases hf : zin a1 (nT (zP s))
  · obtain ⟨f, hf, rfl⟩ := hf
    refine z_ask h (zLack (zP s) f) (fun m t hA => ?_) (fun o t hQ => ?_)
    · unfold f_X11_lack
      rw [zo_hTt h.1 hA hf, Option.bind_some, if_neg (by decide)]
      exact zs_bind (zo_lack h.1 hA hf) fun a ha => zs_ret ⟨ha.1, zfo_A ha.2 hA⟩
    · unfold f_X12_lack
      rw [zm_hTt h.1 hQ hf, Option.bind_some, if_neg (by decide)]
      exact zs_bind (zm_lackOf h.1 hQ hf) fun a ha => zs_ret ⟨ha.1, zG_Q ha.2 hQ⟩
  · refine z_ask h (-2147483648) (fun m t hA => ?_) (fun o t hQ => ?_)
    · unfold f_X11_lack
      rw [zo_hTf h.1 hA hf]
      exact zs_ret ⟨rfl, hA⟩
    · unfold f_X12_lack
      rw [zm_hTf h.1 hQ hf]
      exact zs_ret ⟨rfl, hQ⟩
theorem zo_isHere {M m s : yb_S} (hW : zW M) (hA : zA M m s) {f : Nat} (hf : f < nF M) : f_X8_isHere (zi f) s = some (zb (!(M.1 195 f == 2))) := by
  have h8 := zw_F8 hW
  unfold f_X8_isHere
  rw [zo_hFt hW hA hf, Option.bind_some, if_neg (by decide), zi_rd (by omega) (by omega), Option.bind_some, cq_28 hA hf, zc_b]
  by_cases e : M.1 195 f = 2
  · rw [if_pos e, decide_eq_true e]
    rfl
  · rw [if_neg e, decide_eq_false e]
    rfl
theorem zo_isHere0 {M m s : yb_S} (hW : zW M) (hA : zA M m s) {a : Int32} (hf : ¬ zin a (nF M)) : f_X8_isHere a s = some 0 := by
  unfold f_X8_isHere
  rw [zo_hFf hW hA hf]
  rfl
theorem zo_isIn {M m s : yb_S} (hW : zW M) (hA : zA M m s) {f : Nat} {x : Int32} (hf : f < nF M) : f_X8_isIn (zi f) x s = some (zb (M.1 195 f == x)) := by
  have h8 := zw_F8 hW
  unfold f_X8_isIn
  rw [zo_hFt hW hA hf, Option.bind_some, if_neg (by decide), zi_rd (by omega) (by omega), Option.bind_some, cq_28 hA hf, zc_b]
  by_cases e : M.1 195 f = x
  · rw [if_pos e, decide_eq_true e]
    rfl
  · rw [if_neg e, decide_eq_false e]
    rfl
theorem zo_isIn0 {M m s : yb_S} (hW : zW M) (hA : zA M m s) {a x : Int32} (hf : ¬ zin a (nF M)) : f_X8_isIn a x s = some 0 := by
  unfold f_X8_isIn
  rw [zo_hFf hW hA hf]
  rfl
theorem ze_26 : ∀ (a1 a2 : Int32) (s : yb_S), zInv s → ∃ (r : Int32) (s1 s2 : yb_S), f_X11_bar a1 a2 s = some (r, s1) ∧ f_X12_bar a1 a2 s1 = some (r, s2) ∧ zInv s2 := by
  intro a1 a2 s h
  have hno : ∀ (P : Prop), (zin a1 (nF (zP s)) ∧ zin a2 (nH (zP s)) → False) → ∃ (r : Int32) (s1 s2 : yb_S), f_X11_bar a1 a2 s = some (r, s1) ∧ f_X12_bar a1 a2 s1 = some (r, s2) ∧ zInv s2 := by
    intro _ hn
    refine z_ask h (-1) (fun m t hA => ?_) (fun o t hQ => ?_)
    · unfold f_X11_bar
      by_cases hf : zin a1 (nF (zP s))
      · obtain ⟨f, hf, rfl⟩ := hf
        rw [zo_isHere h.1 hA hf, zo_hHf h.1 hA (fun q => hn ⟨⟨f, hf, rfl⟩, q⟩), Option.bind_some]
        split
        · exact zs_ret ⟨rfl, hA⟩
        · exact zs_ret ⟨rfl, hA⟩
      · rw [zo_isHere0 h.1 hA hf]
        exact zs_ret ⟨rfl, hA⟩
    · unfold f_X12_bar
      by_cases hf : zin a1 (nF (zP s))
      · obtain ⟨f, hf, rfl⟩ := hf
        rw [zm_hFt h.1 hQ hf, zm_hHf h.1 hQ (fun q => hn ⟨⟨f, hf, rfl⟩, q⟩)]
        exact zs_ret ⟨rfl, hQ⟩
      · rw [zm_hFf h.1 hQ hf]
        exact zs_ret ⟨rfl, hQ⟩
  by_cases hc : zin a1 (nF (zP s)) ∧ zin a2 (nH (zP s))
  · obtain ⟨⟨f, hf, rfl⟩, ⟨g, hg, rfl⟩⟩ := hc
    have h8 := zw_F8 h.1
    by_cases e : (zP s).1 195 f = 2
    · refine z_ask h (-1) (fun m t hA => ?_) (fun o t hQ => ?_)
      · unfold f_X11_bar
        rw [zo_isHere h.1 hA hf, e, Option.bind_some, if_pos (by decide)]
        exact zs_ret ⟨rfl, hA⟩
      · unfold f_X12_bar
        rw [zm_hFt h.1 hQ hf, Option.bind_some, if_neg (by decide), zm_hHt h.1 hQ hg, Option.bind_some, if_neg (by decide), zi_rd (by omega) (by omega), Option.bind_some, zq hQ (by omega), if_pos e]
        exact zs_ret ⟨rfl, hQ⟩
    · refine z_ask h (zBar (zP s) f g) (fun m t hA => ?_) (fun o t hQ => ?_)
      · unfold f_X11_bar
        rw [zo_isHere h.1 hA hf, show ((zP s).1 195 f == 2) = false from beq_eq_false_iff_ne.mpr e, Option.bind_some, if_neg (by decide), zo_hHt h.1 hA hg, Option.bind_some, if_neg (by decide)]
        exact zs_bind (zo_barOf h.1 hA hf hg) fun a ha => zs_ret ⟨ha.1, zfo_A ha.2 hA⟩
      · unfold f_X12_bar
        rw [zm_hFt h.1 hQ hf, Option.bind_some, if_neg (by decide), zm_hHt h.1 hQ hg, Option.bind_some, if_neg (by decide), zi_rd (by omega) (by omega), Option.bind_some, zq hQ (by omega), if_neg e]
        exact zs_bind (zm_barOf h.1 hQ hf hg) fun a ha => zs_ret ⟨ha.1, zG_Q ha.2 hQ⟩
  · exact hno True hc
def zBey (M : yb_S) (n : Nat) : Int32 := zsum (fun f => cond (M.1 195 f == 0 && !decide (M.1 197 f ≤ zTell M 2 (zNf M f 0))) 1 0) n
theorem ze_34 : ∀ (s : yb_S), zInv s → ∃ (r : Int32) (s1 s2 : yb_S), f_X11_beyond s = some (r, s1) ∧ f_X12_beyond s1 = some (r, s2) ∧ zInv s2 := by
  intro s h
  have h8 := zw_F8 h.1
  refine z_ask h (zBey (zP s) (nF (zP s))) (fun m t hA => ?_) (fun o t hQ => ?_)
  · unfold f_X11_beyond l_X11_beyond_4
    refine zs_up (fun k q => q.1 = zBey (zP s) k ∧ q.2.1 = zi k ∧ zfo t q.2.2) (nF (zP s)) ?_ yb_N 0 _ (Nat.zero_le _) (by unfold yb_N; omega) ⟨rfl, rfl, zfo_refl t⟩
    rintro k ⟨x, y, u⟩ rc hk ⟨i1, i2, i3⟩ hn
    dsimp only at i1 i2 i3
    subst i1 i2
    have hAu := zfo_A i3 hA
    show zs_P (f_X11_beyond_4 (fun x1 x2 s => rc (x1, x2, s)) (zBey (zP s) k) (zi k) u) _
    unfold f_X11_beyond_4 j_X11_beyond_59
    rw [cq_F hAu, zw_F h.1]
    rcases Nat.lt_or_ge k (nF (zP s)) with hlt | hge
    · rw [if_neg (by rw [zi_le (by omega) (by omega)]; omega), zi_rd (by omega) (by omega), Option.bind_some, cq_28 hAu hlt, zi_rd (by omega) (by omega), Option.bind_some, cq_31 hAu hlt, zi_succ]
      have es : zBey (zP s) (k + 1) = zBey (zP s) k + cond ((zP s).1 195 k == 0 && !decide ((zP s).1 197 k ≤ zTell (zP s) 2 (zNf (zP s) k 0))) 1 0 := rfl
      by_cases e : (zP s).1 195 k = 0
      · rw [if_pos e]
        refine zs_bind (zo_limit h.1 hAu hlt) fun a ha => ?_
        rw [ha.1]
        by_cases e2 : (zP s).1 197 k ≤ zTell (zP s) 2 (zNf (zP s) k 0)
        · rw [if_pos e2]
          exact hn hlt _ ⟨by rw [es]; simp [e2, zc_b, bne], rfl, zfo_trans i3 ha.2⟩
        · rw [if_neg e2]
          exact hn hlt _ ⟨by rw [es]; simp [e, e2, zc_b, bne], rfl, zfo_trans i3 ha.2⟩
      · rw [if_neg e]
        exact hn hlt _ ⟨by rw [es]; simp [e, zc_b, bne], rfl, i3⟩
    · have hkl := Nat.le_antisymm hk hge
      subst hkl
      rw [if_pos (Int32.le_refl _)]
      exact zs_ret ⟨rfl, hAu⟩
  · unfold f_X12_beyond l_X12_beyond_4
    refine zs_up (fun k q => q.1 = zBey (zP s) k ∧ q.2.1 = zi k ∧ zG t q.2.2) (nF (zP s)) ?_ yb_N 0 _ (Nat.zero_le _) (by unfold yb_N; omega) ⟨rfl, rfl, zG_refl t⟩
    rintro k ⟨x, y, u⟩ rc hk ⟨i1, i2, i3⟩ hn
    dsimp only at i1 i2 i3
    subst i1 i2
    have hQu := zG_Q i3 hQ
    show zs_P (f_X12_beyond_4 (fun x1 x2 s => rc (x1, x2, s)) (zBey (zP s) k) (zi k) u) _
    unfold f_X12_beyond_4 j_X12_beyond_41 j_X12_beyond_42
    rw [zqk hQu (by omega), zw_F h.1]
    rcases Nat.lt_or_ge k (nF (zP s)) with hlt | hge
    · rw [if_neg (by rw [zi_le (by omega) (by omega)]; omega), zi_rd (by omega) (by omega), Option.bind_some, zq hQu (by omega), zi_rd (by omega) (by omega), Option.bind_some, zq hQu (by omega), zi_succ]
      have es : zBey (zP s) (k + 1) = zBey (zP s) k + cond ((zP s).1 195 k == 0 && !decide ((zP s).1 197 k ≤ zTell (zP s) 2 (zNf (zP s) k 0))) 1 0 := rfl
      by_cases e : (zP s).1 195 k = 0
      · rw [if_pos e]
        refine zs_bind (zm_askedOf h.1 hQu (c := 2) hlt (by decide)) fun a ha => ?_
        rw [ha.1]
        by_cases e2 : (zP s).1 197 k ≤ zTell (zP s) 2 (zNf (zP s) k 0)
        · rw [if_pos e2]
          exact hn hlt _ ⟨by rw [es]; simp [e2, zc_b, bne], rfl, zG_trans i3 ha.2⟩
        · rw [if_neg e2]
          exact hn hlt _ ⟨by rw [es]; simp [e, e2, zc_b, bne], rfl, zG_trans i3 ha.2⟩
      · rw [if_neg e]
        exact hn hlt _ ⟨by rw [es]; simp [e, zc_b, bne], rfl, i3⟩
    · have hkl := Nat.le_antisymm hk hge
      subst hkl
      rw [if_pos (Int32.le_refl _)]
      exact zs_ret ⟨rfl, hQu⟩
def zEn (M : yb_S) (f : Nat) : Nat → Option Nat
  | 0 => none
  | n + 1 => match zEn M f n with
    | none => some n
    | some b => if zBar M f b ≤ zBar M f n then some b else some n
theorem zEn_s {M : yb_S} {f n : Nat} : zEn M f (n + 1) = match zEn M f n with
    | none => some n
    | some b => if zBar M f b ≤ zBar M f n then some b else some n := rfl
theorem zEn_lt {M : yb_S} {f : Nat} : ∀ {n b : Nat}, zEn M f n = some b → b < n
  | n + 1, b, h => by
    rw [zEn_s] at h
    split at h
    · cases h
      omega
    · rename_i b' hb
      have := zEn_lt hb
      split at h
      · cases h
        omega
      · cases h
        omega
theorem zEn_0 {M : yb_S} {f n b : Nat} (h : zEn M f n = some b) (hH : b < 2147483648) : ¬ (zix (zEn M f n) = -1) := by
  rw [h, zix_s, show (-1 : Int32) = zm from rfl, zi_eqm hH]
  exact id
theorem ze_35 : ∀ (a1 : Int32) (s : yb_S), zInv s → ∃ (r : Int32) (s1 s2 : yb_S), f_X11_ends a1 s = some (r, s1) ∧ f_X12_ends a1 s1 = some (r, s2) ∧ zInv s2 := by
  intro a1 s h
  have h8 := zw_F8 h.1
  have h9 := zw_H8 h.1
  have hno : ¬ (∃ f, f < nF (zP s) ∧ a1 = zi f ∧ (zP s).1 195 f = 0) → ∃ (r : Int32) (s1 s2 : yb_S), f_X11_ends a1 s = some (r, s1) ∧ f_X12_ends a1 s1 = some (r, s2) ∧ zInv s2 := by
    intro hn
    refine z_ask h (-1) (fun m t hA => ?_) (fun o t hQ => ?_)
    · unfold f_X11_ends
      by_cases hf : zin a1 (nF (zP s))
      · obtain ⟨f, hf, rfl⟩ := hf
        rw [zo_isIn h.1 hA hf, beq_eq_false_iff_ne.mpr (fun q => hn ⟨f, hf, rfl, q⟩)]
        exact zs_ret ⟨rfl, hA⟩
      · rw [zo_isIn0 h.1 hA hf]
        exact zs_ret ⟨rfl, hA⟩
    · unfold f_X12_ends
      by_cases hf : zin a1 (nF (zP s))
      · obtain ⟨f, hf, rfl⟩ := hf
        rw [zm_hFt h.1 hQ hf, Option.bind_some, if_neg (by decide), zi_rd (by omega) (by omega), Option.bind_some, zq hQ (by omega), if_neg (fun q => hn ⟨f, hf, rfl, q⟩)]
        exact zs_ret ⟨rfl, hQ⟩
      · rw [zm_hFf h.1 hQ hf]
        exact zs_ret ⟨rfl, hQ⟩
  by_cases hc : ∃ f, f < nF (zP s) ∧ a1 = zi f ∧ (zP s).1 195 f = 0
  · obtain ⟨f, hf, rfl, h0⟩ := hc
    refine z_ask h (zix (zEn (zP s) f (nH (zP s)))) (fun m t hA => ?_) (fun o t hQ => ?_)
    · unfold f_X11_ends l_X11_ends_21
      rw [zo_isIn h.1 hA hf, h0, Option.bind_some, if_neg (by decide)]
      refine zs_up (fun k q => q.1 = zix (zEn (zP s) f k) ∧ q.2.1 = (match zEn (zP s) f k with | none => 0 | some b => zBar (zP s) f b) ∧ q.2.2.1 = zi k ∧ zfo t q.2.2.2) (nH (zP s)) ?_ yb_N 0 _ (Nat.zero_le _) (by unfold yb_N; omega) ⟨rfl, rfl, rfl, zfo_refl t⟩
      rintro k ⟨x, y, z, u⟩ rc hk ⟨i1, i2, i3, i4⟩ hn
      dsimp only at i1 i2 i3 i4
      subst i1 i2 i3
      have hAu := zfo_A i4 hA
      show zs_P (f_X11_ends_21 (fun x1 x2 x3 s => rc (x1, x2, x3, s)) (zi f) _ _ (zi k) u) _
      unfold f_X11_ends_21 j_X11_ends_59 j_X11_ends_65
      rw [cq_H hAu, zw_H h.1]
      rcases Nat.lt_or_ge k (nH (zP s)) with hlt | hge
      · rw [if_neg (by rw [zi_le (by omega) (by omega)]; omega)]
        refine zs_bind (zo_barOf h.1 hAu hf hlt) fun a ha => ?_
        rw [ha.1, zi_succ]
        have es := zEn_s (M := zP s) (f := f) (n := k)
        cases hz : zEn (zP s) f k with
        | none =>
          rw [hz] at es
          rw [zix_n, if_pos rfl]
          exact hn hlt _ ⟨by rw [es]; rfl, by rw [es], rfl, zfo_trans i4 ha.2⟩
        | some b =>
          have hb := zEn_lt hz
          rw [hz] at es
          dsimp only at es ⊢
          rw [zix_s, if_neg (by rw [show (-1 : Int32) = zm from rfl, zi_eqm (by omega)]; exact id)]
          by_cases e : zBar (zP s) f b ≤ zBar (zP s) f k
          · rw [if_pos e] at es ⊢
            exact hn hlt _ ⟨by rw [es]; rfl, by rw [es], rfl, zfo_trans i4 ha.2⟩
          · rw [if_neg e] at es ⊢
            exact hn hlt _ ⟨by rw [es]; rfl, by rw [es], rfl, zfo_trans i4 ha.2⟩
      · have hkl := Nat.le_antisymm hk hge
        subst hkl
        rw [if_pos (Int32.le_refl _)]
        exact zs_ret ⟨rfl, hAu⟩
    · unfold f_X12_ends l_X12_ends_23
      rw [zm_hFt h.1 hQ hf, Option.bind_some, if_neg (by decide), zi_rd (by omega) (by omega), Option.bind_some, zq hQ (by omega), if_pos h0]
      refine zs_up (fun k q => q.1 = zix (zEn (zP s) f k) ∧ q.2.1 = zi k ∧ zG t q.2.2) (nH (zP s)) ?_ yb_N 0 _ (Nat.zero_le _) (by unfold yb_N; omega) ⟨rfl, rfl, zG_refl t⟩
      rintro k ⟨x, z, u⟩ rc hk ⟨i1, i3, i4⟩ hn
      dsimp only at i1 i3 i4
      subst i1 i3
      have hQu := zG_Q i4 hQ
      show zs_P (f_X12_ends_23 (fun x1 x2 s => rc (x1, x2, s)) (zi f) _ (zi k) u) _
      unfold f_X12_ends_23 j_X12_ends_51 j_X12_ends_53
      rw [zqk hQu (by omega), zw_H h.1]
      rcases Nat.lt_or_ge k (nH (zP s)) with hlt | hge
      · rw [if_neg (by rw [zi_le (by omega) (by omega)]; omega)]
        have es := zEn_s (M := zP s) (f := f) (n := k)
        cases hz : zEn (zP s) f k with
        | none =>
          rw [hz] at es
          rw [zix_n, if_pos rfl, zi_succ]
          exact hn hlt _ ⟨by rw [es]; rfl, rfl, i4⟩
        | some b =>
          have hb := zEn_lt hz
          rw [hz] at es
          dsimp only at es ⊢
          rw [zix_s, if_neg (by rw [show (-1 : Int32) = zm from rfl, zi_eqm (by omega)]; exact id)]
          refine zs_bind (zm_barOf h.1 hQu hf hlt) fun a ha => ?_
          refine zs_bind (zm_barOf h.1 (zG_Q ha.2 hQu) hf (by omega : b < nH (zP s))) fun c hc => ?_
          rw [ha.1, hc.1, zi_succ]
          have hG := zG_trans (zG_trans i4 ha.2) hc.2
          by_cases e : zBar (zP s) f b ≤ zBar (zP s) f k
          · rw [if_pos e] at es ⊢
            exact hn hlt _ ⟨by rw [es]; rfl, rfl, hG⟩
          · rw [if_neg e] at es ⊢
            exact hn hlt _ ⟨by rw [es]; rfl, rfl, hG⟩
      · have hkl := Nat.le_antisymm hk hge
        subst hkl
        rw [if_pos (Int32.le_refl _)]
        exact zs_ret ⟨rfl, hQu⟩
  · exact hno hc
