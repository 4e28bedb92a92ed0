/-! the home for one, and why others were passed -/
def zWo (M : yb_S) (f h : Nat) : Int32 := ((1000 : Int32) * zKinIn M f (zi (zHt M h)) + (if M.1 199 f = zi (zHt M h) then 100 else 0)) + zLack M (zHt M h)
def zBst (M : yb_S) (f : Nat) : Nat → Option Nat
  | 0 => none
  | n + 1 => if zBar M f n = 0 then (match zBst M f n with
    | none => some n
    | some b => if zWo M f n ≤ zWo M f b then some b else some n) else zBst M f n
theorem zBst_s {M : yb_S} {f n : Nat} : zBst M f (n + 1) = if zBar M f n = 0 then (match zBst M f n with
    | none => some n
    | some b => if zWo M f n ≤ zWo M f b then some b else some n) else zBst M f n := rfl
theorem zBst_ok {M : yb_S} {f : Nat} : ∀ {n b : Nat}, zBst M f n = some b → b < n ∧ zBar M f b = 0
  | n + 1, b, h => by
    rw [zBst_s] at h
    by_cases c : zBar M f n = 0
    · rw [if_pos c] at h
      cases e : zBst M f n with
      | none =>
        rw [e] at h
        cases h
        exact ⟨by omega, c⟩
      | some a =>
        rw [e] at h
        have := zBst_ok e
        dsimp only at h
        split at h
        · cases h
          exact ⟨by omega, this.2⟩
        · cases h
          exact ⟨by omega, c⟩
    · rw [if_neg c] at h
      have := zBst_ok h
      exact ⟨by omega, this.2⟩
theorem zo_homeFor {M m s : yb_S} (hW : zW M) (hA : zA M m s) {f : Nat} (hf : f < nF M) : zs_P (f_X6_homeFor (zi f) s) (fun a => a.1 = zix (zBst M f (nH M)) ∧ zfo s a.2) := by
  have h9 := zw_H8 hW
  unfold f_X6_homeFor l_X6_homeFor_7
  refine zs_up (fun k q => q.1 = zix (zBst M f k) ∧ (∀ b, zBst M f k = some b → q.2.1 = zWo M f b) ∧ q.2.2.1 = zi k ∧ zfo s q.2.2.2) (nH M) ?_ yb_N 0 _ (Nat.zero_le _) (by unfold yb_N; omega) (by exact ⟨rfl, fun b hb => (by cases hb), rfl, zfo_refl s⟩)
  rintro k ⟨x, y, z, u⟩ rc hk ⟨i1, i2, i3, i4⟩ hn
  dsimp only at i1 i2 i3 i4
  subst i1 i3
  have hAu := zfo_A i4 hA
  show zs_P (f_X6_homeFor_7 (fun x1 x2 x3 s => rc (x1, x2, x3, s)) (zi f) _ _ (zi k) u) _
  unfold f_X6_homeFor_7 j_X6_homeFor_101 j_X6_homeFor_107
  rw [cq_H hAu, zw_H hW]
  rcases Nat.lt_or_ge k (nH M) with hlt | hge
  · rw [if_neg (by rw [zi_le (by omega) (by omega)]; omega)]
    refine zs_bind (zo_barOf hW hAu hf hlt) fun a ha => ?_
    have hAa := zfo_A ha.2 hAu
    obtain ⟨ht, et⟩ := zw_ht hW hlt
    have es := zBst_s (M := M) (f := f) (n := k)
    rw [ha.1]
    by_cases c : zBar M f k = 0
    · rw [if_pos c] at es ⊢
      rw [zi_rd (by omega) (by omega), Option.bind_some, cq_14 hAa hlt, et, zo_kinIn hW hAa hf ht, Option.bind_some, zo_wishMet hW hAa hf, Option.bind_some]
      refine zs_bind (zo_lack hW hAa ht) fun l hl => ?_
      have hw : ((1000 : Int32) * zKinIn M f (zi (zHt M k)) + (100 : Int32) * zb (M.1 199 f == zi (zHt M k))) + l.1 = zWo M f k := by
        unfold zWo
        rw [hl.1]
        congr 2
        by_cases e : M.1 199 f = zi (zHt M k)
        · rw [if_pos e, e, show (zi (zHt M k) == zi (zHt M k)) = true by simp]
          rfl
        · rw [if_neg e, show (M.1 199 f == zi (zHt M k)) = false from beq_eq_false_iff_ne.mpr e]
          rfl
      rw [hw, zi_succ]
      have hfo := zfo_trans (zfo_trans i4 ha.2) hl.2
      cases hz : zBst M f k with
      | none =>
        rw [hz] at es
        rw [zix_n, if_pos rfl]
        exact hn hlt _ ⟨by rw [es]; rfl, fun b hb => by rw [es] at hb; cases hb; rfl, rfl, hfo⟩
      | some b =>
        have hb := (zBst_ok hz).1
        rw [hz] at es
        dsimp only at es
        rw [zix_s, if_neg (by rw [show (-1 : Int32) = zm from rfl, zi_eqm (by omega)]; exact id), i2 b hz]
        by_cases e : zWo M f k ≤ zWo M f b
        · rw [if_pos e] at es ⊢
          exact hn hlt _ ⟨by rw [es]; rfl, fun c hc => by rw [es] at hc; cases hc; rfl, rfl, hfo⟩
        · rw [if_neg e] at es ⊢
          exact hn hlt _ ⟨by rw [es]; rfl, fun c hc => by rw [es] at hc; cases hc; rfl, rfl, hfo⟩
    · rw [if_neg c] at es ⊢
      rw [zi_succ]
      exact hn hlt _ ⟨by rw [es], fun b hb => by rw [es] at hb; exact i2 b hb, rfl, zfo_trans i4 ha.2⟩
  · have hkl := Nat.le_antisymm hk hge
    subst hkl
    rw [if_pos (Int32.le_refl _)]
    exact zs_ret ⟨rfl, i4⟩
theorem zm_homeFor {M o s : yb_S} (hW : zW M) (hQ : zQ M o s) {f : Nat} (hf : f < nF M) : zs_P (f_X12_homeFor (zi f) s) (fun a => a.1 = zix (zBst M f (nH M)) ∧ zG s a.2) := by
  have h8 := zw_F8 hW
  have h9 := zw_H8 hW
  unfold f_X12_homeFor l_X12_homeFor_7
  refine zs_up (fun k q => q.1 = zix (zBst M f k) ∧ (∀ b, zBst M f k = some b → q.2.1 = zWo M f b) ∧ q.2.2.1 = zi k ∧ zG s q.2.2.2) (nH M) ?_ yb_N 0 _ (Nat.zero_le _) (by unfold yb_N; omega) (by exact ⟨rfl, fun b hb => (by cases hb), rfl, zG_refl s⟩)
  rintro k ⟨x, y, z, u⟩ rc hk ⟨i1, i2, i3, i4⟩ hn
  dsimp only at i1 i2 i3 i4
  subst i1 i3
  have hQu := zG_Q i4 hQ
  show zs_P (f_X12_homeFor_7 (fun x1 x2 x3 s => rc (x1, x2, x3, s)) (zi f) _ _ (zi k) u) _
  unfold f_X12_homeFor_7
  rw [zqk hQu (by omega), zw_H hW]
  rcases Nat.lt_or_ge k (nH M) with hlt | hge
  · rw [if_neg (by rw [zi_le (by omega) (by omega)]; omega)]
    refine zs_bind (zm_barOf hW hQu hf hlt) fun a ha => ?_
    have hQa := zG_Q ha.2 hQu
    obtain ⟨ht, et⟩ := zw_ht hW hlt
    have es := zBst_s (M := M) (f := f) (n := k)
    rw [ha.1]
    by_cases c : zBar M f k = 0
    · rw [if_pos c] at es ⊢
      rw [zi_rd (by omega) (by omega), Option.bind_some, zq hQa (by omega), et]
      refine zs_bind (zm_kinIn hW hQa hf) fun b hb => ?_
      have hQb := zK_Q hb.2 hQa
      rw [zi_rd (by omega) (by omega), Option.bind_some, zq hQb (by omega), hb.1]
      have e6 : ∀ (y0 : Int32), y0 = (if M.1 199 f = zi (zHt M k) then 100 else 0) → zs_P (j_X12_homeFor_66 (fun x1 x2 x3 s => rc (x1, x2, x3, s)) (zi f) (zix (zBst M f k)) y (zi k) (zi (zHt M k)) y0 ((1000 : Int32) * zKinIn M f (zi (zHt M k))) b.2) (fun a => a.1 = zix (zBst M f (nH M)) ∧ zG s a.2) := by
        intro y0 hy0
        unfold j_X12_homeFor_66 j_X12_homeFor_90 j_X12_homeFor_96
        refine zs_bind (zm_lackOf hW hQb ht) fun l hl => ?_
        have hw : ((1000 : Int32) * zKinIn M f (zi (zHt M k)) + y0) + l.1 = zWo M f k := by
          unfold zWo
          rw [hl.1, hy0]
        rw [hw, zi_succ]
        have hG := zG_trans (zG_trans (zG_trans i4 ha.2) (zK_G hb.2)) hl.2
        cases hz : zBst M f k with
        | none =>
          rw [hz] at es
          rw [zix_n, if_pos rfl]
          exact hn hlt _ ⟨by rw [es]; rfl, fun b hb => by rw [es] at hb; cases hb; rfl, rfl, hG⟩
        | some b =>
          have hb := (zBst_ok hz).1
          rw [hz] at es
          dsimp only at es
          rw [zix_s, if_neg (by rw [show (-1 : Int32) = zm from rfl, zi_eqm (by omega)]; exact id), i2 b hz]
          by_cases e : zWo M f k ≤ zWo M f b
          · rw [if_pos e] at es
            rw [if_neg (Int32.not_lt.mpr e)]
            exact hn hlt _ ⟨by rw [es]; rfl, fun c hc => by rw [es] at hc; cases hc; rfl, rfl, hG⟩
          · rw [if_neg e] at es
            rw [if_pos (Int32.not_le.mp e)]
            exact hn hlt _ ⟨by rw [es]; rfl, fun c hc => by rw [es] at hc; cases hc; rfl, rfl, hG⟩
      by_cases e : M.1 199 f = zi (zHt M k)
      · rw [if_pos e]
        exact e6 100 (if_pos e).symm
      · rw [if_neg e]
        exact e6 0 (if_neg e).symm
    · rw [if_neg c] at es ⊢
      unfold j_X12_homeFor_96
      rw [zi_succ]
      exact hn hlt _ ⟨by rw [es], fun b hb => by rw [es] at hb; exact i2 b hb, rfl, zG_trans i4 ha.2⟩
  · have hkl := Nat.le_antisymm hk hge
    subst hkl
    rw [if_pos (Int32.le_refl _)]
    exact zs_ret ⟨rfl, i4⟩
theorem zk_why {o M : yb_S} {a b : Nat} {x : Int32} (ha : a < nF M) (hb : b < nF M) (hq : o.1 100 5 = zi (nF M)) (hW : zW M) (hR : zR o M) : zW (yb_pI M (342 + 1 * a) b x) ∧ zR (yb_pI o (104 + 1 * a) b x) (yb_pI M (342 + 1 * a) b x) := by
  obtain ⟨w1, w2, w3, w4, w5, w6, w7, w8, w9, w10, w11, w12, w13, w14⟩ := hW
  obtain ⟨r1, r2, r3, r4, r5, r6, r7, r8, r9, r10, r11, r12, r13⟩ := hR
  have bH : (M.1 176 15).toNatClampNeg ≤ 24 := w1.2.2.2.1
  have bF : (M.1 176 27).toNatClampNeg ≤ 24 := w1.2.2.2.2.2.1
  have bX : (M.1 176 44).toNatClampNeg ≤ 500 := w2.2.1
  have bS : (M.1 176 54).toNatClampNeg ≤ 10 := w2.2.2.2.1
  have bD : (M.1 176 7).toNatClampNeg ≤ 200 := w2.2.2.2.2.2.1
  have ha24 : a < 24 := Nat.lt_of_lt_of_le ha bF
  refine ⟨⟨?_, ?_, ?_, ?_, ?_, ?_, ?_, ?_, ?_, ?_, ?_, ?_, ?_, ?_⟩, ?_, ?_, ?_, ?_, ?_, ?_, ?_, ?_, ?_, ?_, ?_, ?_, ?_⟩
  · simpa (disch := omega) only [zRt, zRc, zRh, zRf, zRa, zRr, zRk, zRl, zRn, zRx, zRp, zRb, zRg, zW1, zW2, zWt, zWh, zWf, zWn, zWu, zWa, zWr, zWx, zWs, zWb, zWp, zWg, nT, nH, nF, nR, nK, nX, nS, nD, nB, nG, zTown, zPup, zHeads, zRooms, zThere, zHall, zLodg, zLodger, zOf, zHit, zFinds, zKin, zDayH, zu_ne, zu_nef, zu_eq, zu_id, zu_rl, zu_rdL, zu_neL, zu_idL, ↓reduceIte, Nat.reduceEqDiff] using w1
  · simpa (disch := omega) only [zRt, zRc, zRh, zRf, zRa, zRr, zRk, zRl, zRn, zRx, zRp, zRb, zRg, zW1, zW2, zWt, zWh, zWf, zWn, zWu, zWa, zWr, zWx, zWs, zWb, zWp, zWg, nT, nH, nF, nR, nK, nX, nS, nD, nB, nG, zTown, zPup, zHeads, zRooms, zThere, zHall, zLodg, zLodger, zOf, zHit, zFinds, zKin, zDayH, zu_ne, zu_nef, zu_eq, zu_id, zu_rl, zu_rdL, zu_neL, zu_idL, ↓reduceIte, Nat.reduceEqDiff] using w2
  · simpa (disch := omega) only [zRt, zRc, zRh, zRf, zRa, zRr, zRk, zRl, zRn, zRx, zRp, zRb, zRg, zW1, zW2, zWt, zWh, zWf, zWn, zWu, zWa, zWr, zWx, zWs, zWb, zWp, zWg, nT, nH, nF, nR, nK, nX, nS, nD, nB, nG, zTown, zPup, zHeads, zRooms, zThere, zHall, zLodg, zLodger, zOf, zHit, zFinds, zKin, zDayH, zu_ne, zu_nef, zu_eq, zu_id, zu_rl, zu_rdL, zu_neL, zu_idL, ↓reduceIte, Nat.reduceEqDiff] using w3
  · simpa (disch := omega) only [zRt, zRc, zRh, zRf, zRa, zRr, zRk, zRl, zRn, zRx, zRp, zRb, zRg, zW1, zW2, zWt, zWh, zWf, zWn, zWu, zWa, zWr, zWx, zWs, zWb, zWp, zWg, nT, nH, nF, nR, nK, nX, nS, nD, nB, nG, zTown, zPup, zHeads, zRooms, zThere, zHall, zLodg, zLodger, zOf, zHit, zFinds, zKin, zDayH, zu_ne, zu_nef, zu_eq, zu_id, zu_rl, zu_rdL, zu_neL, zu_idL, ↓reduceIte, Nat.reduceEqDiff] using w4
  · simpa (disch := omega) only [zRt, zRc, zRh, zRf, zRa, zRr, zRk, zRl, zRn, zRx, zRp, zRb, zRg, zW1, zW2, zWt, zWh, zWf, zWn, zWu, zWa, zWr, zWx, zWs, zWb, zWp, zWg, nT, nH, nF, nR, nK, nX, nS, nD, nB, nG, zTown, zPup, zHeads, zRooms, zThere, zHall, zLodg, zLodger, zOf, zHit, zFinds, zKin, zDayH, zu_ne, zu_nef, zu_eq, zu_id, zu_rl, zu_rdL, zu_neL, zu_idL, ↓reduceIte, Nat.reduceEqDiff] using w5
  · simpa (disch := omega) only [zRt, zRc, zRh, zRf, zRa, zRr, zRk, zRl, zRn, zRx, zRp, zRb, zRg, zW1, zW2, zWt, zWh, zWf, zWn, zWu, zWa, zWr, zWx, zWs, zWb, zWp, zWg, nT, nH, nF, nR, nK, nX, nS, nD, nB, nG, zTown, zPup, zHeads, zRooms, zThere, zHall, zLodg, zLodger, zOf, zHit, zFinds, zKin, zDayH, zu_ne, zu_nef, zu_eq, zu_id, zu_rl, zu_rdL, zu_neL, zu_idL, ↓reduceIte, Nat.reduceEqDiff] using w6
  · simpa (disch := omega) only [zRt, zRc, zRh, zRf, zRa, zRr, zRk, zRl, zRn, zRx, zRp, zRb, zRg, zW1, zW2, zWt, zWh, zWf, zWn, zWu, zWa, zWr, zWx, zWs, zWb, zWp, zWg, nT, nH, nF, nR, nK, nX, nS, nD, nB, nG, zTown, zPup, zHeads, zRooms, zThere, zHall, zLodg, zLodger, zOf, zHit, zFinds, zKin, zDayH, zu_ne, zu_nef, zu_eq, zu_id, zu_rl, zu_rdL, zu_neL, zu_idL, ↓reduceIte, Nat.reduceEqDiff] using w7
  · simpa (disch := omega) only [zRt, zRc, zRh, zRf, zRa, zRr, zRk, zRl, zRn, zRx, zRp, zRb, zRg, zW1, zW2, zWt, zWh, zWf, zWn, zWu, zWa, zWr, zWx, zWs, zWb, zWp, zWg, nT, nH, nF, nR, nK, nX, nS, nD, nB, nG, zTown, zPup, zHeads, zRooms, zThere, zHall, zLodg, zLodger, zOf, zHit, zFinds, zKin, zDayH, zu_ne, zu_nef, zu_eq, zu_id, zu_rl, zu_rdL, zu_neL, zu_idL, ↓reduceIte, Nat.reduceEqDiff] using w8
  · simpa (disch := omega) only [zRt, zRc, zRh, zRf, zRa, zRr, zRk, zRl, zRn, zRx, zRp, zRb, zRg, zW1, zW2, zWt, zWh, zWf, zWn, zWu, zWa, zWr, zWx, zWs, zWb, zWp, zWg, nT, nH, nF, nR, nK, nX, nS, nD, nB, nG, zTown, zPup, zHeads, zRooms, zThere, zHall, zLodg, zLodger, zOf, zHit, zFinds, zKin, zDayH, zu_ne, zu_nef, zu_eq, zu_id, zu_rl, zu_rdL, zu_neL, zu_idL, ↓reduceIte, Nat.reduceEqDiff] using w9
  · simpa (disch := omega) only [zRt, zRc, zRh, zRf, zRa, zRr, zRk, zRl, zRn, zRx, zRp, zRb, zRg, zW1, zW2, zWt, zWh, zWf, zWn, zWu, zWa, zWr, zWx, zWs, zWb, zWp, zWg, nT, nH, nF, nR, nK, nX, nS, nD, nB, nG, zTown, zPup, zHeads, zRooms, zThere, zHall, zLodg, zLodger, zOf, zHit, zFinds, zKin, zDayH, zu_ne, zu_nef, zu_eq, zu_id, zu_rl, zu_rdL, zu_neL, zu_idL, ↓reduceIte, Nat.reduceEqDiff] using w10
  · simpa (disch := omega) only [zRt, zRc, zRh, zRf, zRa, zRr, zRk, zRl, zRn, zRx, zRp, zRb, zRg, zW1, zW2, zWt, zWh, zWf, zWn, zWu, zWa, zWr, zWx, zWs, zWb, zWp, zWg, nT, nH, nF, nR, nK, nX, nS, nD, nB, nG, zTown, zPup, zHeads, zRooms, zThere, zHall, zLodg, zLodger, zOf, zHit, zFinds, zKin, zDayH, zu_ne, zu_nef, zu_eq, zu_id, zu_rl, zu_rdL, zu_neL, zu_idL, ↓reduceIte, Nat.reduceEqDiff] using w11
  · simpa (disch := omega) only [zRt, zRc, zRh, zRf, zRa, zRr, zRk, zRl, zRn, zRx, zRp, zRb, zRg, zW1, zW2, zWt, zWh, zWf, zWn, zWu, zWa, zWr, zWx, zWs, zWb, zWp, zWg, nT, nH, nF, nR, nK, nX, nS, nD, nB, nG, zTown, zPup, zHeads, zRooms, zThere, zHall, zLodg, zLodger, zOf, zHit, zFinds, zKin, zDayH, zu_ne, zu_nef, zu_eq, zu_id, zu_rl, zu_rdL, zu_neL, zu_idL, ↓reduceIte, Nat.reduceEqDiff] using w12
  · simpa (disch := omega) only [zRt, zRc, zRh, zRf, zRa, zRr, zRk, zRl, zRn, zRx, zRp, zRb, zRg, zW1, zW2, zWt, zWh, zWf, zWn, zWu, zWa, zWr, zWx, zWs, zWb, zWp, zWg, nT, nH, nF, nR, nK, nX, nS, nD, nB, nG, zTown, zPup, zHeads, zRooms, zThere, zHall, zLodg, zLodger, zOf, zHit, zFinds, zKin, zDayH, zu_ne, zu_nef, zu_eq, zu_id, zu_rl, zu_rdL, zu_neL, zu_idL, ↓reduceIte, Nat.reduceEqDiff] using w13
  · simpa (disch := omega) only [zRt, zRc, zRh, zRf, zRa, zRr, zRk, zRl, zRn, zRx, zRp, zRb, zRg, zW1, zW2, zWt, zWh, zWf, zWn, zWu, zWa, zWr, zWx, zWs, zWb, zWp, zWg, nT, nH, nF, nR, nK, nX, nS, nD, nB, nG, zTown, zPup, zHeads, zRooms, zThere, zHall, zLodg, zLodger, zOf, zHit, zFinds, zKin, zDayH, zu_ne, zu_nef, zu_eq, zu_id, zu_rl, zu_rdL, zu_neL, zu_idL, ↓reduceIte, Nat.reduceEqDiff] using w14
  · simpa (disch := omega) only [zRt, zRc, zRh, zRf, zRa, zRr, zRk, zRl, zRn, zRx, zRp, zRb, zRg, zW1, zW2, zWt, zWh, zWf, zWn, zWu, zWa, zWr, zWx, zWs, zWb, zWp, zWg, nT, nH, nF, nR, nK, nX, nS, nD, nB, nG, zTown, zPup, zHeads, zRooms, zThere, zHall, zLodg, zLodger, zOf, zHit, zFinds, zKin, zDayH, zu_ne, zu_nef, zu_eq, zu_id, zu_rl, zu_rdL, zu_neL, zu_idL, ↓reduceIte, Nat.reduceEqDiff] using r1
  · simpa (disch := omega) only [zRt, zRc, zRh, zRf, zRa, zRr, zRk, zRl, zRn, zRx, zRp, zRb, zRg, zW1, zW2, zWt, zWh, zWf, zWn, zWu, zWa, zWr, zWx, zWs, zWb, zWp, zWg, nT, nH, nF, nR, nK, nX, nS, nD, nB, nG, zTown, zPup, zHeads, zRooms, zThere, zHall, zLodg, zLodger, zOf, zHit, zFinds, zKin, zDayH, zu_ne, zu_nef, zu_eq, zu_id, zu_rl, zu_rdL, zu_neL, zu_idL, ↓reduceIte, Nat.reduceEqDiff] using r2
  · simpa (disch := omega) only [zRt, zRc, zRh, zRf, zRa, zRr, zRk, zRl, zRn, zRx, zRp, zRb, zRg, zW1, zW2, zWt, zWh, zWf, zWn, zWu, zWa, zWr, zWx, zWs, zWb, zWp, zWg, nT, nH, nF, nR, nK, nX, nS, nD, nB, nG, zTown, zPup, zHeads, zRooms, zThere, zHall, zLodg, zLodger, zOf, zHit, zFinds, zKin, zDayH, zu_ne, zu_nef, zu_eq, zu_id, zu_rl, zu_rdL, zu_neL, zu_idL, ↓reduceIte, Nat.reduceEqDiff] using r3
  · simpa (disch := omega) only [zRt, zRc, zRh, zRf, zRa, zRr, zRk, zRl, zRn, zRx, zRp, zRb, zRg, zW1, zW2, zWt, zWh, zWf, zWn, zWu, zWa, zWr, zWx, zWs, zWb, zWp, zWg, nT, nH, nF, nR, nK, nX, nS, nD, nB, nG, zTown, zPup, zHeads, zRooms, zThere, zHall, zLodg, zLodger, zOf, zHit, zFinds, zKin, zDayH, zu_ne, zu_nef, zu_eq, zu_id, zu_rl, zu_rdL, zu_neL, zu_idL, ↓reduceIte, Nat.reduceEqDiff] using r4
  · simpa (disch := omega) only [zRt, zRc, zRh, zRf, zRa, zRr, zRk, zRl, zRn, zRx, zRp, zRb, zRg, zW1, zW2, zWt, zWh, zWf, zWn, zWu, zWa, zWr, zWx, zWs, zWb, zWp, zWg, nT, nH, nF, nR, nK, nX, nS, nD, nB, nG, zTown, zPup, zHeads, zRooms, zThere, zHall, zLodg, zLodger, zOf, zHit, zFinds, zKin, zDayH, zu_ne, zu_nef, zu_eq, zu_id, zu_rl, zu_rdL, zu_neL, zu_idL, ↓reduceIte, Nat.reduceEqDiff] using r5
  · simpa (disch := omega) only [zRt, zRc, zRh, zRf, zRa, zRr, zRk, zRl, zRn, zRx, zRp, zRb, zRg, zW1, zW2, zWt, zWh, zWf, zWn, zWu, zWa, zWr, zWx, zWs, zWb, zWp, zWg, nT, nH, nF, nR, nK, nX, nS, nD, nB, nG, zTown, zPup, zHeads, zRooms, zThere, zHall, zLodg, zLodger, zOf, zHit, zFinds, zKin, zDayH, zu_ne, zu_nef, zu_eq, zu_id, zu_rl, zu_rdL, zu_neL, zu_idL, ↓reduceIte, Nat.reduceEqDiff] using r6
  · simpa (disch := omega) only [zRt, zRc, zRh, zRf, zRa, zRr, zRk, zRl, zRn, zRx, zRp, zRb, zRg, zW1, zW2, zWt, zWh, zWf, zWn, zWu, zWa, zWr, zWx, zWs, zWb, zWp, zWg, nT, nH, nF, nR, nK, nX, nS, nD, nB, nG, zTown, zPup, zHeads, zRooms, zThere, zHall, zLodg, zLodger, zOf, zHit, zFinds, zKin, zDayH, zu_ne, zu_nef, zu_eq, zu_id, zu_rl, zu_rdL, zu_neL, zu_idL, ↓reduceIte, Nat.reduceEqDiff] using r7
  · simpa (disch := omega) only [zRt, zRc, zRh, zRf, zRa, zRr, zRk, zRl, zRn, zRx, zRp, zRb, zRg, zW1, zW2, zWt, zWh, zWf, zWn, zWu, zWa, zWr, zWx, zWs, zWb, zWp, zWg, nT, nH, nF, nR, nK, nX, nS, nD, nB, nG, zTown, zPup, zHeads, zRooms, zThere, zHall, zLodg, zLodger, zOf, zHit, zFinds, zKin, zDayH, zu_ne, zu_nef, zu_eq, zu_id, zu_rl, zu_rdL, zu_neL, zu_idL, ↓reduceIte, Nat.reduceEqDiff] using r8
  · simpa (disch := omega) only [zRt, zRc, zRh, zRf, zRa, zRr, zRk, zRl, zRn, zRx, zRp, zRb, zRg, zW1, zW2, zWt, zWh, zWf, zWn, zWu, zWa, zWr, zWx, zWs, zWb, zWp, zWg, nT, nH, nF, nR, nK, nX, nS, nD, nB, nG, zTown, zPup, zHeads, zRooms, zThere, zHall, zLodg, zLodger, zOf, zHit, zFinds, zKin, zDayH, zu_ne, zu_nef, zu_eq, zu_id, zu_rl, zu_rdL, zu_neL, zu_idL, ↓reduceIte, Nat.reduceEqDiff] using r9
  · simpa (disch := omega) only [zRt, zRc, zRh, zRf, zRa, zRr, zRk, zRl, zRn, zRx, zRp, zRb, zRg, zW1, zW2, zWt, zWh, zWf, zWn, zWu, zWa, zWr, zWx, zWs, zWb, zWp, zWg, nT, nH, nF, nR, nK, nX, nS, nD, nB, nG, zTown, zPup, zHeads, zRooms, zThere, zHall, zLodg, zLodger, zOf, zHit, zFinds, zKin, zDayH, zu_ne, zu_nef, zu_eq, zu_id, zu_rl, zu_rdL, zu_neL, zu_idL, ↓reduceIte, Nat.reduceEqDiff] using r10
  · obtain ⟨q, q1, q2, q3, q4⟩ := r11
    have hF8 : nF M ≤ 24 := w1.2.2.2.2.2.1
    have eq : q = nF M := by
      rw [hq, zi_inj (by omega) (by omega)] at q2
      exact q2.symm
    subst eq
    refine ⟨nF M, ?_, ?_, ?_, fun f hf g hg => ⟨fun hf2 hg2 => ?_, fun h1 h2 => ?_⟩⟩
    · unfold nF
      simp (disch := omega) only [zu_ne]
      exact Nat.le_refl _
    · simp (disch := omega) only [zu_ne]
      exact hq
    · simp (disch := omega) only [zu_ne]
      exact q3
    · have := (q4 f hf g hg).1 hf2 hg2
      rw [zu_rd, zu_rd]
      by_cases e : f = a
      · rw [if_pos (show 104 + f % 24 = 104 + 1 * a by omega), if_pos (show 342 + f % 24 = 342 + 1 * a by omega), this]
      · rw [if_neg (show ¬104 + f % 24 = 104 + 1 * a by omega), if_neg (show ¬342 + f % 24 = 342 + 1 * a by omega), this]
    · simp (disch := omega) only [zu_ne] at h1
      have := (q4 f hf g hg).2 h1 h2
      rw [zu_rd]
      by_cases e : f = a
      · rw [if_pos (show 342 + f % 24 = 342 + 1 * a by omega), if_neg (show ¬g = b by omega), this]
      · rw [if_neg (show ¬342 + f % 24 = 342 + 1 * a by omega), this]
  · simpa (disch := omega) only [zRt, zRc, zRh, zRf, zRa, zRr, zRk, zRl, zRn, zRx, zRp, zRb, zRg, zW1, zW2, zWt, zWh, zWf, zWn, zWu, zWa, zWr, zWx, zWs, zWb, zWp, zWg, nT, nH, nF, nR, nK, nX, nS, nD, nB, nG, zTown, zPup, zHeads, zRooms, zThere, zHall, zLodg, zLodger, zOf, zHit, zFinds, zKin, zDayH, zu_ne, zu_nef, zu_eq, zu_id, zu_rl, zu_rdL, zu_neL, zu_idL, ↓reduceIte, Nat.reduceEqDiff] using r12
  · simpa (disch := omega) only [zRt, zRc, zRh, zRf, zRa, zRr, zRk, zRl, zRn, zRx, zRp, zRb, zRg, zW1, zW2, zWt, zWh, zWf, zWn, zWu, zWa, zWr, zWx, zWs, zWb, zWp, zWg, nT, nH, nF, nR, nK, nX, nS, nD, nB, nG, zTown, zPup, zHeads, zRooms, zThere, zHall, zLodg, zLodger, zOf, zHit, zFinds, zKin, zDayH, zu_ne, zu_nef, zu_eq, zu_id, zu_rl, zu_rdL, zu_neL, zu_idL, ↓reduceIte, Nat.reduceEqDiff] using r13
/-- why others were passed by f, who gets h: the first n in the line q -/
def zWy (q : Nat → Nat) (f h : Nat) (M : yb_S) : Nat → yb_S
  | 0 => M
  | n + 1 => if (zWy q f h M n).1 195 (q n) = 0 then yb_pI (zWy q f h M n) (342 + 1 * q n) f (zBar (zWy q f h M n) (q n) h) else zWy q f h M n
theorem zWy_s {q : Nat → Nat} {f h : Nat} {M : yb_S} {n : Nat} : zWy q f h M (n + 1) = if (zWy q f h M n).1 195 (q n) = 0 then yb_pI (zWy q f h M n) (342 + 1 * q n) f (zBar (zWy q f h M n) (q n) h) else zWy q f h M n := rfl
theorem zWy_c {q : Nat → Nat} {f h : Nat} {M : yb_S} {id : Nat} (hid : id < 342 ∨ 367 ≤ id) : ∀ {n : Nat}, (∀ j, j < n → q j < 24) → (zWy q f h M n).1 id = M.1 id
  | 0, _ => rfl
  | n + 1, hq => by
    rw [zWy_s]
    have ih := zWy_c (q := q) (f := f) (h := h) (M := M) hid (n := n) (fun j hj => hq j (by omega))
    have := hq n (by omega)
    split
    · rw [zu_nef (by omega), ih]
    · exact ih
theorem zWy_N {q : Nat → Nat} {f h : Nat} {M : yb_S} {n : Nat} (hq : ∀ j, j < n → q j < 24) : nF (zWy q f h M n) = nF M ∧ nH (zWy q f h M n) = nH M := by
  unfold nF nH
  rw [zWy_c (Or.inl (by decide)) hq]
  exact ⟨rfl, rfl⟩
theorem zo_why {M m s : yb_S} (hW : zW M) (hA : zA M m s) {q : Nat → Nat} {k h : Nat} (hk : k < 24) (hqk : ∀ j, j < k + 1 → q j < nF M) (hh : h < nH M) (h5 : s.1 100 5 = zi (nF M)) (hord : ∀ j, j < k + 1 → s.1 101 j = zi (q j)) : zs_P (f_X6_noteWhys (zi k) (zi h) s) (fun u => zW (zWy q (q k) h M k) ∧ zA (zWy q (q k) h M k) m u ∧ u.1 100 = s.1 100 ∧ u.1 101 = s.1 101) := by
  have h8 := zw_F8 hW
  unfold f_X6_noteWhys l_X6_noteWhys_2
  refine zs_up (fun n a => a.1 = zi n ∧ zW (zWy q (q k) h M n) ∧ zA (zWy q (q k) h M n) m a.2 ∧ a.2.1 100 = s.1 100 ∧ a.2.1 101 = s.1 101) k ?_ yb_N 0 _ (Nat.zero_le _) (by unfold yb_N; omega) (by exact ⟨rfl, hW, hA, rfl, rfl⟩)
  rintro n ⟨x, u⟩ rc hn ⟨i1, i2, i3, i4, i5⟩ hnext
  dsimp only at i1 i2 i3 i4 i5
  subst i1
  show zs_P (f_X6_noteWhys_2 (fun x3 s => rc (x3, s)) (zi k) (zi h) (zi n) u) _
  unfold f_X6_noteWhys_2 j_X6_noteWhys_55
  have hq24 : ∀ j, j < n → q j < 24 := fun j hj => Nat.lt_of_lt_of_le (hqk j (by omega)) h8
  obtain ⟨n1, n2⟩ := zWy_N (f := q k) (h := h) (M := M) hq24
  rcases Nat.lt_or_ge n k with hlt | hge
  · have hqn : q n < nF (zWy q (q k) h M n) := by rw [n1]; exact hqk n (by omega)
    have hq24n : q n < 24 := Nat.lt_of_lt_of_le (hqk n (by omega)) h8
    have hqkk := hqk k (by omega)
    rw [if_neg (by rw [zi_le (by omega) (by omega)]; omega), zi_rd (by omega) (by omega), Option.bind_some, i5, hord n (by omega), zi_rd (by omega) (by omega), Option.bind_some, cq_28 i3 hqn, zi_succ]
    by_cases c : (zWy q (q k) h M n).1 195 (q n) = 0
    · rw [if_pos c, zi_ri (by omega) (by omega), Option.bind_some, zi_rd (by omega) (by omega), Option.bind_some, i5, hord k (by omega)]
      refine zs_bind (zo_barOf i2 i3 hqn (by rw [n2]; exact hh)) fun a ha => ?_
      have hAa := zfo_A ha.2 i3
      have a5 : (zO a.2).1 100 5 = zi (nF (zWy q (q k) h M n)) := by
        rw [n1]
        show a.2.1 100 5 = _
        rw [ha.2.1 100 (by decide) (by decide), i4]
        exact h5
      have hk2 := zk_why (o := zO a.2) (M := zWy q (q k) h M n) (a := q n) (b := q k) (x := zBar (zWy q (q k) h M n) (q n) h) hqn (by rw [n1]; exact hqkk) a5 i2 hAa.1
      rw [ha.1, zi_wr (by omega) (by omega), Option.bind_some]
      refine hnext hlt _ ⟨rfl, ?_, ⟨?_, ?_⟩, ?_, ?_⟩
      · rw [zWy_s, if_pos c]
        exact hk2.1
      · rw [zWy_s, if_pos c]
        dsimp only
        rw [zO_e (by omega)]
        exact hk2.2
      · dsimp only
        rw [zHm_pI (by omega)]
        exact hAa.2
      · dsimp only
        rw [zu_nef (by omega), ha.2.1 100 (by decide) (by decide)]
        exact i4
      · dsimp only
        rw [zu_nef (by omega), ha.2.1 101 (by decide) (by decide)]
        exact i5
    · rw [if_neg c]
      refine hnext hlt _ ?_
      rw [zWy_s, if_neg c]
      exact ⟨rfl, i2, i3, i4, i5⟩
  · have hkl := Nat.le_antisymm hn hge
    subst hkl
    rw [if_pos (Int32.le_refl _)]
    exact zs_ret ⟨i2, i3, i4, i5⟩
