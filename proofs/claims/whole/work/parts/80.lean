/-! sheet -/
def zSc (M : yb_S) (c k : Nat) : Int32 := if k % 2 = 0 then (((zFy M).2.2.2 c).2 (k / 2)).1 else (((zFy M).2.2.2 c).2 (k / 2)).2
def zSl (M : yb_S) (c : Nat) : Nat := ((zFy M).2.2.2 c).1
def zSh (M : yb_S) : yb_S := (fun id k => if id = 176 ∧ k = 44 then 0 else if id = 176 ∧ k = 54 then zi (nS M + 1) else if id = 333 ∧ k = nS M then M.1 176 7 else if id = 334 ∧ k = nS M then -1 else if id = 322 + nS M ∧ k < 6 then zi (zSl M k) else if 245 + 7 * nS M ≤ id ∧ id < 251 + 7 * nS M ∧ k < 2 * zSl M (id - (245 + 7 * nS M)) then zSc M (id - (245 + 7 * nS M)) k else M.1 id k, M.2)
theorem zSh_c {M : yb_S} {id k : Nat} (h1 : id ≠ 176) (h2 : id ≠ 333 ∨ k ≠ nS M) (h3 : id ≠ 334 ∨ k ≠ nS M) (h4 : id ≠ 322 + nS M) (h5 : id < 245 + 7 * nS M ∨ 251 + 7 * nS M ≤ id) : (zSh M).1 id k = M.1 id k := by
  show (if id = 176 ∧ k = 44 then 0 else if id = 176 ∧ k = 54 then zi (nS M + 1) else if id = 333 ∧ k = nS M then M.1 176 7 else if id = 334 ∧ k = nS M then -1 else if id = 322 + nS M ∧ k < 6 then zi (zSl M k) else if 245 + 7 * nS M ≤ id ∧ id < 251 + 7 * nS M ∧ k < 2 * zSl M (id - (245 + 7 * nS M)) then zSc M (id - (245 + 7 * nS M)) k else M.1 id k) = _
  rw [if_neg (by omega), if_neg (by omega), if_neg (by omega), if_neg (by omega), if_neg (by omega), if_neg (by omega)]
theorem zSh_k {M : yb_S} {k : Nat} (h1 : k ≠ 44) (h2 : k ≠ 54) (h10 : nS M < 10) : (zSh M).1 176 k = M.1 176 k := by
  show (if 176 = 176 ∧ k = 44 then 0 else if 176 = 176 ∧ k = 54 then zi (nS M + 1) else if 176 = 333 ∧ k = nS M then M.1 176 7 else if 176 = 334 ∧ k = nS M then -1 else if 176 = 322 + nS M ∧ k < 6 then zi (zSl M k) else if 245 + 7 * nS M ≤ 176 ∧ 176 < 251 + 7 * nS M ∧ k < 2 * zSl M (176 - (245 + 7 * nS M)) then zSc M (176 - (245 + 7 * nS M)) k else M.1 176 k) = _
  rw [if_neg (by omega), if_neg (by omega), if_neg (by omega), if_neg (by omega), if_neg (by omega), if_neg (by omega)]
theorem zSh_2 {M : yb_S} : (zSh M).2 = M.2 := rfl
theorem zSh_44 {M : yb_S} : (zSh M).1 176 44 = 0 := rfl
theorem zSh_54 {M : yb_S} : (zSh M).1 176 54 = zi (nS M + 1) := rfl
theorem zSh_333 {M : yb_S} : (zSh M).1 333 (nS M) = M.1 176 7 := by
  show (if 333 = 176 ∧ nS M = 44 then 0 else if 333 = 176 ∧ nS M = 54 then zi (nS M + 1) else if 333 = 333 ∧ nS M = nS M then M.1 176 7 else _) = _
  rw [if_neg (by omega), if_neg (by omega), if_pos ⟨rfl, rfl⟩]
theorem zSh_334 {M : yb_S} : (zSh M).1 334 (nS M) = -1 := by
  show (if 334 = 176 ∧ nS M = 44 then 0 else if 334 = 176 ∧ nS M = 54 then zi (nS M + 1) else if 334 = 333 ∧ nS M = nS M then M.1 176 7 else if 334 = 334 ∧ nS M = nS M then -1 else _) = _
  rw [if_neg (by omega), if_neg (by omega), if_neg (by omega), if_pos ⟨rfl, rfl⟩]
theorem zSh_L {M : yb_S} {c : Nat} (h10 : nS M < 10) (hc : c < 6) : (zSh M).1 (322 + nS M) c = zi (zSl M c) := by
  show (if 322 + nS M = 176 ∧ c = 44 then 0 else if 322 + nS M = 176 ∧ c = 54 then zi (nS M + 1) else if 322 + nS M = 333 ∧ c = nS M then M.1 176 7 else if 322 + nS M = 334 ∧ c = nS M then -1 else if 322 + nS M = 322 + nS M ∧ c < 6 then zi (zSl M c) else _) = _
  rw [if_neg (by omega), if_neg (by omega), if_neg (by omega), if_neg (by omega), if_pos ⟨rfl, hc⟩]
theorem zSh_C {M : yb_S} {c k : Nat} (h10 : nS M < 10) (hc : c < 6) (hk : k < 2 * zSl M c) : (zSh M).1 (245 + 7 * nS M + c) k = zSc M c k := by
  show (if 245 + 7 * nS M + c = 176 ∧ k = 44 then 0 else if 245 + 7 * nS M + c = 176 ∧ k = 54 then zi (nS M + 1) else if 245 + 7 * nS M + c = 333 ∧ k = nS M then M.1 176 7 else if 245 + 7 * nS M + c = 334 ∧ k = nS M then -1 else if 245 + 7 * nS M + c = 322 + nS M ∧ k < 6 then zi (zSl M k) else if 245 + 7 * nS M ≤ 245 + 7 * nS M + c ∧ 245 + 7 * nS M + c < 251 + 7 * nS M ∧ k < 2 * zSl M (245 + 7 * nS M + c - (245 + 7 * nS M)) then zSc M (245 + 7 * nS M + c - (245 + 7 * nS M)) k else M.1 (245 + 7 * nS M + c) k) = _
  have e : 245 + 7 * nS M + c - (245 + 7 * nS M) = c := by omega
  rw [if_neg (by omega), if_neg (by omega), if_neg (by omega), if_neg (by omega), if_neg (by omega), e, if_pos ⟨by omega, by omega, hk⟩]
theorem zSh_n {M : yb_S} (h10 : nS M < 10) : nS (zSh M) = nS M + 1 := by
  show (zi (nS M + 1)).toNatClampNeg = _
  rw [zi_tn (by omega)]
theorem zSc_ok {M : yb_S} {c k : Nat} : zSc M c (2 * k) = (((zFy M).2.2.2 c).2 k).1 ∧ zSc M c (2 * k + 1) = (((zFy M).2.2.2 c).2 k).2 := by
  unfold zSc
  rw [if_pos (by omega), if_neg (by omega), show 2 * k / 2 = k by omega, show (2 * k + 1) / 2 = k by omega]
  exact ⟨rfl, rfl⟩
/-- what is told of a text that has no fault -/
theorem zFy_g {M : yb_S} (hW : zW M) (hy : (zFy M).1 = true) {c : Nat} (hc : c < 6) : zSl M c ≤ 500 ∧ (0 < zSl M c → zpdp (zSl M c) ((zFy M).2.2.2 c).2 1) := by
  obtain ⟨m, hm, hS1, hS2⟩ := zS_ex (T := zTx M) (n := nX M)
  have h := (ztF_e (zpW_ok (zw_X8 hW) hm hS1 hS2)).1
  by_cases e : ((zFy M).2.2.2 c).1 = 0
  · unfold zSl
    rw [e]
    exact ⟨Nat.zero_le _, fun q => absurd q (Nat.lt_irrefl _)⟩
  · have := (h.2 hy).2 c hc e
    exact ⟨this.2, fun _ => this.1⟩
theorem zSh_W {M : yb_S} (hW : zW M) (hy : (zFy M).1 = true) (h10 : nS M < 10) : zW (zSh M) := by
  have hg := fun c hc => zFy_g hW hy (c := c) hc
  obtain ⟨w1, w2, w3, w4, w5, w6, w7, w8, w9, w10, w11, w12, w13, w14⟩ := hW
  have bH : (M.1 176 15).toNatClampNeg ≤ 24 := w1.2.2.2.1
  have bF : (M.1 176 27).toNatClampNeg ≤ 24 := w1.2.2.2.2.2.1
  have bD : (M.1 176 7).toNatClampNeg ≤ 200 := w2.2.2.2.2.2.1
  refine ⟨?_, ?_, ?_, ?_, ?_, ?_, ?_, ?_, ?_, ?_, ?_, ?_, ?_, ?_⟩
  · have q := w1
    simp (disch := omega) only [zRt, zRc, zRh, zRf, zRa, zRr, zRk, zRl, zRn, zRx, zRp, zRb, zRg, zW1, zW2, zWt, zWh, zWf, zWn, zWu, zWa, zWr, zWx, zWs, zWb, zWp, zWg, nT, nH, nF, nR, nK, nX, nS, nD, nB, nG, zTown, zPup, zHeads, zRooms, zThere, zHall, zLodg, zLodger, zOf, zHit, zFinds, zKin, zDayH, zSh_c, zSh_k, zSh_2] at q ⊢
    exact q
  · have q := w2.2.2.2.2
    refine ⟨rfl, Nat.zero_le _, ?_, ?_, ?_⟩
    · rw [zSh_n h10]
      rfl
    · rw [zSh_n h10]
      omega
    · have q := q
      simp (disch := omega) only [zRt, zRc, zRh, zRf, zRa, zRr, zRk, zRl, zRn, zRx, zRp, zRb, zRg, zW1, zW2, zWt, zWh, zWf, zWn, zWu, zWa, zWr, zWx, zWs, zWb, zWp, zWg, nT, nH, nF, nR, nK, nX, nS, nD, nB, nG, zTown, zPup, zHeads, zRooms, zThere, zHall, zLodg, zLodger, zOf, zHit, zFinds, zKin, zDayH, zSh_c, zSh_k, zSh_2] at q ⊢
      exact q
  · have q := w3
    simp (disch := omega) only [zRt, zRc, zRh, zRf, zRa, zRr, zRk, zRl, zRn, zRx, zRp, zRb, zRg, zW1, zW2, zWt, zWh, zWf, zWn, zWu, zWa, zWr, zWx, zWs, zWb, zWp, zWg, nT, nH, nF, nR, nK, nX, nS, nD, nB, nG, zTown, zPup, zHeads, zRooms, zThere, zHall, zLodg, zLodger, zOf, zHit, zFinds, zKin, zDayH, zSh_c, zSh_k, zSh_2] at q ⊢
    exact q
  · have q := w4
    simp (disch := omega) only [zRt, zRc, zRh, zRf, zRa, zRr, zRk, zRl, zRn, zRx, zRp, zRb, zRg, zW1, zW2, zWt, zWh, zWf, zWn, zWu, zWa, zWr, zWx, zWs, zWb, zWp, zWg, nT, nH, nF, nR, nK, nX, nS, nD, nB, nG, zTown, zPup, zHeads, zRooms, zThere, zHall, zLodg, zLodger, zOf, zHit, zFinds, zKin, zDayH, zSh_c, zSh_k, zSh_2] at q ⊢
    exact q
  · have q := w5
    simp (disch := omega) only [zRt, zRc, zRh, zRf, zRa, zRr, zRk, zRl, zRn, zRx, zRp, zRb, zRg, zW1, zW2, zWt, zWh, zWf, zWn, zWu, zWa, zWr, zWx, zWs, zWb, zWp, zWg, nT, nH, nF, nR, nK, nX, nS, nD, nB, nG, zTown, zPup, zHeads, zRooms, zThere, zHall, zLodg, zLodger, zOf, zHit, zFinds, zKin, zDayH, zSh_c, zSh_k, zSh_2] at q ⊢
    exact q
  · have q := w6
    simp (disch := omega) only [zRt, zRc, zRh, zRf, zRa, zRr, zRk, zRl, zRn, zRx, zRp, zRb, zRg, zW1, zW2, zWt, zWh, zWf, zWn, zWu, zWa, zWr, zWx, zWs, zWb, zWp, zWg, nT, nH, nF, nR, nK, nX, nS, nD, nB, nG, zTown, zPup, zHeads, zRooms, zThere, zHall, zLodg, zLodger, zOf, zHit, zFinds, zKin, zDayH, zSh_c, zSh_k, zSh_2] at q ⊢
    exact q
  · have q := w7
    simp (disch := omega) only [zRt, zRc, zRh, zRf, zRa, zRr, zRk, zRl, zRn, zRx, zRp, zRb, zRg, zW1, zW2, zWt, zWh, zWf, zWn, zWu, zWa, zWr, zWx, zWs, zWb, zWp, zWg, nT, nH, nF, nR, nK, nX, nS, nD, nB, nG, zTown, zPup, zHeads, zRooms, zThere, zHall, zLodg, zLodger, zOf, zHit, zFinds, zKin, zDayH, zSh_c, zSh_k, zSh_2] at q ⊢
    exact q
  · have q := w8
    simp (disch := omega) only [zRt, zRc, zRh, zRf, zRa, zRr, zRk, zRl, zRn, zRx, zRp, zRb, zRg, zW1, zW2, zWt, zWh, zWf, zWn, zWu, zWa, zWr, zWx, zWs, zWb, zWp, zWg, nT, nH, nF, nR, nK, nX, nS, nD, nB, nG, zTown, zPup, zHeads, zRooms, zThere, zHall, zLodg, zLodger, zOf, zHit, zFinds, zKin, zDayH, zSh_c, zSh_k, zSh_2] at q ⊢
    exact q
  · have q := w9
    simp (disch := omega) only [zRt, zRc, zRh, zRf, zRa, zRr, zRk, zRl, zRn, zRx, zRp, zRb, zRg, zW1, zW2, zWt, zWh, zWf, zWn, zWu, zWa, zWr, zWx, zWs, zWb, zWp, zWg, nT, nH, nF, nR, nK, nX, nS, nD, nB, nG, zTown, zPup, zHeads, zRooms, zThere, zHall, zLodg, zLodger, zOf, zHit, zFinds, zKin, zDayH, zSh_c, zSh_k, zSh_2] at q ⊢
    exact q
  · exact fun i hi => absurd hi (Nat.not_lt_zero _)
  · unfold zWs
    rw [zSh_n h10, zSh_k (by decide) (by decide) h10]
    refine ⟨?_, fun j hj => ?_⟩
    · rcases w11.1 with q | ⟨j, hj, q⟩
      · exact Or.inl q
      · exact Or.inr ⟨j, by omega, q⟩
    · by_cases ej : j = nS M
      · subst ej
        refine ⟨Or.inl zSh_334, fun c hc => ⟨zSl M c, (hg c hc).1, ?_, fun hl => ?_⟩⟩
        · rw [show nS M % 10 = nS M by omega]
          exact zSh_L h10 hc
        · obtain ⟨dep, d1, d2, d3, d4⟩ := (hg c hc).2 hl
          refine ⟨dep, d1, d2, d3, fun k hk => ?_⟩
          rw [show 245 + 7 * (nS M % 10) + c % 6 = 245 + 7 * nS M + c by omega, zSh_C h10 hc (by omega), zSh_C h10 hc (by omega), (zSc_ok (M := M)).1, (zSc_ok (M := M)).2]
          exact d4 k hk
      · have hj2 : j < nS M := by omega
        obtain ⟨q1, q2⟩ := w11.2 j hj2
        rw [zSh_c (by omega) (by omega) (by omega) (by omega) (by omega)]
        refine ⟨q1, fun c hc => ?_⟩
        obtain ⟨len, l1, l2, l3⟩ := q2 c hc
        refine ⟨len, l1, ?_, fun hl => ?_⟩
        · rw [zSh_c (by omega) (by omega) (by omega) (by omega) (by omega)]
          exact l2
        · have e : (zSh M).1 (245 + 7 * (j % 10) + c % 6) = M.1 (245 + 7 * (j % 10) + c % 6) := funext fun k => zSh_c (by omega) (by omega) (by omega) (by omega) (by omega)
          rw [e]
          exact l3 hl
  · have q := w12
    simp (disch := omega) only [zRt, zRc, zRh, zRf, zRa, zRr, zRk, zRl, zRn, zRx, zRp, zRb, zRg, zW1, zW2, zWt, zWh, zWf, zWn, zWu, zWa, zWr, zWx, zWs, zWb, zWp, zWg, nT, nH, nF, nR, nK, nX, nS, nD, nB, nG, zTown, zPup, zHeads, zRooms, zThere, zHall, zLodg, zLodger, zOf, zHit, zFinds, zKin, zDayH, zSh_c, zSh_k, zSh_2] at q ⊢
    exact q
  · have q := w13
    simp (disch := omega) only [zRt, zRc, zRh, zRf, zRa, zRr, zRk, zRl, zRn, zRx, zRp, zRb, zRg, zW1, zW2, zWt, zWh, zWf, zWn, zWu, zWa, zWr, zWx, zWs, zWb, zWp, zWg, nT, nH, nF, nR, nK, nX, nS, nD, nB, nG, zTown, zPup, zHeads, zRooms, zThere, zHall, zLodg, zLodger, zOf, zHit, zFinds, zKin, zDayH, zSh_c, zSh_k, zSh_2] at q ⊢
    exact q
  · have q := w14
    simp (disch := omega) only [zRt, zRc, zRh, zRf, zRa, zRr, zRk, zRl, zRn, zRx, zRp, zRb, zRg, zW1, zW2, zWt, zWh, zWf, zWn, zWu, zWa, zWr, zWx, zWs, zWb, zWp, zWg, nT, nH, nF, nR, nK, nX, nS, nD, nB, nG, zTown, zPup, zHeads, zRooms, zThere, zHall, zLodg, zLodger, zOf, zHit, zFinds, zKin, zDayH, zSh_c, zSh_k, zSh_2] at q ⊢
    exact q
theorem zSh_R {M m u v w : yb_S} (hW : zW M) (hA : zA M m u) (hy : (zFy M).1 = true) (h10 : nS M < 10) (hu : ztc (zS (zTx M) (nX M)) w u (zFy M)) (d0 : ∀ id k, ¬ (id = 54 ∧ k = 0) → ¬ (id = 92 ∧ k = 0) → id ≠ 58 + nS M → id ≠ 69 + nS M → id ≠ 80 + nS M → ¬ (id = 55 ∧ k = nS M) → ¬ (id = 56 ∧ k = nS M) → v.1 id k = u.1 id k) (dL : v.2 = u.2) (c1 : v.1 54 0 = zi (nS M + 1)) (c3 : v.1 92 0 = 0) (c4 : v.1 55 (nS M) = M.1 176 7) (c5 : v.1 56 (nS M) = -1) (c6 : ∀ c, c < 6 → v.1 (69 + nS M) c = u.1 94 c ∧ v.1 (80 + nS M) c = u.1 95 c) (c7 : ∀ k, k < (zFy M).2.2.1 → k < 500 → v.1 (58 + nS M) k = u.1 93 k) : zA (zSh M) m v := by
  have hg := fun c hc => zFy_g hW hy (c := c) hc
  have d : ∀ id k, ¬ (id = 54 ∧ k = 0) → ¬ (id = 92 ∧ k = 0) → id ≠ 58 + nS M → id ≠ 69 + nS M → id ≠ 80 + nS M → ¬ (id = 55 ∧ k = nS M) → ¬ (id = 56 ∧ k = nS M) → (zO v).1 id k = (zO u).1 id k := fun id k q1 q2 q3 q4 q5 q6 q7 => by
    show (if zeO id k then v.1 id k else 0) = (if zeO id k then u.1 id k else 0)
    rw [d0 id k q1 q2 q3 q4 q5 q6 q7]
  have d2 : (zO v).2 = (zO u).2 := by
    funext id k
    show (if id < 176 then v.2 id k else 0) = (if id < 176 then u.2 id k else 0)
    rw [dL]
  have hm : zHm v = m := by
    rw [← hA.2]
    apply Prod.ext
    · funext id k
      exact d0 (id + 176) k (by omega) (by omega) (by omega) (by omega) (by omega) (by omega) (by omega)
    · funext id
      show v.2 (id + 176) = u.2 (id + 176)
      rw [dL]
  obtain ⟨w1, w2, w3, w4, w5, w6, w7, w8, w9, w10, w11, w12, w13, w14⟩ := hW
  obtain ⟨r1, r2, r3, r4, r5, r6, r7, r8, r9, r10, r11, r12, r13⟩ := hA.1
  have bH : (M.1 176 15).toNatClampNeg ≤ 24 := w1.2.2.2.1
  have bF : (M.1 176 27).toNatClampNeg ≤ 24 := w1.2.2.2.2.2.1
  have bD : (M.1 176 7).toNatClampNeg ≤ 200 := w2.2.2.2.2.2.1
  have ob := fun id k (h : zeO id k = true) => (zO_rd (s := v) h)
  refine ⟨⟨?_, ?_, ?_, ?_, ?_, ?_, ?_, ?_, ?_, ?_, ?_, ?_, ?_⟩, hm⟩
  · have q := r1
    simp (disch := omega) only [zRt, zRc, zRh, zRf, zRa, zRr, zRk, zRl, zRn, zRx, zRp, zRb, zRg, zW1, zW2, zWt, zWh, zWf, zWn, zWu, zWa, zWr, zWx, zWs, zWb, zWp, zWg, nT, nH, nF, nR, nK, nX, nS, nD, nB, nG, zTown, zPup, zHeads, zRooms, zThere, zHall, zLodg, zLodger, zOf, zHit, zFinds, zKin, zDayH, zSh_c, zSh_k, zSh_2, d, d2] at q ⊢
    exact q
  · have q := r2
    simp (disch := omega) only [zRt, zRc, zRh, zRf, zRa, zRr, zRk, zRl, zRn, zRx, zRp, zRb, zRg, zW1, zW2, zWt, zWh, zWf, zWn, zWu, zWa, zWr, zWx, zWs, zWb, zWp, zWg, nT, nH, nF, nR, nK, nX, nS, nD, nB, nG, zTown, zPup, zHeads, zRooms, zThere, zHall, zLodg, zLodger, zOf, zHit, zFinds, zKin, zDayH, zSh_c, zSh_k, zSh_2, d, d2] at q ⊢
    exact q
  · have q := r3
    simp (disch := omega) only [zRt, zRc, zRh, zRf, zRa, zRr, zRk, zRl, zRn, zRx, zRp, zRb, zRg, zW1, zW2, zWt, zWh, zWf, zWn, zWu, zWa, zWr, zWx, zWs, zWb, zWp, zWg, nT, nH, nF, nR, nK, nX, nS, nD, nB, nG, zTown, zPup, zHeads, zRooms, zThere, zHall, zLodg, zLodger, zOf, zHit, zFinds, zKin, zDayH, zSh_c, zSh_k, zSh_2, d, d2] at q ⊢
    exact q
  · have q := r4
    simp (disch := omega) only [zRt, zRc, zRh, zRf, zRa, zRr, zRk, zRl, zRn, zRx, zRp, zRb, zRg, zW1, zW2, zWt, zWh, zWf, zWn, zWu, zWa, zWr, zWx, zWs, zWb, zWp, zWg, nT, nH, nF, nR, nK, nX, nS, nD, nB, nG, zTown, zPup, zHeads, zRooms, zThere, zHall, zLodg, zLodger, zOf, zHit, zFinds, zKin, zDayH, zSh_c, zSh_k, zSh_2, d, d2] at q ⊢
    exact q
  · have q := r5
    simp (disch := omega) only [zRt, zRc, zRh, zRf, zRa, zRr, zRk, zRl, zRn, zRx, zRp, zRb, zRg, zW1, zW2, zWt, zWh, zWf, zWn, zWu, zWa, zWr, zWx, zWs, zWb, zWp, zWg, nT, nH, nF, nR, nK, nX, nS, nD, nB, nG, zTown, zPup, zHeads, zRooms, zThere, zHall, zLodg, zLodger, zOf, zHit, zFinds, zKin, zDayH, zSh_c, zSh_k, zSh_2, d, d2] at q ⊢
    exact q
  · have q := r6
    simp (disch := omega) only [zRt, zRc, zRh, zRf, zRa, zRr, zRk, zRl, zRn, zRx, zRp, zRb, zRg, zW1, zW2, zWt, zWh, zWf, zWn, zWu, zWa, zWr, zWx, zWs, zWb, zWp, zWg, nT, nH, nF, nR, nK, nX, nS, nD, nB, nG, zTown, zPup, zHeads, zRooms, zThere, zHall, zLodg, zLodger, zOf, zHit, zFinds, zKin, zDayH, zSh_c, zSh_k, zSh_2, d, d2] at q ⊢
    exact q
  · have q := r7
    simp (disch := omega) only [zRt, zRc, zRh, zRf, zRa, zRr, zRk, zRl, zRn, zRx, zRp, zRb, zRg, zW1, zW2, zWt, zWh, zWf, zWn, zWu, zWa, zWr, zWx, zWs, zWb, zWp, zWg, nT, nH, nF, nR, nK, nX, nS, nD, nB, nG, zTown, zPup, zHeads, zRooms, zThere, zHall, zLodg, zLodger, zOf, zHit, zFinds, zKin, zDayH, zSh_c, zSh_k, zSh_2, d, d2] at q ⊢
    exact q
  · unfold zRl
    rw [zSh_n h10, zSh_54, zSh_k (by decide) (by decide) h10]
    refine ⟨?_, ?_, fun j hj => ?_⟩
    · rw [zO_rd (zeO_t (by omega))]
      exact c1
    · rw [d 54 1 (by omega) (by omega) (by omega) (by omega) (by omega) (by omega) (by omega)]
      exact r8.2.1
    · by_cases ej : j = nS M
      · subst ej
        rw [zSh_333, zSh_334, show nS M % 10 = nS M by omega]
        refine ⟨?_, ?_, fun c hc len hl el => ?_⟩
        · rw [zO_rd (zeO_t (by omega))]
          exact c4
        · rw [zO_rd (zeO_t (by omega))]
          exact c5
        · rw [zSh_L h10 hc, zi_inj (by have := (hg c hc).1; omega) (by omega)] at el
          obtain ⟨-, b2⟩ := hu.2.2.2.2.2 hy
          obtain ⟨b3, b4⟩ := b2 c hc
          have el : ((zFy M).2.2.2 c).1 = len := el
          rw [el] at b3 b4
          refine ⟨fun h0 => ?_, fun h0 => ?_⟩
          · rw [zO_rd (zeO_t (by omega)), (c6 c hc).1]
            exact b3 h0
          · obtain ⟨p, p1, p2, p3, p4⟩ := b4 h0
            obtain ⟨cc, hcc, ecc⟩ := hu.2.2.2.2.1
            have eb := (hu.2.2.2.2.2 hy).1
            obtain ⟨mm, hmm, hS1, hS2⟩ := zS_ex (T := zTx M) (n := nX M)
            have hbb : (zFy M).2.2.1 ≤ 500 := by
              have hWW : zW M := ⟨w1, w2, w3, w4, w5, w6, w7, w8, w9, w10, w11, w12, w13, w14⟩
              have h := (ztF_e (zpW_ok (zw_X8 hWW) hmm hS1 hS2)).1
              have h2 := (h.2 hy).1
              have h3 := h.1
              have h8 := zw_X8 hWW
              show (zFy M).2.2.1 ≤ 500
              exact Nat.le_trans h2 (by
                show (ztF _ _).2.1 ≤ 500
                omega)
            refine ⟨p, by omega, ?_, ?_, fun k hk => ?_⟩
            · rw [zO_rd (zeO_t (by omega)), (c6 c hc).1]
              exact p2
            · rw [zO_rd (zeO_t (by omega)), (c6 c hc).2]
              exact p3
            · rw [zO_rd (zeO_t (by omega)), c7 (p + k) (by omega) (by omega), p4 k hk, show 245 + 7 * nS M + c % 6 = 245 + 7 * nS M + c by omega]
              rw [zSh_C h10 hc (by show 2 * k < 2 * ((zFy M).2.2.2 c).1; omega), zSh_C h10 hc (by show 2 * k + 1 < 2 * ((zFy M).2.2.2 c).1; omega), (zSc_ok (M := M)).1, (zSc_ok (M := M)).2]
      · have hj2 : j < nS M := by omega
        obtain ⟨q1, q2, q3⟩ := r8.2.2 j hj2
        rw [zSh_c (by omega) (by omega) (by omega) (by omega) (by omega), zSh_c (by omega) (by omega) (by omega) (by omega) (by omega), d 55 j (by omega) (by omega) (by omega) (by omega) (by omega) (by omega) (by omega), d 56 j (by omega) (by omega) (by omega) (by omega) (by omega) (by omega) (by omega)]
        refine ⟨q1, q2, fun c hc len hl el => ?_⟩
        rw [zSh_c (by omega) (by omega) (by omega) (by omega) (by omega)] at el
        obtain ⟨q4, q5⟩ := q3 c hc len hl el
        rw [d (69 + j % 10) c (by omega) (by omega) (by omega) (by omega) (by omega) (by omega) (by omega)]
        refine ⟨q4, fun h0 => ?_⟩
        obtain ⟨p, p1, p2, p3, p4⟩ := q5 h0
        refine ⟨p, p1, p2, ?_, fun k hk => ?_⟩
        · rw [d (80 + j % 10) c (by omega) (by omega) (by omega) (by omega) (by omega) (by omega) (by omega)]
          exact p3
        · rw [d (58 + j % 10) (p + k) (by omega) (by omega) (by omega) (by omega) (by omega) (by omega) (by omega), zSh_c (by omega) (by omega) (by omega) (by omega) (by omega), zSh_c (by omega) (by omega) (by omega) (by omega) (by omega)]
          exact p4 k hk
  · have q := r9
    simp (disch := omega) only [zRt, zRc, zRh, zRf, zRa, zRr, zRk, zRl, zRn, zRx, zRp, zRb, zRg, zW1, zW2, zWt, zWh, zWf, zWn, zWu, zWa, zWr, zWx, zWs, zWb, zWp, zWg, nT, nH, nF, nR, nK, nX, nS, nD, nB, nG, zTown, zPup, zHeads, zRooms, zThere, zHall, zLodg, zLodger, zOf, zHit, zFinds, zKin, zDayH, zSh_c, zSh_k, zSh_2, d, d2] at q ⊢
    exact q
  · refine ⟨?_, fun i hi => absurd hi (Nat.not_lt_zero _)⟩
    rw [zSh_44, zO_rd (show zeO 92 0 = true from rfl)]
    exact c3
  · have q := r11
    simp (disch := omega) only [zRt, zRc, zRh, zRf, zRa, zRr, zRk, zRl, zRn, zRx, zRp, zRb, zRg, zW1, zW2, zWt, zWh, zWf, zWn, zWu, zWa, zWr, zWx, zWs, zWb, zWp, zWg, nT, nH, nF, nR, nK, nX, nS, nD, nB, nG, zTown, zPup, zHeads, zRooms, zThere, zHall, zLodg, zLodger, zOf, zHit, zFinds, zKin, zDayH, zSh_c, zSh_k, zSh_2, d, d2] at q ⊢
    exact q
  · have q := r12
    simp (disch := omega) only [zRt, zRc, zRh, zRf, zRa, zRr, zRk, zRl, zRn, zRx, zRp, zRb, zRg, zW1, zW2, zWt, zWh, zWf, zWn, zWu, zWa, zWr, zWx, zWs, zWb, zWp, zWg, nT, nH, nF, nR, nK, nX, nS, nD, nB, nG, zTown, zPup, zHeads, zRooms, zThere, zHall, zLodg, zLodger, zOf, zHit, zFinds, zKin, zDayH, zSh_c, zSh_k, zSh_2, d, d2] at q ⊢
    exact q
  · have q := r13
    simp (disch := omega) only [zRt, zRc, zRh, zRf, zRa, zRr, zRk, zRl, zRn, zRx, zRp, zRb, zRg, zW1, zW2, zWt, zWh, zWf, zWn, zWu, zWa, zWr, zWx, zWs, zWb, zWp, zWg, nT, nH, nF, nR, nK, nX, nS, nD, nB, nG, zTown, zPup, zHeads, zRooms, zThere, zHall, zLodg, zLodger, zOf, zHit, zFinds, zKin, zDayH, zSh_c, zSh_k, zSh_2, d, d2] at q ⊢
    exact q
